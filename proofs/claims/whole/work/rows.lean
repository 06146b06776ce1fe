section
-- ===== PART A: goes FIRST, ahead of the names: the tables' words, and 'selects' of the private methods out of them =====
/-- a private method of a class that the tables say can be made, by its rows of tables_1 -/
def lw_okq (q : MethodName × Nat) : Prop := (q.1.cls ≠ "java/lang/invoke/MethodHandle" ∧ q.1.cls ≠ "java/lang/invoke/VarHandle") ∧ Cond.instantiable q.1.cls q.2 ∈ tables_1 ∧ Cond.privateMethod q.1 ∈ tables_1 ∧ Cond.instanceMethod q.1 ∈ tables_1
theorem lw_p0 : lw_okq (⟨"GuidedProbes$Board", "takes", "(I)Z"⟩, 6) := ⟨⟨by decide +kernel, by decide +kernel⟩, List.mem_of_getElem? (i := 45) (by decide +kernel), List.mem_of_getElem? (i := 310) (by decide +kernel), List.mem_of_getElem? (i := 311) (by decide +kernel)⟩
theorem lw_p1 : lw_okq (⟨"GuidedProbes$Board", "takesInputs", "(I)Z"⟩, 6) := ⟨⟨by decide +kernel, by decide +kernel⟩, List.mem_of_getElem? (i := 45) (by decide +kernel), List.mem_of_getElem? (i := 314) (by decide +kernel), List.mem_of_getElem? (i := 315) (by decide +kernel)⟩
theorem lw_p2 : lw_okq (⟨"GuidedProbes$Board", "takesGate", "(I)Z"⟩, 6) := ⟨⟨by decide +kernel, by decide +kernel⟩, List.mem_of_getElem? (i := 45) (by decide +kernel), List.mem_of_getElem? (i := 319) (by decide +kernel), List.mem_of_getElem? (i := 320) (by decide +kernel)⟩
theorem lw_p3 : lw_okq (⟨"GuidedProbes$Board", "takesKind", "(I)Z"⟩, 6) := ⟨⟨by decide +kernel, by decide +kernel⟩, List.mem_of_getElem? (i := 45) (by decide +kernel), List.mem_of_getElem? (i := 323) (by decide +kernel), List.mem_of_getElem? (i := 324) (by decide +kernel)⟩
theorem lw_p4 : lw_okq (⟨"GuidedProbes$Board", "takesPin", "(I)Z"⟩, 6) := ⟨⟨by decide +kernel, by decide +kernel⟩, List.mem_of_getElem? (i := 45) (by decide +kernel), List.mem_of_getElem? (i := 330) (by decide +kernel), List.mem_of_getElem? (i := 331) (by decide +kernel)⟩
theorem lw_p5 : lw_okq (⟨"GuidedProbes$Board", "mayDrive", "(II)Z"⟩, 6) := ⟨⟨by decide +kernel, by decide +kernel⟩, List.mem_of_getElem? (i := 45) (by decide +kernel), List.mem_of_getElem? (i := 355) (by decide +kernel), List.mem_of_getElem? (i := 356) (by decide +kernel)⟩
theorem lw_p6 : lw_okq (⟨"GuidedProbes", "simulateFaults", "()V"⟩, 14) := ⟨⟨by decide +kernel, by decide +kernel⟩, List.mem_of_getElem? (i := 17) (by decide +kernel), List.mem_of_getElem? (i := 370) (by decide +kernel), List.mem_of_getElem? (i := 371) (by decide +kernel)⟩
theorem lw_p7 : lw_okq (⟨"GuidedProbes$Simulation", "setNodes", "(ZI)V"⟩, 5) := ⟨⟨by decide +kernel, by decide +kernel⟩, List.mem_of_getElem? (i := 93) (by decide +kernel), List.mem_of_getElem? (i := 384) (by decide +kernel), List.mem_of_getElem? (i := 385) (by decide +kernel)⟩
theorem lw_p8 : lw_okq (⟨"GuidedProbes$Simulation", "value", "(II)I"⟩, 5) := ⟨⟨by decide +kernel, by decide +kernel⟩, List.mem_of_getElem? (i := 93) (by decide +kernel), List.mem_of_getElem? (i := 388) (by decide +kernel), List.mem_of_getElem? (i := 389) (by decide +kernel)⟩
theorem lw_p9 : lw_okq (⟨"GuidedProbes$Simulation", "pinValue", "(II[I)I"⟩, 5) := ⟨⟨by decide +kernel, by decide +kernel⟩, List.mem_of_getElem? (i := 93) (by decide +kernel), List.mem_of_getElem? (i := 396) (by decide +kernel), List.mem_of_getElem? (i := 397) (by decide +kernel)⟩
theorem lw_p10 : lw_okq (⟨"GuidedProbes$FaultList", "add", "(I)V"⟩, 4) := ⟨⟨by decide +kernel, by decide +kernel⟩, List.mem_of_getElem? (i := 130) (by decide +kernel), List.mem_of_getElem? (i := 408) (by decide +kernel), List.mem_of_getElem? (i := 409) (by decide +kernel)⟩
theorem lw_p11 : lw_okq (⟨"GuidedProbes", "simulateNow", "()V"⟩, 14) := ⟨⟨by decide +kernel, by decide +kernel⟩, List.mem_of_getElem? (i := 17) (by decide +kernel), List.mem_of_getElem? (i := 429) (by decide +kernel), List.mem_of_getElem? (i := 430) (by decide +kernel)⟩
theorem lw_p12 : lw_okq (⟨"GuidedProbes", "forgetProbes", "()V"⟩, 14) := ⟨⟨by decide +kernel, by decide +kernel⟩, List.mem_of_getElem? (i := 17) (by decide +kernel), List.mem_of_getElem? (i := 441) (by decide +kernel), List.mem_of_getElem? (i := 442) (by decide +kernel)⟩
theorem lw_p13 : lw_okq (⟨"GuidedProbes$Suspects", "side", "(IZ)J"⟩, 7) := ⟨⟨by decide +kernel, by decide +kernel⟩, List.mem_of_getElem? (i := 178) (by decide +kernel), List.mem_of_getElem? (i := 453) (by decide +kernel), List.mem_of_getElem? (i := 454) (by decide +kernel)⟩
theorem lw_p14 : lw_okq (⟨"GuidedProbes$Suspects", "listMembers", "(J)V"⟩, 7) := ⟨⟨by decide +kernel, by decide +kernel⟩, List.mem_of_getElem? (i := 178) (by decide +kernel), List.mem_of_getElem? (i := 458) (by decide +kernel), List.mem_of_getElem? (i := 459) (by decide +kernel)⟩
theorem lw_p15 : lw_okq (⟨"GuidedProbes$Suspects", "nextOf", "(JI)I"⟩, 7) := ⟨⟨by decide +kernel, by decide +kernel⟩, List.mem_of_getElem? (i := 178) (by decide +kernel), List.mem_of_getElem? (i := 462) (by decide +kernel), List.mem_of_getElem? (i := 463) (by decide +kernel)⟩
def lw_privs_1 : List (MethodName × Nat) := [(⟨"GuidedProbes$Board", "takes", "(I)Z"⟩, 6), (⟨"GuidedProbes$Board", "takesInputs", "(I)Z"⟩, 6), (⟨"GuidedProbes$Board", "takesGate", "(I)Z"⟩, 6), (⟨"GuidedProbes$Board", "takesKind", "(I)Z"⟩, 6), (⟨"GuidedProbes$Board", "takesPin", "(I)Z"⟩, 6), (⟨"GuidedProbes$Board", "mayDrive", "(II)Z"⟩, 6), (⟨"GuidedProbes", "simulateFaults", "()V"⟩, 14), (⟨"GuidedProbes$Simulation", "setNodes", "(ZI)V"⟩, 5), (⟨"GuidedProbes$Simulation", "value", "(II)I"⟩, 5), (⟨"GuidedProbes$Simulation", "pinValue", "(II[I)I"⟩, 5), (⟨"GuidedProbes$FaultList", "add", "(I)V"⟩, 4), (⟨"GuidedProbes", "simulateNow", "()V"⟩, 14), (⟨"GuidedProbes", "forgetProbes", "()V"⟩, 14), (⟨"GuidedProbes$Suspects", "side", "(IZ)J"⟩, 7), (⟨"GuidedProbes$Suspects", "listMembers", "(J)V"⟩, 7), (⟨"GuidedProbes$Suspects", "nextOf", "(JI)I"⟩, 7)]
theorem lw_r1 : ∀ q ∈ lw_privs_1, lw_okq q := List.forall_mem_cons.mpr ⟨lw_p0, List.forall_mem_cons.mpr ⟨lw_p1, List.forall_mem_cons.mpr ⟨lw_p2, List.forall_mem_cons.mpr ⟨lw_p3, List.forall_mem_cons.mpr ⟨lw_p4, List.forall_mem_cons.mpr ⟨lw_p5, List.forall_mem_cons.mpr ⟨lw_p6, List.forall_mem_cons.mpr ⟨lw_p7, List.forall_mem_cons.mpr ⟨lw_p8, List.forall_mem_cons.mpr ⟨lw_p9, List.forall_mem_cons.mpr ⟨lw_p10, List.forall_mem_cons.mpr ⟨lw_p11, List.forall_mem_cons.mpr ⟨lw_p12, List.forall_mem_cons.mpr ⟨lw_p13, List.forall_mem_cons.mpr ⟨lw_p14, List.forall_mem_cons.mpr ⟨lw_p15, fun _ h => absurd h List.not_mem_nil⟩⟩⟩⟩⟩⟩⟩⟩⟩⟩⟩⟩⟩⟩⟩⟩
theorem lw_p16 : lw_okq (⟨"GuidedProbes$Suspects", "goOn", "(JII)V"⟩, 7) := ⟨⟨by decide +kernel, by decide +kernel⟩, List.mem_of_getElem? (i := 178) (by decide +kernel), List.mem_of_getElem? (i := 472) (by decide +kernel), List.mem_of_getElem? (i := 473) (by decide +kernel)⟩
theorem lw_p17 : lw_okq (⟨"GuidedProbes$Suspects", "end", "(JI)V"⟩, 7) := ⟨⟨by decide +kernel, by decide +kernel⟩, List.mem_of_getElem? (i := 178) (by decide +kernel), List.mem_of_getElem? (i := 476) (by decide +kernel), List.mem_of_getElem? (i := 477) (by decide +kernel)⟩
theorem lw_p18 : lw_okq (⟨"GuidedProbes$WayBack", "source", "(I)I"⟩, 5) := ⟨⟨by decide +kernel, by decide +kernel⟩, List.mem_of_getElem? (i := 212) (by decide +kernel), List.mem_of_getElem? (i := 553) (by decide +kernel), List.mem_of_getElem? (i := 554) (by decide +kernel)⟩
theorem lw_p19 : lw_okq (⟨"GuidedProbes$WayBack", "leadsTo", "(II)Z"⟩, 5) := ⟨⟨by decide +kernel, by decide +kernel⟩, List.mem_of_getElem? (i := 212) (by decide +kernel), List.mem_of_getElem? (i := 559) (by decide +kernel), List.mem_of_getElem? (i := 560) (by decide +kernel)⟩
theorem lw_p20 : lw_okq (⟨"GuidedProbes$WayBack", "isSooner", "(II)Z"⟩, 5) := ⟨⟨by decide +kernel, by decide +kernel⟩, List.mem_of_getElem? (i := 212) (by decide +kernel), List.mem_of_getElem? (i := 564) (by decide +kernel), List.mem_of_getElem? (i := 565) (by decide +kernel)⟩
theorem lw_p21 : lw_okq (⟨"GuidedProbes", "digestNodes", "(J)J"⟩, 14) := ⟨⟨by decide +kernel, by decide +kernel⟩, List.mem_of_getElem? (i := 17) (by decide +kernel), List.mem_of_getElem? (i := 585) (by decide +kernel), List.mem_of_getElem? (i := 586) (by decide +kernel)⟩
theorem lw_p22 : lw_okq (⟨"GuidedProbes", "digestFaults", "(J)J"⟩, 14) := ⟨⟨by decide +kernel, by decide +kernel⟩, List.mem_of_getElem? (i := 17) (by decide +kernel), List.mem_of_getElem? (i := 592) (by decide +kernel), List.mem_of_getElem? (i := 593) (by decide +kernel)⟩
theorem lw_p23 : lw_okq (⟨"GuidedProbes", "digestSuspects", "(J)J"⟩, 14) := ⟨⟨by decide +kernel, by decide +kernel⟩, List.mem_of_getElem? (i := 17) (by decide +kernel), List.mem_of_getElem? (i := 597) (by decide +kernel), List.mem_of_getElem? (i := 598) (by decide +kernel)⟩
theorem lw_p24 : lw_okq (⟨"GuidedProbesModel", "goFigures", "()I"⟩, 38) := ⟨⟨by decide +kernel, by decide +kernel⟩, List.mem_of_getElem? (i := 603) (by decide +kernel), List.mem_of_getElem? (i := 739) (by decide +kernel), List.mem_of_getElem? (i := 740) (by decide +kernel)⟩
theorem lw_p25 : lw_okq (⟨"GuidedProbesModel", "goAlong", "()I"⟩, 38) := ⟨⟨by decide +kernel, by decide +kernel⟩, List.mem_of_getElem? (i := 603) (by decide +kernel), List.mem_of_getElem? (i := 746) (by decide +kernel), List.mem_of_getElem? (i := 747) (by decide +kernel)⟩
theorem lw_p26 : lw_okq (⟨"GuidedProbesModel", "takes", "(I)Z"⟩, 38) := ⟨⟨by decide +kernel, by decide +kernel⟩, List.mem_of_getElem? (i := 603) (by decide +kernel), List.mem_of_getElem? (i := 750) (by decide +kernel), List.mem_of_getElem? (i := 751) (by decide +kernel)⟩
theorem lw_p27 : lw_okq (⟨"GuidedProbesModel", "takesPin", "(I)Z"⟩, 38) := ⟨⟨by decide +kernel, by decide +kernel⟩, List.mem_of_getElem? (i := 603) (by decide +kernel), List.mem_of_getElem? (i := 754) (by decide +kernel), List.mem_of_getElem? (i := 755) (by decide +kernel)⟩
theorem lw_p28 : lw_okq (⟨"GuidedProbesModel", "isBoard", "()Z"⟩, 38) := ⟨⟨by decide +kernel, by decide +kernel⟩, List.mem_of_getElem? (i := 603) (by decide +kernel), List.mem_of_getElem? (i := 768) (by decide +kernel), List.mem_of_getElem? (i := 769) (by decide +kernel)⟩
theorem lw_p29 : lw_okq (⟨"GuidedProbesModel", "mayDrive", "(II)Z"⟩, 38) := ⟨⟨by decide +kernel, by decide +kernel⟩, List.mem_of_getElem? (i := 603) (by decide +kernel), List.mem_of_getElem? (i := 772) (by decide +kernel), List.mem_of_getElem? (i := 773) (by decide +kernel)⟩
theorem lw_p30 : lw_okq (⟨"GuidedProbesModel", "begins", "()V"⟩, 38) := ⟨⟨by decide +kernel, by decide +kernel⟩, List.mem_of_getElem? (i := 603) (by decide +kernel), List.mem_of_getElem? (i := 776) (by decide +kernel), List.mem_of_getElem? (i := 777) (by decide +kernel)⟩
theorem lw_p31 : lw_okq (⟨"GuidedProbesModel", "layFaults", "()V"⟩, 38) := ⟨⟨by decide +kernel, by decide +kernel⟩, List.mem_of_getElem? (i := 603) (by decide +kernel), List.mem_of_getElem? (i := 780) (by decide +kernel), List.mem_of_getElem? (i := 781) (by decide +kernel)⟩
def lw_privs_2 : List (MethodName × Nat) := [(⟨"GuidedProbes$Suspects", "goOn", "(JII)V"⟩, 7), (⟨"GuidedProbes$Suspects", "end", "(JI)V"⟩, 7), (⟨"GuidedProbes$WayBack", "source", "(I)I"⟩, 5), (⟨"GuidedProbes$WayBack", "leadsTo", "(II)Z"⟩, 5), (⟨"GuidedProbes$WayBack", "isSooner", "(II)Z"⟩, 5), (⟨"GuidedProbes", "digestNodes", "(J)J"⟩, 14), (⟨"GuidedProbes", "digestFaults", "(J)J"⟩, 14), (⟨"GuidedProbes", "digestSuspects", "(J)J"⟩, 14), (⟨"GuidedProbesModel", "goFigures", "()I"⟩, 38), (⟨"GuidedProbesModel", "goAlong", "()I"⟩, 38), (⟨"GuidedProbesModel", "takes", "(I)Z"⟩, 38), (⟨"GuidedProbesModel", "takesPin", "(I)Z"⟩, 38), (⟨"GuidedProbesModel", "isBoard", "()Z"⟩, 38), (⟨"GuidedProbesModel", "mayDrive", "(II)Z"⟩, 38), (⟨"GuidedProbesModel", "begins", "()V"⟩, 38), (⟨"GuidedProbesModel", "layFaults", "()V"⟩, 38)]
theorem lw_r2 : ∀ q ∈ lw_privs_2, lw_okq q := List.forall_mem_cons.mpr ⟨lw_p16, List.forall_mem_cons.mpr ⟨lw_p17, List.forall_mem_cons.mpr ⟨lw_p18, List.forall_mem_cons.mpr ⟨lw_p19, List.forall_mem_cons.mpr ⟨lw_p20, List.forall_mem_cons.mpr ⟨lw_p21, List.forall_mem_cons.mpr ⟨lw_p22, List.forall_mem_cons.mpr ⟨lw_p23, List.forall_mem_cons.mpr ⟨lw_p24, List.forall_mem_cons.mpr ⟨lw_p25, List.forall_mem_cons.mpr ⟨lw_p26, List.forall_mem_cons.mpr ⟨lw_p27, List.forall_mem_cons.mpr ⟨lw_p28, List.forall_mem_cons.mpr ⟨lw_p29, List.forall_mem_cons.mpr ⟨lw_p30, List.forall_mem_cons.mpr ⟨lw_p31, fun _ h => absurd h List.not_mem_nil⟩⟩⟩⟩⟩⟩⟩⟩⟩⟩⟩⟩⟩⟩⟩⟩
theorem lw_p32 : lw_okq (⟨"GuidedProbesModel", "addFault", "(I)V"⟩, 38) := ⟨⟨by decide +kernel, by decide +kernel⟩, List.mem_of_getElem? (i := 603) (by decide +kernel), List.mem_of_getElem? (i := 784) (by decide +kernel), List.mem_of_getElem? (i := 785) (by decide +kernel)⟩
theorem lw_p33 : lw_okq (⟨"GuidedProbesModel", "goAll", "(I)V"⟩, 38) := ⟨⟨by decide +kernel, by decide +kernel⟩, List.mem_of_getElem? (i := 603) (by decide +kernel), List.mem_of_getElem? (i := 788) (by decide +kernel), List.mem_of_getElem? (i := 789) (by decide +kernel)⟩
theorem lw_p34 : lw_okq (⟨"GuidedProbesModel", "goTick", "(II)V"⟩, 38) := ⟨⟨by decide +kernel, by decide +kernel⟩, List.mem_of_getElem? (i := 603) (by decide +kernel), List.mem_of_getElem? (i := 792) (by decide +kernel), List.mem_of_getElem? (i := 793) (by decide +kernel)⟩
theorem lw_p35 : lw_okq (⟨"GuidedProbesModel", "plainValue", "(III)I"⟩, 38) := ⟨⟨by decide +kernel, by decide +kernel⟩, List.mem_of_getElem? (i := 603) (by decide +kernel), List.mem_of_getElem? (i := 799) (by decide +kernel), List.mem_of_getElem? (i := 800) (by decide +kernel)⟩
theorem lw_p36 : lw_okq (⟨"GuidedProbesModel", "pinValue", "(IIIZ)I"⟩, 38) := ⟨⟨by decide +kernel, by decide +kernel⟩, List.mem_of_getElem? (i := 603) (by decide +kernel), List.mem_of_getElem? (i := 803) (by decide +kernel), List.mem_of_getElem? (i := 804) (by decide +kernel)⟩
theorem lw_p37 : lw_okq (⟨"GuidedProbesModel", "layShown", "()V"⟩, 38) := ⟨⟨by decide +kernel, by decide +kernel⟩, List.mem_of_getElem? (i := 603) (by decide +kernel), List.mem_of_getElem? (i := 807) (by decide +kernel), List.mem_of_getElem? (i := 808) (by decide +kernel)⟩
theorem lw_p38 : lw_okq (⟨"GuidedProbesModel", "markBy", "(I)I"⟩, 38) := ⟨⟨by decide +kernel, by decide +kernel⟩, List.mem_of_getElem? (i := 603) (by decide +kernel), List.mem_of_getElem? (i := 811) (by decide +kernel), List.mem_of_getElem? (i := 812) (by decide +kernel)⟩
theorem lw_p39 : lw_okq (⟨"GuidedProbesModel", "layNow", "()V"⟩, 38) := ⟨⟨by decide +kernel, by decide +kernel⟩, List.mem_of_getElem? (i := 603) (by decide +kernel), List.mem_of_getElem? (i := 815) (by decide +kernel), List.mem_of_getElem? (i := 816) (by decide +kernel)⟩
theorem lw_p40 : lw_okq (⟨"GuidedProbesModel", "findFault", "(I)I"⟩, 38) := ⟨⟨by decide +kernel, by decide +kernel⟩, List.mem_of_getElem? (i := 603) (by decide +kernel), List.mem_of_getElem? (i := 827) (by decide +kernel), List.mem_of_getElem? (i := 828) (by decide +kernel)⟩
theorem lw_p41 : lw_okq (⟨"GuidedProbesModel", "isNode", "(I)Z"⟩, 38) := ⟨⟨by decide +kernel, by decide +kernel⟩, List.mem_of_getElem? (i := 603) (by decide +kernel), List.mem_of_getElem? (i := 835) (by decide +kernel), List.mem_of_getElem? (i := 836) (by decide +kernel)⟩
theorem lw_p42 : lw_okq (⟨"GuidedProbesModel", "nodeNow", "(II)I"⟩, 38) := ⟨⟨by decide +kernel, by decide +kernel⟩, List.mem_of_getElem? (i := 603) (by decide +kernel), List.mem_of_getElem? (i := 839) (by decide +kernel), List.mem_of_getElem? (i := 840) (by decide +kernel)⟩
theorem lw_p43 : lw_okq (⟨"GuidedProbesModel", "isBad", "(I)Z"⟩, 38) := ⟨⟨by decide +kernel, by decide +kernel⟩, List.mem_of_getElem? (i := 603) (by decide +kernel), List.mem_of_getElem? (i := 843) (by decide +kernel), List.mem_of_getElem? (i := 844) (by decide +kernel)⟩
theorem lw_p44 : lw_okq (⟨"GuidedProbesModel", "firstOf", "(I)I"⟩, 38) := ⟨⟨by decide +kernel, by decide +kernel⟩, List.mem_of_getElem? (i := 603) (by decide +kernel), List.mem_of_getElem? (i := 847) (by decide +kernel), List.mem_of_getElem? (i := 848) (by decide +kernel)⟩
theorem lw_p45 : lw_okq (⟨"GuidedProbesModel", "suspectsNow", "(I)I"⟩, 38) := ⟨⟨by decide +kernel, by decide +kernel⟩, List.mem_of_getElem? (i := 603) (by decide +kernel), List.mem_of_getElem? (i := 873) (by decide +kernel), List.mem_of_getElem? (i := 874) (by decide +kernel)⟩
theorem lw_p46 : lw_okq (⟨"GuidedProbesModel", "fitting", "(II)I"⟩, 38) := ⟨⟨by decide +kernel, by decide +kernel⟩, List.mem_of_getElem? (i := 603) (by decide +kernel), List.mem_of_getElem? (i := 877) (by decide +kernel), List.mem_of_getElem? (i := 878) (by decide +kernel)⟩
theorem lw_p47 : lw_okq (⟨"GuidedProbesModel", "fits", "(III)Z"⟩, 38) := ⟨⟨by decide +kernel, by decide +kernel⟩, List.mem_of_getElem? (i := 603) (by decide +kernel), List.mem_of_getElem? (i := 881) (by decide +kernel), List.mem_of_getElem? (i := 882) (by decide +kernel)⟩
def lw_privs_3 : List (MethodName × Nat) := [(⟨"GuidedProbesModel", "addFault", "(I)V"⟩, 38), (⟨"GuidedProbesModel", "goAll", "(I)V"⟩, 38), (⟨"GuidedProbesModel", "goTick", "(II)V"⟩, 38), (⟨"GuidedProbesModel", "plainValue", "(III)I"⟩, 38), (⟨"GuidedProbesModel", "pinValue", "(IIIZ)I"⟩, 38), (⟨"GuidedProbesModel", "layShown", "()V"⟩, 38), (⟨"GuidedProbesModel", "markBy", "(I)I"⟩, 38), (⟨"GuidedProbesModel", "layNow", "()V"⟩, 38), (⟨"GuidedProbesModel", "findFault", "(I)I"⟩, 38), (⟨"GuidedProbesModel", "isNode", "(I)Z"⟩, 38), (⟨"GuidedProbesModel", "nodeNow", "(II)I"⟩, 38), (⟨"GuidedProbesModel", "isBad", "(I)Z"⟩, 38), (⟨"GuidedProbesModel", "firstOf", "(I)I"⟩, 38), (⟨"GuidedProbesModel", "suspectsNow", "(I)I"⟩, 38), (⟨"GuidedProbesModel", "fitting", "(II)I"⟩, 38), (⟨"GuidedProbesModel", "fits", "(III)Z"⟩, 38)]
theorem lw_r3 : ∀ q ∈ lw_privs_3, lw_okq q := List.forall_mem_cons.mpr ⟨lw_p32, List.forall_mem_cons.mpr ⟨lw_p33, List.forall_mem_cons.mpr ⟨lw_p34, List.forall_mem_cons.mpr ⟨lw_p35, List.forall_mem_cons.mpr ⟨lw_p36, List.forall_mem_cons.mpr ⟨lw_p37, List.forall_mem_cons.mpr ⟨lw_p38, List.forall_mem_cons.mpr ⟨lw_p39, List.forall_mem_cons.mpr ⟨lw_p40, List.forall_mem_cons.mpr ⟨lw_p41, List.forall_mem_cons.mpr ⟨lw_p42, List.forall_mem_cons.mpr ⟨lw_p43, List.forall_mem_cons.mpr ⟨lw_p44, List.forall_mem_cons.mpr ⟨lw_p45, List.forall_mem_cons.mpr ⟨lw_p46, List.forall_mem_cons.mpr ⟨lw_p47, fun _ h => absurd h List.not_mem_nil⟩⟩⟩⟩⟩⟩⟩⟩⟩⟩⟩⟩⟩⟩⟩⟩
theorem lw_p48 : lw_okq (⟨"GuidedProbesModel", "nextBy", "(II)I"⟩, 38) := ⟨⟨by decide +kernel, by decide +kernel⟩, List.mem_of_getElem? (i := 603) (by decide +kernel), List.mem_of_getElem? (i := 885) (by decide +kernel), List.mem_of_getElem? (i := 886) (by decide +kernel)⟩
theorem lw_p49 : lw_okq (⟨"GuidedProbesModel", "layRests", "()V"⟩, 38) := ⟨⟨by decide +kernel, by decide +kernel⟩, List.mem_of_getElem? (i := 603) (by decide +kernel), List.mem_of_getElem? (i := 889) (by decide +kernel), List.mem_of_getElem? (i := 890) (by decide +kernel)⟩
theorem lw_p50 : lw_okq (⟨"GuidedProbesModel", "layRest", "(I)V"⟩, 38) := ⟨⟨by decide +kernel, by decide +kernel⟩, List.mem_of_getElem? (i := 603) (by decide +kernel), List.mem_of_getElem? (i := 893) (by decide +kernel), List.mem_of_getElem? (i := 894) (by decide +kernel)⟩
theorem lw_p51 : lw_okq (⟨"GuidedProbesModel", "suspectAt", "(I)I"⟩, 38) := ⟨⟨by decide +kernel, by decide +kernel⟩, List.mem_of_getElem? (i := 603) (by decide +kernel), List.mem_of_getElem? (i := 901) (by decide +kernel), List.mem_of_getElem? (i := 902) (by decide +kernel)⟩
theorem lw_p52 : lw_okq (⟨"GuidedProbesModel", "suspectNow", "(II)I"⟩, 38) := ⟨⟨by decide +kernel, by decide +kernel⟩, List.mem_of_getElem? (i := 603) (by decide +kernel), List.mem_of_getElem? (i := 905) (by decide +kernel), List.mem_of_getElem? (i := 906) (by decide +kernel)⟩
theorem lw_p53 : lw_okq (⟨"GuidedProbesModel", "layWay", "(I)V"⟩, 38) := ⟨⟨by decide +kernel, by decide +kernel⟩, List.mem_of_getElem? (i := 603) (by decide +kernel), List.mem_of_getElem? (i := 913) (by decide +kernel), List.mem_of_getElem? (i := 914) (by decide +kernel)⟩
theorem lw_p54 : lw_okq (⟨"GuidedProbesModel", "goesOn", "(II)I"⟩, 38) := ⟨⟨by decide +kernel, by decide +kernel⟩, List.mem_of_getElem? (i := 603) (by decide +kernel), List.mem_of_getElem? (i := 917) (by decide +kernel), List.mem_of_getElem? (i := 918) (by decide +kernel)⟩
theorem lw_p55 : lw_okq (⟨"GuidedProbesModel", "isBetter", "(II)Z"⟩, 38) := ⟨⟨by decide +kernel, by decide +kernel⟩, List.mem_of_getElem? (i := 603) (by decide +kernel), List.mem_of_getElem? (i := 921) (by decide +kernel), List.mem_of_getElem? (i := 922) (by decide +kernel)⟩
theorem lw_p56 : lw_okq (⟨"GuidedProbesModel", "placeOf", "(I)I"⟩, 38) := ⟨⟨by decide +kernel, by decide +kernel⟩, List.mem_of_getElem? (i := 603) (by decide +kernel), List.mem_of_getElem? (i := 929) (by decide +kernel), List.mem_of_getElem? (i := 930) (by decide +kernel)⟩
theorem lw_p57 : lw_okq (⟨"GuidedProbesModel", "howMany", "(I)I"⟩, 38) := ⟨⟨by decide +kernel, by decide +kernel⟩, List.mem_of_getElem? (i := 603) (by decide +kernel), List.mem_of_getElem? (i := 937) (by decide +kernel), List.mem_of_getElem? (i := 938) (by decide +kernel)⟩
theorem lw_p58 : lw_okq (⟨"GuidedProbesModel", "mix", "(J)V"⟩, 38) := ⟨⟨by decide +kernel, by decide +kernel⟩, List.mem_of_getElem? (i := 603) (by decide +kernel), List.mem_of_getElem? (i := 946) (by decide +kernel), List.mem_of_getElem? (i := 947) (by decide +kernel)⟩
theorem lw_p59 : lw_okq (⟨"GuidedProbesModel", "mixSuspects", "()V"⟩, 38) := ⟨⟨by decide +kernel, by decide +kernel⟩, List.mem_of_getElem? (i := 603) (by decide +kernel), List.mem_of_getElem? (i := 951) (by decide +kernel), List.mem_of_getElem? (i := 952) (by decide +kernel)⟩
def lw_privs_4 : List (MethodName × Nat) := [(⟨"GuidedProbesModel", "nextBy", "(II)I"⟩, 38), (⟨"GuidedProbesModel", "layRests", "()V"⟩, 38), (⟨"GuidedProbesModel", "layRest", "(I)V"⟩, 38), (⟨"GuidedProbesModel", "suspectAt", "(I)I"⟩, 38), (⟨"GuidedProbesModel", "suspectNow", "(II)I"⟩, 38), (⟨"GuidedProbesModel", "layWay", "(I)V"⟩, 38), (⟨"GuidedProbesModel", "goesOn", "(II)I"⟩, 38), (⟨"GuidedProbesModel", "isBetter", "(II)Z"⟩, 38), (⟨"GuidedProbesModel", "placeOf", "(I)I"⟩, 38), (⟨"GuidedProbesModel", "howMany", "(I)I"⟩, 38), (⟨"GuidedProbesModel", "mix", "(J)V"⟩, 38), (⟨"GuidedProbesModel", "mixSuspects", "()V"⟩, 38)]
theorem lw_r4 : ∀ q ∈ lw_privs_4, lw_okq q := List.forall_mem_cons.mpr ⟨lw_p48, List.forall_mem_cons.mpr ⟨lw_p49, List.forall_mem_cons.mpr ⟨lw_p50, List.forall_mem_cons.mpr ⟨lw_p51, List.forall_mem_cons.mpr ⟨lw_p52, List.forall_mem_cons.mpr ⟨lw_p53, List.forall_mem_cons.mpr ⟨lw_p54, List.forall_mem_cons.mpr ⟨lw_p55, List.forall_mem_cons.mpr ⟨lw_p56, List.forall_mem_cons.mpr ⟨lw_p57, List.forall_mem_cons.mpr ⟨lw_p58, List.forall_mem_cons.mpr ⟨lw_p59, fun _ h => absurd h List.not_mem_nil⟩⟩⟩⟩⟩⟩⟩⟩⟩⟩⟩⟩
def lw_privs : List (MethodName × Nat) := lw_privs_1 ++ (lw_privs_2 ++ (lw_privs_3 ++ (lw_privs_4)))
def lw_tbl : List Cond := k2_sels lw_privs ++ tables_1
theorem lw_privs_ok : ∀ q ∈ lw_privs, lw_okq q := by
  show ∀ q ∈ lw_privs_1 ++ (lw_privs_2 ++ (lw_privs_3 ++ (lw_privs_4))), lw_okq q
  exact List.forall_mem_append.mpr ⟨lw_r1, List.forall_mem_append.mpr ⟨lw_r2, List.forall_mem_append.mpr ⟨lw_r3, lw_r4⟩⟩⟩
end
section
def RX0 : String := "GuidedProbes$Board"
def TX0 : u_T := fun k => match k with
  | 0 => ("GuidedProbes$Board", "kinds", "[I", true)
  | 1 => ("GuidedProbes$Board", "drivers", "[I", true)
  | 2 => ("GuidedProbes$Board", "inputs", "I", false)
  | 3 => ("GuidedProbes$Board", "nodes", "I", false)
  | 4 => ("GuidedProbes$Board", "awaited", "I", false)
  | _ => ("GuidedProbes$Board", "pinsTold", "I", false)
def tyX0 : Nat → FieldType := fun k => match k with
  | 0 => .array .int
  | 1 => .array .int
  | 2 => .int
  | 3 => .int
  | 4 => .int
  | _ => .int
abbrev wsX00 : List Cond := u_ws RX0 TX0 6
theorem nmX0 : ∀ a, a < 6 → ∀ b, b < 6 → a ≠ b → (TX0 a).2.1 ≠ (TX0 b).2.1 := by decide +kernel
theorem tyX0_ok : ∀ k, k < 6 → parseFieldDescriptor (TX0 k).2.2.1 = some (tyX0 k) := by decide +kernel
abbrev cX0_init : ByteArray := prog_2_method_1_code
def yX0_init : MethodName := ⟨RX0, "<init>", "()V"⟩
abbrev cX0_read : ByteArray := prog_2_method_2_code
def yX0_read : MethodName := ⟨RX0, "read", "(LGuidedProbes$Page;)I"⟩
abbrev cX0_takes : ByteArray := prog_2_method_3_code
def yX0_takes : MethodName := ⟨RX0, "takes", "(I)Z"⟩
abbrev cX0_takesInputs : ByteArray := prog_2_method_4_code
def yX0_takesInputs : MethodName := ⟨RX0, "takesInputs", "(I)Z"⟩
abbrev cX0_takesGate : ByteArray := prog_2_method_5_code
def yX0_takesGate : MethodName := ⟨RX0, "takesGate", "(I)Z"⟩
abbrev cX0_takesKind : ByteArray := prog_2_method_6_code
def yX0_takesKind : MethodName := ⟨RX0, "takesKind", "(I)Z"⟩
abbrev cX0_takesPin : ByteArray := prog_2_method_7_code
def yX0_takesPin : MethodName := ⟨RX0, "takesPin", "(I)Z"⟩
abbrev cX0_kindOf : ByteArray := prog_2_method_8_code
def yX0_kindOf : MethodName := ⟨RX0, "kindOf", "(I)I"⟩
abbrev cX0_isWhole : ByteArray := prog_2_method_9_code
def yX0_isWhole : MethodName := ⟨RX0, "isWhole", "()Z"⟩
abbrev cX0_isDrivenRightly : ByteArray := prog_2_method_10_code
def yX0_isDrivenRightly : MethodName := ⟨RX0, "isDrivenRightly", "()Z"⟩
abbrev cX0_mayDrive : ByteArray := prog_2_method_11_code
def yX0_mayDrive : MethodName := ⟨RX0, "mayDrive", "(II)Z"⟩
abbrev cX0_has : ByteArray := prog_2_method_12_code
def yX0_has : MethodName := ⟨RX0, "has", "(I)Z"⟩
abbrev cX0_pins : ByteArray := prog_2_method_13_code
def yX0_pins : MethodName := ⟨RX0, "pins", "(I)I"⟩
abbrev cX0_driver : ByteArray := prog_2_method_14_code
def yX0_driver : MethodName := ⟨RX0, "driver", "(II)I"⟩
abbrev cX0_copyFrom : ByteArray := prog_2_method_15_code
def yX0_copyFrom : MethodName := ⟨RX0, "copyFrom", "(LGuidedProbes$Board;)V"⟩
def RX1 : String := "GuidedProbes$FaultList"
def TX1 : u_T := fun k => match k with
  | 0 => ("GuidedProbes$FaultList", "numbers", "[I", true)
  | 1 => ("GuidedProbes$FaultList", "bad", "[I", true)
  | 2 => ("GuidedProbes$FaultList", "unlike", "[I", true)
  | _ => ("GuidedProbes$FaultList", "size", "I", false)
def tyX1 : Nat → FieldType := fun k => match k with
  | 0 => .array .int
  | 1 => .array .int
  | 2 => .array .int
  | _ => .int
abbrev wsX10 : List Cond := u_ws RX1 TX1 4
theorem nmX1 : ∀ a, a < 4 → ∀ b, b < 4 → a ≠ b → (TX1 a).2.1 ≠ (TX1 b).2.1 := by decide +kernel
theorem tyX1_ok : ∀ k, k < 4 → parseFieldDescriptor (TX1 k).2.2.1 = some (tyX1 k) := by decide +kernel
abbrev cX1_init : ByteArray := prog_3_method_1_code
def yX1_init : MethodName := ⟨RX1, "<init>", "()V"⟩
abbrev cX1_list : ByteArray := prog_3_method_2_code
def yX1_list : MethodName := ⟨RX1, "list", "(LGuidedProbes$Board;)V"⟩
abbrev cX1_add : ByteArray := prog_3_method_3_code
def yX1_add : MethodName := ⟨RX1, "add", "(I)V"⟩
abbrev cX1_indexOf : ByteArray := prog_3_method_4_code
def yX1_indexOf : MethodName := ⟨RX1, "indexOf", "(I)I"⟩
def RX2 : String := "GuidedProbes$Histories"
def TX2 : u_T := fun k => match k with
  | 0 => ("GuidedProbes$Histories", "bits", "[I", true)
  | _ => ("GuidedProbes$Histories", "marks", "[I", true)
def tyX2 : Nat → FieldType := fun k => match k with
  | 0 => .array .int
  | _ => .array .int
abbrev wsX20 : List Cond := u_ws RX2 TX2 2
theorem nmX2 : ∀ a, a < 2 → ∀ b, b < 2 → a ≠ b → (TX2 a).2.1 ≠ (TX2 b).2.1 := by decide +kernel
theorem tyX2_ok : ∀ k, k < 2 → parseFieldDescriptor (TX2 k).2.2.1 = some (tyX2 k) := by decide +kernel
abbrev cX2_init : ByteArray := prog_4_method_1_code
def yX2_init : MethodName := ⟨RX2, "<init>", "()V"⟩
abbrev cX2_clear : ByteArray := prog_4_method_2_code
def yX2_clear : MethodName := ⟨RX2, "clear", "()V"⟩
abbrev cX2_add : ByteArray := prog_4_method_3_code
def yX2_add : MethodName := ⟨RX2, "add", "(III)V"⟩
abbrev cX2_isBad : ByteArray := prog_4_method_4_code
def yX2_isBad : MethodName := ⟨RX2, "isBad", "(ILGuidedProbes$Histories;)Z"⟩
abbrev cX2_badNodes : ByteArray := prog_4_method_5_code
def yX2_badNodes : MethodName := ⟨RX2, "badNodes", "(LGuidedProbes$Histories;)I"⟩
abbrev cX2_unlikeNodes : ByteArray := prog_4_method_6_code
def yX2_unlikeNodes : MethodName := ⟨RX2, "unlikeNodes", "(LGuidedProbes$Histories;)I"⟩
abbrev cX2_firstUnlike : ByteArray := prog_4_method_7_code
def yX2_firstUnlike : MethodName := ⟨RX2, "firstUnlike", "(ILGuidedProbes$Histories;)I"⟩
def RX3 : String := "GuidedProbes$Page"
def TX3 : u_T := fun k => match k with
  | 0 => ("GuidedProbes$Page", "codes", "[I", true)
  | _ => ("GuidedProbes$Page", "length", "I", false)
def tyX3 : Nat → FieldType := fun k => match k with
  | 0 => .array .int
  | _ => .int
abbrev wsX30 : List Cond := u_ws RX3 TX3 2
theorem nmX3 : ∀ a, a < 2 → ∀ b, b < 2 → a ≠ b → (TX3 a).2.1 ≠ (TX3 b).2.1 := by decide +kernel
theorem tyX3_ok : ∀ k, k < 2 → parseFieldDescriptor (TX3 k).2.2.1 = some (tyX3 k) := by decide +kernel
abbrev cX3_init : ByteArray := prog_5_method_1_code
def yX3_init : MethodName := ⟨RX3, "<init>", "()V"⟩
abbrev cX3_append : ByteArray := prog_5_method_2_code
def yX3_append : MethodName := ⟨RX3, "append", "(I)V"⟩
abbrev cX3_clear : ByteArray := prog_5_method_3_code
def yX3_clear : MethodName := ⟨RX3, "clear", "()V"⟩
def RX4 : String := "GuidedProbes$Probes"
def TX4 : u_T := fun k => match k with
  | 0 => ("GuidedProbes$Probes", "found", "[I", true)
  | 1 => ("GuidedProbes$Probes", "size", "I", false)
  | _ => ("GuidedProbes$Probes", "ever", "I", false)
def tyX4 : Nat → FieldType := fun k => match k with
  | 0 => .array .int
  | 1 => .int
  | _ => .int
abbrev wsX40 : List Cond := u_ws RX4 TX4 3
theorem nmX4 : ∀ a, a < 3 → ∀ b, b < 3 → a ≠ b → (TX4 a).2.1 ≠ (TX4 b).2.1 := by decide +kernel
theorem tyX4_ok : ∀ k, k < 3 → parseFieldDescriptor (TX4 k).2.2.1 = some (tyX4 k) := by decide +kernel
abbrev cX4_init : ByteArray := prog_6_method_1_code
def yX4_init : MethodName := ⟨RX4, "<init>", "()V"⟩
abbrev cX4_add : ByteArray := prog_6_method_2_code
def yX4_add : MethodName := ⟨RX4, "add", "(IZ)V"⟩
abbrev cX4_clear : ByteArray := prog_6_method_3_code
def yX4_clear : MethodName := ⟨RX4, "clear", "()V"⟩
def RX5 : String := "GuidedProbes$Simulation"
def TX5 : u_T := fun k => match k with
  | 0 => ("GuidedProbes$Simulation", "board", "LGuidedProbes$Board;", true)
  | 1 => ("GuidedProbes$Simulation", "stimulus", "LGuidedProbes$Stimulus;", true)
  | 2 => ("GuidedProbes$Simulation", "values", "[I", true)
  | 3 => ("GuidedProbes$Simulation", "valuesAhead", "[I", true)
  | _ => ("GuidedProbes$Simulation", "fault", "I", false)
def tyX5 : Nat → FieldType := fun k => match k with
  | 0 => .object "GuidedProbes$Board"
  | 1 => .object "GuidedProbes$Stimulus"
  | 2 => .array .int
  | 3 => .array .int
  | _ => .int
abbrev wsX50 : List Cond := u_ws RX5 TX5 5
theorem nmX5 : ∀ a, a < 5 → ∀ b, b < 5 → a ≠ b → (TX5 a).2.1 ≠ (TX5 b).2.1 := by decide +kernel
theorem tyX5_ok : ∀ k, k < 5 → parseFieldDescriptor (TX5 k).2.2.1 = some (tyX5 k) := by decide +kernel
abbrev cX5_init : ByteArray := prog_7_method_1_code
def yX5_init : MethodName := ⟨RX5, "<init>", "(LGuidedProbes$Board;LGuidedProbes$Stimulus;)V"⟩
abbrev cX5_run : ByteArray := prog_7_method_2_code
def yX5_run : MethodName := ⟨RX5, "run", "(ILGuidedProbes$Histories;)V"⟩
abbrev cX5_setNodes : ByteArray := prog_7_method_3_code
def yX5_setNodes : MethodName := ⟨RX5, "setNodes", "(ZI)V"⟩
abbrev cX5_value : ByteArray := prog_7_method_4_code
def yX5_value : MethodName := ⟨RX5, "value", "(II)I"⟩
abbrev cX5_pinValue : ByteArray := prog_7_method_5_code
def yX5_pinValue : MethodName := ⟨RX5, "pinValue", "(II[I)I"⟩
def RX6 : String := "GuidedProbes$Stimulus"
def TX6 : u_T := fun k => match k with
  | 0 => ("GuidedProbes$Stimulus", "figures", "[I", true)
  | _ => ("GuidedProbes$Stimulus", "ticks", "I", false)
def tyX6 : Nat → FieldType := fun k => match k with
  | 0 => .array .int
  | _ => .int
abbrev wsX60 : List Cond := u_ws RX6 TX6 2
theorem nmX6 : ∀ a, a < 2 → ∀ b, b < 2 → a ≠ b → (TX6 a).2.1 ≠ (TX6 b).2.1 := by decide +kernel
theorem tyX6_ok : ∀ k, k < 2 → parseFieldDescriptor (TX6 k).2.2.1 = some (tyX6 k) := by decide +kernel
abbrev cX6_init : ByteArray := prog_8_method_1_code
def yX6_init : MethodName := ⟨RX6, "<init>", "()V"⟩
abbrev cX6_misfit : ByteArray := prog_8_method_2_code
def yX6_misfit : MethodName := ⟨RX6, "misfit", "(LGuidedProbes$Page;)I"⟩
abbrev cX6_read : ByteArray := prog_8_method_3_code
def yX6_read : MethodName := ⟨RX6, "read", "(LGuidedProbes$Page;)V"⟩
abbrev cX6_bit : ByteArray := prog_8_method_4_code
def yX6_bit : MethodName := ⟨RX6, "bit", "(II)I"⟩
def RX7 : String := "GuidedProbes$Suspects"
def TX7 : u_T := fun k => match k with
  | 0 => ("GuidedProbes$Suspects", "badBy", "[J", true)
  | 1 => ("GuidedProbes$Suspects", "seen", "J", false)
  | 2 => ("GuidedProbes$Suspects", "members", "[I", true)
  | 3 => ("GuidedProbes$Suspects", "rests", "[I", true)
  | 4 => ("GuidedProbes$Suspects", "steps", "[I", true)
  | 5 => ("GuidedProbes$Suspects", "size", "I", false)
  | _ => ("GuidedProbes$Suspects", "next", "I", false)
def tyX7 : Nat → FieldType := fun k => match k with
  | 0 => .array .long
  | 1 => .long
  | 2 => .array .int
  | 3 => .array .int
  | 4 => .array .int
  | 5 => .int
  | _ => .int
abbrev wsX70 : List Cond := u_ws RX7 TX7 7
theorem nmX7 : ∀ a, a < 7 → ∀ b, b < 7 → a ≠ b → (TX7 a).2.1 ≠ (TX7 b).2.1 := by decide +kernel
theorem tyX7_ok : ∀ k, k < 7 → parseFieldDescriptor (TX7 k).2.2.1 = some (tyX7 k) := by decide +kernel
abbrev cX7_init : ByteArray := prog_9_method_1_code
def yX7_init : MethodName := ⟨RX7, "<init>", "()V"⟩
abbrev cX7_learn : ByteArray := prog_9_method_2_code
def yX7_learn : MethodName := ⟨RX7, "learn", "(LGuidedProbes$FaultList;)V"⟩
abbrev cX7_choose : ByteArray := prog_9_method_3_code
def yX7_choose : MethodName := ⟨RX7, "choose", "(LGuidedProbes$Probes;)V"⟩
abbrev cX7_listMembers : ByteArray := prog_9_method_4_code
def yX7_listMembers : MethodName := ⟨RX7, "listMembers", "(J)V"⟩
abbrev cX7_side : ByteArray := prog_9_method_5_code
def yX7_side : MethodName := ⟨RX7, "side", "(IZ)J"⟩
abbrev cX7_nextOf : ByteArray := prog_9_method_6_code
def yX7_nextOf : MethodName := ⟨RX7, "nextOf", "(JI)I"⟩
abbrev cX7_goOn : ByteArray := prog_9_method_7_code
def yX7_goOn : MethodName := ⟨RX7, "goOn", "(JII)V"⟩
abbrev cX7_end : ByteArray := prog_9_method_8_code
def yX7_end : MethodName := ⟨RX7, "end", "(JI)V"⟩
abbrev cX7_mostSteps : ByteArray := prog_9_method_9_code
def yX7_mostSteps : MethodName := ⟨RX7, "mostSteps", "()I"⟩
abbrev cX7_allSteps : ByteArray := prog_9_method_10_code
def yX7_allSteps : MethodName := ⟨RX7, "allSteps", "()I"⟩
abbrev cX7_greatestRest : ByteArray := prog_9_method_11_code
def yX7_greatestRest : MethodName := ⟨RX7, "greatestRest", "()I"⟩
def RX8 : String := "GuidedProbes$WayBack"
def TX8 : u_T := fun k => match k with
  | 0 => ("GuidedProbes$WayBack", "board", "LGuidedProbes$Board;", true)
  | 1 => ("GuidedProbes$WayBack", "firsts", "[I", true)
  | 2 => ("GuidedProbes$WayBack", "nodes", "[I", true)
  | 3 => ("GuidedProbes$WayBack", "passed", "I", false)
  | _ => ("GuidedProbes$WayBack", "length", "I", false)
def tyX8 : Nat → FieldType := fun k => match k with
  | 0 => .object "GuidedProbes$Board"
  | 1 => .array .int
  | 2 => .array .int
  | 3 => .int
  | _ => .int
abbrev wsX80 : List Cond := u_ws RX8 TX8 5
theorem nmX8 : ∀ a, a < 5 → ∀ b, b < 5 → a ≠ b → (TX8 a).2.1 ≠ (TX8 b).2.1 := by decide +kernel
theorem tyX8_ok : ∀ k, k < 5 → parseFieldDescriptor (TX8 k).2.2.1 = some (tyX8 k) := by decide +kernel
abbrev cX8_init : ByteArray := prog_10_method_1_code
def yX8_init : MethodName := ⟨RX8, "<init>", "(LGuidedProbes$Board;)V"⟩
abbrev cX8_learn : ByteArray := prog_10_method_2_code
def yX8_learn : MethodName := ⟨RX8, "learn", "(LGuidedProbes$Histories;LGuidedProbes$Histories;)V"⟩
abbrev cX8_goFrom : ByteArray := prog_10_method_3_code
def yX8_goFrom : MethodName := ⟨RX8, "goFrom", "(I)V"⟩
abbrev cX8_source : ByteArray := prog_10_method_4_code
def yX8_source : MethodName := ⟨RX8, "source", "(I)I"⟩
abbrev cX8_leadsTo : ByteArray := prog_10_method_5_code
def yX8_leadsTo : MethodName := ⟨RX8, "leadsTo", "(II)Z"⟩
abbrev cX8_isSooner : ByteArray := prog_10_method_6_code
def yX8_isSooner : MethodName := ⟨RX8, "isSooner", "(II)Z"⟩
abbrev cX8_at : ByteArray := prog_10_method_7_code
def yX8_at : MethodName := ⟨RX8, "at", "(I)I"⟩
def RX9 : String := "GuidedProbes"
def TX9 : u_T := fun k => match k with
  | 0 => ("GuidedProbes", "page", "LGuidedProbes$Page;", true)
  | 1 => ("GuidedProbes", "wiring", "LGuidedProbes$Board;", true)
  | 2 => ("GuidedProbes", "draft", "LGuidedProbes$Board;", true)
  | 3 => ("GuidedProbes", "ticking", "LGuidedProbes$Stimulus;", true)
  | 4 => ("GuidedProbes", "simulation", "LGuidedProbes$Simulation;", true)
  | 5 => ("GuidedProbes", "good", "LGuidedProbes$Histories;", true)
  | 6 => ("GuidedProbes", "now", "LGuidedProbes$Histories;", true)
  | 7 => ("GuidedProbes", "faults", "LGuidedProbes$FaultList;", true)
  | 8 => ("GuidedProbes", "probes", "LGuidedProbes$Probes;", true)
  | 9 => ("GuidedProbes", "suspected", "LGuidedProbes$Suspects;", true)
  | 10 => ("GuidedProbes", "wayBack", "LGuidedProbes$WayBack;", true)
  | 11 => ("GuidedProbes", "faultNow", "I", false)
  | 12 => ("GuidedProbes", "boardsRead", "I", false)
  | _ => ("GuidedProbes", "stimuliRead", "I", false)
def tyX9 : Nat → FieldType := fun k => match k with
  | 0 => .object "GuidedProbes$Page"
  | 1 => .object "GuidedProbes$Board"
  | 2 => .object "GuidedProbes$Board"
  | 3 => .object "GuidedProbes$Stimulus"
  | 4 => .object "GuidedProbes$Simulation"
  | 5 => .object "GuidedProbes$Histories"
  | 6 => .object "GuidedProbes$Histories"
  | 7 => .object "GuidedProbes$FaultList"
  | 8 => .object "GuidedProbes$Probes"
  | 9 => .object "GuidedProbes$Suspects"
  | 10 => .object "GuidedProbes$WayBack"
  | 11 => .int
  | 12 => .int
  | _ => .int
abbrev wsX90 : List Cond := u_ws RX9 TX9 14
theorem nmX9 : ∀ a, a < 14 → ∀ b, b < 14 → a ≠ b → (TX9 a).2.1 ≠ (TX9 b).2.1 := by decide +kernel
theorem tyX9_ok : ∀ k, k < 14 → parseFieldDescriptor (TX9 k).2.2.1 = some (tyX9 k) := by decide +kernel
abbrev cX9_init : ByteArray := prog_1_method_1_code
def yX9_init : MethodName := ⟨RX9, "<init>", "()V"⟩
abbrev cX9_letter : ByteArray := prog_1_method_2_code
def yX9_letter : MethodName := ⟨RX9, "letter", "(I)I"⟩
abbrev cX9_blank : ByteArray := prog_1_method_3_code
def yX9_blank : MethodName := ⟨RX9, "blank", "()I"⟩
abbrev cX9_fault : ByteArray := prog_1_method_4_code
def yX9_fault : MethodName := ⟨RX9, "fault", "(Z)I"⟩
abbrev cX9_board : ByteArray := prog_1_method_5_code
def yX9_board : MethodName := ⟨RX9, "board", "()I"⟩
abbrev cX9_stimulus : ByteArray := prog_1_method_6_code
def yX9_stimulus : MethodName := ⟨RX9, "stimulus", "()I"⟩
abbrev cX9_hurt : ByteArray := prog_1_method_7_code
def yX9_hurt : MethodName := ⟨RX9, "hurt", "(I)I"⟩
abbrev cX9_node : ByteArray := prog_1_method_8_code
def yX9_node : MethodName := ⟨RX9, "node", "(II)I"⟩
abbrev cX9_shows : ByteArray := prog_1_method_9_code
def yX9_shows : MethodName := ⟨RX9, "shows", "(II)I"⟩
abbrev cX9_probe : ByteArray := prog_1_method_10_code
def yX9_probe : MethodName := ⟨RX9, "probe", "(I)I"⟩
abbrev cX9_forget : ByteArray := prog_1_method_11_code
def yX9_forget : MethodName := ⟨RX9, "forget", "()I"⟩
abbrev cX9_suspects : ByteArray := prog_1_method_12_code
def yX9_suspects : MethodName := ⟨RX9, "suspects", "(I)I"⟩
abbrev cX9_suspect : ByteArray := prog_1_method_13_code
def yX9_suspect : MethodName := ⟨RX9, "suspect", "(II)I"⟩
abbrev cX9_way : ByteArray := prog_1_method_14_code
def yX9_way : MethodName := ⟨RX9, "way", "(II)I"⟩
abbrev cX9_place : ByteArray := prog_1_method_15_code
def yX9_place : MethodName := ⟨RX9, "place", "(I)I"⟩
abbrev cX9_count : ByteArray := prog_1_method_16_code
def yX9_count : MethodName := ⟨RX9, "count", "(I)I"⟩
abbrev cX9_digest : ByteArray := prog_1_method_17_code
def yX9_digest : MethodName := ⟨RX9, "digest", "()J"⟩
abbrev cX9_digestNodes : ByteArray := prog_1_method_18_code
def yX9_digestNodes : MethodName := ⟨RX9, "digestNodes", "(J)J"⟩
abbrev cX9_digestFaults : ByteArray := prog_1_method_19_code
def yX9_digestFaults : MethodName := ⟨RX9, "digestFaults", "(J)J"⟩
abbrev cX9_digestSuspects : ByteArray := prog_1_method_20_code
def yX9_digestSuspects : MethodName := ⟨RX9, "digestSuspects", "(J)J"⟩
abbrev cX9_simulateFaults : ByteArray := prog_1_method_21_code
def yX9_simulateFaults : MethodName := ⟨RX9, "simulateFaults", "()V"⟩
abbrev cX9_simulateNow : ByteArray := prog_1_method_22_code
def yX9_simulateNow : MethodName := ⟨RX9, "simulateNow", "()V"⟩
abbrev cX9_forgetProbes : ByteArray := prog_1_method_23_code
def yX9_forgetProbes : MethodName := ⟨RX9, "forgetProbes", "()V"⟩
abbrev cX9_figure : ByteArray := prog_1_method_24_code
def yX9_figure : MethodName := ⟨RX9, "figure", "(I)I"⟩
def RX10 : String := "GuidedProbesModel"
def TX10 : u_T := fun k => match k with
  | 0 => ("GuidedProbesModel", "pageLength", "I", false)
  | 1 => ("GuidedProbesModel", "page", "[I", true)
  | 2 => ("GuidedProbesModel", "inputs", "I", false)
  | 3 => ("GuidedProbesModel", "nodes", "I", false)
  | 4 => ("GuidedProbesModel", "kindOf", "[I", true)
  | 5 => ("GuidedProbesModel", "drivenBy", "[I", true)
  | 6 => ("GuidedProbesModel", "ticks", "I", false)
  | 7 => ("GuidedProbesModel", "figureOf", "[I", true)
  | 8 => ("GuidedProbesModel", "hurtBy", "I", false)
  | 9 => ("GuidedProbesModel", "probed", "I", false)
  | 10 => ("GuidedProbesModel", "foundBad", "I", false)
  | 11 => ("GuidedProbesModel", "boards", "I", false)
  | 12 => ("GuidedProbesModel", "stimuli", "I", false)
  | 13 => ("GuidedProbesModel", "probesEver", "I", false)
  | 14 => ("GuidedProbesModel", "newInputs", "I", false)
  | 15 => ("GuidedProbesModel", "newGates", "I", false)
  | 16 => ("GuidedProbesModel", "isSplit", "Z", false)
  | 17 => ("GuidedProbesModel", "newKind", "I", false)
  | 18 => ("GuidedProbesModel", "newPins", "I", false)
  | 19 => ("GuidedProbesModel", "newKinds", "[I", true)
  | 20 => ("GuidedProbesModel", "newDriven", "[I", true)
  | 21 => ("GuidedProbesModel", "historyOf", "[I", true)
  | 22 => ("GuidedProbesModel", "valueOf", "[I", true)
  | 23 => ("GuidedProbesModel", "aheadOf", "[I", true)
  | 24 => ("GuidedProbesModel", "goodOf", "[I", true)
  | 25 => ("GuidedProbesModel", "nowOf", "[I", true)
  | 26 => ("GuidedProbesModel", "faults", "I", false)
  | 27 => ("GuidedProbesModel", "faultAt", "[I", true)
  | 28 => ("GuidedProbesModel", "badBy", "[I", true)
  | 29 => ("GuidedProbesModel", "unlikeBy", "[I", true)
  | 30 => ("GuidedProbesModel", "rest", "I", false)
  | 31 => ("GuidedProbesModel", "steps", "I", false)
  | 32 => ("GuidedProbesModel", "mostSteps", "I", false)
  | 33 => ("GuidedProbesModel", "allSteps", "I", false)
  | 34 => ("GuidedProbesModel", "mostRest", "I", false)
  | 35 => ("GuidedProbesModel", "wayMany", "I", false)
  | 36 => ("GuidedProbesModel", "wayAt", "[I", true)
  | _ => ("GuidedProbesModel", "h", "J", false)
def tyX10 : Nat → FieldType := fun k => match k with
  | 0 => .int
  | 1 => .array .int
  | 2 => .int
  | 3 => .int
  | 4 => .array .int
  | 5 => .array .int
  | 6 => .int
  | 7 => .array .int
  | 8 => .int
  | 9 => .int
  | 10 => .int
  | 11 => .int
  | 12 => .int
  | 13 => .int
  | 14 => .int
  | 15 => .int
  | 16 => .boolean
  | 17 => .int
  | 18 => .int
  | 19 => .array .int
  | 20 => .array .int
  | 21 => .array .int
  | 22 => .array .int
  | 23 => .array .int
  | 24 => .array .int
  | 25 => .array .int
  | 26 => .int
  | 27 => .array .int
  | 28 => .array .int
  | 29 => .array .int
  | 30 => .int
  | 31 => .int
  | 32 => .int
  | 33 => .int
  | 34 => .int
  | 35 => .int
  | 36 => .array .int
  | _ => .long
abbrev wsX100 : List Cond := u_ws RX10 TX10 38
theorem nmX10 : ∀ a, a < 38 → ∀ b, b < 38 → a ≠ b → (TX10 a).2.1 ≠ (TX10 b).2.1 := by decide +kernel
theorem tyX10_ok : ∀ k, k < 38 → parseFieldDescriptor (TX10 k).2.2.1 = some (tyX10 k) := by decide +kernel
abbrev cX10_init : ByteArray := prog_12_method_1_code
def yX10_init : MethodName := ⟨RX10, "<init>", "()V"⟩
abbrev cX10_within : ByteArray := prog_12_method_3_code
def yX10_within : MethodName := ⟨RX10, "within", "(III)Z"⟩
abbrev cX10_has : ByteArray := prog_12_method_4_code
def yX10_has : MethodName := ⟨RX10, "has", "(II)Z"⟩
abbrev cX10_letter : ByteArray := prog_12_method_5_code
def yX10_letter : MethodName := ⟨RX10, "letter", "(I)I"⟩
abbrev cX10_blank : ByteArray := prog_12_method_6_code
def yX10_blank : MethodName := ⟨RX10, "blank", "()I"⟩
abbrev cX10_figure : ByteArray := prog_12_method_7_code
def yX10_figure : MethodName := ⟨RX10, "figure", "(II)I"⟩
abbrev cX10_kindBy : ByteArray := prog_12_method_8_code
def yX10_kindBy : MethodName := ⟨RX10, "kindBy", "(I)I"⟩
abbrev cX10_pinsOf : ByteArray := prog_12_method_9_code
def yX10_pinsOf : MethodName := ⟨RX10, "pinsOf", "(I)I"⟩
abbrev cX10_takesPin : ByteArray := prog_12_method_10_code
def yX10_takesPin : MethodName := ⟨RX10, "takesPin", "(I)Z"⟩
abbrev cX10_takes : ByteArray := prog_12_method_11_code
def yX10_takes : MethodName := ⟨RX10, "takes", "(I)Z"⟩
abbrev cX10_goAlong : ByteArray := prog_12_method_12_code
def yX10_goAlong : MethodName := ⟨RX10, "goAlong", "()I"⟩
abbrev cX10_goFigures : ByteArray := prog_12_method_13_code
def yX10_goFigures : MethodName := ⟨RX10, "goFigures", "()I"⟩
abbrev cX10_fault : ByteArray := prog_12_method_14_code
def yX10_fault : MethodName := ⟨RX10, "fault", "(Z)I"⟩
abbrev cX10_mayDrive : ByteArray := prog_12_method_15_code
def yX10_mayDrive : MethodName := ⟨RX10, "mayDrive", "(II)Z"⟩
abbrev cX10_isBoard : ByteArray := prog_12_method_16_code
def yX10_isBoard : MethodName := ⟨RX10, "isBoard", "()Z"⟩
abbrev cX10_board : ByteArray := prog_12_method_17_code
def yX10_board : MethodName := ⟨RX10, "board", "()I"⟩
abbrev cX10_stimulus : ByteArray := prog_12_method_18_code
def yX10_stimulus : MethodName := ⟨RX10, "stimulus", "()I"⟩
abbrev cX10_isStuck : ByteArray := prog_12_method_19_code
def yX10_isStuck : MethodName := ⟨RX10, "isStuck", "(II)Z"⟩
abbrev cX10_pinValue : ByteArray := prog_12_method_20_code
def yX10_pinValue : MethodName := ⟨RX10, "pinValue", "(IIIZ)I"⟩
abbrev cX10_plainValue : ByteArray := prog_12_method_21_code
def yX10_plainValue : MethodName := ⟨RX10, "plainValue", "(III)I"⟩
abbrev cX10_goTick : ByteArray := prog_12_method_22_code
def yX10_goTick : MethodName := ⟨RX10, "goTick", "(II)V"⟩
abbrev cX10_goAll : ByteArray := prog_12_method_23_code
def yX10_goAll : MethodName := ⟨RX10, "goAll", "(I)V"⟩
abbrev cX10_markBy : ByteArray := prog_12_method_24_code
def yX10_markBy : MethodName := ⟨RX10, "markBy", "(I)I"⟩
abbrev cX10_addFault : ByteArray := prog_12_method_25_code
def yX10_addFault : MethodName := ⟨RX10, "addFault", "(I)V"⟩
abbrev cX10_layFaults : ByteArray := prog_12_method_26_code
def yX10_layFaults : MethodName := ⟨RX10, "layFaults", "()V"⟩
abbrev cX10_layShown : ByteArray := prog_12_method_27_code
def yX10_layShown : MethodName := ⟨RX10, "layShown", "()V"⟩
abbrev cX10_layNow : ByteArray := prog_12_method_28_code
def yX10_layNow : MethodName := ⟨RX10, "layNow", "()V"⟩
abbrev cX10_begins : ByteArray := prog_12_method_29_code
def yX10_begins : MethodName := ⟨RX10, "begins", "()V"⟩
abbrev cX10_findFault : ByteArray := prog_12_method_30_code
def yX10_findFault : MethodName := ⟨RX10, "findFault", "(I)I"⟩
abbrev cX10_hurt : ByteArray := prog_12_method_31_code
def yX10_hurt : MethodName := ⟨RX10, "hurt", "(I)I"⟩
abbrev cX10_isNode : ByteArray := prog_12_method_32_code
def yX10_isNode : MethodName := ⟨RX10, "isNode", "(I)Z"⟩
abbrev cX10_isBad : ByteArray := prog_12_method_33_code
def yX10_isBad : MethodName := ⟨RX10, "isBad", "(I)Z"⟩
abbrev cX10_firstOf : ByteArray := prog_12_method_34_code
def yX10_firstOf : MethodName := ⟨RX10, "firstOf", "(I)I"⟩
abbrev cX10_nodeNow : ByteArray := prog_12_method_35_code
def yX10_nodeNow : MethodName := ⟨RX10, "nodeNow", "(II)I"⟩
abbrev cX10_node : ByteArray := prog_12_method_36_code
def yX10_node : MethodName := ⟨RX10, "node", "(II)I"⟩
abbrev cX10_shows : ByteArray := prog_12_method_37_code
def yX10_shows : MethodName := ⟨RX10, "shows", "(II)I"⟩
abbrev cX10_probe : ByteArray := prog_12_method_38_code
def yX10_probe : MethodName := ⟨RX10, "probe", "(I)I"⟩
abbrev cX10_ones : ByteArray := prog_12_method_39_code
def yX10_ones : MethodName := ⟨RX10, "ones", "(I)I"⟩
abbrev cX10_forget : ByteArray := prog_12_method_40_code
def yX10_forget : MethodName := ⟨RX10, "forget", "()I"⟩
abbrev cX10_fits : ByteArray := prog_12_method_41_code
def yX10_fits : MethodName := ⟨RX10, "fits", "(III)Z"⟩
abbrev cX10_fitting : ByteArray := prog_12_method_42_code
def yX10_fitting : MethodName := ⟨RX10, "fitting", "(II)I"⟩
abbrev cX10_nextBy : ByteArray := prog_12_method_43_code
def yX10_nextBy : MethodName := ⟨RX10, "nextBy", "(II)I"⟩
abbrev cX10_layRest : ByteArray := prog_12_method_44_code
def yX10_layRest : MethodName := ⟨RX10, "layRest", "(I)V"⟩
abbrev cX10_layRests : ByteArray := prog_12_method_45_code
def yX10_layRests : MethodName := ⟨RX10, "layRests", "()V"⟩
abbrev cX10_suspectsNow : ByteArray := prog_12_method_46_code
def yX10_suspectsNow : MethodName := ⟨RX10, "suspectsNow", "(I)I"⟩
abbrev cX10_suspects : ByteArray := prog_12_method_47_code
def yX10_suspects : MethodName := ⟨RX10, "suspects", "(I)I"⟩
abbrev cX10_suspectAt : ByteArray := prog_12_method_48_code
def yX10_suspectAt : MethodName := ⟨RX10, "suspectAt", "(I)I"⟩
abbrev cX10_suspectNow : ByteArray := prog_12_method_49_code
def yX10_suspectNow : MethodName := ⟨RX10, "suspectNow", "(II)I"⟩
abbrev cX10_suspect : ByteArray := prog_12_method_50_code
def yX10_suspect : MethodName := ⟨RX10, "suspect", "(II)I"⟩
abbrev cX10_isBetter : ByteArray := prog_12_method_51_code
def yX10_isBetter : MethodName := ⟨RX10, "isBetter", "(II)Z"⟩
abbrev cX10_goesOn : ByteArray := prog_12_method_52_code
def yX10_goesOn : MethodName := ⟨RX10, "goesOn", "(II)I"⟩
abbrev cX10_layWay : ByteArray := prog_12_method_53_code
def yX10_layWay : MethodName := ⟨RX10, "layWay", "(I)V"⟩
abbrev cX10_placeOf : ByteArray := prog_12_method_54_code
def yX10_placeOf : MethodName := ⟨RX10, "placeOf", "(I)I"⟩
abbrev cX10_way : ByteArray := prog_12_method_55_code
def yX10_way : MethodName := ⟨RX10, "way", "(II)I"⟩
abbrev cX10_place : ByteArray := prog_12_method_56_code
def yX10_place : MethodName := ⟨RX10, "place", "(I)I"⟩
abbrev cX10_howMany : ByteArray := prog_12_method_57_code
def yX10_howMany : MethodName := ⟨RX10, "howMany", "(I)I"⟩
abbrev cX10_count : ByteArray := prog_12_method_58_code
def yX10_count : MethodName := ⟨RX10, "count", "(I)I"⟩
abbrev cX10_mix : ByteArray := prog_12_method_59_code
def yX10_mix : MethodName := ⟨RX10, "mix", "(J)V"⟩
abbrev cX10_mixSuspects : ByteArray := prog_12_method_60_code
def yX10_mixSuspects : MethodName := ⟨RX10, "mixSuspects", "()V"⟩
abbrev cX10_digest : ByteArray := prog_12_method_61_code
def yX10_digest : MethodName := ⟨RX10, "digest", "()J"⟩
def RJ13 : String := "java/lang/Long"
abbrev cJ13_bitCount_95d88 : ByteArray := prog_13_method_50_code
def yJ13_bitCount_95d88 : MethodName := ⟨RJ13, "bitCount", "(J)I"⟩
def RJ9 : String := "java/lang/Math"
abbrev cJ9_max_7cf53 : ByteArray := prog_14_method_65_code
def yJ9_max_7cf53 : MethodName := ⟨RJ9, "max", "(II)I"⟩
abbrev cJ9_min_7cf53 : ByteArray := prog_14_method_69_code
def yJ9_min_7cf53 : MethodName := ⟨RJ9, "min", "(II)I"⟩
def RJ10 : String := "java/lang/System"
def RJ7 : String := "java/util/Arrays"
abbrev cJ7_fill_53178 : ByteArray := prog_16_method_103_code
def yJ7_fill_53178 : MethodName := ⟨RJ7, "fill", "([II)V"⟩
def RL : String := "GuidedProbesLaw"
abbrev cL_law : ByteArray := code
def yL_law : MethodName := ⟨RL, "law", "([I)Z"⟩
abbrev vwCl : List vw_C := [(RX0, TX0, 6), (RX1, TX1, 4), (RX2, TX2, 2), (RX3, TX3, 2), (RX4, TX4, 3), (RX5, TX5, 5), (RX6, TX6, 2), (RX7, TX7, 7), (RX8, TX8, 5), (RX9, TX9, 14), (RX10, TX10, 38)]
abbrev gp_M : Type := MethodName × ByteArray × Nat × Option FieldType
abbrev mX0_init : gp_M := (yX0_init, cX0_init, 1, none)
abbrev mX0_read : gp_M := (yX0_read, cX0_read, 3, (some .int))
abbrev mX0_takes : gp_M := (yX0_takes, cX0_takes, 2, (some .boolean))
abbrev mX0_takesInputs : gp_M := (yX0_takesInputs, cX0_takesInputs, 2, (some .boolean))
abbrev mX0_takesGate : gp_M := (yX0_takesGate, cX0_takesGate, 2, (some .boolean))
abbrev mX0_takesKind : gp_M := (yX0_takesKind, cX0_takesKind, 3, (some .boolean))
abbrev mX0_takesPin : gp_M := (yX0_takesPin, cX0_takesPin, 4, (some .boolean))
abbrev mX0_kindOf : gp_M := (yX0_kindOf, cX0_kindOf, 1, (some .int))
abbrev mX0_isWhole : gp_M := (yX0_isWhole, cX0_isWhole, 1, (some .boolean))
abbrev mX0_isDrivenRightly : gp_M := (yX0_isDrivenRightly, cX0_isDrivenRightly, 3, (some .boolean))
abbrev mX0_mayDrive : gp_M := (yX0_mayDrive, cX0_mayDrive, 3, (some .boolean))
abbrev mX0_has : gp_M := (yX0_has, cX0_has, 2, (some .boolean))
abbrev mX0_pins : gp_M := (yX0_pins, cX0_pins, 2, (some .int))
abbrev mX0_driver : gp_M := (yX0_driver, cX0_driver, 3, (some .int))
abbrev mX0_copyFrom : gp_M := (yX0_copyFrom, cX0_copyFrom, 2, none)
abbrev mX1_init : gp_M := (yX1_init, cX1_init, 1, none)
abbrev mX1_list : gp_M := (yX1_list, cX1_list, 4, none)
abbrev mX1_add : gp_M := (yX1_add, cX1_add, 2, none)
abbrev mX1_indexOf : gp_M := (yX1_indexOf, cX1_indexOf, 3, (some .int))
abbrev mX2_init : gp_M := (yX2_init, cX2_init, 1, none)
abbrev mX2_clear : gp_M := (yX2_clear, cX2_clear, 1, none)
abbrev mX2_add : gp_M := (yX2_add, cX2_add, 5, none)
abbrev mX2_isBad : gp_M := (yX2_isBad, cX2_isBad, 3, (some .boolean))
abbrev mX2_badNodes : gp_M := (yX2_badNodes, cX2_badNodes, 4, (some .int))
abbrev mX2_unlikeNodes : gp_M := (yX2_unlikeNodes, cX2_unlikeNodes, 4, (some .int))
abbrev mX2_firstUnlike : gp_M := (yX2_firstUnlike, cX2_firstUnlike, 5, (some .int))
abbrev mX3_init : gp_M := (yX3_init, cX3_init, 1, none)
abbrev mX3_append : gp_M := (yX3_append, cX3_append, 2, none)
abbrev mX3_clear : gp_M := (yX3_clear, cX3_clear, 1, none)
abbrev mX4_init : gp_M := (yX4_init, cX4_init, 1, none)
abbrev mX4_add : gp_M := (yX4_add, cX4_add, 3, none)
abbrev mX4_clear : gp_M := (yX4_clear, cX4_clear, 1, none)
abbrev mX5_init : gp_M := (yX5_init, cX5_init, 3, none)
abbrev mX5_run : gp_M := (yX5_run, cX5_run, 5, none)
abbrev mX5_setNodes : gp_M := (yX5_setNodes, cX5_setNodes, 4, none)
abbrev mX5_value : gp_M := (yX5_value, cX5_value, 3, (some .int))
abbrev mX5_pinValue : gp_M := (yX5_pinValue, cX5_pinValue, 4, (some .int))
abbrev mX6_init : gp_M := (yX6_init, cX6_init, 1, none)
abbrev mX6_misfit : gp_M := (yX6_misfit, cX6_misfit, 2, (some .int))
abbrev mX6_read : gp_M := (yX6_read, cX6_read, 3, none)
abbrev mX6_bit : gp_M := (yX6_bit, cX6_bit, 3, (some .int))
abbrev mX7_init : gp_M := (yX7_init, cX7_init, 1, none)
abbrev mX7_learn : gp_M := (yX7_learn, cX7_learn, 4, none)
abbrev mX7_choose : gp_M := (yX7_choose, cX7_choose, 6, none)
abbrev mX7_listMembers : gp_M := (yX7_listMembers, cX7_listMembers, 4, none)
abbrev mX7_side : gp_M := (yX7_side, cX7_side, 3, (some .long))
abbrev mX7_nextOf : gp_M := (yX7_nextOf, cX7_nextOf, 10, (some .int))
abbrev mX7_goOn : gp_M := (yX7_goOn, cX7_goOn, 6, none)
abbrev mX7_end : gp_M := (yX7_end, cX7_end, 6, none)
abbrev mX7_mostSteps : gp_M := (yX7_mostSteps, cX7_mostSteps, 3, (some .int))
abbrev mX7_allSteps : gp_M := (yX7_allSteps, cX7_allSteps, 3, (some .int))
abbrev mX7_greatestRest : gp_M := (yX7_greatestRest, cX7_greatestRest, 3, (some .int))
abbrev mX8_init : gp_M := (yX8_init, cX8_init, 2, none)
abbrev mX8_learn : gp_M := (yX8_learn, cX8_learn, 4, none)
abbrev mX8_goFrom : gp_M := (yX8_goFrom, cX8_goFrom, 3, none)
abbrev mX8_source : gp_M := (yX8_source, cX8_source, 5, (some .int))
abbrev mX8_leadsTo : gp_M := (yX8_leadsTo, cX8_leadsTo, 3, (some .boolean))
abbrev mX8_isSooner : gp_M := (yX8_isSooner, cX8_isSooner, 3, (some .boolean))
abbrev mX8_at : gp_M := (yX8_at, cX8_at, 2, (some .int))
abbrev mX9_init : gp_M := (yX9_init, cX9_init, 1, none)
abbrev mX9_letter : gp_M := (yX9_letter, cX9_letter, 2, (some .int))
abbrev mX9_blank : gp_M := (yX9_blank, cX9_blank, 2, (some .int))
abbrev mX9_fault : gp_M := (yX9_fault, cX9_fault, 2, (some .int))
abbrev mX9_board : gp_M := (yX9_board, cX9_board, 2, (some .int))
abbrev mX9_stimulus : gp_M := (yX9_stimulus, cX9_stimulus, 1, (some .int))
abbrev mX9_hurt : gp_M := (yX9_hurt, cX9_hurt, 3, (some .int))
abbrev mX9_node : gp_M := (yX9_node, cX9_node, 3, (some .int))
abbrev mX9_shows : gp_M := (yX9_shows, cX9_shows, 4, (some .int))
abbrev mX9_probe : gp_M := (yX9_probe, cX9_probe, 2, (some .int))
abbrev mX9_forget : gp_M := (yX9_forget, cX9_forget, 2, (some .int))
abbrev mX9_suspects : gp_M := (yX9_suspects, cX9_suspects, 2, (some .int))
abbrev mX9_suspect : gp_M := (yX9_suspect, cX9_suspect, 4, (some .int))
abbrev mX9_way : gp_M := (yX9_way, cX9_way, 3, (some .int))
abbrev mX9_place : gp_M := (yX9_place, cX9_place, 2, (some .int))
abbrev mX9_count : gp_M := (yX9_count, cX9_count, 2, (some .int))
abbrev mX9_digest : gp_M := (yX9_digest, cX9_digest, 4, (some .long))
abbrev mX9_digestNodes : gp_M := (yX9_digestNodes, cX9_digestNodes, 7, (some .long))
abbrev mX9_digestFaults : gp_M := (yX9_digestFaults, cX9_digestFaults, 6, (some .long))
abbrev mX9_digestSuspects : gp_M := (yX9_digestSuspects, cX9_digestSuspects, 7, (some .long))
abbrev mX9_simulateFaults : gp_M := (yX9_simulateFaults, cX9_simulateFaults, 2, none)
abbrev mX9_simulateNow : gp_M := (yX9_simulateNow, cX9_simulateNow, 1, none)
abbrev mX9_forgetProbes : gp_M := (yX9_forgetProbes, cX9_forgetProbes, 1, none)
abbrev mX9_figure : gp_M := (yX9_figure, cX9_figure, 1, (some .int))
abbrev mX10_init : gp_M := (yX10_init, cX10_init, 1, none)
abbrev mX10_within : gp_M := (yX10_within, cX10_within, 3, (some .boolean))
abbrev mX10_has : gp_M := (yX10_has, cX10_has, 2, (some .boolean))
abbrev mX10_letter : gp_M := (yX10_letter, cX10_letter, 2, (some .int))
abbrev mX10_blank : gp_M := (yX10_blank, cX10_blank, 2, (some .int))
abbrev mX10_figure : gp_M := (yX10_figure, cX10_figure, 3, (some .int))
abbrev mX10_kindBy : gp_M := (yX10_kindBy, cX10_kindBy, 1, (some .int))
abbrev mX10_pinsOf : gp_M := (yX10_pinsOf, cX10_pinsOf, 1, (some .int))
abbrev mX10_takesPin : gp_M := (yX10_takesPin, cX10_takesPin, 3, (some .boolean))
abbrev mX10_takes : gp_M := (yX10_takes, cX10_takes, 3, (some .boolean))
abbrev mX10_goAlong : gp_M := (yX10_goAlong, cX10_goAlong, 2, (some .int))
abbrev mX10_goFigures : gp_M := (yX10_goFigures, cX10_goFigures, 2, (some .int))
abbrev mX10_fault : gp_M := (yX10_fault, cX10_fault, 2, (some .int))
abbrev mX10_mayDrive : gp_M := (yX10_mayDrive, cX10_mayDrive, 5, (some .boolean))
abbrev mX10_isBoard : gp_M := (yX10_isBoard, cX10_isBoard, 4, (some .boolean))
abbrev mX10_board : gp_M := (yX10_board, cX10_board, 4, (some .int))
abbrev mX10_stimulus : gp_M := (yX10_stimulus, cX10_stimulus, 2, (some .int))
abbrev mX10_isStuck : gp_M := (yX10_isStuck, cX10_isStuck, 2, (some .boolean))
abbrev mX10_pinValue : gp_M := (yX10_pinValue, cX10_pinValue, 6, (some .int))
abbrev mX10_plainValue : gp_M := (yX10_plainValue, cX10_plainValue, 4, (some .int))
abbrev mX10_goTick : gp_M := (yX10_goTick, cX10_goTick, 5, none)
abbrev mX10_goAll : gp_M := (yX10_goAll, cX10_goAll, 3, none)
abbrev mX10_markBy : gp_M := (yX10_markBy, cX10_markBy, 5, (some .int))
abbrev mX10_addFault : gp_M := (yX10_addFault, cX10_addFault, 2, none)
abbrev mX10_layFaults : gp_M := (yX10_layFaults, cX10_layFaults, 3, none)
abbrev mX10_layShown : gp_M := (yX10_layShown, cX10_layShown, 3, none)
abbrev mX10_layNow : gp_M := (yX10_layNow, cX10_layNow, 2, none)
abbrev mX10_begins : gp_M := (yX10_begins, cX10_begins, 2, none)
abbrev mX10_findFault : gp_M := (yX10_findFault, cX10_findFault, 4, (some .int))
abbrev mX10_hurt : gp_M := (yX10_hurt, cX10_hurt, 3, (some .int))
abbrev mX10_isNode : gp_M := (yX10_isNode, cX10_isNode, 2, (some .boolean))
abbrev mX10_isBad : gp_M := (yX10_isBad, cX10_isBad, 2, (some .boolean))
abbrev mX10_firstOf : gp_M := (yX10_firstOf, cX10_firstOf, 5, (some .int))
abbrev mX10_nodeNow : gp_M := (yX10_nodeNow, cX10_nodeNow, 3, (some .int))
abbrev mX10_node : gp_M := (yX10_node, cX10_node, 3, (some .int))
abbrev mX10_shows : gp_M := (yX10_shows, cX10_shows, 4, (some .int))
abbrev mX10_probe : gp_M := (yX10_probe, cX10_probe, 2, (some .int))
abbrev mX10_ones : gp_M := (yX10_ones, cX10_ones, 3, (some .int))
abbrev mX10_forget : gp_M := (yX10_forget, cX10_forget, 2, (some .int))
abbrev mX10_fits : gp_M := (yX10_fits, cX10_fits, 4, (some .boolean))
abbrev mX10_fitting : gp_M := (yX10_fitting, cX10_fitting, 5, (some .int))
abbrev mX10_nextBy : gp_M := (yX10_nextBy, cX10_nextBy, 9, (some .int))
abbrev mX10_layRest : gp_M := (yX10_layRest, cX10_layRest, 5, none)
abbrev mX10_layRests : gp_M := (yX10_layRests, cX10_layRests, 2, none)
abbrev mX10_suspectsNow : gp_M := (yX10_suspectsNow, cX10_suspectsNow, 2, (some .int))
abbrev mX10_suspects : gp_M := (yX10_suspects, cX10_suspects, 2, (some .int))
abbrev mX10_suspectAt : gp_M := (yX10_suspectAt, cX10_suspectAt, 4, (some .int))
abbrev mX10_suspectNow : gp_M := (yX10_suspectNow, cX10_suspectNow, 3, (some .int))
abbrev mX10_suspect : gp_M := (yX10_suspect, cX10_suspect, 4, (some .int))
abbrev mX10_isBetter : gp_M := (yX10_isBetter, cX10_isBetter, 3, (some .boolean))
abbrev mX10_goesOn : gp_M := (yX10_goesOn, cX10_goesOn, 8, (some .int))
abbrev mX10_layWay : gp_M := (yX10_layWay, cX10_layWay, 4, none)
abbrev mX10_placeOf : gp_M := (yX10_placeOf, cX10_placeOf, 2, (some .int))
abbrev mX10_way : gp_M := (yX10_way, cX10_way, 3, (some .int))
abbrev mX10_place : gp_M := (yX10_place, cX10_place, 2, (some .int))
abbrev mX10_howMany : gp_M := (yX10_howMany, cX10_howMany, 2, (some .int))
abbrev mX10_count : gp_M := (yX10_count, cX10_count, 2, (some .int))
abbrev mX10_mix : gp_M := (yX10_mix, cX10_mix, 3, none)
abbrev mX10_mixSuspects : gp_M := (yX10_mixSuspects, cX10_mixSuspects, 3, none)
abbrev mX10_digest : gp_M := (yX10_digest, cX10_digest, 3, (some .long))
abbrev mJ13_bitCount_95d88 : gp_M := (yJ13_bitCount_95d88, cJ13_bitCount_95d88, 2, (some .int))
abbrev mJ9_max_7cf53 : gp_M := (yJ9_max_7cf53, cJ9_max_7cf53, 2, (some .int))
abbrev mJ9_min_7cf53 : gp_M := (yJ9_min_7cf53, cJ9_min_7cf53, 2, (some .int))
abbrev mJ7_fill_53178 : gp_M := (yJ7_fill_53178, cJ7_fill_53178, 4, none)
def gp_tbl : List Cond := lw_tbl.filter goodWord
theorem gp_in {w : Cond} (i : Nat) (h : lw_tbl[i]? = some w) (g : goodWord w = true) : w ∈ gp_tbl := List.mem_filter.mpr ⟨List.mem_of_getElem? h, g⟩
theorem gp_tbl_good : ∀ w ∈ gp_tbl, goodWord w = true := fun w h => (List.mem_filter.mp h).2
theorem gp_tbl_in : ∀ w ∈ gp_tbl, w ∈ lw_tbl := fun w h => (List.mem_filter.mp h).1
end
section
/-! THE SMALL MACHINE: the objects of a run are fixed once the constructors are done; a state is then two tables of numbers (ints, longs) by object and slot, or by array and index. -/
abbrev gp_S : Type := (Nat → Nat → Int32) × (Nat → Nat → Int64)
abbrev gp_K1 : Type := Nat ⊕ Bool
abbrev gp_H : Type := (Bool × Nat) ⊕ (Nat × List gp_K1)
/-- the objects: 0 to 33 the system's, 34 to 49 the reference's -/
def gp_shL : List gp_H := [
  .inr (9, [.inl 1, .inl 3, .inl 6, .inl 9, .inl 11, .inl 14, .inl 17, .inl 20, .inl 24, .inl 26, .inl 31, .inr false, .inr false, .inr false]),
  .inr (3, [.inl 2, .inr false]), .inl (false, 40),
  .inr (0, [.inl 4, .inl 5, .inr false, .inr false, .inr false, .inr false]), .inl (false, 12), .inl (false, 24),
  .inr (0, [.inl 7, .inl 8, .inr false, .inr false, .inr false, .inr false]), .inl (false, 12), .inl (false, 24),
  .inr (6, [.inl 10, .inr false]), .inl (false, 16),
  .inr (5, [.inl 3, .inl 9, .inl 12, .inl 13, .inr false]), .inl (false, 12), .inl (false, 12),
  .inr (2, [.inl 15, .inl 16]), .inl (false, 12), .inl (false, 12),
  .inr (2, [.inl 18, .inl 19]), .inl (false, 12), .inl (false, 12),
  .inr (1, [.inl 21, .inl 22, .inl 23, .inr false]), .inl (false, 40), .inl (false, 40), .inl (false, 40),
  .inr (4, [.inl 25, .inr false, .inr false]), .inl (false, 12),
  .inr (7, [.inl 27, .inr true, .inl 28, .inl 29, .inl 30, .inr false, .inr false]), .inl (true, 12), .inl (false, 40), .inl (false, 40), .inl (false, 40),
  .inr (8, [.inl 3, .inl 32, .inl 33, .inr false, .inr false]), .inl (false, 12), .inl (false, 12),
  .inr (10, [.inr false, .inl 35, .inr false, .inr false, .inl 36, .inl 37, .inr false, .inl 38, .inr false, .inr false, .inr false, .inr false, .inr false, .inr false, .inr false, .inr false, .inr false, .inr false, .inr false, .inl 39, .inl 40, .inl 41, .inl 42, .inl 43, .inl 44, .inl 45, .inr false, .inl 46, .inl 47, .inl 48, .inr false, .inr false, .inr false, .inr false, .inr false, .inr false, .inl 49, .inr true]),
  .inl (false, 40), .inl (false, 12), .inl (false, 24), .inl (false, 16), .inl (false, 8), .inl (false, 16), .inl (false, 12), .inl (false, 12), .inl (false, 12), .inl (false, 12), .inl (false, 12), .inl (false, 40), .inl (false, 40), .inl (false, 40), .inl (false, 12)]
def gp_sh (a : Nat) : gp_H := gp_shL.getD a (.inl (false, 0))
/-- the launch, the classes' numbers, the arrays' classes, the addresses -/
abbrev gp_G : Type := Launch × va_G × (Nat → ClassId) × (Nat → Nat)
def gp_tr (ad : Nat → Nat) (v : Value) : Value := match v with
  | .ref a => .ref (ad a)
  | v => v
theorem gp_tr_cat (ad : Nat → Nat) (v : Value) : (gp_tr ad v).category = v.category := by cases v <;> rfl
def gp_val (ad : Nat → Nat) (i : Nat → Int32) (j : Nat → Int64) (k : Nat) (f : gp_K1) : Value := match f with
  | .inl a => .ref (ad a)
  | .inr false => .int (i k)
  | .inr true => .long (j k)
def gp_cell (G : gp_G) (a : Nat) (h : gp_H) (i : Nat → Int32) (j : Nat → Int64) : va_E := match h with
  | .inl (false, n) => .inl (G.2.2.1 a, n, .inl i)
  | .inl (true, n) => .inl (G.2.2.1 a, n, .inr (.inl j))
  | .inr (ci, fs) => .inr (ci, fs.mapIdx (gp_val G.2.2.2 i j))
def gp_ws (G : gp_G) (σ : gp_S) : va_W := (List.range 50).map (fun a => (G.2.2.2 a, gp_cell G a (gp_sh a) (σ.1 a) (σ.2 a)))
def gp_ty (h : gp_H) : FieldType := match h with
  | .inl (true, _) => .long
  | _ => .int
def gp_tys (G : gp_G) : List (ClassId × FieldType) := (List.range 50).map (fun a => (G.2.2.1 a, gp_ty (gp_sh a)))
def gp_inj (G : gp_G) : Prop := ∀ a b : Nat, a < 50 → b < 50 → G.2.2.2 a = G.2.2.2 b → a = b
def gp_A (G : gp_G) : Nat → Prop := fun q => ∃ a : Nat, a < 50 ∧ q = G.2.2.2 a
def gp_ui (σ : gp_S) (a k : Nat) (v : Int32) : gp_S := (fun b => if b = a then upd (σ.1 b) k v else σ.1 b, σ.2)
def gp_uj (σ : gp_S) (a k : Nat) (v : Int64) : gp_S := (σ.1, fun b => if b = a then vp_updL (σ.2 b) k v else σ.2 b)
/-- a whole array of ints is put -/
def gp_ua (σ : gp_S) (a : Nat) (f : Nat → Int32) : gp_S := (fun b => if b = a then f else σ.1 b, σ.2)
theorem gp_ws_at {G : gp_G} {σ : gp_S} {a : Nat} (h : a < 50) : (gp_ws G σ)[a]? = some (G.2.2.2 a, gp_cell G a (gp_sh a) (σ.1 a) (σ.2 a)) := by
  unfold gp_ws
  rw [List.getElem?_map, List.getElem?_range h]
  rfl
theorem gp_tys_at {G : gp_G} {a : Nat} (h : a < 50) : (gp_tys G)[a]? = some (G.2.2.1 a, gp_ty (gp_sh a)) := by
  unfold gp_tys
  rw [List.getElem?_map, List.getElem?_range h]
  rfl
theorem gp_ws_len {G : gp_G} {σ : gp_S} : (gp_ws G σ).length = 50 := by simp [gp_ws]
theorem gp_ws_ge {G : gp_G} {σ : gp_S} {a : Nat} (h : ¬ a < 50) : (gp_ws G σ)[a]? = none := by
  apply List.getElem?_eq_none
  rw [gp_ws_len]
  omega
theorem gp_ws_set {G : gp_G} {σ σ' : gp_S} {a : Nat} {e : va_E} (h : a < 50) (he : e = gp_cell G a (gp_sh a) (σ'.1 a) (σ'.2 a)) (h1 : ∀ b, b ≠ a → σ'.1 b = σ.1 b) (h2 : ∀ b, b ≠ a → σ'.2 b = σ.2 b) : (gp_ws G σ).set a (G.2.2.2 a, e) = gp_ws G σ' := by
  apply List.ext_getElem?
  intro b
  by_cases hb : b < 50
  · by_cases hab : b = a
    · subst hab
      rw [List.getElem?_set_self (by rw [gp_ws_len]; exact hb), gp_ws_at hb, he]
    · rw [List.getElem?_set_ne (Ne.symm hab), gp_ws_at hb, gp_ws_at hb, h1 b hab, h2 b hab]
  · rw [gp_ws_ge hb, List.getElem?_set]
    by_cases hab : a = b
    · omega
    · rw [if_neg hab, gp_ws_ge hb]
theorem gp_ws_D {G : gp_G} {σ : gp_S} {A : Nat → Prop} (hi : gp_inj G) (hA : ∀ a, a < 50 → A (G.2.2.2 a)) : va_D A (gp_ws G σ) := by
  refine ⟨fun i j x y hi' hj' hxy => ?_, fun k q hk => ?_⟩
  · have h1 : i < 50 := by have := (List.getElem?_eq_some_iff.mp hi').1; rwa [gp_ws_len] at this
    have h2 : j < 50 := by have := (List.getElem?_eq_some_iff.mp hj').1; rwa [gp_ws_len] at this
    rw [gp_ws_at h1] at hi'
    rw [gp_ws_at h2] at hj'
    cases hi'
    cases hj'
    exact hi i j h1 h2 hxy
  · have h1 : k < 50 := by have := (List.getElem?_eq_some_iff.mp hk).1; rwa [gp_ws_len] at this
    rw [gp_ws_at h1] at hk
    cases hk
    exact hA k h1
/-- what a frame stands in: program, env, room, state, method, arguments, frames below, method, code, cells, slots, the end, what may be written -/
abbrev gp_E : Type := Program × Env × Room × State × MethodId × Array Value × List Frame × Method × Code × Nat × Nat × (State → Prop) × (Nat → Prop)
abbrev eP (E : gp_E) : Program := E.1
abbrev eE (E : gp_E) : Env := E.2.1
abbrev eR (E : gp_E) : Room := E.2.2.1
abbrev eS (E : gp_E) : State := E.2.2.2.1
abbrev eM (E : gp_E) : MethodId := E.2.2.2.2.1
abbrev eA (E : gp_E) : Array Value := E.2.2.2.2.2.1
abbrev eB (E : gp_E) : List Frame := E.2.2.2.2.2.2.1
abbrev eMe (E : gp_E) : Method := E.2.2.2.2.2.2.2.1
abbrev eC (E : gp_E) : Code := E.2.2.2.2.2.2.2.2.1
abbrev eK (E : gp_E) : Nat := E.2.2.2.2.2.2.2.2.2.1
abbrev eL (E : gp_E) : Nat := E.2.2.2.2.2.2.2.2.2.2.1
abbrev eQ (E : gp_E) : State → Prop := E.2.2.2.2.2.2.2.2.2.2.2.1
abbrev eF (E : gp_E) : Nat → Prop := E.2.2.2.2.2.2.2.2.2.2.2.2
def gp_trL (ad : Nat → Nat) (L : List (Nat × Value)) : List (Nat × Value) := L.map (fun q => (q.1, gp_tr ad q.2))
def gp_W (G : gp_G) (E : gp_E) (pc : Nat) (L : List (Nat × Value)) (st : List Value) (σ : gp_S) : Prop :=
  ∀ (H : Heap) (locs : List Loc) (ls : Array Slot), va_P G.2.1 vwCl (gp_ws G σ) H → va_S (eF E) (eS E).heap H locs → lv_has ls (eC E).maxLocals (gp_trL G.2.2.2 L) →
    W (eP E) G.1 (eE E) (eR E) (eS E) (eM E) (eA E) (eB E) (eMe E) (eC E) H locs (eK E) (eL E) (eQ E) (F0 (eM E) pc ls (st.map (gp_tr G.2.2.2)))
def gp_nest : List Cond := [.methodLinkNest "GuidedProbes$Stimulus" 27 yX9_figure "GuidedProbes", .methodLinkNest "GuidedProbes$Board" 65 yX9_figure "GuidedProbes"]
def gp_ok (G : gp_G) (N : Nat) (M : gp_M) (E : gp_E) : Prop :=
  ((eP E).tables.exec = Jvm.exec ∧ (eC E).code = M.2.1 ∧ (eC E).maxLocals = M.2.2.1 ∧ (eS E).vm.findClass M.1.cls = some (eM E).cls ∧ (∀ w ∈ gp_tbl, w.before (eA E) (eS E) = true)) ∧
  (∀ w ∈ gp_nest, va_Nw w (eS E)) ∧ va_K G.2.1 vwCl (gp_tys G) (eS E) ∧ (∀ a, a < 50 → eF E (G.2.2.2 a)) ∧ gp_inj G ∧ N ≤ (eR E).frames ∧ 60 * N ≤ (eR E).locals ∧ eK E ≤ (eR E).cells ∧ eL E ≤ (eR E).slots
section R0
variable {G : gp_G} {N : Nat} {M : gp_M} {E : gp_E} {pc : Nat} {L : List (Nat × Value)} {st : List Value} {σ : gp_S}
theorem gp_ok.hx (C : gp_ok G N M E) : (eP E).tables.exec = Jvm.exec := C.1.1
theorem gp_ok.hb (C : gp_ok G N M E) : (eC E).code = M.2.1 := C.1.2.1
theorem gp_ok.hml (C : gp_ok G N M E) : (eC E).maxLocals = M.2.2.1 := C.1.2.2.1
theorem gp_ok.hown (C : gp_ok G N M E) : (eS E).vm.findClass M.1.cls = some (eM E).cls := C.1.2.2.2.1
theorem gp_ok.hts (C : gp_ok G N M E) : ∀ w ∈ gp_tbl, w.before (eA E) (eS E) = true := C.1.2.2.2.2
theorem gp_ok.hnest (C : gp_ok G N M E) : ∀ w ∈ gp_nest, va_Nw w (eS E) := C.2.1
theorem gp_ok.hK (C : gp_ok G N M E) : va_K G.2.1 vwCl (gp_tys G) (eS E) := C.2.2.1
theorem gp_ok.hF (C : gp_ok G N M E) : ∀ a, a < 50 → eF E (G.2.2.2 a) := C.2.2.2.1
theorem gp_ok.hinj (C : gp_ok G N M E) : gp_inj G := C.2.2.2.2.1
theorem gp_ok.hfr (C : gp_ok G N M E) : N ≤ (eR E).frames := C.2.2.2.2.2.1
theorem gp_ok.hlo (C : gp_ok G N M E) : 60 * N ≤ (eR E).locals := C.2.2.2.2.2.2.1
theorem gp_ok.hce (C : gp_ok G N M E) : eK E ≤ (eR E).cells := C.2.2.2.2.2.2.2.1
theorem gp_ok.hsl (C : gp_ok G N M E) : eL E ≤ (eR E).slots := C.2.2.2.2.2.2.2.2
theorem gp_ok.hD (C : gp_ok G N M E) : va_D (eF E) (gp_ws G σ) := gp_ws_D C.hinj C.hF
theorem gp_loc {ad : Nat → Nat} {ls : Array Slot} {n : Nat} (hl : lv_has ls n (gp_trL ad L)) (k : Nat) {i : Nat} {v : Value} (hk : L[k]? = some (i, v)) : ls[i]? = some (.val (gp_tr ad v)) := by
  refine lv_at hl k (i := i) (v := gp_tr ad v) ?_
  unfold gp_trL
  rw [List.getElem?_map, hk]
  rfl
/-- locals -/
theorem r_iload_n (C : gp_ok G N M E) {n : Fin 4} {i : Nat} {x : Int32} (d : decode M.2.1 pc = .ok (.iload_n n, 1)) (k : Nat) (hi : (n : Nat) = i) (hk : L[k]? = some (i, .int x)) (h : gp_W G E (pc + 1) L (.int x :: st) σ) : gp_W G E pc L st σ :=
  fun H locs ls hP hS hl => lv_iload_n C.hx C.hb d hi (gp_loc hl k hk) (h H locs ls hP hS hl)
theorem r_iload (C : gp_ok G N M E) {i : Nat} {x : Int32} (d : decode M.2.1 pc = .ok (.iload i, 2)) (k : Nat) (hk : L[k]? = some (i, .int x)) (h : gp_W G E (pc + 2) L (.int x :: st) σ) : gp_W G E pc L st σ :=
  fun H locs ls hP hS hl => lv_iload C.hx C.hb d (gp_loc hl k hk) (h H locs ls hP hS hl)
theorem r_lload_n (C : gp_ok G N M E) {n : Fin 4} {i : Nat} {x : Int64} (d : decode M.2.1 pc = .ok (.lload_n n, 1)) (k : Nat) (hi : (n : Nat) = i) (hk : L[k]? = some (i, .long x)) (h : gp_W G E (pc + 1) L (.long x :: st) σ) : gp_W G E pc L st σ :=
  fun H locs ls hP hS hl => lv_lload_n C.hx C.hb d hi (gp_loc hl k hk) (h H locs ls hP hS hl)
theorem r_aload_n (C : gp_ok G N M E) {n : Fin 4} {i : Nat} {x : Nat} (d : decode M.2.1 pc = .ok (.aload_n n, 1)) (k : Nat) (hi : (n : Nat) = i) (hk : L[k]? = some (i, .ref x)) (h : gp_W G E (pc + 1) L (.ref x :: st) σ) : gp_W G E pc L st σ :=
  fun H locs ls hP hS hl => lv_aload_n C.hx C.hb d hi (gp_loc hl k hk) (h H locs ls hP hS hl)
def gp_put1 (L : List (Nat × Value)) (i : Nat) (v : Value) : List (Nat × Value) := (i, v) :: L.filter (fun q => !(q.1 == i) && !(q.1 + 1 == i && q.2.category == 2))
def gp_put2 (L : List (Nat × Value)) (i : Nat) (v : Value) : List (Nat × Value) := (i, v) :: L.filter (fun q => !(q.1 == i) && (!(q.1 == i + 1) && !(q.1 + 1 == i && q.2.category == 2)))
theorem gp_tr_put1 (ad : Nat → Nat) (i : Nat) (v : Value) : gp_put1 (gp_trL ad L) i (gp_tr ad v) = gp_trL ad (gp_put1 L i v) := by
  unfold gp_put1 gp_trL
  rw [List.map_cons, List.filter_map]
  congr 1
  congr 1
  apply List.filter_congr
  intro q _
  simp [Function.comp, gp_tr_cat]
theorem gp_tr_put2 (ad : Nat → Nat) (i : Nat) (v : Value) : gp_put2 (gp_trL ad L) i (gp_tr ad v) = gp_trL ad (gp_put2 L i v) := by
  unfold gp_put2 gp_trL
  rw [List.map_cons, List.filter_map]
  congr 1
  congr 1
  apply List.filter_congr
  intro q _
  simp [Function.comp, gp_tr_cat]
theorem r_istore_n (C : gp_ok G N M E) {n : Fin 4} {i : Nat} {x : Int32} {L' : List (Nat × Value)} (d : decode M.2.1 pc = .ok (.istore_n n, 1)) (hi : (n : Nat) = i) (hn : i < M.2.2.1) (hL : gp_put1 L i (.int x) = L') (h : gp_W G E (pc + 1) L' st σ) : gp_W G E pc L (.int x :: st) σ := by
  subst hL
  intro H locs ls hP hS hl
  exact lv_istore_n C.hx C.hb d hi hl (by rw [C.hml]; exact hn) (gp_tr_put1 _ i (.int x)) (fun ls' hl' => h H locs ls' hP hS hl')
theorem r_istore (C : gp_ok G N M E) {i : Nat} {x : Int32} {L' : List (Nat × Value)} (d : decode M.2.1 pc = .ok (.istore i, 2)) (hn : i < M.2.2.1) (hL : gp_put1 L i (.int x) = L') (h : gp_W G E (pc + 2) L' st σ) : gp_W G E pc L (.int x :: st) σ := by
  subst hL
  intro H locs ls hP hS hl
  exact lv_istore C.hx C.hb d hl (by rw [C.hml]; exact hn) (gp_tr_put1 _ i (.int x)) (fun ls' hl' => h H locs ls' hP hS hl')
theorem r_lstore_n (C : gp_ok G N M E) {n : Fin 4} {i : Nat} {x : Int64} {L' : List (Nat × Value)} (d : decode M.2.1 pc = .ok (.lstore_n n, 1)) (hi : (n : Nat) = i) (hn : i + 1 < M.2.2.1) (hL : gp_put2 L i (.long x) = L') (h : gp_W G E (pc + 1) L' st σ) : gp_W G E pc L (.long x :: st) σ := by
  subst hL
  intro H locs ls hP hS hl
  exact lv_lstore_n C.hx C.hb d hi hl (by rw [C.hml]; exact hn) (gp_tr_put2 _ i (.long x)) (fun ls' hl' => h H locs ls' hP hS hl')
theorem r_iinc (C : gp_ok G N M E) {i : Nat} {n : Int} {x v : Int32} {L' : List (Nat × Value)} (d : decode M.2.1 pc = .ok (.iinc i n, 3)) (k : Nat) (hk : L[k]? = some (i, .int x)) (hv : x + Int32.ofInt n = v) (hn : i < M.2.2.1) (hL : gp_put1 L i (.int v) = L') (h : gp_W G E (pc + 3) L' st σ) : gp_W G E pc L st σ := by
  subst hL
  intro H locs ls hP hS hl
  refine lv_iinc C.hx C.hb d hl (k := k) (x := x) ?_ hv (by rw [C.hml]; exact hn) (gp_tr_put1 _ i (.int v)) (fun ls' hl' => h H locs ls' hP hS hl')
  unfold gp_trL
  rw [List.getElem?_map, hk]
  rfl
/-- fewer locals are known -/
theorem r_pick (ks : List Nat) {L' : List (Nat × Value)} (hL : lv_pick L ks = L') (h : gp_W G E pc L' st σ) : gp_W G E pc L st σ := by
  subst hL
  intro H locs ls hP hS hl
  refine h H locs ls hP hS (lv_sub hl ks ?_)
  unfold lv_pick gp_trL
  rw [List.map_filterMap]
  congr 1
  funext k
  rw [List.getElem?_map]
/-- constants, stack, arithmetic -/
theorem r_iconst (C : gp_ok G N M E) {n : Int} {v : Int32} (d : decode M.2.1 pc = .ok (.iconst n, 1)) (hv : Int32.ofInt n = v) (h : gp_W G E (pc + 1) L (.int v :: st) σ) : gp_W G E pc L st σ :=
  fun H locs ls hP hS hl => lv_iconst C.hx C.hb d hv (h H locs ls hP hS hl)
theorem r_bipush (C : gp_ok G N M E) {n : Int} {v : Int32} (d : decode M.2.1 pc = .ok (.bipush n, 2)) (hv : (Int8.ofInt n).toInt32 = v) (h : gp_W G E (pc + 2) L (.int v :: st) σ) : gp_W G E pc L st σ :=
  fun H locs ls hP hS hl => lv_bipush C.hx C.hb d hv (h H locs ls hP hS hl)
theorem r_sipush (C : gp_ok G N M E) {n : Int} {v : Int32} (d : decode M.2.1 pc = .ok (.sipush n, 3)) (hv : (Int16.ofInt n).toInt32 = v) (h : gp_W G E (pc + 3) L (.int v :: st) σ) : gp_W G E pc L st σ :=
  fun H locs ls hP hS hl => lv_sipush C.hx C.hb d hv (h H locs ls hP hS hl)
theorem r_lconst (C : gp_ok G N M E) {n : Fin 2} {v : Int64} (d : decode M.2.1 pc = .ok (.lconst n, 1)) (hv : Int64.ofNat (n : Nat) = v) (h : gp_W G E (pc + 1) L (.long v :: st) σ) : gp_W G E pc L st σ :=
  fun H locs ls hP hS hl => lv_lconst C.hx C.hb d hv (h H locs ls hP hS hl)
theorem r_ldc2 (C : gp_ok G N M E) {i : Nat} {v : Int64} (d : decode M.2.1 pc = .ok (.ldc2_w i, 3)) (hw : Cond.constantLong M.1.cls i v ∈ gp_tbl) (h : gp_W G E (pc + 3) L (.long v :: st) σ) : gp_W G E pc L st σ :=
  fun H locs ls hP hS hl => lv_ldc2 C.hx C.hb C.hown (C.hts _ hw) d (h H locs ls hP hS hl)
theorem r_dup (C : gp_ok G N M E) {v : Value} (d : decode M.2.1 pc = .ok (.dup, 1)) (hc : v.category = 1) (h : gp_W G E (pc + 1) L (v :: v :: st) σ) : gp_W G E pc L (v :: st) σ :=
  fun H locs ls hP hS hl => lv_dup C.hx C.hb d (by rw [gp_tr_cat]; exact hc) (h H locs ls hP hS hl)
theorem r_dup2 (C : gp_ok G N M E) {v w : Value} (d : decode M.2.1 pc = .ok (.dup2, 1)) (hc : v.category = 1) (hc2 : w.category = 1) (h : gp_W G E (pc + 1) L (v :: w :: v :: w :: st) σ) : gp_W G E pc L (v :: w :: st) σ :=
  fun H locs ls hP hS hl => lv_dup2_11 C.hx C.hb d (by rw [gp_tr_cat]; exact hc) (by rw [gp_tr_cat]; exact hc2) (h H locs ls hP hS hl)
theorem r_iadd (C : gp_ok G N M E) {x y : Int32} (d : decode M.2.1 pc = .ok (.iadd, 1)) (h : gp_W G E (pc + 1) L (.int (x + y) :: st) σ) : gp_W G E pc L (.int y :: .int x :: st) σ :=
  fun H locs ls hP hS hl => lv_iadd C.hx C.hb d (h H locs ls hP hS hl)
theorem r_isub (C : gp_ok G N M E) {x y : Int32} (d : decode M.2.1 pc = .ok (.isub, 1)) (h : gp_W G E (pc + 1) L (.int (x - y) :: st) σ) : gp_W G E pc L (.int y :: .int x :: st) σ :=
  fun H locs ls hP hS hl => lv_isub C.hx C.hb d (h H locs ls hP hS hl)
theorem r_imul (C : gp_ok G N M E) {x y : Int32} (d : decode M.2.1 pc = .ok (.imul, 1)) (h : gp_W G E (pc + 1) L (.int (x * y) :: st) σ) : gp_W G E pc L (.int y :: .int x :: st) σ :=
  fun H locs ls hP hS hl => lv_imul C.hx C.hb d (h H locs ls hP hS hl)
theorem r_ior (C : gp_ok G N M E) {x y : Int32} (d : decode M.2.1 pc = .ok (.ior, 1)) (h : gp_W G E (pc + 1) L (.int (x ||| y) :: st) σ) : gp_W G E pc L (.int y :: .int x :: st) σ :=
  fun H locs ls hP hS hl => lv_ior C.hx C.hb d (h H locs ls hP hS hl)
theorem r_iand (C : gp_ok G N M E) {x y : Int32} (d : decode M.2.1 pc = .ok (.iand, 1)) (h : gp_W G E (pc + 1) L (.int (x &&& y) :: st) σ) : gp_W G E pc L (.int y :: .int x :: st) σ :=
  fun H locs ls hP hS hl => lv_iand C.hx C.hb d (h H locs ls hP hS hl)
theorem r_ixor (C : gp_ok G N M E) {x y : Int32} (d : decode M.2.1 pc = .ok (.ixor, 1)) (h : gp_W G E (pc + 1) L (.int (x ^^^ y) :: st) σ) : gp_W G E pc L (.int y :: .int x :: st) σ :=
  fun H locs ls hP hS hl => lv_ixor C.hx C.hb d (h H locs ls hP hS hl)
theorem r_ishl (C : gp_ok G N M E) {x y : Int32} (d : decode M.2.1 pc = .ok (.ishl, 1)) (h : gp_W G E (pc + 1) L (.int (x <<< (y &&& 31)) :: st) σ) : gp_W G E pc L (.int y :: .int x :: st) σ :=
  fun H locs ls hP hS hl => lv_ishl C.hx C.hb d (h H locs ls hP hS hl)
theorem r_ishr (C : gp_ok G N M E) {x y : Int32} (d : decode M.2.1 pc = .ok (.ishr, 1)) (h : gp_W G E (pc + 1) L (.int (x >>> (y &&& 31)) :: st) σ) : gp_W G E pc L (.int y :: .int x :: st) σ :=
  fun H locs ls hP hS hl => lv_ishr C.hx C.hb d (h H locs ls hP hS hl)
theorem r_idiv (C : gp_ok G N M E) {x y : Int32} (d : decode M.2.1 pc = .ok (.idiv, 1)) (hn : ¬ y = 0) (h : gp_W G E (pc + 1) L (.int (x / y) :: st) σ) : gp_W G E pc L (.int y :: .int x :: st) σ :=
  fun H locs ls hP hS hl => lv_idiv C.hx C.hb d hn (h H locs ls hP hS hl)
theorem r_irem (C : gp_ok G N M E) {x y : Int32} (d : decode M.2.1 pc = .ok (.irem, 1)) (hn : ¬ y = 0) (h : gp_W G E (pc + 1) L (.int (x - x / y * y) :: st) σ) : gp_W G E pc L (.int y :: .int x :: st) σ :=
  fun H locs ls hP hS hl => lv_irem C.hx C.hb d hn (h H locs ls hP hS hl)
theorem r_i2l (C : gp_ok G N M E) {x : Int32} (d : decode M.2.1 pc = .ok (.i2l, 1)) (h : gp_W G E (pc + 1) L (.long x.toInt64 :: st) σ) : gp_W G E pc L (.int x :: st) σ :=
  fun H locs ls hP hS hl => lv_i2l C.hx C.hb d rfl (h H locs ls hP hS hl)
theorem r_l2i (C : gp_ok G N M E) {x : Int64} (d : decode M.2.1 pc = .ok (.l2i, 1)) (h : gp_W G E (pc + 1) L (.int x.toInt32 :: st) σ) : gp_W G E pc L (.long x :: st) σ :=
  fun H locs ls hP hS hl => lv_l2i C.hx C.hb d rfl (h H locs ls hP hS hl)
theorem r_ladd (C : gp_ok G N M E) {x y : Int64} (d : decode M.2.1 pc = .ok (.ladd, 1)) (h : gp_W G E (pc + 1) L (.long (x + y) :: st) σ) : gp_W G E pc L (.long y :: .long x :: st) σ :=
  fun H locs ls hP hS hl => lv_ladd C.hx C.hb d (h H locs ls hP hS hl)
theorem r_lsub (C : gp_ok G N M E) {x y : Int64} (d : decode M.2.1 pc = .ok (.lsub, 1)) (h : gp_W G E (pc + 1) L (.long (x - y) :: st) σ) : gp_W G E pc L (.long y :: .long x :: st) σ :=
  fun H locs ls hP hS hl => lv_lsub C.hx C.hb d (h H locs ls hP hS hl)
theorem r_lmul (C : gp_ok G N M E) {x y : Int64} (d : decode M.2.1 pc = .ok (.lmul, 1)) (h : gp_W G E (pc + 1) L (.long (x * y) :: st) σ) : gp_W G E pc L (.long y :: .long x :: st) σ :=
  fun H locs ls hP hS hl => lv_lmul C.hx C.hb d (h H locs ls hP hS hl)
theorem r_land (C : gp_ok G N M E) {x y : Int64} (d : decode M.2.1 pc = .ok (.land, 1)) (h : gp_W G E (pc + 1) L (.long (x &&& y) :: st) σ) : gp_W G E pc L (.long y :: .long x :: st) σ :=
  fun H locs ls hP hS hl => lv_land C.hx C.hb d (h H locs ls hP hS hl)
theorem r_lor (C : gp_ok G N M E) {x y : Int64} (d : decode M.2.1 pc = .ok (.lor, 1)) (h : gp_W G E (pc + 1) L (.long (x ||| y) :: st) σ) : gp_W G E pc L (.long y :: .long x :: st) σ :=
  fun H locs ls hP hS hl => lv_lor C.hx C.hb d (h H locs ls hP hS hl)
theorem r_lxor (C : gp_ok G N M E) {x y : Int64} (d : decode M.2.1 pc = .ok (.lxor, 1)) (h : gp_W G E (pc + 1) L (.long (x ^^^ y) :: st) σ) : gp_W G E pc L (.long y :: .long x :: st) σ :=
  fun H locs ls hP hS hl => lv_lxor C.hx C.hb d (h H locs ls hP hS hl)
theorem r_lshl (C : gp_ok G N M E) {x : Int64} {y : Int32} (d : decode M.2.1 pc = .ok (.lshl, 1)) (h : gp_W G E (pc + 1) L (.long (x <<< (y.toInt64 &&& 63)) :: st) σ) : gp_W G E pc L (.int y :: .long x :: st) σ :=
  fun H locs ls hP hS hl => lv_lshl C.hx C.hb d rfl (h H locs ls hP hS hl)
theorem r_lshr (C : gp_ok G N M E) {x : Int64} {y : Int32} (d : decode M.2.1 pc = .ok (.lshr, 1)) (h : gp_W G E (pc + 1) L (.long (x >>> (y.toInt64 &&& 63)) :: st) σ) : gp_W G E pc L (.int y :: .long x :: st) σ :=
  fun H locs ls hP hS hl => lv_lshr C.hx C.hb d rfl (h H locs ls hP hS hl)
theorem r_lushr (C : gp_ok G N M E) {x : Int64} {y : Int32} (d : decode M.2.1 pc = .ok (.lushr, 1)) (h : gp_W G E (pc + 1) L (.long (x.toUInt64 >>> (y.toInt64.toUInt64 &&& Int64.toUInt64 63)).toInt64 :: st) σ) : gp_W G E pc L (.int y :: .long x :: st) σ :=
  fun H locs ls hP hS hl => lv_lushr C.hx C.hb d rfl (h H locs ls hP hS hl)
theorem r_lcmp (C : gp_ok G N M E) {x y : Int64} (d : decode M.2.1 pc = .ok (.lcmp, 1)) (h : gp_W G E (pc + 1) L (.int (lg_cmp x y) :: st) σ) : gp_W G E pc L (.long y :: .long x :: st) σ :=
  fun H locs ls hP hS hl => W.lcmp C.hx C.hb d (h H locs ls hP hS hl)
/-- branches -/
theorem r_goto (C : gp_ok G N M E) {off : Int} (t : Nat) (d : decode M.2.1 pc = .ok (.goto off, 3)) (ht : (pc : Int) + off = (t : Int)) (h : gp_W G E t L st σ) : gp_W G E pc L st σ :=
  fun H locs ls hP hS hl => lv_goto C.hx C.hb d ht (h H locs ls hP hS hl)
theorem r_icmp_eq (C : gp_ok G N M E) {x y : Int32} {off : Int} (t : Nat) (d : decode M.2.1 pc = .ok (.if_icmp .eq off, 3)) (ht : (pc : Int) + off = (t : Int)) (h1 : x = y → gp_W G E t L st σ) (h2 : ¬ x = y → gp_W G E (pc + 3) L st σ) : gp_W G E pc L (.int y :: .int x :: st) σ :=
  fun H locs ls hP hS hl => lv_icmp_eq C.hx C.hb d ht (fun q => h1 q H locs ls hP hS hl) (fun q => h2 q H locs ls hP hS hl)
theorem r_icmp_ne (C : gp_ok G N M E) {x y : Int32} {off : Int} (t : Nat) (d : decode M.2.1 pc = .ok (.if_icmp .ne off, 3)) (ht : (pc : Int) + off = (t : Int)) (h1 : ¬ x = y → gp_W G E t L st σ) (h2 : x = y → gp_W G E (pc + 3) L st σ) : gp_W G E pc L (.int y :: .int x :: st) σ :=
  fun H locs ls hP hS hl => lv_icmp_ne C.hx C.hb d ht (fun q => h1 q H locs ls hP hS hl) (fun q => h2 q H locs ls hP hS hl)
theorem r_icmp_lt (C : gp_ok G N M E) {x y : Int32} {off : Int} (t : Nat) (d : decode M.2.1 pc = .ok (.if_icmp .lt off, 3)) (ht : (pc : Int) + off = (t : Int)) (h1 : x < y → gp_W G E t L st σ) (h2 : ¬ x < y → gp_W G E (pc + 3) L st σ) : gp_W G E pc L (.int y :: .int x :: st) σ :=
  fun H locs ls hP hS hl => lv_icmp_lt C.hx C.hb d ht (fun q => h1 q H locs ls hP hS hl) (fun q => h2 q H locs ls hP hS hl)
theorem r_icmp_ge (C : gp_ok G N M E) {x y : Int32} {off : Int} (t : Nat) (d : decode M.2.1 pc = .ok (.if_icmp .ge off, 3)) (ht : (pc : Int) + off = (t : Int)) (h1 : y ≤ x → gp_W G E t L st σ) (h2 : ¬ y ≤ x → gp_W G E (pc + 3) L st σ) : gp_W G E pc L (.int y :: .int x :: st) σ :=
  fun H locs ls hP hS hl => lv_icmp_ge C.hx C.hb d ht (fun q => h1 q H locs ls hP hS hl) (fun q => h2 q H locs ls hP hS hl)
theorem r_icmp_gt (C : gp_ok G N M E) {x y : Int32} {off : Int} (t : Nat) (d : decode M.2.1 pc = .ok (.if_icmp .gt off, 3)) (ht : (pc : Int) + off = (t : Int)) (h1 : y < x → gp_W G E t L st σ) (h2 : ¬ y < x → gp_W G E (pc + 3) L st σ) : gp_W G E pc L (.int y :: .int x :: st) σ :=
  fun H locs ls hP hS hl => lv_icmp_gt C.hx C.hb d ht (fun q => h1 q H locs ls hP hS hl) (fun q => h2 q H locs ls hP hS hl)
theorem r_icmp_le (C : gp_ok G N M E) {x y : Int32} {off : Int} (t : Nat) (d : decode M.2.1 pc = .ok (.if_icmp .le off, 3)) (ht : (pc : Int) + off = (t : Int)) (h1 : x ≤ y → gp_W G E t L st σ) (h2 : ¬ x ≤ y → gp_W G E (pc + 3) L st σ) : gp_W G E pc L (.int y :: .int x :: st) σ :=
  fun H locs ls hP hS hl => lv_icmp_le C.hx C.hb d ht (fun q => h1 q H locs ls hP hS hl) (fun q => h2 q H locs ls hP hS hl)
theorem r_if_eq (C : gp_ok G N M E) {x : Int32} {off : Int} (t : Nat) (d : decode M.2.1 pc = .ok (.ifCond .eq off, 3)) (ht : (pc : Int) + off = (t : Int)) (h1 : x = 0 → gp_W G E t L st σ) (h2 : ¬ x = 0 → gp_W G E (pc + 3) L st σ) : gp_W G E pc L (.int x :: st) σ :=
  fun H locs ls hP hS hl => lv_if_eq C.hx C.hb d ht (fun q => h1 q H locs ls hP hS hl) (fun q => h2 q H locs ls hP hS hl)
theorem r_if_ne (C : gp_ok G N M E) {x : Int32} {off : Int} (t : Nat) (d : decode M.2.1 pc = .ok (.ifCond .ne off, 3)) (ht : (pc : Int) + off = (t : Int)) (h1 : ¬ x = 0 → gp_W G E t L st σ) (h2 : x = 0 → gp_W G E (pc + 3) L st σ) : gp_W G E pc L (.int x :: st) σ :=
  fun H locs ls hP hS hl => lv_if_ne C.hx C.hb d ht (fun q => h1 q H locs ls hP hS hl) (fun q => h2 q H locs ls hP hS hl)
theorem r_if_lt (C : gp_ok G N M E) {x : Int32} {off : Int} (t : Nat) (d : decode M.2.1 pc = .ok (.ifCond .lt off, 3)) (ht : (pc : Int) + off = (t : Int)) (h1 : x < 0 → gp_W G E t L st σ) (h2 : ¬ x < 0 → gp_W G E (pc + 3) L st σ) : gp_W G E pc L (.int x :: st) σ :=
  fun H locs ls hP hS hl => lv_if_lt C.hx C.hb d ht (fun q => h1 q H locs ls hP hS hl) (fun q => h2 q H locs ls hP hS hl)
theorem r_if_ge (C : gp_ok G N M E) {x : Int32} {off : Int} (t : Nat) (d : decode M.2.1 pc = .ok (.ifCond .ge off, 3)) (ht : (pc : Int) + off = (t : Int)) (h1 : 0 ≤ x → gp_W G E t L st σ) (h2 : ¬ 0 ≤ x → gp_W G E (pc + 3) L st σ) : gp_W G E pc L (.int x :: st) σ :=
  fun H locs ls hP hS hl => lv_if_ge C.hx C.hb d ht (fun q => h1 q H locs ls hP hS hl) (fun q => h2 q H locs ls hP hS hl)
theorem r_if_le (C : gp_ok G N M E) {x : Int32} {off : Int} (t : Nat) (d : decode M.2.1 pc = .ok (.ifCond .le off, 3)) (ht : (pc : Int) + off = (t : Int)) (h1 : x ≤ 0 → gp_W G E t L st σ) (h2 : ¬ x ≤ 0 → gp_W G E (pc + 3) L st σ) : gp_W G E pc L (.int x :: st) σ :=
  fun H locs ls hP hS hl => lv_if_le C.hx C.hb d ht (fun q => h1 q H locs ls hP hS hl) (fun q => h2 q H locs ls hP hS hl)
theorem r_look (C : gp_ok G N M E) {dflt : Int} {ps : Array (Int × Int)} {len : Nat} {x : Int32} {off : Int} (t : Nat) (d : decode M.2.1 pc = .ok (.lookupswitch dflt ps, len)) (hp : (ps.toList.zip (ps.toList.drop 1)).all (fun (a, next) => a.1 < next.1) = true) (ho : Op.lookupswitch.offset ps.toList dflt x.toInt = off) (ht : (pc : Int) + off = (t : Int)) (h : gp_W G E t L st σ) : gp_W G E pc L (.int x :: st) σ :=
  fun H locs ls hP hS hl => lv_lookup C.hx C.hb d hp ho ht (h H locs ls hP hS hl)
theorem r_tabO (C : gp_ok G N M E) {dflt lo hi : Int} {offs : Array Int} {len : Nat} {x : Int32} (t : Nat) (d : decode M.2.1 pc = .ok (.tableswitch dflt lo hi offs, len)) (ho : x.toInt < lo ∨ hi < x.toInt) (ht : (pc : Int) + dflt = (t : Int)) (h : gp_W G E t L st σ) : gp_W G E pc L (.int x :: st) σ :=
  fun H locs ls hP hS hl => lv_tableOut C.hx C.hb d ho ht (h H locs ls hP hS hl)
theorem r_tabI (C : gp_ok G N M E) {dflt lo hi : Int} {offs : Array Int} {len : Nat} {x : Int32} {off : Int} (t : Nat) (d : decode M.2.1 pc = .ok (.tableswitch dflt lo hi offs, len)) (h1 : ¬ x.toInt < lo) (h2 : ¬ hi < x.toInt) (ho : offs[(x.toInt - lo).toNat]? = some off) (ht : (pc : Int) + off = (t : Int)) (h : gp_W G E t L st σ) : gp_W G E pc L (.int x :: st) σ :=
  fun H locs ls hP hS hl => lv_tableIn C.hx C.hb d h1 h2 ho ht (h H locs ls hP hS hl)
end R0
end
section
/-! fields, arrays, calls, ends -/
/-- a field link: the class's number and the slot -/
def gp_Fl (own : String) (idx ci k : Nat) : Prop := ∃ (C : String) (T : u_T) (n : Nat) (ty : Nat → FieldType), vwCl[ci]? = some (C, T, n) ∧ k < n ∧ (∀ w ∈ u_ws C T n, w ∈ gp_tbl) ∧ (∀ k, k < n → parseFieldDescriptor (T k).2.2.1 = some (ty k)) ∧ (∀ a, a < n → ∀ b, b < n → a ≠ b → (T a).2.1 ≠ (T b).2.1) ∧ Cond.fieldLink own idx (T k).1 (T k).2.1 (T k).2.2.1 ∈ gp_tbl
/-- of a field that may be put, with its type -/
def gp_Fp (own : String) (idx ci k : Nat) (t : FieldType) : Prop := ∃ (C : String) (T : u_T) (n : Nat) (ty : Nat → FieldType), (vwCl[ci]? = some (C, T, n) ∧ k < n ∧ (∀ w ∈ u_ws C T n, w ∈ gp_tbl) ∧ (∀ k, k < n → parseFieldDescriptor (T k).2.2.1 = some (ty k)) ∧ (∀ a, a < n → ∀ b, b < n → a ≠ b → (T a).2.1 ≠ (T b).2.1) ∧ Cond.fieldLink own idx (T k).1 (T k).2.1 (T k).2.2.1 ∈ gp_tbl) ∧ (T k).2.2.2 = false ∧ ty k = t
section R1
variable {G : gp_G} {N : Nat} {M : gp_M} {E : gp_E} {pc : Nat} {L : List (Nat × Value)} {st : List Value} {σ : gp_S}
theorem gp_ob {a ci : Nat} {fs : List gp_K1} (ha : a < 50) (hs : gp_sh a = .inr (ci, fs)) : (gp_ws G σ)[a]? = some (G.2.2.2 a, .inr (ci, fs.mapIdx (gp_val G.2.2.2 (σ.1 a) (σ.2 a)))) := by
  rw [gp_ws_at ha, hs]
  rfl
theorem gp_ai {a n : Nat} (ha : a < 50) (hs : gp_sh a = .inl (false, n)) : (gp_ws G σ)[a]? = some (G.2.2.2 a, .inl (G.2.2.1 a, n, .inl (σ.1 a))) := by
  rw [gp_ws_at ha, hs]
  rfl
theorem gp_aj {a n : Nat} (ha : a < 50) (hs : gp_sh a = .inl (true, n)) : (gp_ws G σ)[a]? = some (G.2.2.2 a, .inl (G.2.2.1 a, n, .inr (.inl (σ.2 a)))) := by
  rw [gp_ws_at ha, hs]
  rfl
theorem gp_ti {a n : Nat} (ha : a < 50) (hs : gp_sh a = .inl (false, n)) : (gp_tys G)[a]? = some (G.2.2.1 a, .int) := by
  rw [gp_tys_at ha, hs]
  rfl
theorem gp_tj {a n : Nat} (ha : a < 50) (hs : gp_sh a = .inl (true, n)) : (gp_tys G)[a]? = some (G.2.2.1 a, .long) := by
  rw [gp_tys_at ha, hs]
  rfl
theorem gp_mi {ad : Nat → Nat} {i : Nat → Int32} {j : Nat → Int64} {fs : List gp_K1} {k : Nat} {f : gp_K1} (hf : fs[k]? = some f) : (fs.mapIdx (gp_val ad i j))[k]? = some (gp_val ad i j k f) := by
  rw [List.getElem?_mapIdx, hf]
  rfl
theorem r_get (C : gp_ok G N M E) {idx ci k a : Nat} {fs : List gp_K1} {f : gp_K1} (fl : gp_Fl M.1.cls idx ci k) (ha : a < 50) (hs : gp_sh a = .inr (ci, fs)) (hf : fs[k]? = some f) (d : decode M.2.1 pc = .ok (.getfield idx, 3)) {v : Value} (hv : ∀ ad : Nat → Nat, gp_tr ad v = gp_val ad (σ.1 a) (σ.2 a) k f) (h : gp_W G E (pc + 3) L (v :: st) σ) : gp_W G E pc L (.ref a :: st) σ := by
  obtain ⟨Cn, T, n, ty, h1, h2, h3, h4, h5, h6⟩ := fl
  intro H locs ls hP hS hl
  refine va_get (D := G.2.1) (v := gp_tr G.2.2.2 v) C.hx C.hb C.hts h3 C.hown C.hK hP a (gp_ob ha hs) h1 k h2 (C.hts _ h6) (fun _ q => q) ?_ d (h H locs ls hP hS hl)
  rw [gp_mi hf, hv]
theorem r_geti (C : gp_ok G N M E) {idx ci k a : Nat} {fs : List gp_K1} (fl : gp_Fl M.1.cls idx ci k) (ha : a < 50) (hs : gp_sh a = .inr (ci, fs)) (hf : fs[k]? = some (.inr false)) (d : decode M.2.1 pc = .ok (.getfield idx, 3)) (h : gp_W G E (pc + 3) L (.int (σ.1 a k) :: st) σ) : gp_W G E pc L (.ref a :: st) σ := r_get C fl ha hs hf d (fun _ => rfl) h
theorem r_getj (C : gp_ok G N M E) {idx ci k a : Nat} {fs : List gp_K1} (fl : gp_Fl M.1.cls idx ci k) (ha : a < 50) (hs : gp_sh a = .inr (ci, fs)) (hf : fs[k]? = some (.inr true)) (d : decode M.2.1 pc = .ok (.getfield idx, 3)) (h : gp_W G E (pc + 3) L (.long (σ.2 a k) :: st) σ) : gp_W G E pc L (.ref a :: st) σ := r_get C fl ha hs hf d (fun _ => rfl) h
theorem r_getr (C : gp_ok G N M E) {idx ci k a b : Nat} {fs : List gp_K1} (fl : gp_Fl M.1.cls idx ci k) (ha : a < 50) (hs : gp_sh a = .inr (ci, fs)) (hf : fs[k]? = some (.inl b)) (d : decode M.2.1 pc = .ok (.getfield idx, 3)) (h : gp_W G E (pc + 3) L (.ref b :: st) σ) : gp_W G E pc L (.ref a :: st) σ := r_get C fl ha hs hf d (fun _ => rfl) h
theorem gp_seti {ad : Nat → Nat} {i : Nat → Int32} {j : Nat → Int64} {fs : List gp_K1} {k : Nat} {v : Int32} (hf : fs[k]? = some (.inr false)) : (fs.mapIdx (gp_val ad i j)).set k (.int v) = fs.mapIdx (gp_val ad (upd i k v) j) := by
  apply List.ext_getElem?
  intro b
  by_cases hb : b = k
  · subst hb
    rw [List.getElem?_set_self (by rw [List.length_mapIdx]; exact (List.getElem?_eq_some_iff.mp hf).1), gp_mi hf]
    simp [gp_val, upd]
  · rw [List.getElem?_set_ne (Ne.symm hb), List.getElem?_mapIdx, List.getElem?_mapIdx]
    cases fs[b]? with
    | none => rfl
    | some f =>
      rcases f with a | c
      · rfl
      · cases c
        · simp [gp_val, upd, hb]
        · rfl
theorem gp_setj {ad : Nat → Nat} {i : Nat → Int32} {j : Nat → Int64} {fs : List gp_K1} {k : Nat} {v : Int64} (hf : fs[k]? = some (.inr true)) : (fs.mapIdx (gp_val ad i j)).set k (.long v) = fs.mapIdx (gp_val ad i (vp_updL j k v)) := by
  apply List.ext_getElem?
  intro b
  by_cases hb : b = k
  · subst hb
    rw [List.getElem?_set_self (by rw [List.length_mapIdx]; exact (List.getElem?_eq_some_iff.mp hf).1), gp_mi hf]
    simp [gp_val, vp_updL]
  · rw [List.getElem?_set_ne (Ne.symm hb), List.getElem?_mapIdx, List.getElem?_mapIdx]
    cases fs[b]? with
    | none => rfl
    | some f =>
      rcases f with a | c
      · rfl
      · cases c
        · rfl
        · simp [gp_val, vp_updL, hb]
theorem gp_ui_eq (σ : gp_S) (a k : Nat) (v : Int32) : (gp_ui σ a k v).1 a = upd (σ.1 a) k v := by simp [gp_ui]
theorem gp_ui_ne (σ : gp_S) {a b : Nat} (k : Nat) (v : Int32) (h : b ≠ a) : (gp_ui σ a k v).1 b = σ.1 b := by simp [gp_ui, h]
theorem gp_uj_eq (σ : gp_S) (a k : Nat) (v : Int64) : (gp_uj σ a k v).2 a = vp_updL (σ.2 a) k v := by simp [gp_uj]
theorem gp_uj_ne (σ : gp_S) {a b : Nat} (k : Nat) (v : Int64) (h : b ≠ a) : (gp_uj σ a k v).2 b = σ.2 b := by simp [gp_uj, h]
theorem r_putT (C : gp_ok G N M E) {idx ci k a : Nat} {fs : List gp_K1} {t : FieldType} (fl : gp_Fp M.1.cls idx ci k t) (ha : a < 50) (hs : gp_sh a = .inr (ci, fs)) (hf : fs[k]? = some (.inr false)) {v : Int32} (hn : narrow t (.int v) = .int v) (hfit : fits t (.int v) = true) (d : decode M.2.1 pc = .ok (.putfield idx, 3)) (h : gp_W G E (pc + 3) L st (gp_ui σ a k v)) : gp_W G E pc L (.int v :: .ref a :: st) σ := by
  obtain ⟨Cn, T, n, ty, ⟨h1, h2, h3, h4, h5, h6⟩, h7, h8⟩ := fl
  intro H locs ls hP hS hl
  refine va_put (D := G.2.1) (v := .int v) (ty := t) C.hx C.hb C.hts h3 ty h4 h5 C.hown C.hK hP C.hD hS a (gp_ob ha hs) h1 k h2 (C.hts _ h6) (fun _ q => q) h7 (by rw [h4 k h2, h8]) hn hfit (by rw [List.length_mapIdx]; exact (List.getElem?_eq_some_iff.mp hf).1) d (fun H1 locs1 hP1 _ hS1 => h H1 locs1 ls ?_ hS1 hl)
  rwa [gp_ws_set (G := G) (σ := σ) (σ' := gp_ui σ a k v) ha (by rw [hs, gp_ui_eq, gp_seti hf]; rfl) (fun b hb => gp_ui_ne σ k v hb) (fun _ _ => rfl)] at hP1
theorem r_puti (C : gp_ok G N M E) {idx ci k a : Nat} {fs : List gp_K1} (fl : gp_Fp M.1.cls idx ci k .int) (ha : a < 50) (hs : gp_sh a = .inr (ci, fs)) (hf : fs[k]? = some (.inr false)) {v : Int32} (d : decode M.2.1 pc = .ok (.putfield idx, 3)) (h : gp_W G E (pc + 3) L st (gp_ui σ a k v)) : gp_W G E pc L (.int v :: .ref a :: st) σ := r_putT C fl ha hs hf rfl rfl d h
theorem gp_bool {v : Int32} (h : v = 0 ∨ v = 1) : narrow .boolean (.int v) = .int v ∧ fits .boolean (.int v) = true := by
  rcases h with rfl | rfl <;> exact ⟨by decide +kernel, by decide +kernel⟩
theorem r_putz (C : gp_ok G N M E) {idx ci k a : Nat} {fs : List gp_K1} (fl : gp_Fp M.1.cls idx ci k .boolean) (ha : a < 50) (hs : gp_sh a = .inr (ci, fs)) (hf : fs[k]? = some (.inr false)) {v : Int32} (hv : v = 0 ∨ v = 1) (d : decode M.2.1 pc = .ok (.putfield idx, 3)) (h : gp_W G E (pc + 3) L st (gp_ui σ a k v)) : gp_W G E pc L (.int v :: .ref a :: st) σ := r_putT C fl ha hs hf (gp_bool hv).1 (gp_bool hv).2 d h
theorem r_putj (C : gp_ok G N M E) {idx ci k a : Nat} {fs : List gp_K1} (fl : gp_Fp M.1.cls idx ci k .long) (ha : a < 50) (hs : gp_sh a = .inr (ci, fs)) (hf : fs[k]? = some (.inr true)) {v : Int64} (d : decode M.2.1 pc = .ok (.putfield idx, 3)) (h : gp_W G E (pc + 3) L st (gp_uj σ a k v)) : gp_W G E pc L (.long v :: .ref a :: st) σ := by
  obtain ⟨Cn, T, n, ty, ⟨h1, h2, h3, h4, h5, h6⟩, h7, h8⟩ := fl
  intro H locs ls hP hS hl
  refine va_put (D := G.2.1) (v := .long v) (ty := .long) C.hx C.hb C.hts h3 ty h4 h5 C.hown C.hK hP C.hD hS a (gp_ob ha hs) h1 k h2 (C.hts _ h6) (fun _ q => q) h7 (by rw [h4 k h2, h8]) rfl rfl (by rw [List.length_mapIdx]; exact (List.getElem?_eq_some_iff.mp hf).1) d (fun H1 locs1 hP1 _ hS1 => h H1 locs1 ls ?_ hS1 hl)
  rwa [gp_ws_set (G := G) (σ := σ) (σ' := gp_uj σ a k v) ha (by rw [hs, gp_uj_eq, gp_setj hf]; rfl) (fun _ _ => rfl) (fun b hb => gp_uj_ne σ k v hb)] at hP1
/-- arrays -/
theorem r_iald (C : gp_ok G N M E) {a n : Nat} {i : Int32} (ha : a < 50) (hs : gp_sh a = .inl (false, n)) (hin : vp_in i n) (d : decode M.2.1 pc = .ok (.iaload, 1)) (h : gp_W G E (pc + 1) L (.int (σ.1 a i.toNatClampNeg) :: st) σ) : gp_W G E pc L (.int i :: .ref a :: st) σ :=
  fun H locs ls hP hS hl => va_iald C.hx C.hb C.hK hP a a (gp_ai ha hs) (gp_ti ha hs) hin d (h H locs ls hP hS hl)
theorem r_lald (C : gp_ok G N M E) {a n : Nat} {i : Int32} (ha : a < 50) (hs : gp_sh a = .inl (true, n)) (hin : vp_in i n) (d : decode M.2.1 pc = .ok (.laload, 1)) (h : gp_W G E (pc + 1) L (.long (σ.2 a i.toNatClampNeg) :: st) σ) : gp_W G E pc L (.int i :: .ref a :: st) σ :=
  fun H locs ls hP hS hl => va_lald C.hx C.hb C.hK hP a a (gp_aj ha hs) (gp_tj ha hs) hin d (h H locs ls hP hS hl)
theorem r_iast (C : gp_ok G N M E) {a n : Nat} {i x : Int32} (ha : a < 50) (hs : gp_sh a = .inl (false, n)) (hin : vp_in i n) (d : decode M.2.1 pc = .ok (.iastore, 1)) (h : gp_W G E (pc + 1) L st (gp_ui σ a i.toNatClampNeg x)) : gp_W G E pc L (.int x :: .int i :: .ref a :: st) σ := by
  intro H locs ls hP hS hl
  refine va_iast C.hx C.hb C.hK hP C.hD hS a a (gp_ai ha hs) (gp_ti ha hs) hin d (fun H1 locs1 hP1 _ hS1 => h H1 locs1 ls ?_ hS1 hl)
  rwa [gp_ws_set (G := G) (σ := σ) (σ' := gp_ui σ a i.toNatClampNeg x) ha (by rw [hs, gp_ui_eq]; rfl) (fun b hb => gp_ui_ne σ _ x hb) (fun _ _ => rfl)] at hP1
theorem r_last (C : gp_ok G N M E) {a n : Nat} {i : Int32} {x : Int64} (ha : a < 50) (hs : gp_sh a = .inl (true, n)) (hin : vp_in i n) (d : decode M.2.1 pc = .ok (.lastore, 1)) (h : gp_W G E (pc + 1) L st (gp_uj σ a i.toNatClampNeg x)) : gp_W G E pc L (.long x :: .int i :: .ref a :: st) σ := by
  intro H locs ls hP hS hl
  refine va_last C.hx C.hb C.hK hP C.hD hS a a (gp_aj ha hs) (gp_tj ha hs) hin d (fun H1 locs1 hP1 _ hS1 => h H1 locs1 ls ?_ hS1 hl)
  rwa [gp_ws_set (G := G) (σ := σ) (σ' := gp_uj σ a i.toNatClampNeg x) ha (by rw [hs, gp_uj_eq]; rfl) (fun _ _ => rfl) (fun b hb => gp_uj_ne σ _ x hb)] at hP1
theorem r_alen (C : gp_ok G N M E) {a n : Nat} (ha : a < 50) (hs : gp_sh a = .inl (false, n)) (d : decode M.2.1 pc = .ok (.arraylength, 1)) (h : gp_W G E (pc + 1) L (.int (nI n) :: st) σ) : gp_W G E pc L (.ref a :: st) σ :=
  fun H locs ls hP hS hl => va_alen C.hx C.hb C.hK hP a a (gp_ai ha hs) (gp_ti ha hs) rfl d (h H locs ls hP hS hl)
/-- System.arraycopy of the first n ints of one array to another -/
theorem r_copy (C : gp_ok G N M E) {idx a b na nb : Nat} {n : Int32} {k : Nat} (hlink : Cond.methodLink M.1.cls idx arraycopyName ∈ gp_tbl) (hnat : Cond.native arraycopyName ∈ gp_tbl) (hstat : Cond.static arraycopyName ∈ gp_tbl) (hini : Cond.initialized "java/lang/System" ∈ gp_tbl) (hN : 1 ≤ N)
    (ha : a < 50) (hs : gp_sh a = .inl (false, na)) (hb : b < 50) (hsb : gp_sh b = .inl (false, nb)) (hn : n = nI k) (hk : k < 2 ^ 31) (h4 : k ≤ na) (h5 : k ≤ nb) (d : decode M.2.1 pc = .ok (.invokestatic idx, 3))
    (h : gp_W G E (pc + 3) L [] (gp_ua σ b (va_cpy (σ.1 a) (σ.1 b) 0 0 k))) : gp_W G E pc L [.int n, .int 0, .ref b, .int 0, .ref a] σ := by
  intro H locs ls hP hS hl
  subst hn
  have hz : (0 : Int32).toNatClampNeg = 0 := rfl
  have hc := nI_clamp hk
  have hlo := C.hlo
  have hfr := C.hfr
  refine va_copyi C.hx C.hb hl.1.symm C.hown (C.hts _ hlink) (C.hts _ hnat) (C.hts _ hstat) (C.hts _ hini) C.hK hP C.hD hS a b a b (gp_ai ha hs) (gp_ai hb hsb) (gp_ti ha hs) (gp_ti hb hsb) rfl (by decide) (by decide) (nI_pos hk) (by rw [hz, hc]; omega) (by rw [hz, hc]; omega) (fun _ _ => rfl) (by omega) ?_ d (fun H1 locs1 hP1 _ hS1 => h H1 locs1 ls ?_ hS1 hl)
  · have : (List.map (fun v => v.category) ([] : List Value)).sum + (nativeFrameWords "java/lang/System" "arraycopy" 5 + 11) ≤ 60 := by decide +kernel
    exact Nat.le_trans this (by omega)
  · rw [hz, hc] at hP1
    rwa [gp_ws_set (G := G) (σ := σ) (σ' := gp_ua σ b (va_cpy (σ.1 a) (σ.1 b) 0 0 k)) hb (by rw [hsb]; simp [gp_ua, gp_cell]) (fun c hc => by simp [gp_ua, hc]) (fun _ _ => rfl)] at hP1
end R1
end
section
def gp_wds (M : gp_M) : List Cond := Cond.code M.1 M.2.1 M.2.2.1 M.2.2.2 :: gp_tbl
def gp_rm (n : Nat) : Room := { frames := n, cells := 0, slots := 0, locals := 60 * n }
def gp_pre (G : gp_G) (σ : gp_S) (U : State) : Prop := va_P G.2.1 vwCl (gp_ws G σ) U.heap ∧ va_K G.2.1 vwCl (gp_tys G) U ∧ (∀ w ∈ gp_nest, va_Nw w U) ∧ gp_inj G
def gp_Q (G : gp_G) (K : Option Value → gp_S → Prop) : Array Value → State → Outcome → State → Prop := fun _ st oc t => (∃ (r : Option Value) (σ' : gp_S), oc = .returned (r.map (gp_tr G.2.2.2)) ∧ K r σ' ∧ va_P G.2.1 vwCl (gp_ws G σ') t.heap) ∧ va_F (gp_A G) st t
/-- a CALL: method M with the arguments av, from σ, comes back with K of its answer and the state then; n frames deep at most -/
def gp_C (G : gp_G) (n : Nat) (M : gp_M) (av : List Value) (K : Option Value → gp_S → Prop) (σ : gp_S) : Prop :=
  Met G.1 M.1 (gp_wds M) (gp_rm n) (va_Pc (av.map (gp_tr G.2.2.2)) (gp_pre G σ)) (gp_Q G K) 0 0 (gp_A G)
def gp_okM (G : gp_G) (N : Nat) (M : gp_M) (K : Option Value → gp_S → Prop) (E : gp_E) : Prop :=
  gp_ok G N M E ∧ (eMe E).sig.returnType = M.2.2.2 ∧ (eMe E).locks = false ∧ eK E = 0 ∧ eL E = 0 ∧ eF E = gp_A G ∧ eQ E = MQ (eB E) (gp_Q G K) (eA E) (eS E) 0 0 (gp_A G)
/-- from this place of method M on: it comes back with K -/
def gp_P (G : gp_G) (N : Nat) (M : gp_M) (K : Option Value → gp_S → Prop) (pc : Nat) (L : List (Nat × Value)) (st : List Value) (σ : gp_S) : Prop := ∀ E : gp_E, gp_okM G N M K E → gp_W G E pc L st σ
theorem gp_args_tr (ad : Nat → Nat) : ∀ (av : List Value) (i : Nat), lv_args i (av.map (gp_tr ad)) = gp_trL ad (lv_args i av)
  | [], _ => rfl
  | v :: r, i => by
    show (i, gp_tr ad v) :: lv_args (if (gp_tr ad v).category = 2 then i + 2 else i + 1) (r.map (gp_tr ad)) = (i, gp_tr ad v) :: gp_trL ad (lv_args (if v.category = 2 then i + 2 else i + 1) r)
    rw [gp_tr_cat, gp_args_tr ad r]
theorem gp_sl_len (ad : Nat → Nat) : ∀ (av : List Value), (lg_sl (av.map (gp_tr ad))).length = (lg_sl av).length
  | [] => rfl
  | v :: r => by
    have ih := gp_sl_len ad r
    simp only [lg_sl, List.map_cons, List.flatMap_cons, List.length_append, gp_tr_cat] at ih ⊢
    rw [ih]
    split <;> rfl
theorem gp_C_of {G : gp_G} {N : Nat} {M : gp_M} {K : Option Value → gp_S → Prop} {av : List Value} {σ : gp_S} (hp : plainName M.1.cls = true) (hlen : (lg_sl av).length ≤ M.2.2.1) (h : gp_P G N M K 0 (lv_args 0 av) [] σ) : gp_C G N M av K σ := by
  refine Met.ofW (cc := M.2.1) (maxL := M.2.2.1) (ret := M.2.2.2) hp rfl ?_
  intro p e s m args below meth c s₁ B hml hv
  obtain ⟨rfl, hP, hK, hn, hi⟩ := hv
  have hts := atoms_spec (ws := gp_wds M) B.pre
  have hl := lv_entry (av.map (gp_tr G.2.2.2)) (n := M.2.2.1) (by rw [gp_sl_len]; exact hlen)
  rw [lg_entry_eq]
  generalize (lg_sl (av.map (gp_tr G.2.2.2)) ++ List.replicate (M.2.2.1 - (lg_sl (av.map (gp_tr G.2.2.2))).length) Slot.unset).toArray = ls at hl ⊢
  refine h (p, e, gp_rm N, s, m, (av.map (gp_tr G.2.2.2)).toArray, below, meth, c, 0, 0, MQ below (gp_Q G K) (av.map (gp_tr G.2.2.2)).toArray s 0 0 (gp_A G), gp_A G) ?_ s.heap [] ls hP va_S.rf ?_
  · exact ⟨⟨⟨B.exec, B.bytes, hml, findClass_of_methodNamed B.named, fun w hw => hts w (List.mem_cons_of_mem _ hw)⟩, hn, hK, fun a ha => ⟨a, ha, rfl⟩, hi, Nat.le_refl _, Nat.le_refl _, Nat.le_refl _, Nat.le_refl _⟩, B.returns, B.notSynchronized, rfl, rfl, rfl, rfl⟩
  · rw [gp_args_tr] at hl
    show lv_has ls c.maxLocals _
    rw [hml]
    exact hl
section R2
variable {G : gp_G} {N n : Nat} {M M2 : gp_M} {E : gp_E} {pc : Nat} {L : List (Nat × Value)} {st rest : List Value} {σ : gp_S} {K : Option Value → gp_S → Prop}
/-- ends -/
theorem gp_fin {r : Option Value} (C : gp_okM G N M K E) (hk : K r σ) {H : Heap} {locs : List Loc} (hP : va_P G.2.1 vwCl (gp_ws G σ) H) (hS : va_S (eF E) (eS E).heap H locs) : ∀ t : State, t.heap = H → (eS E).WarmedH t.vm → gp_Q G K (eA E) (eS E) (.returned (r.map (gp_tr G.2.2.2))) t := by
  intro t ht _
  rw [C.2.2.2.2.2.1] at hS
  exact ⟨⟨r, σ, rfl, hk, by rw [ht]; exact hP⟩, hS.F ht⟩
theorem r_vret (C : gp_okM G N M K E) (hr : M.2.2.2 = none) (d : decode M.2.1 pc = .ok (.return_, 1)) (h : K none σ) : gp_W G E pc L [] σ := by
  intro H locs ls hP hS hl
  obtain ⟨C1, c2, c3, c4, c5, c6, c7⟩ := id C
  rw [c7, c4, c5]
  exact W.vret C1.hx C1.hb (c2.trans hr) (gp_fin C h hP hS) (by rw [c6] at hS; exact hS.2.2) d c3
theorem r_iret (C : gp_okM G N M K E) (hr : M.2.2.2 = some .int) {v : Int32} (d : decode M.2.1 pc = .ok (.ireturn, 1)) (h : K (some (.int v)) σ) : gp_W G E pc L [.int v] σ := by
  intro H locs ls hP hS hl
  obtain ⟨C1, c2, c3, c4, c5, c6, c7⟩ := id C
  rw [c7, c4, c5]
  exact W.iret C1.hx C1.hb (c2.trans hr) (gp_fin C h hP hS) (by rw [c6] at hS; exact hS.2.2) d c3
theorem r_zret (C : gp_okM G N M K E) (hr : M.2.2.2 = some .boolean) {v : Int32} (hv : v = 0 ∨ v = 1) (d : decode M.2.1 pc = .ok (.ireturn, 1)) (h : K (some (.int v)) σ) : gp_W G E pc L [.int v] σ := by
  intro H locs ls hP hS hl
  obtain ⟨C1, c2, c3, c4, c5, c6, c7⟩ := id C
  rw [c7, c4, c5]
  exact W.zret C1.hx C1.hb (c2.trans hr) (gp_bool hv).1 (gp_fin C h hP hS) (by rw [c6] at hS; exact hS.2.2) d c3
theorem r_lret (C : gp_okM G N M K E) (hr : M.2.2.2 = some .long) {v : Int64} (d : decode M.2.1 pc = .ok (.lreturn, 1)) (h : K (some (.long v)) σ) : gp_W G E pc L [.long v] σ := by
  intro H locs ls hP hS hl
  obtain ⟨C1, c2, c3, c4, c5, c6, c7⟩ := id C
  rw [c7, c4, c5]
  exact W.lret C1.hx C1.hb (c2.trans hr) (gp_fin C h hP hS) (by rw [c6] at hS; exact hS.2.2) d c3
/-- calls -/
theorem gp_good (hc : Cond.code M2.1 M2.2.1 M2.2.2.1 M2.2.2.2 ∈ gp_tbl) : GoodIn gp_tbl (gp_wds M2) := by
  intro w hw
  have hm : w ∈ gp_tbl := by
    rcases List.mem_cons.mp hw with h | h
    · rw [h]; exact hc
    · exact h
  exact ⟨hm, good_of_word (gp_tbl_good w hm)⟩
def gp_Mb (y : gp_M) (n : Nat) : Prop := Cond.code y.1 y.2.1 y.2.2.1 y.2.2.2 ∈ gp_tbl ∧ Cond.initialized y.1.cls ∈ gp_tbl ∧ (y.1.cls ≠ "java/lang/invoke/MethodHandle" ∧ y.1.cls ≠ "java/lang/invoke/VarHandle" ∧ (parseMethodDescriptor y.1.desc).map (fun d => d.parameters.length) = some n) ∧ y.2.2.1 ≤ 41
def gp_Mv (own : String) (idx : Nat) (y : gp_M) (n : Nat) : Prop := gp_Mb y n ∧ Cond.methodLink own idx y.1 ∈ gp_tbl ∧ Cond.instanceMethod y.1 ∈ gp_tbl ∧ Cond.selects y.1.cls y.1 y.1 ∈ gp_tbl
def gp_Ms (own : String) (idx : Nat) (y : gp_M) (n : Nat) : Prop := gp_Mb y n ∧ Cond.methodLink own idx y.1 ∈ gp_tbl ∧ Cond.static y.1 ∈ gp_tbl
def gp_Mn (own : String) (idx : Nat) (y : gp_M) (n : Nat) : Prop := gp_Mb y n ∧ Cond.methodLinkNest own idx y.1 "GuidedProbes" ∈ gp_nest ∧ Cond.static y.1 ∈ gp_tbl
theorem gp_blind {av : List Value} : FrameBlind (va_Pc av (gp_pre G σ)) := by
  intro a U g mk q
  obtain ⟨q0, qP, qK, qn, qi⟩ := q
  exact ⟨q0, qP, va_K.moved (u := U) (U := U.calling g mk a) (Vm.Alike.refl U.vm) qK, fun w hw => va_Nw.same (by revert w; decide +kernel) (u := U) rfl (qn w hw), qi⟩
theorem gp_Nw_warm {s U : State} (hW : s.WarmedH U.vm) (h : ∀ w ∈ gp_nest, va_Nw w s) : ∀ w ∈ gp_nest, va_Nw w U := by
  intro w hw
  have h1 := h w hw
  simp only [gp_nest, List.mem_cons, List.not_mem_nil, or_false] at hw
  rcases hw with rfl | rfl
  · exact va_Nw.warmM hW h1
  · exact va_Nw.warmM hW h1
theorem gp_preU (C : gp_ok G N M E) {H : Heap} (hP : va_P G.2.1 vwCl (gp_ws G σ) H) {av : List Value} : ∀ U : State, U.heap = H → (eS E).WarmedH U.vm → va_Pc (av.map (gp_tr G.2.2.2)) (gp_pre G σ) (av.map (gp_tr G.2.2.2)).toArray U :=
  fun U hU hW => ⟨rfl, by rw [hU]; exact hP, va_K.moved hW.alike C.hK, gp_Nw_warm hW C.hnest, C.hinj⟩
/-- behind a call -/
theorem gp_back (C : gp_ok G N M E) {H : Heap} {locs : List Loc} {ls : Array Slot} {a : Array Value} (hS : va_S (eF E) (eS E).heap H locs) (hl : lv_has ls (eC E).maxLocals (gp_trL G.2.2.2 L)) {st0 : List Value}
    (hr : va_Run (eP E) G.1 (eE E) (eR E) (eS E) (eM E) (eA E) (eB E) (eMe E) (eC E) H locs (eK E) (eL E) 0 0 (F0 (eM E) pc ls st0) (rest.map (gp_tr G.2.2.2)) (gp_Q G (fun r σ' => gp_W G E (pc + 3) L (r.toList ++ rest) σ') a) (gp_A G)) :
    W (eP E) G.1 (eE E) (eR E) (eS E) (eM E) (eA E) (eB E) (eMe E) (eC E) H locs (eK E) (eL E) (eQ E) (F0 (eM E) pc ls st0) := by
  have hsub : ∀ q, gp_A G q → eF E q := fun q hq => by obtain ⟨b, hb, rfl⟩ := hq; exact C.hF b hb
  intro T hT X
  obtain ⟨v, st₀, t, T', L', h0, X', hL, e1, e2, ⟨⟨r, σ', hv, hk, hP'⟩, hz, hkeep⟩, go⟩ := hr T hT X
  cases hv
  rw [h0] at hz hkeep
  obtain ⟨t2, a1, b1⟩ := hk T'.heap (locs ++ L') ls (by rw [e1]; exact hP') ⟨Nat.le_trans hS.1 (by rw [e1]; exact hz), fun q h1 h2 => by rw [e1, hkeep q (Nat.lt_of_lt_of_le h1 hS.1) (fun z => h2 (hsub q z))]; exact hS.2.1 q h1 h2, fun q hq => by
      rcases List.mem_append.mp hq with h | h
      · exact hS.2.2 q h
      · exact hsub _ (hL q h)⟩ hl T' rfl X'
  refine ⟨t2, go t2 ?_, b1⟩
  have he : (r.toList ++ rest).map (gp_tr G.2.2.2) = (r.map (gp_tr G.2.2.2)).toList ++ rest.map (gp_tr G.2.2.2) := by cases r <;> simp
  rw [he] at a1
  exact a1
theorem gp_rest (rest : List Value) (ad : Nat → Nat) : ((rest.map (gp_tr ad)).map fun v => v.category) = rest.map fun v => v.category := by
  rw [List.map_map]
  congr 1
  funext v
  exact gp_tr_cat ad v
theorem r_callV (C : gp_ok G N M E) {idx b ci k : Nat} {fs : List gp_K1} {As : List Value} (mv : gp_Mv M.1.cls idx M2 k) (hb : b < 50) (hs : gp_sh b = .inr (ci, fs)) (hci : (vwCl[ci]?).map (fun q => q.1) = some M2.1.cls) (hN : n + 1 ≤ N) (hst : st = As.reverse ++ .ref b :: rest) (hk : As.length = k) (hcat : (rest.map fun v => v.category).sum ≤ 8) (d : decode M.2.1 pc = .ok (.invokevirtual idx, 3))
    (h : gp_C G n M2 (.ref b :: As) (fun r σ' => gp_W G E (pc + 3) L (r.toList ++ rest) σ') σ) : gp_W G E pc L st σ := by
  subst hst
  obtain ⟨⟨h1, h2, h3, h4⟩, h5, h6, h7⟩ := mv
  intro H locs ls hP hS hl
  obtain ⟨q, hq, hqc⟩ : ∃ q, vwCl[ci]? = some q ∧ q.1 = M2.1.cls := by
    cases hv : vwCl[ci]? with
    | none => rw [hv] at hci; cases hci
    | some q => rw [hv] at hci; exact ⟨q, rfl, Option.some.inj hci⟩
  have hlo := C.hlo
  have hfr := C.hfr
  refine gp_back (rest := rest) C hS hl (va_runV (Ts := gp_tbl) (C := M2.1.cls) (bytes := M2.2.1) (maxL := M2.2.2.1) (ret := M2.2.2.2) (n := k) (As := As.map (gp_tr G.2.2.2)) (nL := (eC E).maxLocals) ⟨C.hx, C.hb, rfl, C.hown, C.hts⟩ h ⟨callB_of k C.hts (gp_good h1) rfl rfl rfl (C.hts _ h2) (C.hts _ h5) h3 ⟨Nat.le_trans hN hfr, ?_⟩, C.hts _ h6, C.hts _ h7⟩ ⟨gp_blind, ?_, gp_preU (av := .ref b :: As) C hP⟩ rfl (by rw [List.length_map]; exact hk) hl.1 ?_ (lv_room (by rw [gp_rest]; exact hcat)) d ⟨C.hce, C.hsl⟩)
  · show 8 + (M2.2.2.1 + 11) + 60 * n ≤ (eR E).locals
    omega
  · have := va_recv C.hK hP hq (gp_ob hb hs)
    rwa [hqc] at this
  · show (As.reverse ++ Value.ref b :: rest).map (gp_tr G.2.2.2) = _
    rw [List.map_append, List.map_reverse]
    rfl
theorem r_callS (C : gp_ok G N M E) {idx k : Nat} {As : List Value} (mv : gp_Ms M.1.cls idx M2 k) (hN : n + 1 ≤ N) (hst : st = As.reverse ++ rest) (hk : As.length = k) (hcat : (rest.map fun v => v.category).sum ≤ 8) (d : decode M.2.1 pc = .ok (.invokestatic idx, 3))
    (h : gp_C G n M2 As (fun r σ' => gp_W G E (pc + 3) L (r.toList ++ rest) σ') σ) : gp_W G E pc L st σ := by
  subst hst
  obtain ⟨⟨h1, h2, h3, h4⟩, h5, h6⟩ := mv
  intro H locs ls hP hS hl
  have hlo := C.hlo
  have hfr := C.hfr
  refine gp_back (rest := rest) C hS hl (va_runS (Ts := gp_tbl) (bytes := M2.2.1) (maxL := M2.2.2.1) (ret := M2.2.2.2) (n := k) (As := As.map (gp_tr G.2.2.2)) (nL := (eC E).maxLocals) ⟨C.hx, C.hb, rfl, C.hown, C.hts⟩ h ⟨callB_of k C.hts (gp_good h1) rfl rfl rfl (C.hts _ h2) (C.hts _ h5) h3 ⟨Nat.le_trans hN hfr, ?_⟩, C.hts _ h6⟩ ⟨gp_blind, gp_preU (av := As) C hP⟩ rfl (by rw [List.length_map]; exact hk) hl.1 ?_ (lv_room (by rw [gp_rest]; exact hcat)) d ⟨C.hce, C.hsl⟩)
  · show 8 + (M2.2.2.1 + 11) + 60 * n ≤ (eR E).locals
    omega
  · show (As.reverse ++ rest).map (gp_tr G.2.2.2) = _
    rw [List.map_append, List.map_reverse]
theorem r_callN (C : gp_ok G N M E) {idx k : Nat} {As : List Value} (mv : gp_Mn M.1.cls idx M2 k) (hN : n + 1 ≤ N) (hst : st = As.reverse ++ rest) (hk : As.length = k) (hcat : (rest.map fun v => v.category).sum ≤ 8) (d : decode M.2.1 pc = .ok (.invokestatic idx, 3))
    (h : gp_C G n M2 As (fun r σ' => gp_W G E (pc + 3) L (r.toList ++ rest) σ') σ) : gp_W G E pc L st σ := by
  subst hst
  obtain ⟨⟨h1, h2, h3, h4⟩, h5, h6⟩ := mv
  intro H locs ls hP hS hl
  have hlo := C.hlo
  have hfr := C.hfr
  refine gp_back (rest := rest) C hS hl (va_runSN (Ts := gp_tbl) (bytes := M2.2.1) (maxL := M2.2.2.1) (ret := M2.2.2.2) (n := k) (As := As.map (gp_tr G.2.2.2)) (nL := (eC E).maxLocals) ⟨C.hx, C.hb, rfl, C.hown, C.hts⟩ h ⟨va_cnB k C.hts (gp_good h1) rfl rfl rfl (C.hnest _ h5) (C.hts _ h2) h3 ⟨Nat.le_trans hN hfr, ?_⟩, C.hts _ h6, trivial⟩ ⟨gp_blind, gp_preU (av := As) C hP⟩ rfl (by rw [List.length_map]; exact hk) hl.1 ?_ (lv_room (by rw [gp_rest]; exact hcat)) d ⟨C.hce, C.hsl⟩)
  · show 8 + (M2.2.2.1 + 11) + 60 * n ≤ (eR E).locals
    omega
  · show (As.reverse ++ rest).map (gp_tr G.2.2.2) = _
    rw [List.map_append, List.map_reverse]
end R2
end
section
theorem gp_ins {ws : List Cond} (ps : List Nat) (h : ws = ps.filterMap (fun i => lw_tbl[i]?)) (g : ws.all goodWord = true) : ∀ w ∈ ws, w ∈ gp_tbl := by
  intro w hw
  have h1 := List.all_eq_true.mp g w hw
  rw [h] at hw
  obtain ⟨i, -, hi⟩ := List.mem_filterMap.mp hw
  exact gp_in i hi h1
theorem iX0 : ∀ w ∈ u_ws RX0 TX0 6, w ∈ gp_tbl := gp_ins [124, 126, 128, 130, 132, 134] (by decide +kernel) (by decide +kernel)
theorem iX1 : ∀ w ∈ u_ws RX1 TX1 4, w ∈ gp_tbl := gp_ins [205, 207, 209, 211] (by decide +kernel) (by decide +kernel)
theorem iX2 : ∀ w ∈ u_ws RX2 TX2 2, w ∈ gp_tbl := gp_ins [184, 186] (by decide +kernel) (by decide +kernel)
theorem iX3 : ∀ w ∈ u_ws RX3 TX3 2, w ∈ gp_tbl := gp_ins [98, 100] (by decide +kernel) (by decide +kernel)
theorem iX4 : ∀ w ∈ u_ws RX4 TX4 3, w ∈ gp_tbl := gp_ins [230, 232, 234] (by decide +kernel) (by decide +kernel)
theorem iX5 : ∀ w ∈ u_ws RX5 TX5 5, w ∈ gp_tbl := gp_ins [163, 165, 167, 169, 171] (by decide +kernel) (by decide +kernel)
theorem iX6 : ∀ w ∈ u_ws RX6 TX6 2, w ∈ gp_tbl := gp_ins [147, 149] (by decide +kernel) (by decide +kernel)
theorem iX7 : ∀ w ∈ u_ws RX7 TX7 7, w ∈ gp_tbl := gp_ins [255, 257, 259, 261, 263, 265, 267] (by decide +kernel) (by decide +kernel)
theorem iX8 : ∀ w ∈ u_ws RX8 TX8 5, w ∈ gp_tbl := gp_ins [285, 287, 289, 291, 293] (by decide +kernel) (by decide +kernel)
theorem iX9 : ∀ w ∈ u_ws RX9 TX9 14, w ∈ gp_tbl := gp_ins [310, 312, 314, 316, 318, 320, 322, 324, 326, 328, 330, 332, 334, 336] (by decide +kernel) (by decide +kernel)
theorem iX10 : ∀ w ∈ u_ws RX10 TX10 38, w ∈ gp_tbl := gp_ins [706, 708, 710, 712, 714, 716, 718, 720, 722, 724, 726, 728, 730, 732, 734, 736, 738, 740, 742, 744, 746, 748, 750, 752, 754, 756, 758, 760, 762, 764, 766, 768, 770, 772, 774, 776, 778, 780] (by decide +kernel) (by decide +kernel)
theorem fl_X3_9 : gp_Fl RX3 9 3 0 := ⟨RX3, TX3, 2, tyX3, rfl, by decide, iX3, tyX3_ok, nmX3, gp_in 90 (by decide +kernel) (by decide +kernel)⟩
theorem fl_X6_24 : gp_Fl RX6 24 3 0 := ⟨RX3, TX3, 2, tyX3, rfl, by decide, iX3, tyX3_ok, nmX3, gp_in 91 (by decide +kernel) (by decide +kernel)⟩
theorem fl_X0_36 : gp_Fl RX0 36 3 0 := ⟨RX3, TX3, 2, tyX3, rfl, by decide, iX3, tyX3_ok, nmX3, gp_in 92 (by decide +kernel) (by decide +kernel)⟩
theorem fl_X9_243 : gp_Fl RX9 243 3 0 := ⟨RX3, TX3, 2, tyX3, rfl, by decide, iX3, tyX3_ok, nmX3, gp_in 93 (by decide +kernel) (by decide +kernel)⟩
theorem fl_X3_15 : gp_Fl RX3 15 3 1 := ⟨RX3, TX3, 2, tyX3, rfl, by decide, iX3, tyX3_ok, nmX3, gp_in 94 (by decide +kernel) (by decide +kernel)⟩
theorem fp_X3_15 : gp_Fp RX3 15 3 1 .int := ⟨RX3, TX3, 2, tyX3, ⟨rfl, by decide, iX3, tyX3_ok, nmX3, gp_in 94 (by decide +kernel) (by decide +kernel)⟩, rfl, rfl⟩
theorem fl_X6_19 : gp_Fl RX6 19 3 1 := ⟨RX3, TX3, 2, tyX3, rfl, by decide, iX3, tyX3_ok, nmX3, gp_in 95 (by decide +kernel) (by decide +kernel)⟩
theorem fp_X6_19 : gp_Fp RX6 19 3 1 .int := ⟨RX3, TX3, 2, tyX3, ⟨rfl, by decide, iX3, tyX3_ok, nmX3, gp_in 95 (by decide +kernel) (by decide +kernel)⟩, rfl, rfl⟩
theorem fl_X0_31 : gp_Fl RX0 31 3 1 := ⟨RX3, TX3, 2, tyX3, rfl, by decide, iX3, tyX3_ok, nmX3, gp_in 96 (by decide +kernel) (by decide +kernel)⟩
theorem fp_X0_31 : gp_Fp RX0 31 3 1 .int := ⟨RX3, TX3, 2, tyX3, ⟨rfl, by decide, iX3, tyX3_ok, nmX3, gp_in 96 (by decide +kernel) (by decide +kernel)⟩, rfl, rfl⟩
theorem fl_X9_92 : gp_Fl RX9 92 3 1 := ⟨RX3, TX3, 2, tyX3, rfl, by decide, iX3, tyX3_ok, nmX3, gp_in 97 (by decide +kernel) (by decide +kernel)⟩
theorem fp_X9_92 : gp_Fp RX9 92 3 1 .int := ⟨RX3, TX3, 2, tyX3, ⟨rfl, by decide, iX3, tyX3_ok, nmX3, gp_in 97 (by decide +kernel) (by decide +kernel)⟩, rfl, rfl⟩
theorem fl_X0_9 : gp_Fl RX0 9 0 0 := ⟨RX0, TX0, 6, tyX0, rfl, by decide, iX0, tyX0_ok, nmX0, gp_in 110 (by decide +kernel) (by decide +kernel)⟩
theorem fl_X5_59 : gp_Fl RX5 59 0 0 := ⟨RX0, TX0, 6, tyX0, rfl, by decide, iX0, tyX0_ok, nmX0, gp_in 111 (by decide +kernel) (by decide +kernel)⟩
theorem fl_X8_65 : gp_Fl RX8 65 0 0 := ⟨RX0, TX0, 6, tyX0, rfl, by decide, iX0, tyX0_ok, nmX0, gp_in 112 (by decide +kernel) (by decide +kernel)⟩
theorem fl_X9_142 : gp_Fl RX9 142 0 0 := ⟨RX0, TX0, 6, tyX0, rfl, by decide, iX0, tyX0_ok, nmX0, gp_in 113 (by decide +kernel) (by decide +kernel)⟩
theorem fl_X0_15 : gp_Fl RX0 15 0 1 := ⟨RX0, TX0, 6, tyX0, rfl, by decide, iX0, tyX0_ok, nmX0, gp_in 114 (by decide +kernel) (by decide +kernel)⟩
theorem fl_X5_73 : gp_Fl RX5 73 0 1 := ⟨RX0, TX0, 6, tyX0, rfl, by decide, iX0, tyX0_ok, nmX0, gp_in 115 (by decide +kernel) (by decide +kernel)⟩
theorem fl_X0_18 : gp_Fl RX0 18 0 2 := ⟨RX0, TX0, 6, tyX0, rfl, by decide, iX0, tyX0_ok, nmX0, gp_in 116 (by decide +kernel) (by decide +kernel)⟩
theorem fp_X0_18 : gp_Fp RX0 18 0 2 .int := ⟨RX0, TX0, 6, tyX0, ⟨rfl, by decide, iX0, tyX0_ok, nmX0, gp_in 116 (by decide +kernel) (by decide +kernel)⟩, rfl, rfl⟩
theorem fl_X9_219 : gp_Fl RX9 219 0 2 := ⟨RX0, TX0, 6, tyX0, rfl, by decide, iX0, tyX0_ok, nmX0, gp_in 117 (by decide +kernel) (by decide +kernel)⟩
theorem fp_X9_219 : gp_Fp RX9 219 0 2 .int := ⟨RX0, TX0, 6, tyX0, ⟨rfl, by decide, iX0, tyX0_ok, nmX0, gp_in 117 (by decide +kernel) (by decide +kernel)⟩, rfl, rfl⟩
theorem fl_X0_22 : gp_Fl RX0 22 0 3 := ⟨RX0, TX0, 6, tyX0, rfl, by decide, iX0, tyX0_ok, nmX0, gp_in 118 (by decide +kernel) (by decide +kernel)⟩
theorem fp_X0_22 : gp_Fp RX0 22 0 3 .int := ⟨RX0, TX0, 6, tyX0, ⟨rfl, by decide, iX0, tyX0_ok, nmX0, gp_in 118 (by decide +kernel) (by decide +kernel)⟩, rfl, rfl⟩
theorem fl_X1_25 : gp_Fl RX1 25 0 3 := ⟨RX0, TX0, 6, tyX0, rfl, by decide, iX0, tyX0_ok, nmX0, gp_in 119 (by decide +kernel) (by decide +kernel)⟩
theorem fp_X1_25 : gp_Fp RX1 25 0 3 .int := ⟨RX0, TX0, 6, tyX0, ⟨rfl, by decide, iX0, tyX0_ok, nmX0, gp_in 119 (by decide +kernel) (by decide +kernel)⟩, rfl, rfl⟩
theorem fl_X5_50 : gp_Fl RX5 50 0 3 := ⟨RX0, TX0, 6, tyX0, rfl, by decide, iX0, tyX0_ok, nmX0, gp_in 120 (by decide +kernel) (by decide +kernel)⟩
theorem fp_X5_50 : gp_Fp RX5 50 0 3 .int := ⟨RX0, TX0, 6, tyX0, ⟨rfl, by decide, iX0, tyX0_ok, nmX0, gp_in 120 (by decide +kernel) (by decide +kernel)⟩, rfl, rfl⟩
theorem fl_X9_125 : gp_Fl RX9 125 0 3 := ⟨RX0, TX0, 6, tyX0, rfl, by decide, iX0, tyX0_ok, nmX0, gp_in 121 (by decide +kernel) (by decide +kernel)⟩
theorem fp_X9_125 : gp_Fp RX9 125 0 3 .int := ⟨RX0, TX0, 6, tyX0, ⟨rfl, by decide, iX0, tyX0_ok, nmX0, gp_in 121 (by decide +kernel) (by decide +kernel)⟩, rfl, rfl⟩
theorem fl_X0_25 : gp_Fl RX0 25 0 4 := ⟨RX0, TX0, 6, tyX0, rfl, by decide, iX0, tyX0_ok, nmX0, gp_in 122 (by decide +kernel) (by decide +kernel)⟩
theorem fp_X0_25 : gp_Fp RX0 25 0 4 .int := ⟨RX0, TX0, 6, tyX0, ⟨rfl, by decide, iX0, tyX0_ok, nmX0, gp_in 122 (by decide +kernel) (by decide +kernel)⟩, rfl, rfl⟩
theorem fl_X0_28 : gp_Fl RX0 28 0 5 := ⟨RX0, TX0, 6, tyX0, rfl, by decide, iX0, tyX0_ok, nmX0, gp_in 123 (by decide +kernel) (by decide +kernel)⟩
theorem fp_X0_28 : gp_Fp RX0 28 0 5 .int := ⟨RX0, TX0, 6, tyX0, ⟨rfl, by decide, iX0, tyX0_ok, nmX0, gp_in 123 (by decide +kernel) (by decide +kernel)⟩, rfl, rfl⟩
theorem fl_X6_9 : gp_Fl RX6 9 6 0 := ⟨RX6, TX6, 2, tyX6, rfl, by decide, iX6, tyX6_ok, nmX6, gp_in 143 (by decide +kernel) (by decide +kernel)⟩
theorem fl_X6_15 : gp_Fl RX6 15 6 1 := ⟨RX6, TX6, 2, tyX6, rfl, by decide, iX6, tyX6_ok, nmX6, gp_in 144 (by decide +kernel) (by decide +kernel)⟩
theorem fp_X6_15 : gp_Fp RX6 15 6 1 .int := ⟨RX6, TX6, 2, tyX6, ⟨rfl, by decide, iX6, tyX6_ok, nmX6, gp_in 144 (by decide +kernel) (by decide +kernel)⟩, rfl, rfl⟩
theorem fl_X5_35 : gp_Fl RX5 35 6 1 := ⟨RX6, TX6, 2, tyX6, rfl, by decide, iX6, tyX6_ok, nmX6, gp_in 145 (by decide +kernel) (by decide +kernel)⟩
theorem fp_X5_35 : gp_Fp RX5 35 6 1 .int := ⟨RX6, TX6, 2, tyX6, ⟨rfl, by decide, iX6, tyX6_ok, nmX6, gp_in 145 (by decide +kernel) (by decide +kernel)⟩, rfl, rfl⟩
theorem fl_X9_131 : gp_Fl RX9 131 6 1 := ⟨RX6, TX6, 2, tyX6, rfl, by decide, iX6, tyX6_ok, nmX6, gp_in 146 (by decide +kernel) (by decide +kernel)⟩
theorem fp_X9_131 : gp_Fp RX9 131 6 1 .int := ⟨RX6, TX6, 2, tyX6, ⟨rfl, by decide, iX6, tyX6_ok, nmX6, gp_in 146 (by decide +kernel) (by decide +kernel)⟩, rfl, rfl⟩
theorem fl_X5_22 : gp_Fl RX5 22 5 0 := ⟨RX5, TX5, 5, tyX5, rfl, by decide, iX5, tyX5_ok, nmX5, gp_in 158 (by decide +kernel) (by decide +kernel)⟩
theorem fl_X5_26 : gp_Fl RX5 26 5 1 := ⟨RX5, TX5, 5, tyX5, rfl, by decide, iX5, tyX5_ok, nmX5, gp_in 159 (by decide +kernel) (by decide +kernel)⟩
theorem fl_X5_9 : gp_Fl RX5 9 5 2 := ⟨RX5, TX5, 5, tyX5, rfl, by decide, iX5, tyX5_ok, nmX5, gp_in 160 (by decide +kernel) (by decide +kernel)⟩
theorem fl_X5_15 : gp_Fl RX5 15 5 3 := ⟨RX5, TX5, 5, tyX5, rfl, by decide, iX5, tyX5_ok, nmX5, gp_in 161 (by decide +kernel) (by decide +kernel)⟩
theorem fl_X5_18 : gp_Fl RX5 18 5 4 := ⟨RX5, TX5, 5, tyX5, rfl, by decide, iX5, tyX5_ok, nmX5, gp_in 162 (by decide +kernel) (by decide +kernel)⟩
theorem fp_X5_18 : gp_Fp RX5 18 5 4 .int := ⟨RX5, TX5, 5, tyX5, ⟨rfl, by decide, iX5, tyX5_ok, nmX5, gp_in 162 (by decide +kernel) (by decide +kernel)⟩, rfl, rfl⟩
theorem fl_X2_9 : gp_Fl RX2 9 2 0 := ⟨RX2, TX2, 2, tyX2, rfl, by decide, iX2, tyX2_ok, nmX2, gp_in 180 (by decide +kernel) (by decide +kernel)⟩
theorem fl_X9_150 : gp_Fl RX9 150 2 0 := ⟨RX2, TX2, 2, tyX2, rfl, by decide, iX2, tyX2_ok, nmX2, gp_in 181 (by decide +kernel) (by decide +kernel)⟩
theorem fl_X2_15 : gp_Fl RX2 15 2 1 := ⟨RX2, TX2, 2, tyX2, rfl, by decide, iX2, tyX2_ok, nmX2, gp_in 182 (by decide +kernel) (by decide +kernel)⟩
theorem fl_X9_153 : gp_Fl RX9 153 2 1 := ⟨RX2, TX2, 2, tyX2, rfl, by decide, iX2, tyX2_ok, nmX2, gp_in 183 (by decide +kernel) (by decide +kernel)⟩
theorem fl_X1_9 : gp_Fl RX1 9 1 0 := ⟨RX1, TX1, 4, tyX1, rfl, by decide, iX1, tyX1_ok, nmX1, gp_in 195 (by decide +kernel) (by decide +kernel)⟩
theorem fl_X9_203 : gp_Fl RX9 203 1 0 := ⟨RX1, TX1, 4, tyX1, rfl, by decide, iX1, tyX1_ok, nmX1, gp_in 196 (by decide +kernel) (by decide +kernel)⟩
theorem fl_X1_15 : gp_Fl RX1 15 1 1 := ⟨RX1, TX1, 4, tyX1, rfl, by decide, iX1, tyX1_ok, nmX1, gp_in 197 (by decide +kernel) (by decide +kernel)⟩
theorem fl_X7_39 : gp_Fl RX7 39 1 1 := ⟨RX1, TX1, 4, tyX1, rfl, by decide, iX1, tyX1_ok, nmX1, gp_in 198 (by decide +kernel) (by decide +kernel)⟩
theorem fl_X9_166 : gp_Fl RX9 166 1 1 := ⟨RX1, TX1, 4, tyX1, rfl, by decide, iX1, tyX1_ok, nmX1, gp_in 199 (by decide +kernel) (by decide +kernel)⟩
theorem fl_X1_18 : gp_Fl RX1 18 1 2 := ⟨RX1, TX1, 4, tyX1, rfl, by decide, iX1, tyX1_ok, nmX1, gp_in 200 (by decide +kernel) (by decide +kernel)⟩
theorem fl_X9_169 : gp_Fl RX9 169 1 2 := ⟨RX1, TX1, 4, tyX1, rfl, by decide, iX1, tyX1_ok, nmX1, gp_in 201 (by decide +kernel) (by decide +kernel)⟩
theorem fl_X1_21 : gp_Fl RX1 21 1 3 := ⟨RX1, TX1, 4, tyX1, rfl, by decide, iX1, tyX1_ok, nmX1, gp_in 202 (by decide +kernel) (by decide +kernel)⟩
theorem fp_X1_21 : gp_Fp RX1 21 1 3 .int := ⟨RX1, TX1, 4, tyX1, ⟨rfl, by decide, iX1, tyX1_ok, nmX1, gp_in 202 (by decide +kernel) (by decide +kernel)⟩, rfl, rfl⟩
theorem fl_X7_36 : gp_Fl RX7 36 1 3 := ⟨RX1, TX1, 4, tyX1, rfl, by decide, iX1, tyX1_ok, nmX1, gp_in 203 (by decide +kernel) (by decide +kernel)⟩
theorem fp_X7_36 : gp_Fp RX7 36 1 3 .int := ⟨RX1, TX1, 4, tyX1, ⟨rfl, by decide, iX1, tyX1_ok, nmX1, gp_in 203 (by decide +kernel) (by decide +kernel)⟩, rfl, rfl⟩
theorem fl_X9_222 : gp_Fl RX9 222 1 3 := ⟨RX1, TX1, 4, tyX1, rfl, by decide, iX1, tyX1_ok, nmX1, gp_in 204 (by decide +kernel) (by decide +kernel)⟩
theorem fp_X9_222 : gp_Fp RX9 222 1 3 .int := ⟨RX1, TX1, 4, tyX1, ⟨rfl, by decide, iX1, tyX1_ok, nmX1, gp_in 204 (by decide +kernel) (by decide +kernel)⟩, rfl, rfl⟩
theorem fl_X4_9 : gp_Fl RX4 9 4 0 := ⟨RX4, TX4, 3, tyX4, rfl, by decide, iX4, tyX4_ok, nmX4, gp_in 223 (by decide +kernel) (by decide +kernel)⟩
theorem fl_X7_42 : gp_Fl RX7 42 4 0 := ⟨RX4, TX4, 3, tyX4, rfl, by decide, iX4, tyX4_ok, nmX4, gp_in 224 (by decide +kernel) (by decide +kernel)⟩
theorem fl_X9_163 : gp_Fl RX9 163 4 0 := ⟨RX4, TX4, 3, tyX4, rfl, by decide, iX4, tyX4_ok, nmX4, gp_in 225 (by decide +kernel) (by decide +kernel)⟩
theorem fl_X4_15 : gp_Fl RX4 15 4 1 := ⟨RX4, TX4, 3, tyX4, rfl, by decide, iX4, tyX4_ok, nmX4, gp_in 226 (by decide +kernel) (by decide +kernel)⟩
theorem fp_X4_15 : gp_Fp RX4 15 4 1 .int := ⟨RX4, TX4, 3, tyX4, ⟨rfl, by decide, iX4, tyX4_ok, nmX4, gp_in 226 (by decide +kernel) (by decide +kernel)⟩, rfl, rfl⟩
theorem fl_X9_180 : gp_Fl RX9 180 4 1 := ⟨RX4, TX4, 3, tyX4, rfl, by decide, iX4, tyX4_ok, nmX4, gp_in 227 (by decide +kernel) (by decide +kernel)⟩
theorem fp_X9_180 : gp_Fp RX9 180 4 1 .int := ⟨RX4, TX4, 3, tyX4, ⟨rfl, by decide, iX4, tyX4_ok, nmX4, gp_in 227 (by decide +kernel) (by decide +kernel)⟩, rfl, rfl⟩
theorem fl_X4_19 : gp_Fl RX4 19 4 2 := ⟨RX4, TX4, 3, tyX4, rfl, by decide, iX4, tyX4_ok, nmX4, gp_in 228 (by decide +kernel) (by decide +kernel)⟩
theorem fp_X4_19 : gp_Fp RX4 19 4 2 .int := ⟨RX4, TX4, 3, tyX4, ⟨rfl, by decide, iX4, tyX4_ok, nmX4, gp_in 228 (by decide +kernel) (by decide +kernel)⟩, rfl, rfl⟩
theorem fl_X9_223 : gp_Fl RX9 223 4 2 := ⟨RX4, TX4, 3, tyX4, rfl, by decide, iX4, tyX4_ok, nmX4, gp_in 229 (by decide +kernel) (by decide +kernel)⟩
theorem fp_X9_223 : gp_Fp RX9 223 4 2 .int := ⟨RX4, TX4, 3, tyX4, ⟨rfl, by decide, iX4, tyX4_ok, nmX4, gp_in 229 (by decide +kernel) (by decide +kernel)⟩, rfl, rfl⟩
theorem fl_X7_9 : gp_Fl RX7 9 7 0 := ⟨RX7, TX7, 7, tyX7, rfl, by decide, iX7, tyX7_ok, nmX7, gp_in 243 (by decide +kernel) (by decide +kernel)⟩
theorem fl_X7_15 : gp_Fl RX7 15 7 1 := ⟨RX7, TX7, 7, tyX7, rfl, by decide, iX7, tyX7_ok, nmX7, gp_in 244 (by decide +kernel) (by decide +kernel)⟩
theorem fp_X7_15 : gp_Fp RX7 15 7 1 .long := ⟨RX7, TX7, 7, tyX7, ⟨rfl, by decide, iX7, tyX7_ok, nmX7, gp_in 244 (by decide +kernel) (by decide +kernel)⟩, rfl, rfl⟩
theorem fl_X7_19 : gp_Fl RX7 19 7 2 := ⟨RX7, TX7, 7, tyX7, rfl, by decide, iX7, tyX7_ok, nmX7, gp_in 245 (by decide +kernel) (by decide +kernel)⟩
theorem fl_X9_200 : gp_Fl RX9 200 7 2 := ⟨RX7, TX7, 7, tyX7, rfl, by decide, iX7, tyX7_ok, nmX7, gp_in 246 (by decide +kernel) (by decide +kernel)⟩
theorem fl_X7_23 : gp_Fl RX7 23 7 3 := ⟨RX7, TX7, 7, tyX7, rfl, by decide, iX7, tyX7_ok, nmX7, gp_in 247 (by decide +kernel) (by decide +kernel)⟩
theorem fl_X9_206 : gp_Fl RX9 206 7 3 := ⟨RX7, TX7, 7, tyX7, rfl, by decide, iX7, tyX7_ok, nmX7, gp_in 248 (by decide +kernel) (by decide +kernel)⟩
theorem fl_X7_26 : gp_Fl RX7 26 7 4 := ⟨RX7, TX7, 7, tyX7, rfl, by decide, iX7, tyX7_ok, nmX7, gp_in 249 (by decide +kernel) (by decide +kernel)⟩
theorem fl_X9_209 : gp_Fl RX9 209 7 4 := ⟨RX7, TX7, 7, tyX7, rfl, by decide, iX7, tyX7_ok, nmX7, gp_in 250 (by decide +kernel) (by decide +kernel)⟩
theorem fl_X7_29 : gp_Fl RX7 29 7 5 := ⟨RX7, TX7, 7, tyX7, rfl, by decide, iX7, tyX7_ok, nmX7, gp_in 251 (by decide +kernel) (by decide +kernel)⟩
theorem fp_X7_29 : gp_Fp RX7 29 7 5 .int := ⟨RX7, TX7, 7, tyX7, ⟨rfl, by decide, iX7, tyX7_ok, nmX7, gp_in 251 (by decide +kernel) (by decide +kernel)⟩, rfl, rfl⟩
theorem fl_X9_186 : gp_Fl RX9 186 7 5 := ⟨RX7, TX7, 7, tyX7, rfl, by decide, iX7, tyX7_ok, nmX7, gp_in 252 (by decide +kernel) (by decide +kernel)⟩
theorem fp_X9_186 : gp_Fp RX9 186 7 5 .int := ⟨RX7, TX7, 7, tyX7, ⟨rfl, by decide, iX7, tyX7_ok, nmX7, gp_in 252 (by decide +kernel) (by decide +kernel)⟩, rfl, rfl⟩
theorem fl_X7_33 : gp_Fl RX7 33 7 6 := ⟨RX7, TX7, 7, tyX7, rfl, by decide, iX7, tyX7_ok, nmX7, gp_in 253 (by decide +kernel) (by decide +kernel)⟩
theorem fp_X7_33 : gp_Fp RX7 33 7 6 .int := ⟨RX7, TX7, 7, tyX7, ⟨rfl, by decide, iX7, tyX7_ok, nmX7, gp_in 253 (by decide +kernel) (by decide +kernel)⟩, rfl, rfl⟩
theorem fl_X9_187 : gp_Fl RX9 187 7 6 := ⟨RX7, TX7, 7, tyX7, rfl, by decide, iX7, tyX7_ok, nmX7, gp_in 254 (by decide +kernel) (by decide +kernel)⟩
theorem fp_X9_187 : gp_Fp RX9 187 7 6 .int := ⟨RX7, TX7, 7, tyX7, ⟨rfl, by decide, iX7, tyX7_ok, nmX7, gp_in 254 (by decide +kernel) (by decide +kernel)⟩, rfl, rfl⟩
theorem fl_X8_25 : gp_Fl RX8 25 8 0 := ⟨RX8, TX8, 5, tyX8, rfl, by decide, iX8, tyX8_ok, nmX8, gp_in 278 (by decide +kernel) (by decide +kernel)⟩
theorem fl_X8_9 : gp_Fl RX8 9 8 1 := ⟨RX8, TX8, 5, tyX8, rfl, by decide, iX8, tyX8_ok, nmX8, gp_in 279 (by decide +kernel) (by decide +kernel)⟩
theorem fl_X9_160 : gp_Fl RX9 160 8 1 := ⟨RX8, TX8, 5, tyX8, rfl, by decide, iX8, tyX8_ok, nmX8, gp_in 280 (by decide +kernel) (by decide +kernel)⟩
theorem fl_X8_15 : gp_Fl RX8 15 8 2 := ⟨RX8, TX8, 5, tyX8, rfl, by decide, iX8, tyX8_ok, nmX8, gp_in 281 (by decide +kernel) (by decide +kernel)⟩
theorem fl_X8_18 : gp_Fl RX8 18 8 3 := ⟨RX8, TX8, 5, tyX8, rfl, by decide, iX8, tyX8_ok, nmX8, gp_in 282 (by decide +kernel) (by decide +kernel)⟩
theorem fp_X8_18 : gp_Fp RX8 18 8 3 .int := ⟨RX8, TX8, 5, tyX8, ⟨rfl, by decide, iX8, tyX8_ok, nmX8, gp_in 282 (by decide +kernel) (by decide +kernel)⟩, rfl, rfl⟩
theorem fl_X8_22 : gp_Fl RX8 22 8 4 := ⟨RX8, TX8, 5, tyX8, rfl, by decide, iX8, tyX8_ok, nmX8, gp_in 283 (by decide +kernel) (by decide +kernel)⟩
theorem fp_X8_22 : gp_Fp RX8 22 8 4 .int := ⟨RX8, TX8, 5, tyX8, ⟨rfl, by decide, iX8, tyX8_ok, nmX8, gp_in 283 (by decide +kernel) (by decide +kernel)⟩, rfl, rfl⟩
theorem fl_X9_218 : gp_Fl RX9 218 8 4 := ⟨RX8, TX8, 5, tyX8, rfl, by decide, iX8, tyX8_ok, nmX8, gp_in 284 (by decide +kernel) (by decide +kernel)⟩
theorem fp_X9_218 : gp_Fp RX9 218 8 4 .int := ⟨RX8, TX8, 5, tyX8, ⟨rfl, by decide, iX8, tyX8_ok, nmX8, gp_in 284 (by decide +kernel) (by decide +kernel)⟩, rfl, rfl⟩
theorem fl_X9_10 : gp_Fl RX9 10 9 0 := ⟨RX9, TX9, 14, tyX9, rfl, by decide, iX9, tyX9_ok, nmX9, gp_in 296 (by decide +kernel) (by decide +kernel)⟩
theorem fl_X9_19 : gp_Fl RX9 19 9 1 := ⟨RX9, TX9, 14, tyX9, rfl, by decide, iX9, tyX9_ok, nmX9, gp_in 297 (by decide +kernel) (by decide +kernel)⟩
theorem fl_X9_23 : gp_Fl RX9 23 9 2 := ⟨RX9, TX9, 14, tyX9, rfl, by decide, iX9, tyX9_ok, nmX9, gp_in 298 (by decide +kernel) (by decide +kernel)⟩
theorem fl_X9_29 : gp_Fl RX9 29 9 3 := ⟨RX9, TX9, 14, tyX9, rfl, by decide, iX9, tyX9_ok, nmX9, gp_in 299 (by decide +kernel) (by decide +kernel)⟩
theorem fl_X9_38 : gp_Fl RX9 38 9 4 := ⟨RX9, TX9, 14, tyX9, rfl, by decide, iX9, tyX9_ok, nmX9, gp_in 300 (by decide +kernel) (by decide +kernel)⟩
theorem fl_X9_45 : gp_Fl RX9 45 9 5 := ⟨RX9, TX9, 14, tyX9, rfl, by decide, iX9, tyX9_ok, nmX9, gp_in 301 (by decide +kernel) (by decide +kernel)⟩
theorem fl_X9_49 : gp_Fl RX9 49 9 6 := ⟨RX9, TX9, 14, tyX9, rfl, by decide, iX9, tyX9_ok, nmX9, gp_in 302 (by decide +kernel) (by decide +kernel)⟩
theorem fl_X9_55 : gp_Fl RX9 55 9 7 := ⟨RX9, TX9, 14, tyX9, rfl, by decide, iX9, tyX9_ok, nmX9, gp_in 303 (by decide +kernel) (by decide +kernel)⟩
theorem fl_X9_62 : gp_Fl RX9 62 9 8 := ⟨RX9, TX9, 14, tyX9, rfl, by decide, iX9, tyX9_ok, nmX9, gp_in 304 (by decide +kernel) (by decide +kernel)⟩
theorem fl_X9_69 : gp_Fl RX9 69 9 9 := ⟨RX9, TX9, 14, tyX9, rfl, by decide, iX9, tyX9_ok, nmX9, gp_in 305 (by decide +kernel) (by decide +kernel)⟩
theorem fl_X9_78 : gp_Fl RX9 78 9 10 := ⟨RX9, TX9, 14, tyX9, rfl, by decide, iX9, tyX9_ok, nmX9, gp_in 306 (by decide +kernel) (by decide +kernel)⟩
theorem fl_X9_82 : gp_Fl RX9 82 9 11 := ⟨RX9, TX9, 14, tyX9, rfl, by decide, iX9, tyX9_ok, nmX9, gp_in 307 (by decide +kernel) (by decide +kernel)⟩
theorem fp_X9_82 : gp_Fp RX9 82 9 11 .int := ⟨RX9, TX9, 14, tyX9, ⟨rfl, by decide, iX9, tyX9_ok, nmX9, gp_in 307 (by decide +kernel) (by decide +kernel)⟩, rfl, rfl⟩
theorem fl_X9_86 : gp_Fl RX9 86 9 12 := ⟨RX9, TX9, 14, tyX9, rfl, by decide, iX9, tyX9_ok, nmX9, gp_in 308 (by decide +kernel) (by decide +kernel)⟩
theorem fp_X9_86 : gp_Fp RX9 86 9 12 .int := ⟨RX9, TX9, 14, tyX9, ⟨rfl, by decide, iX9, tyX9_ok, nmX9, gp_in 308 (by decide +kernel) (by decide +kernel)⟩, rfl, rfl⟩
theorem fl_X9_89 : gp_Fl RX9 89 9 13 := ⟨RX9, TX9, 14, tyX9, rfl, by decide, iX9, tyX9_ok, nmX9, gp_in 309 (by decide +kernel) (by decide +kernel)⟩
theorem fp_X9_89 : gp_Fp RX9 89 9 13 .int := ⟨RX9, TX9, 14, tyX9, ⟨rfl, by decide, iX9, tyX9_ok, nmX9, gp_in 309 (by decide +kernel) (by decide +kernel)⟩, rfl, rfl⟩
theorem fl_X10_59 : gp_Fl RX10 59 10 0 := ⟨RX10, TX10, 38, tyX10, rfl, by decide, iX10, tyX10_ok, nmX10, gp_in 668 (by decide +kernel) (by decide +kernel)⟩
theorem fp_X10_59 : gp_Fp RX10 59 10 0 .int := ⟨RX10, TX10, 38, tyX10, ⟨rfl, by decide, iX10, tyX10_ok, nmX10, gp_in 668 (by decide +kernel) (by decide +kernel)⟩, rfl, rfl⟩
theorem fl_X10_7 : gp_Fl RX10 7 10 1 := ⟨RX10, TX10, 38, tyX10, rfl, by decide, iX10, tyX10_ok, nmX10, gp_in 669 (by decide +kernel) (by decide +kernel)⟩
theorem fl_X10_112 : gp_Fl RX10 112 10 2 := ⟨RX10, TX10, 38, tyX10, rfl, by decide, iX10, tyX10_ok, nmX10, gp_in 670 (by decide +kernel) (by decide +kernel)⟩
theorem fp_X10_112 : gp_Fp RX10 112 10 2 .int := ⟨RX10, TX10, 38, tyX10, ⟨rfl, by decide, iX10, tyX10_ok, nmX10, gp_in 670 (by decide +kernel) (by decide +kernel)⟩, rfl, rfl⟩
theorem fl_X10_115 : gp_Fl RX10 115 10 3 := ⟨RX10, TX10, 38, tyX10, rfl, by decide, iX10, tyX10_ok, nmX10, gp_in 671 (by decide +kernel) (by decide +kernel)⟩
theorem fp_X10_115 : gp_Fp RX10 115 10 3 .int := ⟨RX10, TX10, 38, tyX10, ⟨rfl, by decide, iX10, tyX10_ok, nmX10, gp_in 671 (by decide +kernel) (by decide +kernel)⟩, rfl, rfl⟩
theorem fl_X10_13 : gp_Fl RX10 13 10 4 := ⟨RX10, TX10, 38, tyX10, rfl, by decide, iX10, tyX10_ok, nmX10, gp_in 672 (by decide +kernel) (by decide +kernel)⟩
theorem fl_X10_16 : gp_Fl RX10 16 10 5 := ⟨RX10, TX10, 38, tyX10, rfl, by decide, iX10, tyX10_ok, nmX10, gp_in 673 (by decide +kernel) (by decide +kernel)⟩
theorem fl_X10_127 : gp_Fl RX10 127 10 6 := ⟨RX10, TX10, 38, tyX10, rfl, by decide, iX10, tyX10_ok, nmX10, gp_in 674 (by decide +kernel) (by decide +kernel)⟩
theorem fp_X10_127 : gp_Fp RX10 127 10 6 .int := ⟨RX10, TX10, 38, tyX10, ⟨rfl, by decide, iX10, tyX10_ok, nmX10, gp_in 674 (by decide +kernel) (by decide +kernel)⟩, rfl, rfl⟩
theorem fl_X10_19 : gp_Fl RX10 19 10 7 := ⟨RX10, TX10, 38, tyX10, rfl, by decide, iX10, tyX10_ok, nmX10, gp_in 675 (by decide +kernel) (by decide +kernel)⟩
theorem fl_X10_118 : gp_Fl RX10 118 10 8 := ⟨RX10, TX10, 38, tyX10, rfl, by decide, iX10, tyX10_ok, nmX10, gp_in 676 (by decide +kernel) (by decide +kernel)⟩
theorem fp_X10_118 : gp_Fp RX10 118 10 8 .int := ⟨RX10, TX10, 38, tyX10, ⟨rfl, by decide, iX10, tyX10_ok, nmX10, gp_in 676 (by decide +kernel) (by decide +kernel)⟩, rfl, rfl⟩
theorem fl_X10_161 : gp_Fl RX10 161 10 9 := ⟨RX10, TX10, 38, tyX10, rfl, by decide, iX10, tyX10_ok, nmX10, gp_in 677 (by decide +kernel) (by decide +kernel)⟩
theorem fp_X10_161 : gp_Fp RX10 161 10 9 .int := ⟨RX10, TX10, 38, tyX10, ⟨rfl, by decide, iX10, tyX10_ok, nmX10, gp_in 677 (by decide +kernel) (by decide +kernel)⟩, rfl, rfl⟩
theorem fl_X10_164 : gp_Fl RX10 164 10 10 := ⟨RX10, TX10, 38, tyX10, rfl, by decide, iX10, tyX10_ok, nmX10, gp_in 678 (by decide +kernel) (by decide +kernel)⟩
theorem fp_X10_164 : gp_Fp RX10 164 10 10 .int := ⟨RX10, TX10, 38, tyX10, ⟨rfl, by decide, iX10, tyX10_ok, nmX10, gp_in 678 (by decide +kernel) (by decide +kernel)⟩, rfl, rfl⟩
theorem fl_X10_121 : gp_Fl RX10 121 10 11 := ⟨RX10, TX10, 38, tyX10, rfl, by decide, iX10, tyX10_ok, nmX10, gp_in 679 (by decide +kernel) (by decide +kernel)⟩
theorem fp_X10_121 : gp_Fp RX10 121 10 11 .int := ⟨RX10, TX10, 38, tyX10, ⟨rfl, by decide, iX10, tyX10_ok, nmX10, gp_in 679 (by decide +kernel) (by decide +kernel)⟩, rfl, rfl⟩
theorem fl_X10_130 : gp_Fl RX10 130 10 12 := ⟨RX10, TX10, 38, tyX10, rfl, by decide, iX10, tyX10_ok, nmX10, gp_in 680 (by decide +kernel) (by decide +kernel)⟩
theorem fp_X10_130 : gp_Fp RX10 130 10 12 .int := ⟨RX10, TX10, 38, tyX10, ⟨rfl, by decide, iX10, tyX10_ok, nmX10, gp_in 680 (by decide +kernel) (by decide +kernel)⟩, rfl, rfl⟩
theorem fl_X10_194 : gp_Fl RX10 194 10 13 := ⟨RX10, TX10, 38, tyX10, rfl, by decide, iX10, tyX10_ok, nmX10, gp_in 681 (by decide +kernel) (by decide +kernel)⟩
theorem fp_X10_194 : gp_Fp RX10 194 10 13 .int := ⟨RX10, TX10, 38, tyX10, ⟨rfl, by decide, iX10, tyX10_ok, nmX10, gp_in 681 (by decide +kernel) (by decide +kernel)⟩, rfl, rfl⟩
theorem fl_X10_84 : gp_Fl RX10 84 10 14 := ⟨RX10, TX10, 38, tyX10, rfl, by decide, iX10, tyX10_ok, nmX10, gp_in 682 (by decide +kernel) (by decide +kernel)⟩
theorem fp_X10_84 : gp_Fp RX10 84 10 14 .int := ⟨RX10, TX10, 38, tyX10, ⟨rfl, by decide, iX10, tyX10_ok, nmX10, gp_in 682 (by decide +kernel) (by decide +kernel)⟩, rfl, rfl⟩
theorem fl_X10_67 : gp_Fl RX10 67 10 15 := ⟨RX10, TX10, 38, tyX10, rfl, by decide, iX10, tyX10_ok, nmX10, gp_in 683 (by decide +kernel) (by decide +kernel)⟩
theorem fp_X10_67 : gp_Fp RX10 67 10 15 .int := ⟨RX10, TX10, 38, tyX10, ⟨rfl, by decide, iX10, tyX10_ok, nmX10, gp_in 683 (by decide +kernel) (by decide +kernel)⟩, rfl, rfl⟩
theorem fl_X10_80 : gp_Fl RX10 80 10 16 := ⟨RX10, TX10, 38, tyX10, rfl, by decide, iX10, tyX10_ok, nmX10, gp_in 684 (by decide +kernel) (by decide +kernel)⟩
theorem fp_X10_80 : gp_Fp RX10 80 10 16 .boolean := ⟨RX10, TX10, 38, tyX10, ⟨rfl, by decide, iX10, tyX10_ok, nmX10, gp_in 684 (by decide +kernel) (by decide +kernel)⟩, rfl, rfl⟩
theorem fl_X10_73 : gp_Fl RX10 73 10 17 := ⟨RX10, TX10, 38, tyX10, rfl, by decide, iX10, tyX10_ok, nmX10, gp_in 685 (by decide +kernel) (by decide +kernel)⟩
theorem fp_X10_73 : gp_Fp RX10 73 10 17 .int := ⟨RX10, TX10, 38, tyX10, ⟨rfl, by decide, iX10, tyX10_ok, nmX10, gp_in 685 (by decide +kernel) (by decide +kernel)⟩, rfl, rfl⟩
theorem fl_X10_70 : gp_Fl RX10 70 10 18 := ⟨RX10, TX10, 38, tyX10, rfl, by decide, iX10, tyX10_ok, nmX10, gp_in 686 (by decide +kernel) (by decide +kernel)⟩
theorem fp_X10_70 : gp_Fp RX10 70 10 18 .int := ⟨RX10, TX10, 38, tyX10, ⟨rfl, by decide, iX10, tyX10_ok, nmX10, gp_in 686 (by decide +kernel) (by decide +kernel)⟩, rfl, rfl⟩
theorem fl_X10_22 : gp_Fl RX10 22 10 19 := ⟨RX10, TX10, 38, tyX10, rfl, by decide, iX10, tyX10_ok, nmX10, gp_in 687 (by decide +kernel) (by decide +kernel)⟩
theorem fl_X10_25 : gp_Fl RX10 25 10 20 := ⟨RX10, TX10, 38, tyX10, rfl, by decide, iX10, tyX10_ok, nmX10, gp_in 688 (by decide +kernel) (by decide +kernel)⟩
theorem fl_X10_28 : gp_Fl RX10 28 10 21 := ⟨RX10, TX10, 38, tyX10, rfl, by decide, iX10, tyX10_ok, nmX10, gp_in 689 (by decide +kernel) (by decide +kernel)⟩
theorem fl_X10_31 : gp_Fl RX10 31 10 22 := ⟨RX10, TX10, 38, tyX10, rfl, by decide, iX10, tyX10_ok, nmX10, gp_in 690 (by decide +kernel) (by decide +kernel)⟩
theorem fl_X10_34 : gp_Fl RX10 34 10 23 := ⟨RX10, TX10, 38, tyX10, rfl, by decide, iX10, tyX10_ok, nmX10, gp_in 691 (by decide +kernel) (by decide +kernel)⟩
theorem fl_X10_37 : gp_Fl RX10 37 10 24 := ⟨RX10, TX10, 38, tyX10, rfl, by decide, iX10, tyX10_ok, nmX10, gp_in 692 (by decide +kernel) (by decide +kernel)⟩
theorem fl_X10_40 : gp_Fl RX10 40 10 25 := ⟨RX10, TX10, 38, tyX10, rfl, by decide, iX10, tyX10_ok, nmX10, gp_in 693 (by decide +kernel) (by decide +kernel)⟩
theorem fl_X10_148 : gp_Fl RX10 148 10 26 := ⟨RX10, TX10, 38, tyX10, rfl, by decide, iX10, tyX10_ok, nmX10, gp_in 694 (by decide +kernel) (by decide +kernel)⟩
theorem fp_X10_148 : gp_Fp RX10 148 10 26 .int := ⟨RX10, TX10, 38, tyX10, ⟨rfl, by decide, iX10, tyX10_ok, nmX10, gp_in 694 (by decide +kernel) (by decide +kernel)⟩, rfl, rfl⟩
theorem fl_X10_43 : gp_Fl RX10 43 10 27 := ⟨RX10, TX10, 38, tyX10, rfl, by decide, iX10, tyX10_ok, nmX10, gp_in 695 (by decide +kernel) (by decide +kernel)⟩
theorem fl_X10_46 : gp_Fl RX10 46 10 28 := ⟨RX10, TX10, 38, tyX10, rfl, by decide, iX10, tyX10_ok, nmX10, gp_in 696 (by decide +kernel) (by decide +kernel)⟩
theorem fl_X10_49 : gp_Fl RX10 49 10 29 := ⟨RX10, TX10, 38, tyX10, rfl, by decide, iX10, tyX10_ok, nmX10, gp_in 697 (by decide +kernel) (by decide +kernel)⟩
theorem fl_X10_212 : gp_Fl RX10 212 10 30 := ⟨RX10, TX10, 38, tyX10, rfl, by decide, iX10, tyX10_ok, nmX10, gp_in 698 (by decide +kernel) (by decide +kernel)⟩
theorem fp_X10_212 : gp_Fp RX10 212 10 30 .int := ⟨RX10, TX10, 38, tyX10, ⟨rfl, by decide, iX10, tyX10_ok, nmX10, gp_in 698 (by decide +kernel) (by decide +kernel)⟩, rfl, rfl⟩
theorem fl_X10_206 : gp_Fl RX10 206 10 31 := ⟨RX10, TX10, 38, tyX10, rfl, by decide, iX10, tyX10_ok, nmX10, gp_in 699 (by decide +kernel) (by decide +kernel)⟩
theorem fp_X10_206 : gp_Fp RX10 206 10 31 .int := ⟨RX10, TX10, 38, tyX10, ⟨rfl, by decide, iX10, tyX10_ok, nmX10, gp_in 699 (by decide +kernel) (by decide +kernel)⟩, rfl, rfl⟩
theorem fl_X10_215 : gp_Fl RX10 215 10 32 := ⟨RX10, TX10, 38, tyX10, rfl, by decide, iX10, tyX10_ok, nmX10, gp_in 700 (by decide +kernel) (by decide +kernel)⟩
theorem fp_X10_215 : gp_Fp RX10 215 10 32 .int := ⟨RX10, TX10, 38, tyX10, ⟨rfl, by decide, iX10, tyX10_ok, nmX10, gp_in 700 (by decide +kernel) (by decide +kernel)⟩, rfl, rfl⟩
theorem fl_X10_218 : gp_Fl RX10 218 10 33 := ⟨RX10, TX10, 38, tyX10, rfl, by decide, iX10, tyX10_ok, nmX10, gp_in 701 (by decide +kernel) (by decide +kernel)⟩
theorem fp_X10_218 : gp_Fp RX10 218 10 33 .int := ⟨RX10, TX10, 38, tyX10, ⟨rfl, by decide, iX10, tyX10_ok, nmX10, gp_in 701 (by decide +kernel) (by decide +kernel)⟩, rfl, rfl⟩
theorem fl_X10_221 : gp_Fl RX10 221 10 34 := ⟨RX10, TX10, 38, tyX10, rfl, by decide, iX10, tyX10_ok, nmX10, gp_in 702 (by decide +kernel) (by decide +kernel)⟩
theorem fp_X10_221 : gp_Fp RX10 221 10 34 .int := ⟨RX10, TX10, 38, tyX10, ⟨rfl, by decide, iX10, tyX10_ok, nmX10, gp_in 702 (by decide +kernel) (by decide +kernel)⟩, rfl, rfl⟩
theorem fl_X10_242 : gp_Fl RX10 242 10 35 := ⟨RX10, TX10, 38, tyX10, rfl, by decide, iX10, tyX10_ok, nmX10, gp_in 703 (by decide +kernel) (by decide +kernel)⟩
theorem fp_X10_242 : gp_Fp RX10 242 10 35 .int := ⟨RX10, TX10, 38, tyX10, ⟨rfl, by decide, iX10, tyX10_ok, nmX10, gp_in 703 (by decide +kernel) (by decide +kernel)⟩, rfl, rfl⟩
theorem fl_X10_52 : gp_Fl RX10 52 10 36 := ⟨RX10, TX10, 38, tyX10, rfl, by decide, iX10, tyX10_ok, nmX10, gp_in 704 (by decide +kernel) (by decide +kernel)⟩
theorem fl_X10_259 : gp_Fl RX10 259 10 37 := ⟨RX10, TX10, 38, tyX10, rfl, by decide, iX10, tyX10_ok, nmX10, gp_in 705 (by decide +kernel) (by decide +kernel)⟩
theorem fp_X10_259 : gp_Fp RX10 259 10 37 .long := ⟨RX10, TX10, 38, tyX10, ⟨rfl, by decide, iX10, tyX10_ok, nmX10, gp_in 705 (by decide +kernel) (by decide +kernel)⟩, rfl, rfl⟩
theorem mb_X0_read : gp_Mb mX0_read 1 := ⟨gp_in 368 (by decide +kernel) (by decide +kernel), gp_in 63 (by decide +kernel) (by decide +kernel), by decide +kernel, by decide⟩
theorem mb_X0_takes : gp_Mb mX0_takes 1 := ⟨gp_in 372 (by decide +kernel) (by decide +kernel), gp_in 63 (by decide +kernel) (by decide +kernel), by decide +kernel, by decide⟩
theorem mb_X0_takesInputs : gp_Mb mX0_takesInputs 1 := ⟨gp_in 376 (by decide +kernel) (by decide +kernel), gp_in 63 (by decide +kernel) (by decide +kernel), by decide +kernel, by decide⟩
theorem mb_X0_takesGate : gp_Mb mX0_takesGate 1 := ⟨gp_in 381 (by decide +kernel) (by decide +kernel), gp_in 63 (by decide +kernel) (by decide +kernel), by decide +kernel, by decide⟩
theorem mb_X0_takesKind : gp_Mb mX0_takesKind 1 := ⟨gp_in 385 (by decide +kernel) (by decide +kernel), gp_in 63 (by decide +kernel) (by decide +kernel), by decide +kernel, by decide⟩
theorem mb_X0_takesPin : gp_Mb mX0_takesPin 1 := ⟨gp_in 392 (by decide +kernel) (by decide +kernel), gp_in 63 (by decide +kernel) (by decide +kernel), by decide +kernel, by decide⟩
theorem mb_X0_kindOf : gp_Mb mX0_kindOf 1 := ⟨gp_in 388 (by decide +kernel) (by decide +kernel), gp_in 63 (by decide +kernel) (by decide +kernel), by decide +kernel, by decide⟩
theorem mb_X0_isWhole : gp_Mb mX0_isWhole 0 := ⟨gp_in 405 (by decide +kernel) (by decide +kernel), gp_in 63 (by decide +kernel) (by decide +kernel), by decide +kernel, by decide⟩
theorem mb_X0_isDrivenRightly : gp_Mb mX0_isDrivenRightly 0 := ⟨gp_in 409 (by decide +kernel) (by decide +kernel), gp_in 63 (by decide +kernel) (by decide +kernel), by decide +kernel, by decide⟩
theorem mb_X0_mayDrive : gp_Mb mX0_mayDrive 2 := ⟨gp_in 417 (by decide +kernel) (by decide +kernel), gp_in 63 (by decide +kernel) (by decide +kernel), by decide +kernel, by decide⟩
theorem mb_X0_has : gp_Mb mX0_has 1 := ⟨gp_in 421 (by decide +kernel) (by decide +kernel), gp_in 63 (by decide +kernel) (by decide +kernel), by decide +kernel, by decide⟩
theorem mb_X0_pins : gp_Mb mX0_pins 1 := ⟨gp_in 397 (by decide +kernel) (by decide +kernel), gp_in 63 (by decide +kernel) (by decide +kernel), by decide +kernel, by decide⟩
theorem mb_X0_driver : gp_Mb mX0_driver 2 := ⟨gp_in 413 (by decide +kernel) (by decide +kernel), gp_in 63 (by decide +kernel) (by decide +kernel), by decide +kernel, by decide⟩
theorem mb_X0_copyFrom : gp_Mb mX0_copyFrom 1 := ⟨gp_in 425 (by decide +kernel) (by decide +kernel), gp_in 63 (by decide +kernel) (by decide +kernel), by decide +kernel, by decide⟩
theorem mb_X1_list : gp_Mb mX1_list 1 := ⟨gp_in 466 (by decide +kernel) (by decide +kernel), gp_in 67 (by decide +kernel) (by decide +kernel), by decide +kernel, by decide⟩
theorem mb_X1_add : gp_Mb mX1_add 1 := ⟨gp_in 470 (by decide +kernel) (by decide +kernel), gp_in 67 (by decide +kernel) (by decide +kernel), by decide +kernel, by decide⟩
theorem mb_X1_indexOf : gp_Mb mX1_indexOf 1 := ⟨gp_in 557 (by decide +kernel) (by decide +kernel), gp_in 67 (by decide +kernel) (by decide +kernel), by decide +kernel, by decide⟩
theorem mb_X2_clear : gp_Mb mX2_clear 0 := ⟨gp_in 440 (by decide +kernel) (by decide +kernel), gp_in 66 (by decide +kernel) (by decide +kernel), by decide +kernel, by decide⟩
theorem mb_X2_add : gp_Mb mX2_add 3 := ⟨gp_in 462 (by decide +kernel) (by decide +kernel), gp_in 66 (by decide +kernel) (by decide +kernel), by decide +kernel, by decide⟩
theorem mb_X2_isBad : gp_Mb mX2_isBad 2 := ⟨gp_in 479 (by decide +kernel) (by decide +kernel), gp_in 66 (by decide +kernel) (by decide +kernel), by decide +kernel, by decide⟩
theorem mb_X2_badNodes : gp_Mb mX2_badNodes 1 := ⟨gp_in 475 (by decide +kernel) (by decide +kernel), gp_in 66 (by decide +kernel) (by decide +kernel), by decide +kernel, by decide⟩
theorem mb_X2_unlikeNodes : gp_Mb mX2_unlikeNodes 1 := ⟨gp_in 483 (by decide +kernel) (by decide +kernel), gp_in 66 (by decide +kernel) (by decide +kernel), by decide +kernel, by decide⟩
theorem mb_X2_firstUnlike : gp_Mb mX2_firstUnlike 2 := ⟨gp_in 499 (by decide +kernel) (by decide +kernel), gp_in 66 (by decide +kernel) (by decide +kernel), by decide +kernel, by decide⟩
theorem mb_X3_append : gp_Mb mX3_append 1 := ⟨gp_in 346 (by decide +kernel) (by decide +kernel), gp_in 62 (by decide +kernel) (by decide +kernel), by decide +kernel, by decide⟩
theorem mb_X3_clear : gp_Mb mX3_clear 0 := ⟨gp_in 354 (by decide +kernel) (by decide +kernel), gp_in 62 (by decide +kernel) (by decide +kernel), by decide +kernel, by decide⟩
theorem mb_X4_add : gp_Mb mX4_add 2 := ⟨gp_in 576 (by decide +kernel) (by decide +kernel), gp_in 68 (by decide +kernel) (by decide +kernel), by decide +kernel, by decide⟩
theorem mb_X4_clear : gp_Mb mX4_clear 0 := ⟨gp_in 507 (by decide +kernel) (by decide +kernel), gp_in 68 (by decide +kernel) (by decide +kernel), by decide +kernel, by decide⟩
theorem mb_X5_run : gp_Mb mX5_run 2 := ⟨gp_in 436 (by decide +kernel) (by decide +kernel), gp_in 65 (by decide +kernel) (by decide +kernel), by decide +kernel, by decide⟩
theorem mb_X5_setNodes : gp_Mb mX5_setNodes 2 := ⟨gp_in 446 (by decide +kernel) (by decide +kernel), gp_in 65 (by decide +kernel) (by decide +kernel), by decide +kernel, by decide⟩
theorem mb_X5_value : gp_Mb mX5_value 2 := ⟨gp_in 450 (by decide +kernel) (by decide +kernel), gp_in 65 (by decide +kernel) (by decide +kernel), by decide +kernel, by decide⟩
theorem mb_X5_pinValue : gp_Mb mX5_pinValue 3 := ⟨gp_in 458 (by decide +kernel) (by decide +kernel), gp_in 65 (by decide +kernel) (by decide +kernel), by decide +kernel, by decide⟩
theorem mb_X6_misfit : gp_Mb mX6_misfit 1 := ⟨gp_in 361 (by decide +kernel) (by decide +kernel), gp_in 64 (by decide +kernel) (by decide +kernel), by decide +kernel, by decide⟩
theorem mb_X6_read : gp_Mb mX6_read 1 := ⟨gp_in 546 (by decide +kernel) (by decide +kernel), gp_in 64 (by decide +kernel) (by decide +kernel), by decide +kernel, by decide⟩
theorem mb_X6_bit : gp_Mb mX6_bit 2 := ⟨gp_in 454 (by decide +kernel) (by decide +kernel), gp_in 64 (by decide +kernel) (by decide +kernel), by decide +kernel, by decide⟩
theorem mb_X7_learn : gp_Mb mX7_learn 1 := ⟨gp_in 487 (by decide +kernel) (by decide +kernel), gp_in 70 (by decide +kernel) (by decide +kernel), by decide +kernel, by decide⟩
theorem mb_X7_choose : gp_Mb mX7_choose 1 := ⟨gp_in 511 (by decide +kernel) (by decide +kernel), gp_in 70 (by decide +kernel) (by decide +kernel), by decide +kernel, by decide⟩
theorem mb_X7_listMembers : gp_Mb mX7_listMembers 1 := ⟨gp_in 520 (by decide +kernel) (by decide +kernel), gp_in 70 (by decide +kernel) (by decide +kernel), by decide +kernel, by decide⟩
theorem mb_X7_side : gp_Mb mX7_side 2 := ⟨gp_in 515 (by decide +kernel) (by decide +kernel), gp_in 70 (by decide +kernel) (by decide +kernel), by decide +kernel, by decide⟩
theorem mb_X7_nextOf : gp_Mb mX7_nextOf 2 := ⟨gp_in 524 (by decide +kernel) (by decide +kernel), gp_in 70 (by decide +kernel) (by decide +kernel), by decide +kernel, by decide⟩
theorem mb_X7_goOn : gp_Mb mX7_goOn 3 := ⟨gp_in 534 (by decide +kernel) (by decide +kernel), gp_in 70 (by decide +kernel) (by decide +kernel), by decide +kernel, by decide⟩
theorem mb_X7_end : gp_Mb mX7_end 2 := ⟨gp_in 538 (by decide +kernel) (by decide +kernel), gp_in 70 (by decide +kernel) (by decide +kernel), by decide +kernel, by decide⟩
theorem mb_X7_mostSteps : gp_Mb mX7_mostSteps 0 := ⟨gp_in 588 (by decide +kernel) (by decide +kernel), gp_in 70 (by decide +kernel) (by decide +kernel), by decide +kernel, by decide⟩
theorem mb_X7_allSteps : gp_Mb mX7_allSteps 0 := ⟨gp_in 595 (by decide +kernel) (by decide +kernel), gp_in 70 (by decide +kernel) (by decide +kernel), by decide +kernel, by decide⟩
theorem mb_X7_greatestRest : gp_Mb mX7_greatestRest 0 := ⟨gp_in 599 (by decide +kernel) (by decide +kernel), gp_in 70 (by decide +kernel) (by decide +kernel), by decide +kernel, by decide⟩
theorem mb_X8_learn : gp_Mb mX8_learn 2 := ⟨gp_in 495 (by decide +kernel) (by decide +kernel), gp_in 71 (by decide +kernel) (by decide +kernel), by decide +kernel, by decide⟩
theorem mb_X8_goFrom : gp_Mb mX8_goFrom 1 := ⟨gp_in 611 (by decide +kernel) (by decide +kernel), gp_in 71 (by decide +kernel) (by decide +kernel), by decide +kernel, by decide⟩
theorem mb_X8_source : gp_Mb mX8_source 1 := ⟨gp_in 615 (by decide +kernel) (by decide +kernel), gp_in 71 (by decide +kernel) (by decide +kernel), by decide +kernel, by decide⟩
theorem mb_X8_leadsTo : gp_Mb mX8_leadsTo 2 := ⟨gp_in 621 (by decide +kernel) (by decide +kernel), gp_in 71 (by decide +kernel) (by decide +kernel), by decide +kernel, by decide⟩
theorem mb_X8_isSooner : gp_Mb mX8_isSooner 2 := ⟨gp_in 626 (by decide +kernel) (by decide +kernel), gp_in 71 (by decide +kernel) (by decide +kernel), by decide +kernel, by decide⟩
theorem mb_X8_at : gp_Mb mX8_at 1 := ⟨gp_in 630 (by decide +kernel) (by decide +kernel), gp_in 71 (by decide +kernel) (by decide +kernel), by decide +kernel, by decide⟩
theorem mb_X9_letter : gp_Mb mX9_letter 1 := ⟨gp_in 342 (by decide +kernel) (by decide +kernel), gp_in 61 (by decide +kernel) (by decide +kernel), by decide +kernel, by decide⟩
theorem mb_X9_blank : gp_Mb mX9_blank 0 := ⟨gp_in 350 (by decide +kernel) (by decide +kernel), gp_in 61 (by decide +kernel) (by decide +kernel), by decide +kernel, by decide⟩
theorem mb_X9_fault : gp_Mb mX9_fault 1 := ⟨gp_in 358 (by decide +kernel) (by decide +kernel), gp_in 61 (by decide +kernel) (by decide +kernel), by decide +kernel, by decide⟩
theorem mb_X9_board : gp_Mb mX9_board 0 := ⟨gp_in 401 (by decide +kernel) (by decide +kernel), gp_in 61 (by decide +kernel) (by decide +kernel), by decide +kernel, by decide⟩
theorem mb_X9_stimulus : gp_Mb mX9_stimulus 0 := ⟨gp_in 542 (by decide +kernel) (by decide +kernel), gp_in 61 (by decide +kernel) (by decide +kernel), by decide +kernel, by decide⟩
theorem mb_X9_hurt : gp_Mb mX9_hurt 1 := ⟨gp_in 553 (by decide +kernel) (by decide +kernel), gp_in 61 (by decide +kernel) (by decide +kernel), by decide +kernel, by decide⟩
theorem mb_X9_node : gp_Mb mX9_node 2 := ⟨gp_in 561 (by decide +kernel) (by decide +kernel), gp_in 61 (by decide +kernel) (by decide +kernel), by decide +kernel, by decide⟩
theorem mb_X9_shows : gp_Mb mX9_shows 2 := ⟨gp_in 568 (by decide +kernel) (by decide +kernel), gp_in 61 (by decide +kernel) (by decide +kernel), by decide +kernel, by decide⟩
theorem mb_X9_probe : gp_Mb mX9_probe 1 := ⟨gp_in 572 (by decide +kernel) (by decide +kernel), gp_in 61 (by decide +kernel) (by decide +kernel), by decide +kernel, by decide⟩
theorem mb_X9_forget : gp_Mb mX9_forget 0 := ⟨gp_in 580 (by decide +kernel) (by decide +kernel), gp_in 61 (by decide +kernel) (by decide +kernel), by decide +kernel, by decide⟩
theorem mb_X9_suspects : gp_Mb mX9_suspects 1 := ⟨gp_in 584 (by decide +kernel) (by decide +kernel), gp_in 61 (by decide +kernel) (by decide +kernel), by decide +kernel, by decide⟩
theorem mb_X9_suspect : gp_Mb mX9_suspect 2 := ⟨gp_in 603 (by decide +kernel) (by decide +kernel), gp_in 61 (by decide +kernel) (by decide +kernel), by decide +kernel, by decide⟩
theorem mb_X9_way : gp_Mb mX9_way 2 := ⟨gp_in 607 (by decide +kernel) (by decide +kernel), gp_in 61 (by decide +kernel) (by decide +kernel), by decide +kernel, by decide⟩
theorem mb_X9_place : gp_Mb mX9_place 1 := ⟨gp_in 634 (by decide +kernel) (by decide +kernel), gp_in 61 (by decide +kernel) (by decide +kernel), by decide +kernel, by decide⟩
theorem mb_X9_count : gp_Mb mX9_count 1 := ⟨gp_in 638 (by decide +kernel) (by decide +kernel), gp_in 61 (by decide +kernel) (by decide +kernel), by decide +kernel, by decide⟩
theorem mb_X9_digest : gp_Mb mX9_digest 0 := ⟨gp_in 642 (by decide +kernel) (by decide +kernel), gp_in 61 (by decide +kernel) (by decide +kernel), by decide +kernel, by decide⟩
theorem mb_X9_digestNodes : gp_Mb mX9_digestNodes 1 := ⟨gp_in 647 (by decide +kernel) (by decide +kernel), gp_in 61 (by decide +kernel) (by decide +kernel), by decide +kernel, by decide⟩
theorem mb_X9_digestFaults : gp_Mb mX9_digestFaults 1 := ⟨gp_in 654 (by decide +kernel) (by decide +kernel), gp_in 61 (by decide +kernel) (by decide +kernel), by decide +kernel, by decide⟩
theorem mb_X9_digestSuspects : gp_Mb mX9_digestSuspects 1 := ⟨gp_in 659 (by decide +kernel) (by decide +kernel), gp_in 61 (by decide +kernel) (by decide +kernel), by decide +kernel, by decide⟩
theorem mb_X9_simulateFaults : gp_Mb mX9_simulateFaults 0 := ⟨gp_in 432 (by decide +kernel) (by decide +kernel), gp_in 61 (by decide +kernel) (by decide +kernel), by decide +kernel, by decide⟩
theorem mb_X9_simulateNow : gp_Mb mX9_simulateNow 0 := ⟨gp_in 491 (by decide +kernel) (by decide +kernel), gp_in 61 (by decide +kernel) (by decide +kernel), by decide +kernel, by decide⟩
theorem mb_X9_forgetProbes : gp_Mb mX9_forgetProbes 0 := ⟨gp_in 503 (by decide +kernel) (by decide +kernel), gp_in 61 (by decide +kernel) (by decide +kernel), by decide +kernel, by decide⟩
theorem mb_X9_figure : gp_Mb mX9_figure 1 := ⟨gp_in 364 (by decide +kernel) (by decide +kernel), gp_in 61 (by decide +kernel) (by decide +kernel), by decide +kernel, by decide⟩
theorem mb_X10_within : gp_Mb mX10_within 3 := ⟨gp_in 789 (by decide +kernel) (by decide +kernel), gp_in 72 (by decide +kernel) (by decide +kernel), by decide +kernel, by decide⟩
theorem mb_X10_has : gp_Mb mX10_has 2 := ⟨gp_in 912 (by decide +kernel) (by decide +kernel), gp_in 72 (by decide +kernel) (by decide +kernel), by decide +kernel, by decide⟩
theorem mb_X10_letter : gp_Mb mX10_letter 1 := ⟨gp_in 786 (by decide +kernel) (by decide +kernel), gp_in 72 (by decide +kernel) (by decide +kernel), by decide +kernel, by decide⟩
theorem mb_X10_blank : gp_Mb mX10_blank 0 := ⟨gp_in 793 (by decide +kernel) (by decide +kernel), gp_in 72 (by decide +kernel) (by decide +kernel), by decide +kernel, by decide⟩
theorem mb_X10_figure : gp_Mb mX10_figure 2 := ⟨gp_in 804 (by decide +kernel) (by decide +kernel), gp_in 72 (by decide +kernel) (by decide +kernel), by decide +kernel, by decide⟩
theorem mb_X10_kindBy : gp_Mb mX10_kindBy 1 := ⟨gp_in 822 (by decide +kernel) (by decide +kernel), gp_in 72 (by decide +kernel) (by decide +kernel), by decide +kernel, by decide⟩
theorem mb_X10_pinsOf : gp_Mb mX10_pinsOf 1 := ⟨gp_in 819 (by decide +kernel) (by decide +kernel), gp_in 72 (by decide +kernel) (by decide +kernel), by decide +kernel, by decide⟩
theorem mb_X10_takesPin : gp_Mb mX10_takesPin 1 := ⟨gp_in 816 (by decide +kernel) (by decide +kernel), gp_in 72 (by decide +kernel) (by decide +kernel), by decide +kernel, by decide⟩
theorem mb_X10_takes : gp_Mb mX10_takes 1 := ⟨gp_in 812 (by decide +kernel) (by decide +kernel), gp_in 72 (by decide +kernel) (by decide +kernel), by decide +kernel, by decide⟩
theorem mb_X10_goAlong : gp_Mb mX10_goAlong 0 := ⟨gp_in 808 (by decide +kernel) (by decide +kernel), gp_in 72 (by decide +kernel) (by decide +kernel), by decide +kernel, by decide⟩
theorem mb_X10_goFigures : gp_Mb mX10_goFigures 0 := ⟨gp_in 801 (by decide +kernel) (by decide +kernel), gp_in 72 (by decide +kernel) (by decide +kernel), by decide +kernel, by decide⟩
theorem mb_X10_fault : gp_Mb mX10_fault 1 := ⟨gp_in 797 (by decide +kernel) (by decide +kernel), gp_in 72 (by decide +kernel) (by decide +kernel), by decide +kernel, by decide⟩
theorem mb_X10_mayDrive : gp_Mb mX10_mayDrive 2 := ⟨gp_in 834 (by decide +kernel) (by decide +kernel), gp_in 72 (by decide +kernel) (by decide +kernel), by decide +kernel, by decide⟩
theorem mb_X10_isBoard : gp_Mb mX10_isBoard 0 := ⟨gp_in 830 (by decide +kernel) (by decide +kernel), gp_in 72 (by decide +kernel) (by decide +kernel), by decide +kernel, by decide⟩
theorem mb_X10_board : gp_Mb mX10_board 0 := ⟨gp_in 826 (by decide +kernel) (by decide +kernel), gp_in 72 (by decide +kernel) (by decide +kernel), by decide +kernel, by decide⟩
theorem mb_X10_stimulus : gp_Mb mX10_stimulus 0 := ⟨gp_in 881 (by decide +kernel) (by decide +kernel), gp_in 72 (by decide +kernel) (by decide +kernel), by decide +kernel, by decide⟩
theorem mb_X10_isStuck : gp_Mb mX10_isStuck 2 := ⟨gp_in 857 (by decide +kernel) (by decide +kernel), gp_in 72 (by decide +kernel) (by decide +kernel), by decide +kernel, by decide⟩
theorem mb_X10_pinValue : gp_Mb mX10_pinValue 4 := ⟨gp_in 865 (by decide +kernel) (by decide +kernel), gp_in 72 (by decide +kernel) (by decide +kernel), by decide +kernel, by decide⟩
theorem mb_X10_plainValue : gp_Mb mX10_plainValue 3 := ⟨gp_in 861 (by decide +kernel) (by decide +kernel), gp_in 72 (by decide +kernel) (by decide +kernel), by decide +kernel, by decide⟩
theorem mb_X10_goTick : gp_Mb mX10_goTick 2 := ⟨gp_in 854 (by decide +kernel) (by decide +kernel), gp_in 72 (by decide +kernel) (by decide +kernel), by decide +kernel, by decide⟩
theorem mb_X10_goAll : gp_Mb mX10_goAll 1 := ⟨gp_in 850 (by decide +kernel) (by decide +kernel), gp_in 72 (by decide +kernel) (by decide +kernel), by decide +kernel, by decide⟩
theorem mb_X10_markBy : gp_Mb mX10_markBy 1 := ⟨gp_in 873 (by decide +kernel) (by decide +kernel), gp_in 72 (by decide +kernel) (by decide +kernel), by decide +kernel, by decide⟩
theorem mb_X10_addFault : gp_Mb mX10_addFault 1 := ⟨gp_in 846 (by decide +kernel) (by decide +kernel), gp_in 72 (by decide +kernel) (by decide +kernel), by decide +kernel, by decide⟩
theorem mb_X10_layFaults : gp_Mb mX10_layFaults 0 := ⟨gp_in 842 (by decide +kernel) (by decide +kernel), gp_in 72 (by decide +kernel) (by decide +kernel), by decide +kernel, by decide⟩
theorem mb_X10_layShown : gp_Mb mX10_layShown 0 := ⟨gp_in 869 (by decide +kernel) (by decide +kernel), gp_in 72 (by decide +kernel) (by decide +kernel), by decide +kernel, by decide⟩
theorem mb_X10_layNow : gp_Mb mX10_layNow 0 := ⟨gp_in 877 (by decide +kernel) (by decide +kernel), gp_in 72 (by decide +kernel) (by decide +kernel), by decide +kernel, by decide⟩
theorem mb_X10_begins : gp_Mb mX10_begins 0 := ⟨gp_in 838 (by decide +kernel) (by decide +kernel), gp_in 72 (by decide +kernel) (by decide +kernel), by decide +kernel, by decide⟩
theorem mb_X10_findFault : gp_Mb mX10_findFault 1 := ⟨gp_in 889 (by decide +kernel) (by decide +kernel), gp_in 72 (by decide +kernel) (by decide +kernel), by decide +kernel, by decide⟩
theorem mb_X10_hurt : gp_Mb mX10_hurt 1 := ⟨gp_in 885 (by decide +kernel) (by decide +kernel), gp_in 72 (by decide +kernel) (by decide +kernel), by decide +kernel, by decide⟩
theorem mb_X10_isNode : gp_Mb mX10_isNode 1 := ⟨gp_in 897 (by decide +kernel) (by decide +kernel), gp_in 72 (by decide +kernel) (by decide +kernel), by decide +kernel, by decide⟩
theorem mb_X10_isBad : gp_Mb mX10_isBad 1 := ⟨gp_in 905 (by decide +kernel) (by decide +kernel), gp_in 72 (by decide +kernel) (by decide +kernel), by decide +kernel, by decide⟩
theorem mb_X10_firstOf : gp_Mb mX10_firstOf 1 := ⟨gp_in 909 (by decide +kernel) (by decide +kernel), gp_in 72 (by decide +kernel) (by decide +kernel), by decide +kernel, by decide⟩
theorem mb_X10_nodeNow : gp_Mb mX10_nodeNow 2 := ⟨gp_in 901 (by decide +kernel) (by decide +kernel), gp_in 72 (by decide +kernel) (by decide +kernel), by decide +kernel, by decide⟩
theorem mb_X10_node : gp_Mb mX10_node 2 := ⟨gp_in 893 (by decide +kernel) (by decide +kernel), gp_in 72 (by decide +kernel) (by decide +kernel), by decide +kernel, by decide⟩
theorem mb_X10_shows : gp_Mb mX10_shows 2 := ⟨gp_in 916 (by decide +kernel) (by decide +kernel), gp_in 72 (by decide +kernel) (by decide +kernel), by decide +kernel, by decide⟩
theorem mb_X10_probe : gp_Mb mX10_probe 1 := ⟨gp_in 920 (by decide +kernel) (by decide +kernel), gp_in 72 (by decide +kernel) (by decide +kernel), by decide +kernel, by decide⟩
theorem mb_X10_ones : gp_Mb mX10_ones 1 := ⟨gp_in 927 (by decide +kernel) (by decide +kernel), gp_in 72 (by decide +kernel) (by decide +kernel), by decide +kernel, by decide⟩
theorem mb_X10_forget : gp_Mb mX10_forget 0 := ⟨gp_in 924 (by decide +kernel) (by decide +kernel), gp_in 72 (by decide +kernel) (by decide +kernel), by decide +kernel, by decide⟩
theorem mb_X10_fits : gp_Mb mX10_fits 3 := ⟨gp_in 943 (by decide +kernel) (by decide +kernel), gp_in 72 (by decide +kernel) (by decide +kernel), by decide +kernel, by decide⟩
theorem mb_X10_fitting : gp_Mb mX10_fitting 2 := ⟨gp_in 939 (by decide +kernel) (by decide +kernel), gp_in 72 (by decide +kernel) (by decide +kernel), by decide +kernel, by decide⟩
theorem mb_X10_nextBy : gp_Mb mX10_nextBy 2 := ⟨gp_in 947 (by decide +kernel) (by decide +kernel), gp_in 72 (by decide +kernel) (by decide +kernel), by decide +kernel, by decide⟩
theorem mb_X10_layRest : gp_Mb mX10_layRest 1 := ⟨gp_in 955 (by decide +kernel) (by decide +kernel), gp_in 72 (by decide +kernel) (by decide +kernel), by decide +kernel, by decide⟩
theorem mb_X10_layRests : gp_Mb mX10_layRests 0 := ⟨gp_in 951 (by decide +kernel) (by decide +kernel), gp_in 72 (by decide +kernel) (by decide +kernel), by decide +kernel, by decide⟩
theorem mb_X10_suspectsNow : gp_Mb mX10_suspectsNow 1 := ⟨gp_in 935 (by decide +kernel) (by decide +kernel), gp_in 72 (by decide +kernel) (by decide +kernel), by decide +kernel, by decide⟩
theorem mb_X10_suspects : gp_Mb mX10_suspects 1 := ⟨gp_in 931 (by decide +kernel) (by decide +kernel), gp_in 72 (by decide +kernel) (by decide +kernel), by decide +kernel, by decide⟩
theorem mb_X10_suspectAt : gp_Mb mX10_suspectAt 1 := ⟨gp_in 963 (by decide +kernel) (by decide +kernel), gp_in 72 (by decide +kernel) (by decide +kernel), by decide +kernel, by decide⟩
theorem mb_X10_suspectNow : gp_Mb mX10_suspectNow 2 := ⟨gp_in 967 (by decide +kernel) (by decide +kernel), gp_in 72 (by decide +kernel) (by decide +kernel), by decide +kernel, by decide⟩
theorem mb_X10_suspect : gp_Mb mX10_suspect 2 := ⟨gp_in 959 (by decide +kernel) (by decide +kernel), gp_in 72 (by decide +kernel) (by decide +kernel), by decide +kernel, by decide⟩
theorem mb_X10_isBetter : gp_Mb mX10_isBetter 2 := ⟨gp_in 983 (by decide +kernel) (by decide +kernel), gp_in 72 (by decide +kernel) (by decide +kernel), by decide +kernel, by decide⟩
theorem mb_X10_goesOn : gp_Mb mX10_goesOn 2 := ⟨gp_in 979 (by decide +kernel) (by decide +kernel), gp_in 72 (by decide +kernel) (by decide +kernel), by decide +kernel, by decide⟩
theorem mb_X10_layWay : gp_Mb mX10_layWay 1 := ⟨gp_in 975 (by decide +kernel) (by decide +kernel), gp_in 72 (by decide +kernel) (by decide +kernel), by decide +kernel, by decide⟩
theorem mb_X10_placeOf : gp_Mb mX10_placeOf 1 := ⟨gp_in 991 (by decide +kernel) (by decide +kernel), gp_in 72 (by decide +kernel) (by decide +kernel), by decide +kernel, by decide⟩
theorem mb_X10_way : gp_Mb mX10_way 2 := ⟨gp_in 971 (by decide +kernel) (by decide +kernel), gp_in 72 (by decide +kernel) (by decide +kernel), by decide +kernel, by decide⟩
theorem mb_X10_place : gp_Mb mX10_place 1 := ⟨gp_in 987 (by decide +kernel) (by decide +kernel), gp_in 72 (by decide +kernel) (by decide +kernel), by decide +kernel, by decide⟩
theorem mb_X10_howMany : gp_Mb mX10_howMany 1 := ⟨gp_in 999 (by decide +kernel) (by decide +kernel), gp_in 72 (by decide +kernel) (by decide +kernel), by decide +kernel, by decide⟩
theorem mb_X10_count : gp_Mb mX10_count 1 := ⟨gp_in 995 (by decide +kernel) (by decide +kernel), gp_in 72 (by decide +kernel) (by decide +kernel), by decide +kernel, by decide⟩
theorem mb_X10_mix : gp_Mb mX10_mix 1 := ⟨gp_in 1008 (by decide +kernel) (by decide +kernel), gp_in 72 (by decide +kernel) (by decide +kernel), by decide +kernel, by decide⟩
theorem mb_X10_mixSuspects : gp_Mb mX10_mixSuspects 0 := ⟨gp_in 1013 (by decide +kernel) (by decide +kernel), gp_in 72 (by decide +kernel) (by decide +kernel), by decide +kernel, by decide⟩
theorem mb_X10_digest : gp_Mb mX10_digest 0 := ⟨gp_in 1003 (by decide +kernel) (by decide +kernel), gp_in 72 (by decide +kernel) (by decide +kernel), by decide +kernel, by decide⟩
theorem mb_J13_bitCount_95d88 : gp_Mb mJ13_bitCount_95d88 1 := ⟨gp_in 527 (by decide +kernel) (by decide +kernel), gp_in 74 (by decide +kernel) (by decide +kernel), by decide +kernel, by decide⟩
theorem mb_J9_max_7cf53 : gp_Mb mJ9_max_7cf53 2 := ⟨gp_in 591 (by decide +kernel) (by decide +kernel), gp_in 75 (by decide +kernel) (by decide +kernel), by decide +kernel, by decide⟩
theorem mb_J9_min_7cf53 : gp_Mb mJ9_min_7cf53 2 := ⟨gp_in 549 (by decide +kernel) (by decide +kernel), gp_in 75 (by decide +kernel) (by decide +kernel), by decide +kernel, by decide⟩
theorem mb_J7_fill_53178 : gp_Mb mJ7_fill_53178 2 := ⟨gp_in 222 (by decide +kernel) (by decide +kernel), gp_in 69 (by decide +kernel) (by decide +kernel), by decide +kernel, by decide⟩
theorem ms_X4_22 : gp_Ms RX4 22 mJ7_fill_53178 2 := ⟨mb_J7_fill_53178, gp_in 220 (by decide +kernel) (by decide +kernel), gp_in 221 (by decide +kernel) (by decide +kernel)⟩
theorem ms_X8_29 : gp_Ms RX8 29 mJ7_fill_53178 2 := ⟨mb_J7_fill_53178, gp_in 277 (by decide +kernel) (by decide +kernel), gp_in 221 (by decide +kernel) (by decide +kernel)⟩
theorem mv_L_13 : gp_Mv RL 13 mX9_letter 1 := ⟨mb_X9_letter, gp_in 339 (by decide +kernel) (by decide +kernel), gp_in 340 (by decide +kernel) (by decide +kernel), gp_in 341 (by decide +kernel) (by decide +kernel)⟩
theorem mv_X9_95 : gp_Mv RX9 95 mX3_append 1 := ⟨mb_X3_append, gp_in 343 (by decide +kernel) (by decide +kernel), gp_in 344 (by decide +kernel) (by decide +kernel), gp_in 345 (by decide +kernel) (by decide +kernel)⟩
theorem mv_L_18 : gp_Mv RL 18 mX9_blank 0 := ⟨mb_X9_blank, gp_in 347 (by decide +kernel) (by decide +kernel), gp_in 348 (by decide +kernel) (by decide +kernel), gp_in 349 (by decide +kernel) (by decide +kernel)⟩
theorem mv_X9_99 : gp_Mv RX9 99 mX3_clear 0 := ⟨mb_X3_clear, gp_in 351 (by decide +kernel) (by decide +kernel), gp_in 352 (by decide +kernel) (by decide +kernel), gp_in 353 (by decide +kernel) (by decide +kernel)⟩
theorem mv_L_23 : gp_Mv RL 23 mX9_fault 1 := ⟨mb_X9_fault, gp_in 355 (by decide +kernel) (by decide +kernel), gp_in 356 (by decide +kernel) (by decide +kernel), gp_in 357 (by decide +kernel) (by decide +kernel)⟩
theorem ms_X9_102 : gp_Ms RX9 102 mX6_misfit 1 := ⟨mb_X6_misfit, gp_in 359 (by decide +kernel) (by decide +kernel), gp_in 360 (by decide +kernel) (by decide +kernel)⟩
theorem mn_X6_27 : gp_Mn RX6 27 mX9_figure 1 := ⟨mb_X9_figure, by decide +kernel, gp_in 363 (by decide +kernel) (by decide +kernel)⟩
theorem mv_X9_106 : gp_Mv RX9 106 mX0_read 1 := ⟨mb_X0_read, gp_in 365 (by decide +kernel) (by decide +kernel), gp_in 366 (by decide +kernel) (by decide +kernel), gp_in 367 (by decide +kernel) (by decide +kernel)⟩
theorem mv_X0_39 : gp_Mv RX0 39 mX0_takes 1 := ⟨mb_X0_takes, gp_in 369 (by decide +kernel) (by decide +kernel), gp_in 371 (by decide +kernel) (by decide +kernel), gp_in 0 (by decide +kernel) (by decide +kernel)⟩
theorem mv_X0_43 : gp_Mv RX0 43 mX0_takesInputs 1 := ⟨mb_X0_takesInputs, gp_in 373 (by decide +kernel) (by decide +kernel), gp_in 375 (by decide +kernel) (by decide +kernel), gp_in 1 (by decide +kernel) (by decide +kernel)⟩
theorem ms_X0_55 : gp_Ms RX0 55 mJ7_fill_53178 2 := ⟨mb_J7_fill_53178, gp_in 377 (by decide +kernel) (by decide +kernel), gp_in 221 (by decide +kernel) (by decide +kernel)⟩
theorem mv_X0_46 : gp_Mv RX0 46 mX0_takesGate 1 := ⟨mb_X0_takesGate, gp_in 378 (by decide +kernel) (by decide +kernel), gp_in 380 (by decide +kernel) (by decide +kernel), gp_in 2 (by decide +kernel) (by decide +kernel)⟩
theorem mv_X0_49 : gp_Mv RX0 49 mX0_takesKind 1 := ⟨mb_X0_takesKind, gp_in 382 (by decide +kernel) (by decide +kernel), gp_in 384 (by decide +kernel) (by decide +kernel), gp_in 3 (by decide +kernel) (by decide +kernel)⟩
theorem ms_X0_61 : gp_Ms RX0 61 mX0_kindOf 1 := ⟨mb_X0_kindOf, gp_in 386 (by decide +kernel) (by decide +kernel), gp_in 387 (by decide +kernel) (by decide +kernel)⟩
theorem mv_X0_52 : gp_Mv RX0 52 mX0_takesPin 1 := ⟨mb_X0_takesPin, gp_in 389 (by decide +kernel) (by decide +kernel), gp_in 391 (by decide +kernel) (by decide +kernel), gp_in 4 (by decide +kernel) (by decide +kernel)⟩
theorem mn_X0_65 : gp_Mn RX0 65 mX9_figure 1 := ⟨mb_X9_figure, by decide +kernel, gp_in 363 (by decide +kernel) (by decide +kernel)⟩
theorem mv_X0_68 : gp_Mv RX0 68 mX0_pins 1 := ⟨mb_X0_pins, gp_in 394 (by decide +kernel) (by decide +kernel), gp_in 395 (by decide +kernel) (by decide +kernel), gp_in 396 (by decide +kernel) (by decide +kernel)⟩
theorem mv_L_28 : gp_Mv RL 28 mX9_board 0 := ⟨mb_X9_board, gp_in 398 (by decide +kernel) (by decide +kernel), gp_in 399 (by decide +kernel) (by decide +kernel), gp_in 400 (by decide +kernel) (by decide +kernel)⟩
theorem mv_X9_109 : gp_Mv RX9 109 mX0_isWhole 0 := ⟨mb_X0_isWhole, gp_in 402 (by decide +kernel) (by decide +kernel), gp_in 403 (by decide +kernel) (by decide +kernel), gp_in 404 (by decide +kernel) (by decide +kernel)⟩
theorem mv_X9_113 : gp_Mv RX9 113 mX0_isDrivenRightly 0 := ⟨mb_X0_isDrivenRightly, gp_in 406 (by decide +kernel) (by decide +kernel), gp_in 407 (by decide +kernel) (by decide +kernel), gp_in 408 (by decide +kernel) (by decide +kernel)⟩
theorem mv_X0_71 : gp_Mv RX0 71 mX0_driver 2 := ⟨mb_X0_driver, gp_in 410 (by decide +kernel) (by decide +kernel), gp_in 411 (by decide +kernel) (by decide +kernel), gp_in 412 (by decide +kernel) (by decide +kernel)⟩
theorem mv_X0_75 : gp_Mv RX0 75 mX0_mayDrive 2 := ⟨mb_X0_mayDrive, gp_in 414 (by decide +kernel) (by decide +kernel), gp_in 416 (by decide +kernel) (by decide +kernel), gp_in 5 (by decide +kernel) (by decide +kernel)⟩
theorem mv_X0_79 : gp_Mv RX0 79 mX0_has 1 := ⟨mb_X0_has, gp_in 418 (by decide +kernel) (by decide +kernel), gp_in 419 (by decide +kernel) (by decide +kernel), gp_in 420 (by decide +kernel) (by decide +kernel)⟩
theorem mv_X9_116 : gp_Mv RX9 116 mX0_copyFrom 1 := ⟨mb_X0_copyFrom, gp_in 422 (by decide +kernel) (by decide +kernel), gp_in 423 (by decide +kernel) (by decide +kernel), gp_in 424 (by decide +kernel) (by decide +kernel)⟩
theorem mv_X9_119 : gp_Mv RX9 119 mX9_simulateFaults 0 := ⟨mb_X9_simulateFaults, gp_in 429 (by decide +kernel) (by decide +kernel), gp_in 431 (by decide +kernel) (by decide +kernel), gp_in 6 (by decide +kernel) (by decide +kernel)⟩
theorem mv_X9_258 : gp_Mv RX9 258 mX5_run 2 := ⟨mb_X5_run, gp_in 433 (by decide +kernel) (by decide +kernel), gp_in 434 (by decide +kernel) (by decide +kernel), gp_in 435 (by decide +kernel) (by decide +kernel)⟩
theorem mv_X5_30 : gp_Mv RX5 30 mX2_clear 0 := ⟨mb_X2_clear, gp_in 437 (by decide +kernel) (by decide +kernel), gp_in 438 (by decide +kernel) (by decide +kernel), gp_in 439 (by decide +kernel) (by decide +kernel)⟩
theorem ms_X2_18 : gp_Ms RX2 18 mJ7_fill_53178 2 := ⟨mb_J7_fill_53178, gp_in 441 (by decide +kernel) (by decide +kernel), gp_in 221 (by decide +kernel) (by decide +kernel)⟩
theorem mv_X5_46 : gp_Mv RX5 46 mX5_setNodes 2 := ⟨mb_X5_setNodes, gp_in 443 (by decide +kernel) (by decide +kernel), gp_in 445 (by decide +kernel) (by decide +kernel), gp_in 7 (by decide +kernel) (by decide +kernel)⟩
theorem mv_X5_62 : gp_Mv RX5 62 mX5_value 2 := ⟨mb_X5_value, gp_in 447 (by decide +kernel) (by decide +kernel), gp_in 449 (by decide +kernel) (by decide +kernel), gp_in 8 (by decide +kernel) (by decide +kernel)⟩
theorem mv_X5_66 : gp_Mv RX5 66 mX6_bit 2 := ⟨mb_X6_bit, gp_in 451 (by decide +kernel) (by decide +kernel), gp_in 452 (by decide +kernel) (by decide +kernel), gp_in 453 (by decide +kernel) (by decide +kernel)⟩
theorem mv_X5_69 : gp_Mv RX5 69 mX5_pinValue 3 := ⟨mb_X5_pinValue, gp_in 455 (by decide +kernel) (by decide +kernel), gp_in 457 (by decide +kernel) (by decide +kernel), gp_in 9 (by decide +kernel) (by decide +kernel)⟩
theorem mv_X5_55 : gp_Mv RX5 55 mX2_add 3 := ⟨mb_X2_add, gp_in 459 (by decide +kernel) (by decide +kernel), gp_in 460 (by decide +kernel) (by decide +kernel), gp_in 461 (by decide +kernel) (by decide +kernel)⟩
theorem mv_X9_262 : gp_Mv RX9 262 mX1_list 1 := ⟨mb_X1_list, gp_in 463 (by decide +kernel) (by decide +kernel), gp_in 464 (by decide +kernel) (by decide +kernel), gp_in 465 (by decide +kernel) (by decide +kernel)⟩
theorem mv_X1_30 : gp_Mv RX1 30 mX1_add 1 := ⟨mb_X1_add, gp_in 467 (by decide +kernel) (by decide +kernel), gp_in 469 (by decide +kernel) (by decide +kernel), gp_in 10 (by decide +kernel) (by decide +kernel)⟩
theorem mv_X1_34 : gp_Mv RX1 34 mX0_pins 1 := ⟨mb_X0_pins, gp_in 471 (by decide +kernel) (by decide +kernel), gp_in 395 (by decide +kernel) (by decide +kernel), gp_in 396 (by decide +kernel) (by decide +kernel)⟩
theorem mv_X9_265 : gp_Mv RX9 265 mX2_badNodes 1 := ⟨mb_X2_badNodes, gp_in 472 (by decide +kernel) (by decide +kernel), gp_in 473 (by decide +kernel) (by decide +kernel), gp_in 474 (by decide +kernel) (by decide +kernel)⟩
theorem mv_X2_24 : gp_Mv RX2 24 mX2_isBad 2 := ⟨mb_X2_isBad, gp_in 476 (by decide +kernel) (by decide +kernel), gp_in 477 (by decide +kernel) (by decide +kernel), gp_in 478 (by decide +kernel) (by decide +kernel)⟩
theorem mv_X9_269 : gp_Mv RX9 269 mX2_unlikeNodes 1 := ⟨mb_X2_unlikeNodes, gp_in 480 (by decide +kernel) (by decide +kernel), gp_in 481 (by decide +kernel) (by decide +kernel), gp_in 482 (by decide +kernel) (by decide +kernel)⟩
theorem mv_X9_272 : gp_Mv RX9 272 mX7_learn 1 := ⟨mb_X7_learn, gp_in 484 (by decide +kernel) (by decide +kernel), gp_in 485 (by decide +kernel) (by decide +kernel), gp_in 486 (by decide +kernel) (by decide +kernel)⟩
theorem mv_X9_122 : gp_Mv RX9 122 mX9_simulateNow 0 := ⟨mb_X9_simulateNow, gp_in 488 (by decide +kernel) (by decide +kernel), gp_in 490 (by decide +kernel) (by decide +kernel), gp_in 11 (by decide +kernel) (by decide +kernel)⟩
theorem mv_X9_276 : gp_Mv RX9 276 mX8_learn 2 := ⟨mb_X8_learn, gp_in 492 (by decide +kernel) (by decide +kernel), gp_in 493 (by decide +kernel) (by decide +kernel), gp_in 494 (by decide +kernel) (by decide +kernel)⟩
theorem mv_X8_35 : gp_Mv RX8 35 mX2_firstUnlike 2 := ⟨mb_X2_firstUnlike, gp_in 496 (by decide +kernel) (by decide +kernel), gp_in 497 (by decide +kernel) (by decide +kernel), gp_in 498 (by decide +kernel) (by decide +kernel)⟩
theorem mv_X9_183 : gp_Mv RX9 183 mX9_forgetProbes 0 := ⟨mb_X9_forgetProbes, gp_in 500 (by decide +kernel) (by decide +kernel), gp_in 502 (by decide +kernel) (by decide +kernel), gp_in 12 (by decide +kernel) (by decide +kernel)⟩
theorem mv_X9_279 : gp_Mv RX9 279 mX4_clear 0 := ⟨mb_X4_clear, gp_in 504 (by decide +kernel) (by decide +kernel), gp_in 505 (by decide +kernel) (by decide +kernel), gp_in 506 (by decide +kernel) (by decide +kernel)⟩
theorem mv_X9_176 : gp_Mv RX9 176 mX7_choose 1 := ⟨mb_X7_choose, gp_in 508 (by decide +kernel) (by decide +kernel), gp_in 509 (by decide +kernel) (by decide +kernel), gp_in 510 (by decide +kernel) (by decide +kernel)⟩
theorem mv_X7_47 : gp_Mv RX7 47 mX7_side 2 := ⟨mb_X7_side, gp_in 512 (by decide +kernel) (by decide +kernel), gp_in 514 (by decide +kernel) (by decide +kernel), gp_in 13 (by decide +kernel) (by decide +kernel)⟩
theorem mv_X7_51 : gp_Mv RX7 51 mX7_listMembers 1 := ⟨mb_X7_listMembers, gp_in 517 (by decide +kernel) (by decide +kernel), gp_in 519 (by decide +kernel) (by decide +kernel), gp_in 14 (by decide +kernel) (by decide +kernel)⟩
theorem mv_X7_55 : gp_Mv RX7 55 mX7_nextOf 2 := ⟨mb_X7_nextOf, gp_in 521 (by decide +kernel) (by decide +kernel), gp_in 523 (by decide +kernel) (by decide +kernel), gp_in 15 (by decide +kernel) (by decide +kernel)⟩
theorem ms_X7_65 : gp_Ms RX7 65 mJ13_bitCount_95d88 1 := ⟨mb_J13_bitCount_95d88, gp_in 525 (by decide +kernel) (by decide +kernel), gp_in 526 (by decide +kernel) (by decide +kernel)⟩
theorem mv_X7_59 : gp_Mv RX7 59 mX7_goOn 3 := ⟨mb_X7_goOn, gp_in 531 (by decide +kernel) (by decide +kernel), gp_in 533 (by decide +kernel) (by decide +kernel), gp_in 16 (by decide +kernel) (by decide +kernel)⟩
theorem mv_X7_71 : gp_Mv RX7 71 mX7_end 2 := ⟨mb_X7_end, gp_in 535 (by decide +kernel) (by decide +kernel), gp_in 537 (by decide +kernel) (by decide +kernel), gp_in 17 (by decide +kernel) (by decide +kernel)⟩
theorem mv_L_32 : gp_Mv RL 32 mX9_stimulus 0 := ⟨mb_X9_stimulus, gp_in 539 (by decide +kernel) (by decide +kernel), gp_in 540 (by decide +kernel) (by decide +kernel), gp_in 541 (by decide +kernel) (by decide +kernel)⟩
theorem mv_X9_128 : gp_Mv RX9 128 mX6_read 1 := ⟨mb_X6_read, gp_in 543 (by decide +kernel) (by decide +kernel), gp_in 544 (by decide +kernel) (by decide +kernel), gp_in 545 (by decide +kernel) (by decide +kernel)⟩
theorem ms_X6_31 : gp_Ms RX6 31 mJ9_min_7cf53 2 := ⟨mb_J9_min_7cf53, gp_in 547 (by decide +kernel) (by decide +kernel), gp_in 548 (by decide +kernel) (by decide +kernel)⟩
theorem mv_L_36 : gp_Mv RL 36 mX9_hurt 1 := ⟨mb_X9_hurt, gp_in 550 (by decide +kernel) (by decide +kernel), gp_in 551 (by decide +kernel) (by decide +kernel), gp_in 552 (by decide +kernel) (by decide +kernel)⟩
theorem mv_X9_134 : gp_Mv RX9 134 mX1_indexOf 1 := ⟨mb_X1_indexOf, gp_in 554 (by decide +kernel) (by decide +kernel), gp_in 555 (by decide +kernel) (by decide +kernel), gp_in 556 (by decide +kernel) (by decide +kernel)⟩
theorem mv_L_40 : gp_Mv RL 40 mX9_node 2 := ⟨mb_X9_node, gp_in 558 (by decide +kernel) (by decide +kernel), gp_in 559 (by decide +kernel) (by decide +kernel), gp_in 560 (by decide +kernel) (by decide +kernel)⟩
theorem mv_X9_138 : gp_Mv RX9 138 mX0_has 1 := ⟨mb_X0_has, gp_in 562 (by decide +kernel) (by decide +kernel), gp_in 419 (by decide +kernel) (by decide +kernel), gp_in 420 (by decide +kernel) (by decide +kernel)⟩
theorem mv_X9_146 : gp_Mv RX9 146 mX0_driver 2 := ⟨mb_X0_driver, gp_in 563 (by decide +kernel) (by decide +kernel), gp_in 411 (by decide +kernel) (by decide +kernel), gp_in 412 (by decide +kernel) (by decide +kernel)⟩
theorem mv_X9_156 : gp_Mv RX9 156 mX2_isBad 2 := ⟨mb_X2_isBad, gp_in 564 (by decide +kernel) (by decide +kernel), gp_in 477 (by decide +kernel) (by decide +kernel), gp_in 478 (by decide +kernel) (by decide +kernel)⟩
theorem mv_L_45 : gp_Mv RL 45 mX9_shows 2 := ⟨mb_X9_shows, gp_in 565 (by decide +kernel) (by decide +kernel), gp_in 566 (by decide +kernel) (by decide +kernel), gp_in 567 (by decide +kernel) (by decide +kernel)⟩
theorem mv_L_49 : gp_Mv RL 49 mX9_probe 1 := ⟨mb_X9_probe, gp_in 569 (by decide +kernel) (by decide +kernel), gp_in 570 (by decide +kernel) (by decide +kernel), gp_in 571 (by decide +kernel) (by decide +kernel)⟩
theorem mv_X9_172 : gp_Mv RX9 172 mX4_add 2 := ⟨mb_X4_add, gp_in 573 (by decide +kernel) (by decide +kernel), gp_in 574 (by decide +kernel) (by decide +kernel), gp_in 575 (by decide +kernel) (by decide +kernel)⟩
theorem mv_L_53 : gp_Mv RL 53 mX9_forget 0 := ⟨mb_X9_forget, gp_in 577 (by decide +kernel) (by decide +kernel), gp_in 578 (by decide +kernel) (by decide +kernel), gp_in 579 (by decide +kernel) (by decide +kernel)⟩
theorem mv_L_57 : gp_Mv RL 57 mX9_suspects 1 := ⟨mb_X9_suspects, gp_in 581 (by decide +kernel) (by decide +kernel), gp_in 582 (by decide +kernel) (by decide +kernel), gp_in 583 (by decide +kernel) (by decide +kernel)⟩
theorem mv_X9_190 : gp_Mv RX9 190 mX7_mostSteps 0 := ⟨mb_X7_mostSteps, gp_in 585 (by decide +kernel) (by decide +kernel), gp_in 586 (by decide +kernel) (by decide +kernel), gp_in 587 (by decide +kernel) (by decide +kernel)⟩
theorem ms_X7_75 : gp_Ms RX7 75 mJ9_max_7cf53 2 := ⟨mb_J9_max_7cf53, gp_in 589 (by decide +kernel) (by decide +kernel), gp_in 590 (by decide +kernel) (by decide +kernel)⟩
theorem mv_X9_194 : gp_Mv RX9 194 mX7_allSteps 0 := ⟨mb_X7_allSteps, gp_in 592 (by decide +kernel) (by decide +kernel), gp_in 593 (by decide +kernel) (by decide +kernel), gp_in 594 (by decide +kernel) (by decide +kernel)⟩
theorem mv_X9_197 : gp_Mv RX9 197 mX7_greatestRest 0 := ⟨mb_X7_greatestRest, gp_in 596 (by decide +kernel) (by decide +kernel), gp_in 597 (by decide +kernel) (by decide +kernel), gp_in 598 (by decide +kernel) (by decide +kernel)⟩
theorem mv_L_61 : gp_Mv RL 61 mX9_suspect 2 := ⟨mb_X9_suspect, gp_in 600 (by decide +kernel) (by decide +kernel), gp_in 601 (by decide +kernel) (by decide +kernel), gp_in 602 (by decide +kernel) (by decide +kernel)⟩
theorem mv_L_65 : gp_Mv RL 65 mX9_way 2 := ⟨mb_X9_way, gp_in 604 (by decide +kernel) (by decide +kernel), gp_in 605 (by decide +kernel) (by decide +kernel), gp_in 606 (by decide +kernel) (by decide +kernel)⟩
theorem mv_X9_212 : gp_Mv RX9 212 mX8_goFrom 1 := ⟨mb_X8_goFrom, gp_in 608 (by decide +kernel) (by decide +kernel), gp_in 609 (by decide +kernel) (by decide +kernel), gp_in 610 (by decide +kernel) (by decide +kernel)⟩
theorem mv_X8_41 : gp_Mv RX8 41 mX8_source 1 := ⟨mb_X8_source, gp_in 612 (by decide +kernel) (by decide +kernel), gp_in 614 (by decide +kernel) (by decide +kernel), gp_in 18 (by decide +kernel) (by decide +kernel)⟩
theorem mv_X8_45 : gp_Mv RX8 45 mX0_pins 1 := ⟨mb_X0_pins, gp_in 616 (by decide +kernel) (by decide +kernel), gp_in 395 (by decide +kernel) (by decide +kernel), gp_in 396 (by decide +kernel) (by decide +kernel)⟩
theorem mv_X8_50 : gp_Mv RX8 50 mX0_driver 2 := ⟨mb_X0_driver, gp_in 617 (by decide +kernel) (by decide +kernel), gp_in 411 (by decide +kernel) (by decide +kernel), gp_in 412 (by decide +kernel) (by decide +kernel)⟩
theorem mv_X8_54 : gp_Mv RX8 54 mX8_leadsTo 2 := ⟨mb_X8_leadsTo, gp_in 618 (by decide +kernel) (by decide +kernel), gp_in 620 (by decide +kernel) (by decide +kernel), gp_in 19 (by decide +kernel) (by decide +kernel)⟩
theorem mv_X8_61 : gp_Mv RX8 61 mX0_has 1 := ⟨mb_X0_has, gp_in 622 (by decide +kernel) (by decide +kernel), gp_in 419 (by decide +kernel) (by decide +kernel), gp_in 420 (by decide +kernel) (by decide +kernel)⟩
theorem mv_X8_58 : gp_Mv RX8 58 mX8_isSooner 2 := ⟨mb_X8_isSooner, gp_in 623 (by decide +kernel) (by decide +kernel), gp_in 625 (by decide +kernel) (by decide +kernel), gp_in 20 (by decide +kernel) (by decide +kernel)⟩
theorem mv_X9_215 : gp_Mv RX9 215 mX8_at 1 := ⟨mb_X8_at, gp_in 627 (by decide +kernel) (by decide +kernel), gp_in 628 (by decide +kernel) (by decide +kernel), gp_in 629 (by decide +kernel) (by decide +kernel)⟩
theorem mv_L_69 : gp_Mv RL 69 mX9_place 1 := ⟨mb_X9_place, gp_in 631 (by decide +kernel) (by decide +kernel), gp_in 632 (by decide +kernel) (by decide +kernel), gp_in 633 (by decide +kernel) (by decide +kernel)⟩
theorem mv_L_73 : gp_Mv RL 73 mX9_count 1 := ⟨mb_X9_count, gp_in 635 (by decide +kernel) (by decide +kernel), gp_in 636 (by decide +kernel) (by decide +kernel), gp_in 637 (by decide +kernel) (by decide +kernel)⟩
theorem mv_L_77 : gp_Mv RL 77 mX9_digest 0 := ⟨mb_X9_digest, gp_in 639 (by decide +kernel) (by decide +kernel), gp_in 640 (by decide +kernel) (by decide +kernel), gp_in 641 (by decide +kernel) (by decide +kernel)⟩
theorem mv_X9_228 : gp_Mv RX9 228 mX9_digestNodes 1 := ⟨mb_X9_digestNodes, gp_in 644 (by decide +kernel) (by decide +kernel), gp_in 646 (by decide +kernel) (by decide +kernel), gp_in 21 (by decide +kernel) (by decide +kernel)⟩
theorem mv_X9_249 : gp_Mv RX9 249 mX9_node 2 := ⟨mb_X9_node, gp_in 649 (by decide +kernel) (by decide +kernel), gp_in 559 (by decide +kernel) (by decide +kernel), gp_in 560 (by decide +kernel) (by decide +kernel)⟩
theorem mv_X9_252 : gp_Mv RX9 252 mX9_place 1 := ⟨mb_X9_place, gp_in 650 (by decide +kernel) (by decide +kernel), gp_in 632 (by decide +kernel) (by decide +kernel), gp_in 633 (by decide +kernel) (by decide +kernel)⟩
theorem mv_X9_232 : gp_Mv RX9 232 mX9_digestFaults 1 := ⟨mb_X9_digestFaults, gp_in 651 (by decide +kernel) (by decide +kernel), gp_in 653 (by decide +kernel) (by decide +kernel), gp_in 22 (by decide +kernel) (by decide +kernel)⟩
theorem mv_X9_237 : gp_Mv RX9 237 mX9_suspects 1 := ⟨mb_X9_suspects, gp_in 655 (by decide +kernel) (by decide +kernel), gp_in 582 (by decide +kernel) (by decide +kernel), gp_in 583 (by decide +kernel) (by decide +kernel)⟩
theorem mv_X9_240 : gp_Mv RX9 240 mX9_digestSuspects 1 := ⟨mb_X9_digestSuspects, gp_in 656 (by decide +kernel) (by decide +kernel), gp_in 658 (by decide +kernel) (by decide +kernel), gp_in 23 (by decide +kernel) (by decide +kernel)⟩
theorem mv_X9_255 : gp_Mv RX9 255 mX9_suspect 2 := ⟨mb_X9_suspect, gp_in 660 (by decide +kernel) (by decide +kernel), gp_in 601 (by decide +kernel) (by decide +kernel), gp_in 602 (by decide +kernel) (by decide +kernel)⟩
theorem mv_X9_246 : gp_Mv RX9 246 mX9_count 1 := ⟨mb_X9_count, gp_in 661 (by decide +kernel) (by decide +kernel), gp_in 636 (by decide +kernel) (by decide +kernel), gp_in 637 (by decide +kernel) (by decide +kernel)⟩
theorem mv_L_17 : gp_Mv RL 17 mX10_letter 1 := ⟨mb_X10_letter, gp_in 783 (by decide +kernel) (by decide +kernel), gp_in 784 (by decide +kernel) (by decide +kernel), gp_in 785 (by decide +kernel) (by decide +kernel)⟩
theorem ms_X10_55 : gp_Ms RX10 55 mX10_within 3 := ⟨mb_X10_within, gp_in 787 (by decide +kernel) (by decide +kernel), gp_in 788 (by decide +kernel) (by decide +kernel)⟩
theorem mv_L_22 : gp_Mv RL 22 mX10_blank 0 := ⟨mb_X10_blank, gp_in 790 (by decide +kernel) (by decide +kernel), gp_in 791 (by decide +kernel) (by decide +kernel), gp_in 792 (by decide +kernel) (by decide +kernel)⟩
theorem mv_L_27 : gp_Mv RL 27 mX10_fault 1 := ⟨mb_X10_fault, gp_in 794 (by decide +kernel) (by decide +kernel), gp_in 795 (by decide +kernel) (by decide +kernel), gp_in 796 (by decide +kernel) (by decide +kernel)⟩
theorem mv_X10_97 : gp_Mv RX10 97 mX10_goFigures 0 := ⟨mb_X10_goFigures, gp_in 798 (by decide +kernel) (by decide +kernel), gp_in 800 (by decide +kernel) (by decide +kernel), gp_in 24 (by decide +kernel) (by decide +kernel)⟩
theorem ms_X10_63 : gp_Ms RX10 63 mX10_figure 2 := ⟨mb_X10_figure, gp_in 802 (by decide +kernel) (by decide +kernel), gp_in 803 (by decide +kernel) (by decide +kernel)⟩
theorem mv_X10_101 : gp_Mv RX10 101 mX10_goAlong 0 := ⟨mb_X10_goAlong, gp_in 805 (by decide +kernel) (by decide +kernel), gp_in 807 (by decide +kernel) (by decide +kernel), gp_in 25 (by decide +kernel) (by decide +kernel)⟩
theorem mv_X10_94 : gp_Mv RX10 94 mX10_takes 1 := ⟨mb_X10_takes, gp_in 809 (by decide +kernel) (by decide +kernel), gp_in 811 (by decide +kernel) (by decide +kernel), gp_in 26 (by decide +kernel) (by decide +kernel)⟩
theorem mv_X10_87 : gp_Mv RX10 87 mX10_takesPin 1 := ⟨mb_X10_takesPin, gp_in 813 (by decide +kernel) (by decide +kernel), gp_in 815 (by decide +kernel) (by decide +kernel), gp_in 27 (by decide +kernel) (by decide +kernel)⟩
theorem ms_X10_76 : gp_Ms RX10 76 mX10_pinsOf 1 := ⟨mb_X10_pinsOf, gp_in 817 (by decide +kernel) (by decide +kernel), gp_in 818 (by decide +kernel) (by decide +kernel)⟩
theorem ms_X10_91 : gp_Ms RX10 91 mX10_kindBy 1 := ⟨mb_X10_kindBy, gp_in 820 (by decide +kernel) (by decide +kernel), gp_in 821 (by decide +kernel) (by decide +kernel)⟩
theorem mv_L_31 : gp_Mv RL 31 mX10_board 0 := ⟨mb_X10_board, gp_in 823 (by decide +kernel) (by decide +kernel), gp_in 824 (by decide +kernel) (by decide +kernel), gp_in 825 (by decide +kernel) (by decide +kernel)⟩
theorem mv_X10_108 : gp_Mv RX10 108 mX10_isBoard 0 := ⟨mb_X10_isBoard, gp_in 827 (by decide +kernel) (by decide +kernel), gp_in 829 (by decide +kernel) (by decide +kernel), gp_in 28 (by decide +kernel) (by decide +kernel)⟩
theorem mv_X10_104 : gp_Mv RX10 104 mX10_mayDrive 2 := ⟨mb_X10_mayDrive, gp_in 831 (by decide +kernel) (by decide +kernel), gp_in 833 (by decide +kernel) (by decide +kernel), gp_in 29 (by decide +kernel) (by decide +kernel)⟩
theorem mv_X10_124 : gp_Mv RX10 124 mX10_begins 0 := ⟨mb_X10_begins, gp_in 835 (by decide +kernel) (by decide +kernel), gp_in 837 (by decide +kernel) (by decide +kernel), gp_in 30 (by decide +kernel) (by decide +kernel)⟩
theorem mv_X10_167 : gp_Mv RX10 167 mX10_layFaults 0 := ⟨mb_X10_layFaults, gp_in 839 (by decide +kernel) (by decide +kernel), gp_in 841 (by decide +kernel) (by decide +kernel), gp_in 31 (by decide +kernel) (by decide +kernel)⟩
theorem mv_X10_151 : gp_Mv RX10 151 mX10_addFault 1 := ⟨mb_X10_addFault, gp_in 843 (by decide +kernel) (by decide +kernel), gp_in 845 (by decide +kernel) (by decide +kernel), gp_in 32 (by decide +kernel) (by decide +kernel)⟩
theorem mv_X10_155 : gp_Mv RX10 155 mX10_goAll 1 := ⟨mb_X10_goAll, gp_in 847 (by decide +kernel) (by decide +kernel), gp_in 849 (by decide +kernel) (by decide +kernel), gp_in 33 (by decide +kernel) (by decide +kernel)⟩
theorem mv_X10_144 : gp_Mv RX10 144 mX10_goTick 2 := ⟨mb_X10_goTick, gp_in 851 (by decide +kernel) (by decide +kernel), gp_in 853 (by decide +kernel) (by decide +kernel), gp_in 34 (by decide +kernel) (by decide +kernel)⟩
theorem ms_X10_137 : gp_Ms RX10 137 mX10_isStuck 2 := ⟨mb_X10_isStuck, gp_in 855 (by decide +kernel) (by decide +kernel), gp_in 856 (by decide +kernel) (by decide +kernel)⟩
theorem mv_X10_140 : gp_Mv RX10 140 mX10_plainValue 3 := ⟨mb_X10_plainValue, gp_in 858 (by decide +kernel) (by decide +kernel), gp_in 860 (by decide +kernel) (by decide +kernel), gp_in 35 (by decide +kernel) (by decide +kernel)⟩
theorem mv_X10_133 : gp_Mv RX10 133 mX10_pinValue 4 := ⟨mb_X10_pinValue, gp_in 862 (by decide +kernel) (by decide +kernel), gp_in 864 (by decide +kernel) (by decide +kernel), gp_in 36 (by decide +kernel) (by decide +kernel)⟩
theorem mv_X10_170 : gp_Mv RX10 170 mX10_layShown 0 := ⟨mb_X10_layShown, gp_in 866 (by decide +kernel) (by decide +kernel), gp_in 868 (by decide +kernel) (by decide +kernel), gp_in 37 (by decide +kernel) (by decide +kernel)⟩
theorem mv_X10_158 : gp_Mv RX10 158 mX10_markBy 1 := ⟨mb_X10_markBy, gp_in 870 (by decide +kernel) (by decide +kernel), gp_in 872 (by decide +kernel) (by decide +kernel), gp_in 38 (by decide +kernel) (by decide +kernel)⟩
theorem mv_X10_173 : gp_Mv RX10 173 mX10_layNow 0 := ⟨mb_X10_layNow, gp_in 874 (by decide +kernel) (by decide +kernel), gp_in 876 (by decide +kernel) (by decide +kernel), gp_in 39 (by decide +kernel) (by decide +kernel)⟩
theorem mv_L_35 : gp_Mv RL 35 mX10_stimulus 0 := ⟨mb_X10_stimulus, gp_in 878 (by decide +kernel) (by decide +kernel), gp_in 879 (by decide +kernel) (by decide +kernel), gp_in 880 (by decide +kernel) (by decide +kernel)⟩
theorem mv_L_39 : gp_Mv RL 39 mX10_hurt 1 := ⟨mb_X10_hurt, gp_in 882 (by decide +kernel) (by decide +kernel), gp_in 883 (by decide +kernel) (by decide +kernel), gp_in 884 (by decide +kernel) (by decide +kernel)⟩
theorem mv_X10_176 : gp_Mv RX10 176 mX10_findFault 1 := ⟨mb_X10_findFault, gp_in 886 (by decide +kernel) (by decide +kernel), gp_in 888 (by decide +kernel) (by decide +kernel), gp_in 40 (by decide +kernel) (by decide +kernel)⟩
theorem mv_L_44 : gp_Mv RL 44 mX10_node 2 := ⟨mb_X10_node, gp_in 890 (by decide +kernel) (by decide +kernel), gp_in 891 (by decide +kernel) (by decide +kernel), gp_in 892 (by decide +kernel) (by decide +kernel)⟩
theorem mv_X10_188 : gp_Mv RX10 188 mX10_isNode 1 := ⟨mb_X10_isNode, gp_in 894 (by decide +kernel) (by decide +kernel), gp_in 896 (by decide +kernel) (by decide +kernel), gp_in 41 (by decide +kernel) (by decide +kernel)⟩
theorem mv_X10_191 : gp_Mv RX10 191 mX10_nodeNow 2 := ⟨mb_X10_nodeNow, gp_in 898 (by decide +kernel) (by decide +kernel), gp_in 900 (by decide +kernel) (by decide +kernel), gp_in 42 (by decide +kernel) (by decide +kernel)⟩
theorem mv_X10_182 : gp_Mv RX10 182 mX10_isBad 1 := ⟨mb_X10_isBad, gp_in 902 (by decide +kernel) (by decide +kernel), gp_in 904 (by decide +kernel) (by decide +kernel), gp_in 43 (by decide +kernel) (by decide +kernel)⟩
theorem mv_X10_185 : gp_Mv RX10 185 mX10_firstOf 1 := ⟨mb_X10_firstOf, gp_in 906 (by decide +kernel) (by decide +kernel), gp_in 908 (by decide +kernel) (by decide +kernel), gp_in 44 (by decide +kernel) (by decide +kernel)⟩
theorem ms_X10_179 : gp_Ms RX10 179 mX10_has 2 := ⟨mb_X10_has, gp_in 910 (by decide +kernel) (by decide +kernel), gp_in 911 (by decide +kernel) (by decide +kernel)⟩
theorem mv_L_48 : gp_Mv RL 48 mX10_shows 2 := ⟨mb_X10_shows, gp_in 913 (by decide +kernel) (by decide +kernel), gp_in 914 (by decide +kernel) (by decide +kernel), gp_in 915 (by decide +kernel) (by decide +kernel)⟩
theorem mv_L_52 : gp_Mv RL 52 mX10_probe 1 := ⟨mb_X10_probe, gp_in 917 (by decide +kernel) (by decide +kernel), gp_in 918 (by decide +kernel) (by decide +kernel), gp_in 919 (by decide +kernel) (by decide +kernel)⟩
theorem mv_L_56 : gp_Mv RL 56 mX10_forget 0 := ⟨mb_X10_forget, gp_in 921 (by decide +kernel) (by decide +kernel), gp_in 922 (by decide +kernel) (by decide +kernel), gp_in 923 (by decide +kernel) (by decide +kernel)⟩
theorem ms_X10_197 : gp_Ms RX10 197 mX10_ones 1 := ⟨mb_X10_ones, gp_in 925 (by decide +kernel) (by decide +kernel), gp_in 926 (by decide +kernel) (by decide +kernel)⟩
theorem mv_L_60 : gp_Mv RL 60 mX10_suspects 1 := ⟨mb_X10_suspects, gp_in 928 (by decide +kernel) (by decide +kernel), gp_in 929 (by decide +kernel) (by decide +kernel), gp_in 930 (by decide +kernel) (by decide +kernel)⟩
theorem mv_X10_230 : gp_Mv RX10 230 mX10_suspectsNow 1 := ⟨mb_X10_suspectsNow, gp_in 932 (by decide +kernel) (by decide +kernel), gp_in 934 (by decide +kernel) (by decide +kernel), gp_in 45 (by decide +kernel) (by decide +kernel)⟩
theorem mv_X10_203 : gp_Mv RX10 203 mX10_fitting 2 := ⟨mb_X10_fitting, gp_in 936 (by decide +kernel) (by decide +kernel), gp_in 938 (by decide +kernel) (by decide +kernel), gp_in 46 (by decide +kernel) (by decide +kernel)⟩
theorem mv_X10_200 : gp_Mv RX10 200 mX10_fits 3 := ⟨mb_X10_fits, gp_in 940 (by decide +kernel) (by decide +kernel), gp_in 942 (by decide +kernel) (by decide +kernel), gp_in 47 (by decide +kernel) (by decide +kernel)⟩
theorem mv_X10_209 : gp_Mv RX10 209 mX10_nextBy 2 := ⟨mb_X10_nextBy, gp_in 944 (by decide +kernel) (by decide +kernel), gp_in 946 (by decide +kernel) (by decide +kernel), gp_in 48 (by decide +kernel) (by decide +kernel)⟩
theorem mv_X10_227 : gp_Mv RX10 227 mX10_layRests 0 := ⟨mb_X10_layRests, gp_in 948 (by decide +kernel) (by decide +kernel), gp_in 950 (by decide +kernel) (by decide +kernel), gp_in 49 (by decide +kernel) (by decide +kernel)⟩
theorem mv_X10_224 : gp_Mv RX10 224 mX10_layRest 1 := ⟨mb_X10_layRest, gp_in 952 (by decide +kernel) (by decide +kernel), gp_in 954 (by decide +kernel) (by decide +kernel), gp_in 50 (by decide +kernel) (by decide +kernel)⟩
theorem mv_L_64 : gp_Mv RL 64 mX10_suspect 2 := ⟨mb_X10_suspect, gp_in 956 (by decide +kernel) (by decide +kernel), gp_in 957 (by decide +kernel) (by decide +kernel), gp_in 958 (by decide +kernel) (by decide +kernel)⟩
theorem mv_X10_233 : gp_Mv RX10 233 mX10_suspectAt 1 := ⟨mb_X10_suspectAt, gp_in 960 (by decide +kernel) (by decide +kernel), gp_in 962 (by decide +kernel) (by decide +kernel), gp_in 51 (by decide +kernel) (by decide +kernel)⟩
theorem mv_X10_236 : gp_Mv RX10 236 mX10_suspectNow 2 := ⟨mb_X10_suspectNow, gp_in 964 (by decide +kernel) (by decide +kernel), gp_in 966 (by decide +kernel) (by decide +kernel), gp_in 52 (by decide +kernel) (by decide +kernel)⟩
theorem mv_L_68 : gp_Mv RL 68 mX10_way 2 := ⟨mb_X10_way, gp_in 968 (by decide +kernel) (by decide +kernel), gp_in 969 (by decide +kernel) (by decide +kernel), gp_in 970 (by decide +kernel) (by decide +kernel)⟩
theorem mv_X10_248 : gp_Mv RX10 248 mX10_layWay 1 := ⟨mb_X10_layWay, gp_in 972 (by decide +kernel) (by decide +kernel), gp_in 974 (by decide +kernel) (by decide +kernel), gp_in 53 (by decide +kernel) (by decide +kernel)⟩
theorem mv_X10_245 : gp_Mv RX10 245 mX10_goesOn 2 := ⟨mb_X10_goesOn, gp_in 976 (by decide +kernel) (by decide +kernel), gp_in 978 (by decide +kernel) (by decide +kernel), gp_in 54 (by decide +kernel) (by decide +kernel)⟩
theorem mv_X10_239 : gp_Mv RX10 239 mX10_isBetter 2 := ⟨mb_X10_isBetter, gp_in 980 (by decide +kernel) (by decide +kernel), gp_in 982 (by decide +kernel) (by decide +kernel), gp_in 55 (by decide +kernel) (by decide +kernel)⟩
theorem mv_L_72 : gp_Mv RL 72 mX10_place 1 := ⟨mb_X10_place, gp_in 984 (by decide +kernel) (by decide +kernel), gp_in 985 (by decide +kernel) (by decide +kernel), gp_in 986 (by decide +kernel) (by decide +kernel)⟩
theorem mv_X10_251 : gp_Mv RX10 251 mX10_placeOf 1 := ⟨mb_X10_placeOf, gp_in 988 (by decide +kernel) (by decide +kernel), gp_in 990 (by decide +kernel) (by decide +kernel), gp_in 56 (by decide +kernel) (by decide +kernel)⟩
theorem mv_L_76 : gp_Mv RL 76 mX10_count 1 := ⟨mb_X10_count, gp_in 992 (by decide +kernel) (by decide +kernel), gp_in 993 (by decide +kernel) (by decide +kernel), gp_in 994 (by decide +kernel) (by decide +kernel)⟩
theorem mv_X10_254 : gp_Mv RX10 254 mX10_howMany 1 := ⟨mb_X10_howMany, gp_in 996 (by decide +kernel) (by decide +kernel), gp_in 998 (by decide +kernel) (by decide +kernel), gp_in 57 (by decide +kernel) (by decide +kernel)⟩
theorem mv_L_81 : gp_Mv RL 81 mX10_digest 0 := ⟨mb_X10_digest, gp_in 1000 (by decide +kernel) (by decide +kernel), gp_in 1001 (by decide +kernel) (by decide +kernel), gp_in 1002 (by decide +kernel) (by decide +kernel)⟩
theorem mv_X10_263 : gp_Mv RX10 263 mX10_mix 1 := ⟨mb_X10_mix, gp_in 1005 (by decide +kernel) (by decide +kernel), gp_in 1007 (by decide +kernel) (by decide +kernel), gp_in 58 (by decide +kernel) (by decide +kernel)⟩
theorem mv_X10_269 : gp_Mv RX10 269 mX10_mixSuspects 0 := ⟨mb_X10_mixSuspects, gp_in 1010 (by decide +kernel) (by decide +kernel), gp_in 1012 (by decide +kernel) (by decide +kernel), gp_in 59 (by decide +kernel) (by decide +kernel)⟩
theorem lc_X7_63 : Cond.constantLong RX7 63 (-1) ∈ gp_tbl := gp_in 516 (by decide +kernel) (by decide +kernel)
theorem lc_J13_314 : Cond.constantLong RJ13 314 (6148914691236517205) ∈ gp_tbl := gp_in 528 (by decide +kernel) (by decide +kernel)
theorem lc_J13_316 : Cond.constantLong RJ13 316 (3689348814741910323) ∈ gp_tbl := gp_in 529 (by decide +kernel) (by decide +kernel)
theorem lc_J13_318 : Cond.constantLong RJ13 318 (1085102592571150095) ∈ gp_tbl := gp_in 530 (by decide +kernel) (by decide +kernel)
theorem lc_X9_226 : Cond.constantLong RX9 226 (1657) ∈ gp_tbl := gp_in 643 (by decide +kernel) (by decide +kernel)
theorem lc_X9_235 : Cond.constantLong RX9 235 (31) ∈ gp_tbl := gp_in 648 (by decide +kernel) (by decide +kernel)
theorem lc_X10_267 : Cond.constantLong RX10 267 (1657) ∈ gp_tbl := gp_in 1004 (by decide +kernel) (by decide +kernel)
theorem lc_X10_257 : Cond.constantLong RX10 257 (31) ∈ gp_tbl := gp_in 1009 (by decide +kernel) (by decide +kernel)
theorem cp_X0_82 : Cond.methodLink RX0 82 arraycopyName ∈ gp_tbl := gp_in 426 (by decide +kernel) (by decide +kernel)
theorem cp_X5_40 : Cond.methodLink RX5 40 arraycopyName ∈ gp_tbl := gp_in 442 (by decide +kernel) (by decide +kernel)
theorem cp_nat : Cond.native arraycopyName ∈ gp_tbl := gp_in 428 (by decide +kernel) (by decide +kernel)
theorem cp_sta : Cond.static arraycopyName ∈ gp_tbl := gp_in 427 (by decide +kernel) (by decide +kernel)
theorem cp_ini : Cond.initialized "java/lang/System" ∈ gp_tbl := gp_in 73 (by decide +kernel) (by decide +kernel)
end
