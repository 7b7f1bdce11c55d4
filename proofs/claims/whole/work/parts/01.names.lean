-- ===== PART A: goes FIRST, ahead of the names: the tables' words, and 'selects' of the private methods out of them =====
/-- a private method of a class that the tables say can be made, by its rows of tables_1 -/
def lw_okq (q : MethodName × Nat) : Prop := (q.1.cls ≠ "java/lang/invoke/MethodHandle" ∧ q.1.cls ≠ "java/lang/invoke/VarHandle") ∧ Cond.instantiable q.1.cls q.2 ∈ tables_1 ∧ Cond.privateMethod q.1 ∈ tables_1 ∧ Cond.instanceMethod q.1 ∈ tables_1
theorem lw_p0 : lw_okq (⟨"HexWorkbench", "isCell", "(I)Z"⟩, 12) := ⟨⟨by decide +kernel, by decide +kernel⟩, List.mem_of_getElem? (i := 11) (by decide +kernel), List.mem_of_getElem? (i := 191) (by decide +kernel), List.mem_of_getElem? (i := 192) (by decide +kernel)⟩
theorem lw_p1 : lw_okq (⟨"HexWorkbench$Board", "floodUpTo", "(JJJ)J"⟩, 7) := ⟨⟨by decide +kernel, by decide +kernel⟩, List.mem_of_getElem? (i := 45) (by decide +kernel), List.mem_of_getElem? (i := 212) (by decide +kernel), List.mem_of_getElem? (i := 213) (by decide +kernel)⟩
theorem lw_p2 : lw_okq (⟨"HexWorkbench$Game", "apply", "(I)V"⟩, 6) := ⟨⟨by decide +kernel, by decide +kernel⟩, List.mem_of_getElem? (i := 86) (by decide +kernel), List.mem_of_getElem? (i := 229) (by decide +kernel), List.mem_of_getElem? (i := 230) (by decide +kernel)⟩
theorem lw_p3 : lw_okq (⟨"HexWorkbench", "chainAround", "(I)J"⟩, 12) := ⟨⟨by decide +kernel, by decide +kernel⟩, List.mem_of_getElem? (i := 11) (by decide +kernel), List.mem_of_getElem? (i := 322) (by decide +kernel), List.mem_of_getElem? (i := 323) (by decide +kernel)⟩
theorem lw_p4 : lw_okq (⟨"HexWorkbench", "findBridges", "(JJ)I"⟩, 12) := ⟨⟨by decide +kernel, by decide +kernel⟩, List.mem_of_getElem? (i := 11) (by decide +kernel), List.mem_of_getElem? (i := 372) (by decide +kernel), List.mem_of_getElem? (i := 373) (by decide +kernel)⟩
theorem lw_p5 : lw_okq (⟨"HexWorkbench", "bridgePartners", "(JJ)J"⟩, 12) := ⟨⟨by decide +kernel, by decide +kernel⟩, List.mem_of_getElem? (i := 11) (by decide +kernel), List.mem_of_getElem? (i := 376) (by decide +kernel), List.mem_of_getElem? (i := 377) (by decide +kernel)⟩
theorem lw_p6 : lw_okq (⟨"HexWorkbench", "carrierOf", "(I)J"⟩, 12) := ⟨⟨by decide +kernel, by decide +kernel⟩, List.mem_of_getElem? (i := 11) (by decide +kernel), List.mem_of_getElem? (i := 380) (by decide +kernel), List.mem_of_getElem? (i := 381) (by decide +kernel)⟩
theorem lw_p7 : lw_okq (⟨"HexWorkbench", "hasFreeAtMost", "(I)Z"⟩, 12) := ⟨⟨by decide +kernel, by decide +kernel⟩, List.mem_of_getElem? (i := 11) (by decide +kernel), List.mem_of_getElem? (i := 400) (by decide +kernel), List.mem_of_getElem? (i := 401) (by decide +kernel)⟩
theorem lw_p8 : lw_okq (⟨"HexWorkbench$Fillings", "isWon", "(I)Z"⟩, 2) := ⟨⟨by decide +kernel, by decide +kernel⟩, List.mem_of_getElem? (i := 32) (by decide +kernel), List.mem_of_getElem? (i := 435) (by decide +kernel), List.mem_of_getElem? (i := 436) (by decide +kernel)⟩
theorem lw_p9 : lw_okq (⟨"HexWorkbench", "outcomeOfGame", "()I"⟩, 12) := ⟨⟨by decide +kernel, by decide +kernel⟩, List.mem_of_getElem? (i := 11) (by decide +kernel), List.mem_of_getElem? (i := 448) (by decide +kernel), List.mem_of_getElem? (i := 449) (by decide +kernel)⟩
theorem lw_p10 : lw_okq (⟨"HexWorkbench$Contest", "outcome", "(JJZII)I"⟩, 5) := ⟨⟨by decide +kernel, by decide +kernel⟩, List.mem_of_getElem? (i := 116) (by decide +kernel), List.mem_of_getElem? (i := 460) (by decide +kernel), List.mem_of_getElem? (i := 461) (by decide +kernel)⟩
theorem lw_p11 : lw_okq (⟨"HexWorkbench$Contest", "recall", "(I)I"⟩, 5) := ⟨⟨by decide +kernel, by decide +kernel⟩, List.mem_of_getElem? (i := 116) (by decide +kernel), List.mem_of_getElem? (i := 464) (by decide +kernel), List.mem_of_getElem? (i := 465) (by decide +kernel)⟩
theorem lw_p12 : lw_okq (⟨"HexWorkbench$Contest", "bestOutcome", "(JJZII)I"⟩, 5) := ⟨⟨by decide +kernel, by decide +kernel⟩, List.mem_of_getElem? (i := 116) (by decide +kernel), List.mem_of_getElem? (i := 469) (by decide +kernel), List.mem_of_getElem? (i := 470) (by decide +kernel)⟩
theorem lw_p13 : lw_okq (⟨"HexWorkbench$Contest", "remember", "(II)V"⟩, 5) := ⟨⟨by decide +kernel, by decide +kernel⟩, List.mem_of_getElem? (i := 116) (by decide +kernel), List.mem_of_getElem? (i := 486) (by decide +kernel), List.mem_of_getElem? (i := 487) (by decide +kernel)⟩
theorem lw_p14 : lw_okq (⟨"HexWorkbench", "regionError", "(IIIJI)I"⟩, 12) := ⟨⟨by decide +kernel, by decide +kernel⟩, List.mem_of_getElem? (i := 11) (by decide +kernel), List.mem_of_getElem? (i := 517) (by decide +kernel), List.mem_of_getElem? (i := 518) (by decide +kernel)⟩
theorem lw_p15 : lw_okq (⟨"HexWorkbench", "isPlace", "(I)Z"⟩, 12) := ⟨⟨by decide +kernel, by decide +kernel⟩, List.mem_of_getElem? (i := 11) (by decide +kernel), List.mem_of_getElem? (i := 521) (by decide +kernel), List.mem_of_getElem? (i := 522) (by decide +kernel)⟩
def lw_privs_1 : List (MethodName × Nat) := [(⟨"HexWorkbench", "isCell", "(I)Z"⟩, 12), (⟨"HexWorkbench$Board", "floodUpTo", "(JJJ)J"⟩, 7), (⟨"HexWorkbench$Game", "apply", "(I)V"⟩, 6), (⟨"HexWorkbench", "chainAround", "(I)J"⟩, 12), (⟨"HexWorkbench", "findBridges", "(JJ)I"⟩, 12), (⟨"HexWorkbench", "bridgePartners", "(JJ)J"⟩, 12), (⟨"HexWorkbench", "carrierOf", "(I)J"⟩, 12), (⟨"HexWorkbench", "hasFreeAtMost", "(I)Z"⟩, 12), (⟨"HexWorkbench$Fillings", "isWon", "(I)Z"⟩, 2), (⟨"HexWorkbench", "outcomeOfGame", "()I"⟩, 12), (⟨"HexWorkbench$Contest", "outcome", "(JJZII)I"⟩, 5), (⟨"HexWorkbench$Contest", "recall", "(I)I"⟩, 5), (⟨"HexWorkbench$Contest", "bestOutcome", "(JJZII)I"⟩, 5), (⟨"HexWorkbench$Contest", "remember", "(II)V"⟩, 5), (⟨"HexWorkbench", "regionError", "(IIIJI)I"⟩, 12), (⟨"HexWorkbench", "isPlace", "(I)Z"⟩, 12)]
theorem lw_r1 : ∀ q ∈ lw_privs_1, lw_okq q := List.forall_mem_cons.mpr ⟨lw_p0, List.forall_mem_cons.mpr ⟨lw_p1, List.forall_mem_cons.mpr ⟨lw_p2, List.forall_mem_cons.mpr ⟨lw_p3, List.forall_mem_cons.mpr ⟨lw_p4, List.forall_mem_cons.mpr ⟨lw_p5, List.forall_mem_cons.mpr ⟨lw_p6, List.forall_mem_cons.mpr ⟨lw_p7, List.forall_mem_cons.mpr ⟨lw_p8, List.forall_mem_cons.mpr ⟨lw_p9, List.forall_mem_cons.mpr ⟨lw_p10, List.forall_mem_cons.mpr ⟨lw_p11, List.forall_mem_cons.mpr ⟨lw_p12, List.forall_mem_cons.mpr ⟨lw_p13, List.forall_mem_cons.mpr ⟨lw_p14, List.forall_mem_cons.mpr ⟨lw_p15, fun _ h => absurd h List.not_mem_nil⟩⟩⟩⟩⟩⟩⟩⟩⟩⟩⟩⟩⟩⟩⟩⟩
theorem lw_p16 : lw_okq (⟨"HexWorkbench", "canConnect", "(IIIJZ)Z"⟩, 12) := ⟨⟨by decide +kernel, by decide +kernel⟩, List.mem_of_getElem? (i := 11) (by decide +kernel), List.mem_of_getElem? (i := 525) (by decide +kernel), List.mem_of_getElem? (i := 526) (by decide +kernel)⟩
theorem lw_p17 : lw_okq (⟨"HexWorkbench", "isValidThreat", "(II)Z"⟩, 12) := ⟨⟨by decide +kernel, by decide +kernel⟩, List.mem_of_getElem? (i := 11) (by decide +kernel), List.mem_of_getElem? (i := 550) (by decide +kernel), List.mem_of_getElem? (i := 551) (by decide +kernel)⟩
theorem lw_p18 : lw_okq (⟨"HexWorkbench", "tryText", "()I"⟩, 12) := ⟨⟨by decide +kernel, by decide +kernel⟩, List.mem_of_getElem? (i := 11) (by decide +kernel), List.mem_of_getElem? (i := 583) (by decide +kernel), List.mem_of_getElem? (i := 584) (by decide +kernel)⟩
theorem lw_p19 : lw_okq (⟨"HexWorkbench", "moveLength", "(I)I"⟩, 12) := ⟨⟨by decide +kernel, by decide +kernel⟩, List.mem_of_getElem? (i := 11) (by decide +kernel), List.mem_of_getElem? (i := 587) (by decide +kernel), List.mem_of_getElem? (i := 588) (by decide +kernel)⟩
theorem lw_p20 : lw_okq (⟨"HexWorkbench", "letterAt", "(I)I"⟩, 12) := ⟨⟨by decide +kernel, by decide +kernel⟩, List.mem_of_getElem? (i := 11) (by decide +kernel), List.mem_of_getElem? (i := 591) (by decide +kernel), List.mem_of_getElem? (i := 592) (by decide +kernel)⟩
theorem lw_p21 : lw_okq (⟨"HexWorkbench", "faultOfMove", "(II)I"⟩, 12) := ⟨⟨by decide +kernel, by decide +kernel⟩, List.mem_of_getElem? (i := 11) (by decide +kernel), List.mem_of_getElem? (i := 595) (by decide +kernel), List.mem_of_getElem? (i := 596) (by decide +kernel)⟩
theorem lw_p22 : lw_okq (⟨"HexWorkbench", "cellAt", "(I)I"⟩, 12) := ⟨⟨by decide +kernel, by decide +kernel⟩, List.mem_of_getElem? (i := 11) (by decide +kernel), List.mem_of_getElem? (i := 599) (by decide +kernel), List.mem_of_getElem? (i := 600) (by decide +kernel)⟩
theorem lw_p23 : lw_okq (⟨"HexWorkbenchModel", "shapes", "()V"⟩, 24) := ⟨⟨by decide +kernel, by decide +kernel⟩, List.mem_of_getElem? (i := 638) (by decide +kernel), List.mem_of_getElem? (i := 644) (by decide +kernel), List.mem_of_getElem? (i := 645) (by decide +kernel)⟩
theorem lw_p24 : lw_okq (⟨"HexWorkbenchModel", "joins", "(III)V"⟩, 24) := ⟨⟨by decide +kernel, by decide +kernel⟩, List.mem_of_getElem? (i := 638) (by decide +kernel), List.mem_of_getElem? (i := 648) (by decide +kernel), List.mem_of_getElem? (i := 649) (by decide +kernel)⟩
theorem lw_p25 : lw_okq (⟨"HexWorkbenchModel", "goes", "(I)V"⟩, 24) := ⟨⟨by decide +kernel, by decide +kernel⟩, List.mem_of_getElem? (i := 638) (by decide +kernel), List.mem_of_getElem? (i := 733) (by decide +kernel), List.mem_of_getElem? (i := 734) (by decide +kernel)⟩
theorem lw_p26 : lw_okq (⟨"HexWorkbenchModel", "lays", "(II)V"⟩, 24) := ⟨⟨by decide +kernel, by decide +kernel⟩, List.mem_of_getElem? (i := 638) (by decide +kernel), List.mem_of_getElem? (i := 737) (by decide +kernel), List.mem_of_getElem? (i := 738) (by decide +kernel)⟩
theorem lw_p27 : lw_okq (⟨"HexWorkbenchModel", "isCell", "(I)Z"⟩, 24) := ⟨⟨by decide +kernel, by decide +kernel⟩, List.mem_of_getElem? (i := 638) (by decide +kernel), List.mem_of_getElem? (i := 749) (by decide +kernel), List.mem_of_getElem? (i := 750) (by decide +kernel)⟩
theorem lw_p28 : lw_okq (⟨"HexWorkbenchModel", "free", "()J"⟩, 24) := ⟨⟨by decide +kernel, by decide +kernel⟩, List.mem_of_getElem? (i := 638) (by decide +kernel), List.mem_of_getElem? (i := 753) (by decide +kernel), List.mem_of_getElem? (i := 754) (by decide +kernel)⟩
theorem lw_p29 : lw_okq (⟨"HexWorkbenchModel", "cells", "()J"⟩, 24) := ⟨⟨by decide +kernel, by decide +kernel⟩, List.mem_of_getElem? (i := 638) (by decide +kernel), List.mem_of_getElem? (i := 757) (by decide +kernel), List.mem_of_getElem? (i := 758) (by decide +kernel)⟩
theorem lw_p30 : lw_okq (⟨"HexWorkbenchModel", "winnerNow", "()I"⟩, 24) := ⟨⟨by decide +kernel, by decide +kernel⟩, List.mem_of_getElem? (i := 638) (by decide +kernel), List.mem_of_getElem? (i := 765) (by decide +kernel), List.mem_of_getElem? (i := 766) (by decide +kernel)⟩
theorem lw_p31 : lw_okq (⟨"HexWorkbenchModel", "wins", "(IJ)Z"⟩, 24) := ⟨⟨by decide +kernel, by decide +kernel⟩, List.mem_of_getElem? (i := 638) (by decide +kernel), List.mem_of_getElem? (i := 769) (by decide +kernel), List.mem_of_getElem? (i := 770) (by decide +kernel)⟩
def lw_privs_2 : List (MethodName × Nat) := [(⟨"HexWorkbench", "canConnect", "(IIIJZ)Z"⟩, 12), (⟨"HexWorkbench", "isValidThreat", "(II)Z"⟩, 12), (⟨"HexWorkbench", "tryText", "()I"⟩, 12), (⟨"HexWorkbench", "moveLength", "(I)I"⟩, 12), (⟨"HexWorkbench", "letterAt", "(I)I"⟩, 12), (⟨"HexWorkbench", "faultOfMove", "(II)I"⟩, 12), (⟨"HexWorkbench", "cellAt", "(I)I"⟩, 12), (⟨"HexWorkbenchModel", "shapes", "()V"⟩, 24), (⟨"HexWorkbenchModel", "joins", "(III)V"⟩, 24), (⟨"HexWorkbenchModel", "goes", "(I)V"⟩, 24), (⟨"HexWorkbenchModel", "lays", "(II)V"⟩, 24), (⟨"HexWorkbenchModel", "isCell", "(I)Z"⟩, 24), (⟨"HexWorkbenchModel", "free", "()J"⟩, 24), (⟨"HexWorkbenchModel", "cells", "()J"⟩, 24), (⟨"HexWorkbenchModel", "winnerNow", "()I"⟩, 24), (⟨"HexWorkbenchModel", "wins", "(IJ)Z"⟩, 24)]
theorem lw_r2 : ∀ q ∈ lw_privs_2, lw_okq q := List.forall_mem_cons.mpr ⟨lw_p16, List.forall_mem_cons.mpr ⟨lw_p17, List.forall_mem_cons.mpr ⟨lw_p18, List.forall_mem_cons.mpr ⟨lw_p19, List.forall_mem_cons.mpr ⟨lw_p20, List.forall_mem_cons.mpr ⟨lw_p21, List.forall_mem_cons.mpr ⟨lw_p22, List.forall_mem_cons.mpr ⟨lw_p23, List.forall_mem_cons.mpr ⟨lw_p24, List.forall_mem_cons.mpr ⟨lw_p25, List.forall_mem_cons.mpr ⟨lw_p26, List.forall_mem_cons.mpr ⟨lw_p27, List.forall_mem_cons.mpr ⟨lw_p28, List.forall_mem_cons.mpr ⟨lw_p29, List.forall_mem_cons.mpr ⟨lw_p30, List.forall_mem_cons.mpr ⟨lw_p31, fun _ h => absurd h List.not_mem_nil⟩⟩⟩⟩⟩⟩⟩⟩⟩⟩⟩⟩⟩⟩⟩⟩
theorem lw_p32 : lw_okq (⟨"HexWorkbenchModel", "edge", "(I)J"⟩, 24) := ⟨⟨by decide +kernel, by decide +kernel⟩, List.mem_of_getElem? (i := 638) (by decide +kernel), List.mem_of_getElem? (i := 773) (by decide +kernel), List.mem_of_getElem? (i := 774) (by decide +kernel)⟩
theorem lw_p33 : lw_okq (⟨"HexWorkbenchModel", "reach", "(JJ)J"⟩, 24) := ⟨⟨by decide +kernel, by decide +kernel⟩, List.mem_of_getElem? (i := 638) (by decide +kernel), List.mem_of_getElem? (i := 777) (by decide +kernel), List.mem_of_getElem? (i := 778) (by decide +kernel)⟩
theorem lw_p34 : lw_okq (⟨"HexWorkbenchModel", "around", "(J)J"⟩, 24) := ⟨⟨by decide +kernel, by decide +kernel⟩, List.mem_of_getElem? (i := 638) (by decide +kernel), List.mem_of_getElem? (i := 781) (by decide +kernel), List.mem_of_getElem? (i := 782) (by decide +kernel)⟩
theorem lw_p35 : lw_okq (⟨"HexWorkbenchModel", "adds", "(I)V"⟩, 24) := ⟨⟨by decide +kernel, by decide +kernel⟩, List.mem_of_getElem? (i := 638) (by decide +kernel), List.mem_of_getElem? (i := 785) (by decide +kernel), List.mem_of_getElem? (i := 786) (by decide +kernel)⟩
theorem lw_p36 : lw_okq (⟨"HexWorkbenchModel", "own", "(I)J"⟩, 24) := ⟨⟨by decide +kernel, by decide +kernel⟩, List.mem_of_getElem? (i := 638) (by decide +kernel), List.mem_of_getElem? (i := 824) (by decide +kernel), List.mem_of_getElem? (i := 825) (by decide +kernel)⟩
theorem lw_p37 : lw_okq (⟨"HexWorkbenchModel", "chainWith", "(I)J"⟩, 24) := ⟨⟨by decide +kernel, by decide +kernel⟩, List.mem_of_getElem? (i := 638) (by decide +kernel), List.mem_of_getElem? (i := 840) (by decide +kernel), List.mem_of_getElem? (i := 841) (by decide +kernel)⟩
theorem lw_p38 : lw_okq (⟨"HexWorkbenchModel", "distanceOf", "(I)I"⟩, 24) := ⟨⟨by decide +kernel, by decide +kernel⟩, List.mem_of_getElem? (i := 638) (by decide +kernel), List.mem_of_getElem? (i := 856) (by decide +kernel), List.mem_of_getElem? (i := 857) (by decide +kernel)⟩
theorem lw_p39 : lw_okq (⟨"HexWorkbenchModel", "levels", "(II[I)V"⟩, 24) := ⟨⟨by decide +kernel, by decide +kernel⟩, List.mem_of_getElem? (i := 638) (by decide +kernel), List.mem_of_getElem? (i := 860) (by decide +kernel), List.mem_of_getElem? (i := 861) (by decide +kernel)⟩
theorem lw_p40 : lw_okq (⟨"HexWorkbenchModel", "shortestOf", "(I)J"⟩, 24) := ⟨⟨by decide +kernel, by decide +kernel⟩, List.mem_of_getElem? (i := 638) (by decide +kernel), List.mem_of_getElem? (i := 868) (by decide +kernel), List.mem_of_getElem? (i := 869) (by decide +kernel)⟩
theorem lw_p41 : lw_okq (⟨"HexWorkbenchModel", "carrier", "(IIJ)J"⟩, 24) := ⟨⟨by decide +kernel, by decide +kernel⟩, List.mem_of_getElem? (i := 638) (by decide +kernel), List.mem_of_getElem? (i := 881) (by decide +kernel), List.mem_of_getElem? (i := 882) (by decide +kernel)⟩
theorem lw_p42 : lw_okq (⟨"HexWorkbenchModel", "answersNow", "()J"⟩, 24) := ⟨⟨by decide +kernel, by decide +kernel⟩, List.mem_of_getElem? (i := 638) (by decide +kernel), List.mem_of_getElem? (i := 897) (by decide +kernel), List.mem_of_getElem? (i := 898) (by decide +kernel)⟩
theorem lw_p43 : lw_okq (⟨"HexWorkbenchModel", "fills", "()Z"⟩, 24) := ⟨⟨by decide +kernel, by decide +kernel⟩, List.mem_of_getElem? (i := 638) (by decide +kernel), List.mem_of_getElem? (i := 905) (by decide +kernel), List.mem_of_getElem? (i := 906) (by decide +kernel)⟩
theorem lw_p44 : lw_okq (⟨"HexWorkbenchModel", "findHoles", "(J)V"⟩, 24) := ⟨⟨by decide +kernel, by decide +kernel⟩, List.mem_of_getElem? (i := 638) (by decide +kernel), List.mem_of_getElem? (i := 909) (by decide +kernel), List.mem_of_getElem? (i := 910) (by decide +kernel)⟩
theorem lw_p45 : lw_okq (⟨"HexWorkbenchModel", "weightOf", "(I)I"⟩, 24) := ⟨⟨by decide +kernel, by decide +kernel⟩, List.mem_of_getElem? (i := 638) (by decide +kernel), List.mem_of_getElem? (i := 917) (by decide +kernel), List.mem_of_getElem? (i := 918) (by decide +kernel)⟩
theorem lw_p46 : lw_okq (⟨"HexWorkbenchModel", "solves", "()Z"⟩, 24) := ⟨⟨by decide +kernel, by decide +kernel⟩, List.mem_of_getElem? (i := 638) (by decide +kernel), List.mem_of_getElem? (i := 930) (by decide +kernel), List.mem_of_getElem? (i := 931) (by decide +kernel)⟩
theorem lw_p47 : lw_okq (⟨"HexWorkbenchModel", "powers", "()V"⟩, 24) := ⟨⟨by decide +kernel, by decide +kernel⟩, List.mem_of_getElem? (i := 638) (by decide +kernel), List.mem_of_getElem? (i := 934) (by decide +kernel), List.mem_of_getElem? (i := 935) (by decide +kernel)⟩
def lw_privs_3 : List (MethodName × Nat) := [(⟨"HexWorkbenchModel", "edge", "(I)J"⟩, 24), (⟨"HexWorkbenchModel", "reach", "(JJ)J"⟩, 24), (⟨"HexWorkbenchModel", "around", "(J)J"⟩, 24), (⟨"HexWorkbenchModel", "adds", "(I)V"⟩, 24), (⟨"HexWorkbenchModel", "own", "(I)J"⟩, 24), (⟨"HexWorkbenchModel", "chainWith", "(I)J"⟩, 24), (⟨"HexWorkbenchModel", "distanceOf", "(I)I"⟩, 24), (⟨"HexWorkbenchModel", "levels", "(II[I)V"⟩, 24), (⟨"HexWorkbenchModel", "shortestOf", "(I)J"⟩, 24), (⟨"HexWorkbenchModel", "carrier", "(IIJ)J"⟩, 24), (⟨"HexWorkbenchModel", "answersNow", "()J"⟩, 24), (⟨"HexWorkbenchModel", "fills", "()Z"⟩, 24), (⟨"HexWorkbenchModel", "findHoles", "(J)V"⟩, 24), (⟨"HexWorkbenchModel", "weightOf", "(I)I"⟩, 24), (⟨"HexWorkbenchModel", "solves", "()Z"⟩, 24), (⟨"HexWorkbenchModel", "powers", "()V"⟩, 24)]
theorem lw_r3 : ∀ q ∈ lw_privs_3, lw_okq q := List.forall_mem_cons.mpr ⟨lw_p32, List.forall_mem_cons.mpr ⟨lw_p33, List.forall_mem_cons.mpr ⟨lw_p34, List.forall_mem_cons.mpr ⟨lw_p35, List.forall_mem_cons.mpr ⟨lw_p36, List.forall_mem_cons.mpr ⟨lw_p37, List.forall_mem_cons.mpr ⟨lw_p38, List.forall_mem_cons.mpr ⟨lw_p39, List.forall_mem_cons.mpr ⟨lw_p40, List.forall_mem_cons.mpr ⟨lw_p41, List.forall_mem_cons.mpr ⟨lw_p42, List.forall_mem_cons.mpr ⟨lw_p43, List.forall_mem_cons.mpr ⟨lw_p44, List.forall_mem_cons.mpr ⟨lw_p45, List.forall_mem_cons.mpr ⟨lw_p46, List.forall_mem_cons.mpr ⟨lw_p47, fun _ h => absurd h List.not_mem_nil⟩⟩⟩⟩⟩⟩⟩⟩⟩⟩⟩⟩⟩⟩⟩⟩
theorem lw_p48 : lw_okq (⟨"HexWorkbenchModel", "laid", "(II)J"⟩, 24) := ⟨⟨by decide +kernel, by decide +kernel⟩, List.mem_of_getElem? (i := 638) (by decide +kernel), List.mem_of_getElem? (i := 938) (by decide +kernel), List.mem_of_getElem? (i := 939) (by decide +kernel)⟩
theorem lw_p49 : lw_okq (⟨"HexWorkbenchModel", "digit", "(II)I"⟩, 24) := ⟨⟨by decide +kernel, by decide +kernel⟩, List.mem_of_getElem? (i := 638) (by decide +kernel), List.mem_of_getElem? (i := 942) (by decide +kernel), List.mem_of_getElem? (i := 943) (by decide +kernel)⟩
theorem lw_p50 : lw_okq (⟨"HexWorkbenchModel", "laidMany", "(I)I"⟩, 24) := ⟨⟨by decide +kernel, by decide +kernel⟩, List.mem_of_getElem? (i := 638) (by decide +kernel), List.mem_of_getElem? (i := 946) (by decide +kernel), List.mem_of_getElem? (i := 947) (by decide +kernel)⟩
theorem lw_p51 : lw_okq (⟨"HexWorkbenchModel", "decides", "(II)V"⟩, 24) := ⟨⟨by decide +kernel, by decide +kernel⟩, List.mem_of_getElem? (i := 638) (by decide +kernel), List.mem_of_getElem? (i := 950) (by decide +kernel), List.mem_of_getElem? (i := 951) (by decide +kernel)⟩
theorem lw_p52 : lw_okq (⟨"HexWorkbenchModel", "winning", "()J"⟩, 24) := ⟨⟨by decide +kernel, by decide +kernel⟩, List.mem_of_getElem? (i := 638) (by decide +kernel), List.mem_of_getElem? (i := 958) (by decide +kernel), List.mem_of_getElem? (i := 959) (by decide +kernel)⟩
theorem lw_p53 : lw_okq (⟨"HexWorkbenchModel", "arePlaces", "(III)Z"⟩, 24) := ⟨⟨by decide +kernel, by decide +kernel⟩, List.mem_of_getElem? (i := 638) (by decide +kernel), List.mem_of_getElem? (i := 975) (by decide +kernel), List.mem_of_getElem? (i := 976) (by decide +kernel)⟩
theorem lw_p54 : lw_okq (⟨"HexWorkbenchModel", "isPlace", "(I)Z"⟩, 24) := ⟨⟨by decide +kernel, by decide +kernel⟩, List.mem_of_getElem? (i := 638) (by decide +kernel), List.mem_of_getElem? (i := 979) (by decide +kernel), List.mem_of_getElem? (i := 980) (by decide +kernel)⟩
theorem lw_p55 : lw_okq (⟨"HexWorkbenchModel", "isRegion", "(JI)Z"⟩, 24) := ⟨⟨by decide +kernel, by decide +kernel⟩, List.mem_of_getElem? (i := 638) (by decide +kernel), List.mem_of_getElem? (i := 983) (by decide +kernel), List.mem_of_getElem? (i := 984) (by decide +kernel)⟩
theorem lw_p56 : lw_okq (⟨"HexWorkbenchModel", "strengthOf", "(IIIJ)I"⟩, 24) := ⟨⟨by decide +kernel, by decide +kernel⟩, List.mem_of_getElem? (i := 638) (by decide +kernel), List.mem_of_getElem? (i := 987) (by decide +kernel), List.mem_of_getElem? (i := 988) (by decide +kernel)⟩
theorem lw_p57 : lw_okq (⟨"HexWorkbenchModel", "connects", "(IIIJI)Z"⟩, 24) := ⟨⟨by decide +kernel, by decide +kernel⟩, List.mem_of_getElem? (i := 638) (by decide +kernel), List.mem_of_getElem? (i := 991) (by decide +kernel), List.mem_of_getElem? (i := 992) (by decide +kernel)⟩
theorem lw_p58 : lw_okq (⟨"HexWorkbenchModel", "place", "(I)J"⟩, 24) := ⟨⟨by decide +kernel, by decide +kernel⟩, List.mem_of_getElem? (i := 638) (by decide +kernel), List.mem_of_getElem? (i := 995) (by decide +kernel), List.mem_of_getElem? (i := 996) (by decide +kernel)⟩
theorem lw_p59 : lw_okq (⟨"HexWorkbenchModel", "threatsOf", "(I)I"⟩, 24) := ⟨⟨by decide +kernel, by decide +kernel⟩, List.mem_of_getElem? (i := 638) (by decide +kernel), List.mem_of_getElem? (i := 1015) (by decide +kernel), List.mem_of_getElem? (i := 1016) (by decide +kernel)⟩
theorem lw_p60 : lw_okq (⟨"HexWorkbenchModel", "isThreat", "(II)Z"⟩, 24) := ⟨⟨by decide +kernel, by decide +kernel⟩, List.mem_of_getElem? (i := 638) (by decide +kernel), List.mem_of_getElem? (i := 1019) (by decide +kernel), List.mem_of_getElem? (i := 1020) (by decide +kernel)⟩
theorem lw_p61 : lw_okq (⟨"HexWorkbenchModel", "neededOf", "(I)J"⟩, 24) := ⟨⟨by decide +kernel, by decide +kernel⟩, List.mem_of_getElem? (i := 638) (by decide +kernel), List.mem_of_getElem? (i := 1027) (by decide +kernel), List.mem_of_getElem? (i := 1028) (by decide +kernel)⟩
theorem lw_p62 : lw_okq (⟨"HexWorkbenchModel", "faultAside", "()I"⟩, 24) := ⟨⟨by decide +kernel, by decide +kernel⟩, List.mem_of_getElem? (i := 638) (by decide +kernel), List.mem_of_getElem? (i := 1054) (by decide +kernel), List.mem_of_getElem? (i := 1055) (by decide +kernel)⟩
theorem lw_p63 : lw_okq (⟨"HexWorkbenchModel", "faultOf", "()I"⟩, 24) := ⟨⟨by decide +kernel, by decide +kernel⟩, List.mem_of_getElem? (i := 638) (by decide +kernel), List.mem_of_getElem? (i := 1058) (by decide +kernel), List.mem_of_getElem? (i := 1059) (by decide +kernel)⟩
def lw_privs_4 : List (MethodName × Nat) := [(⟨"HexWorkbenchModel", "laid", "(II)J"⟩, 24), (⟨"HexWorkbenchModel", "digit", "(II)I"⟩, 24), (⟨"HexWorkbenchModel", "laidMany", "(I)I"⟩, 24), (⟨"HexWorkbenchModel", "decides", "(II)V"⟩, 24), (⟨"HexWorkbenchModel", "winning", "()J"⟩, 24), (⟨"HexWorkbenchModel", "arePlaces", "(III)Z"⟩, 24), (⟨"HexWorkbenchModel", "isPlace", "(I)Z"⟩, 24), (⟨"HexWorkbenchModel", "isRegion", "(JI)Z"⟩, 24), (⟨"HexWorkbenchModel", "strengthOf", "(IIIJ)I"⟩, 24), (⟨"HexWorkbenchModel", "connects", "(IIIJI)Z"⟩, 24), (⟨"HexWorkbenchModel", "place", "(I)J"⟩, 24), (⟨"HexWorkbenchModel", "threatsOf", "(I)I"⟩, 24), (⟨"HexWorkbenchModel", "isThreat", "(II)Z"⟩, 24), (⟨"HexWorkbenchModel", "neededOf", "(I)J"⟩, 24), (⟨"HexWorkbenchModel", "faultAside", "()I"⟩, 24), (⟨"HexWorkbenchModel", "faultOf", "()I"⟩, 24)]
theorem lw_r4 : ∀ q ∈ lw_privs_4, lw_okq q := List.forall_mem_cons.mpr ⟨lw_p48, List.forall_mem_cons.mpr ⟨lw_p49, List.forall_mem_cons.mpr ⟨lw_p50, List.forall_mem_cons.mpr ⟨lw_p51, List.forall_mem_cons.mpr ⟨lw_p52, List.forall_mem_cons.mpr ⟨lw_p53, List.forall_mem_cons.mpr ⟨lw_p54, List.forall_mem_cons.mpr ⟨lw_p55, List.forall_mem_cons.mpr ⟨lw_p56, List.forall_mem_cons.mpr ⟨lw_p57, List.forall_mem_cons.mpr ⟨lw_p58, List.forall_mem_cons.mpr ⟨lw_p59, List.forall_mem_cons.mpr ⟨lw_p60, List.forall_mem_cons.mpr ⟨lw_p61, List.forall_mem_cons.mpr ⟨lw_p62, List.forall_mem_cons.mpr ⟨lw_p63, fun _ h => absurd h List.not_mem_nil⟩⟩⟩⟩⟩⟩⟩⟩⟩⟩⟩⟩⟩⟩⟩⟩
def lw_privs : List (MethodName × Nat) := lw_privs_1 ++ (lw_privs_2 ++ (lw_privs_3 ++ (lw_privs_4)))
def lw_tbl : List Cond := k2_sels lw_privs ++ tables_1
theorem lw_privs_ok : ∀ q ∈ lw_privs, lw_okq q := by
  show ∀ q ∈ lw_privs_1 ++ (lw_privs_2 ++ (lw_privs_3 ++ (lw_privs_4))), lw_okq q
  exact List.forall_mem_append.mpr ⟨lw_r1, List.forall_mem_append.mpr ⟨lw_r2, List.forall_mem_append.mpr ⟨lw_r3, lw_r4⟩⟩⟩
def RX0 : String := "HexWorkbench$Board"
def TX0 : u_T := fun k => match k with
  | 0 => ("HexWorkbench$Board", "size", "I", true)
  | 1 => ("HexWorkbench$Board", "cells", "I", true)
  | 2 => ("HexWorkbench$Board", "all", "J", true)
  | 3 => ("HexWorkbench$Board", "upper", "J", true)
  | 4 => ("HexWorkbench$Board", "lower", "J", true)
  | 5 => ("HexWorkbench$Board", "left", "J", true)
  | _ => ("HexWorkbench$Board", "right", "J", true)
def tyX0 : Nat → FieldType := fun k => match k with
  | 0 => .int
  | 1 => .int
  | 2 => .long
  | 3 => .long
  | 4 => .long
  | 5 => .long
  | _ => .long
abbrev wsX00 : List Cond := u_ws RX0 TX0 7
theorem nmX0 : ∀ a, a < 7 → ∀ b, b < 7 → a ≠ b → (TX0 a).2.1 ≠ (TX0 b).2.1 := by decide +kernel
theorem tyX0_ok : ∀ k, k < 7 → parseFieldDescriptor (TX0 k).2.2.1 = some (tyX0 k) := by decide +kernel
abbrev cX0_init : ByteArray := prog_2_method_1_code
def yX0_init : MethodName := ⟨RX0, "<init>", "(I)V"⟩
abbrev cX0_around : ByteArray := prog_2_method_2_code
def yX0_around : MethodName := ⟨RX0, "around", "(J)J"⟩
abbrev cX0_flood : ByteArray := prog_2_method_3_code
def yX0_flood : MethodName := ⟨RX0, "flood", "(JJ)J"⟩
abbrev cX0_linked : ByteArray := prog_2_method_4_code
def yX0_linked : MethodName := ⟨RX0, "linked", "(JJJ)Z"⟩
abbrev cX0_floodUpTo : ByteArray := prog_2_method_5_code
def yX0_floodUpTo : MethodName := ⟨RX0, "floodUpTo", "(JJJ)J"⟩
abbrev cX0_firstEdge : ByteArray := prog_2_method_6_code
def yX0_firstEdge : MethodName := ⟨RX0, "firstEdge", "(I)J"⟩
abbrev cX0_secondEdge : ByteArray := prog_2_method_7_code
def yX0_secondEdge : MethodName := ⟨RX0, "secondEdge", "(I)J"⟩
abbrev cX0_cellsOf : ByteArray := prog_2_method_8_code
def yX0_cellsOf : MethodName := ⟨RX0, "cellsOf", "(I)J"⟩
abbrev cX0_mirrored : ByteArray := prog_2_method_9_code
def yX0_mirrored : MethodName := ⟨RX0, "mirrored", "(J)J"⟩
def RX1 : String := "HexWorkbench$Contest"
def TX1 : u_T := fun k => match k with
  | 0 => ("HexWorkbench$Contest", "board", "LHexWorkbench$Board;", false)
  | 1 => ("HexWorkbench$Contest", "from", "J", false)
  | 2 => ("HexWorkbench$Contest", "to", "J", false)
  | 3 => ("HexWorkbench$Contest", "spots", "[J", true)
  | _ => ("HexWorkbench$Contest", "memo", "[J", true)
def tyX1 : Nat → FieldType := fun k => match k with
  | 0 => .object "HexWorkbench$Board"
  | 1 => .long
  | 2 => .long
  | 3 => .array .long
  | _ => .array .long
abbrev wsX10 : List Cond := u_ws RX1 TX1 5
theorem nmX1 : ∀ a, a < 5 → ∀ b, b < 5 → a ≠ b → (TX1 a).2.1 ≠ (TX1 b).2.1 := by decide +kernel
theorem tyX1_ok : ∀ k, k < 5 → parseFieldDescriptor (TX1 k).2.2.1 = some (tyX1 k) := by decide +kernel
abbrev cX1_init : ByteArray := prog_3_method_1_code
def yX1_init : MethodName := ⟨RX1, "<init>", "(LHexWorkbench$Board;)V"⟩
abbrev cX1_connects : ByteArray := prog_3_method_2_code
def yX1_connects : MethodName := ⟨RX1, "connects", "(I)Z"⟩
abbrev cX1_length : ByteArray := prog_3_method_3_code
def yX1_length : MethodName := ⟨RX1, "length", "(I)I"⟩
abbrev cX1_arrange : ByteArray := prog_3_method_4_code
def yX1_arrange : MethodName := ⟨RX1, "arrange", "(LHexWorkbench$Board;JJJ)V"⟩
abbrev cX1_result : ByteArray := prog_3_method_5_code
def yX1_result : MethodName := ⟨RX1, "result", "(JJZ)I"⟩
abbrev cX1_outcome : ByteArray := prog_3_method_6_code
def yX1_outcome : MethodName := ⟨RX1, "outcome", "(JJZII)I"⟩
abbrev cX1_bestOutcome : ByteArray := prog_3_method_7_code
def yX1_bestOutcome : MethodName := ⟨RX1, "bestOutcome", "(JJZII)I"⟩
abbrev cX1_better : ByteArray := prog_3_method_8_code
def yX1_better : MethodName := ⟨RX1, "better", "(IIZ)I"⟩
abbrev cX1_winningSpots : ByteArray := prog_3_method_9_code
def yX1_winningSpots : MethodName := ⟨RX1, "winningSpots", "(JJZ)J"⟩
abbrev cX1_recall : ByteArray := prog_3_method_10_code
def yX1_recall : MethodName := ⟨RX1, "recall", "(I)I"⟩
abbrev cX1_remember : ByteArray := prog_3_method_11_code
def yX1_remember : MethodName := ⟨RX1, "remember", "(II)V"⟩
def RX2 : String := "HexWorkbench$Fillings"
def TX2 : u_T := fun k => match k with
  | 0 => ("HexWorkbench$Fillings", "wins", "[J", true)
  | _ => ("HexWorkbench$Fillings", "count", "I", false)
def tyX2 : Nat → FieldType := fun k => match k with
  | 0 => .array .long
  | _ => .int
abbrev wsX20 : List Cond := u_ws RX2 TX2 2
theorem nmX2 : ∀ a, a < 2 → ∀ b, b < 2 → a ≠ b → (TX2 a).2.1 ≠ (TX2 b).2.1 := by decide +kernel
theorem tyX2_ok : ∀ k, k < 2 → parseFieldDescriptor (TX2 k).2.2.1 = some (tyX2 k) := by decide +kernel
abbrev cX2_init : ByteArray := prog_4_method_1_code
def yX2_init : MethodName := ⟨RX2, "<init>", "()V"⟩
abbrev cX2_compute : ByteArray := prog_4_method_2_code
def yX2_compute : MethodName := ⟨RX2, "compute", "(LHexWorkbench$Game;)V"⟩
abbrev cX2_size : ByteArray := prog_4_method_3_code
def yX2_size : MethodName := ⟨RX2, "size", "()I"⟩
abbrev cX2_wonByFirst : ByteArray := prog_4_method_4_code
def yX2_wonByFirst : MethodName := ⟨RX2, "wonByFirst", "()I"⟩
abbrev cX2_decidedBy : ByteArray := prog_4_method_5_code
def yX2_decidedBy : MethodName := ⟨RX2, "decidedBy", "(I)I"⟩
abbrev cX2_isWon : ByteArray := prog_4_method_6_code
def yX2_isWon : MethodName := ⟨RX2, "isWon", "(I)Z"⟩
def RX3 : String := "HexWorkbench$Game"
def TX3 : u_T := fun k => match k with
  | 0 => ("HexWorkbench$Game", "board", "LHexWorkbench$Board;", false)
  | 1 => ("HexWorkbench$Game", "made", "I", false)
  | 2 => ("HexWorkbench$Game", "known", "I", false)
  | 3 => ("HexWorkbench$Game", "list", "[I", true)
  | 4 => ("HexWorkbench$Game", "stones0", "J", false)
  | _ => ("HexWorkbench$Game", "stones1", "J", false)
def tyX3 : Nat → FieldType := fun k => match k with
  | 0 => .object "HexWorkbench$Board"
  | 1 => .int
  | 2 => .int
  | 3 => .array .int
  | 4 => .long
  | _ => .long
abbrev wsX30 : List Cond := u_ws RX3 TX3 6
theorem nmX3 : ∀ a, a < 6 → ∀ b, b < 6 → a ≠ b → (TX3 a).2.1 ≠ (TX3 b).2.1 := by decide +kernel
theorem tyX3_ok : ∀ k, k < 6 → parseFieldDescriptor (TX3 k).2.2.1 = some (tyX3 k) := by decide +kernel
abbrev cX3_init : ByteArray := prog_5_method_1_code
def yX3_init : MethodName := ⟨RX3, "<init>", "(LHexWorkbench$Board;)V"⟩
abbrev cX3_start : ByteArray := prog_5_method_2_code
def yX3_start : MethodName := ⟨RX3, "start", "(LHexWorkbench$Board;)V"⟩
abbrev cX3_copyFrom : ByteArray := prog_5_method_3_code
def yX3_copyFrom : MethodName := ⟨RX3, "copyFrom", "(LHexWorkbench$Game;)V"⟩
abbrev cX3_add : ByteArray := prog_5_method_4_code
def yX3_add : MethodName := ⟨RX3, "add", "(I)V"⟩
abbrev cX3_redo : ByteArray := prog_5_method_5_code
def yX3_redo : MethodName := ⟨RX3, "redo", "()V"⟩
abbrev cX3_undo : ByteArray := prog_5_method_6_code
def yX3_undo : MethodName := ⟨RX3, "undo", "()V"⟩
abbrev cX3_apply : ByteArray := prog_5_method_7_code
def yX3_apply : MethodName := ⟨RX3, "apply", "(I)V"⟩
abbrev cX3_moveNumber : ByteArray := prog_5_method_8_code
def yX3_moveNumber : MethodName := ⟨RX3, "moveNumber", "(I)I"⟩
abbrev cX3_latest : ByteArray := prog_5_method_9_code
def yX3_latest : MethodName := ⟨RX3, "latest", "()I"⟩
abbrev cX3_mover : ByteArray := prog_5_method_10_code
def yX3_mover : MethodName := ⟨RX3, "mover", "()I"⟩
abbrev cX3_maySwap : ByteArray := prog_5_method_11_code
def yX3_maySwap : MethodName := ⟨RX3, "maySwap", "()Z"⟩
abbrev cX3_stonesOf : ByteArray := prog_5_method_12_code
def yX3_stonesOf : MethodName := ⟨RX3, "stonesOf", "(I)J"⟩
abbrev cX3_free : ByteArray := prog_5_method_13_code
def yX3_free : MethodName := ⟨RX3, "free", "()J"⟩
abbrev cX3_isFree : ByteArray := prog_5_method_14_code
def yX3_isFree : MethodName := ⟨RX3, "isFree", "(I)Z"⟩
abbrev cX3_victor : ByteArray := prog_5_method_15_code
def yX3_victor : MethodName := ⟨RX3, "victor", "()I"⟩
def RX4 : String := "HexWorkbench$Paths"
def TX4 : u_T := fun k => match k with
  | _ => ("HexWorkbench$Paths", "layers", "[J", true)
def tyX4 : Nat → FieldType := fun k => match k with
  | _ => .array .long
abbrev wsX40 : List Cond := u_ws RX4 TX4 1
theorem nmX4 : ∀ a, a < 1 → ∀ b, b < 1 → a ≠ b → (TX4 a).2.1 ≠ (TX4 b).2.1 := by decide +kernel
theorem tyX4_ok : ∀ k, k < 1 → parseFieldDescriptor (TX4 k).2.2.1 = some (tyX4 k) := by decide +kernel
abbrev cX4_init : ByteArray := prog_6_method_1_code
def yX4_init : MethodName := ⟨RX4, "<init>", "()V"⟩
abbrev cX4_measure : ByteArray := prog_6_method_2_code
def yX4_measure : MethodName := ⟨RX4, "measure", "(LHexWorkbench$Game;I)I"⟩
abbrev cX4_nextLayer : ByteArray := prog_6_method_3_code
def yX4_nextLayer : MethodName := ⟨RX4, "nextLayer", "(LHexWorkbench$Board;JJJJ)J"⟩
abbrev cX4_onShortest : ByteArray := prog_6_method_4_code
def yX4_onShortest : MethodName := ⟨RX4, "onShortest", "(LHexWorkbench$Game;I)J"⟩
def RX5 : String := "HexWorkbench"
def TX5 : u_T := fun k => match k with
  | 0 => ("HexWorkbench", "game", "LHexWorkbench$Game;", true)
  | 1 => ("HexWorkbench", "trial", "LHexWorkbench$Game;", true)
  | 2 => ("HexWorkbench", "slots", "[LHexWorkbench$Game;", true)
  | 3 => ("HexWorkbench", "paths", "LHexWorkbench$Paths;", true)
  | 4 => ("HexWorkbench", "table", "LHexWorkbench$Fillings;", true)
  | 5 => ("HexWorkbench", "contest", "LHexWorkbench$Contest;", true)
  | 6 => ("HexWorkbench", "foundBridges", "[I", true)
  | 7 => ("HexWorkbench", "threatPlayers", "[I", true)
  | 8 => ("HexWorkbench", "threatRegions", "[J", true)
  | 9 => ("HexWorkbench", "threatCount", "I", false)
  | 10 => ("HexWorkbench", "text", "[B", true)
  | _ => ("HexWorkbench", "textLength", "I", false)
def tyX5 : Nat → FieldType := fun k => match k with
  | 0 => .object "HexWorkbench$Game"
  | 1 => .object "HexWorkbench$Game"
  | 2 => .array (.object "HexWorkbench$Game")
  | 3 => .object "HexWorkbench$Paths"
  | 4 => .object "HexWorkbench$Fillings"
  | 5 => .object "HexWorkbench$Contest"
  | 6 => .array .int
  | 7 => .array .int
  | 8 => .array .long
  | 9 => .int
  | 10 => .array .byte
  | _ => .int
abbrev wsX50 : List Cond := u_ws RX5 TX5 12
theorem nmX5 : ∀ a, a < 12 → ∀ b, b < 12 → a ≠ b → (TX5 a).2.1 ≠ (TX5 b).2.1 := by decide +kernel
theorem tyX5_ok : ∀ k, k < 12 → parseFieldDescriptor (TX5 k).2.2.1 = some (tyX5 k) := by decide +kernel
abbrev cX5_init : ByteArray := prog_1_method_1_code
def yX5_init : MethodName := ⟨RX5, "<init>", "()V"⟩
abbrev cX5_begin : ByteArray := prog_1_method_2_code
def yX5_begin : MethodName := ⟨RX5, "begin", "(I)I"⟩
abbrev cX5_rows : ByteArray := prog_1_method_3_code
def yX5_rows : MethodName := ⟨RX5, "rows", "()I"⟩
abbrev cX5_play : ByteArray := prog_1_method_4_code
def yX5_play : MethodName := ⟨RX5, "play", "(I)I"⟩
abbrev cX5_swap : ByteArray := prog_1_method_5_code
def yX5_swap : MethodName := ⟨RX5, "swap", "()I"⟩
abbrev cX5_takeBack : ByteArray := prog_1_method_6_code
def yX5_takeBack : MethodName := ⟨RX5, "takeBack", "()I"⟩
abbrev cX5_again : ByteArray := prog_1_method_7_code
def yX5_again : MethodName := ⟨RX5, "again", "()I"⟩
abbrev cX5_moves : ByteArray := prog_1_method_8_code
def yX5_moves : MethodName := ⟨RX5, "moves", "()I"⟩
abbrev cX5_moveAt : ByteArray := prog_1_method_9_code
def yX5_moveAt : MethodName := ⟨RX5, "moveAt", "(I)I"⟩
abbrev cX5_turn : ByteArray := prog_1_method_10_code
def yX5_turn : MethodName := ⟨RX5, "turn", "()I"⟩
abbrev cX5_winner : ByteArray := prog_1_method_11_code
def yX5_winner : MethodName := ⟨RX5, "winner", "()I"⟩
abbrev cX5_stones : ByteArray := prog_1_method_12_code
def yX5_stones : MethodName := ⟨RX5, "stones", "(I)J"⟩
abbrev cX5_beside : ByteArray := prog_1_method_13_code
def yX5_beside : MethodName := ⟨RX5, "beside", "(I)J"⟩
abbrev cX5_chains : ByteArray := prog_1_method_14_code
def yX5_chains : MethodName := ⟨RX5, "chains", "(I)I"⟩
abbrev cX5_chainOf : ByteArray := prog_1_method_15_code
def yX5_chainOf : MethodName := ⟨RX5, "chainOf", "(I)I"⟩
abbrev cX5_chain : ByteArray := prog_1_method_16_code
def yX5_chain : MethodName := ⟨RX5, "chain", "(I)J"⟩
abbrev cX5_distance : ByteArray := prog_1_method_17_code
def yX5_distance : MethodName := ⟨RX5, "distance", "(I)I"⟩
abbrev cX5_shortest : ByteArray := prog_1_method_18_code
def yX5_shortest : MethodName := ⟨RX5, "shortest", "(I)J"⟩
abbrev cX5_cut : ByteArray := prog_1_method_19_code
def yX5_cut : MethodName := ⟨RX5, "cut", "(I)I"⟩
abbrev cX5_bridges : ByteArray := prog_1_method_20_code
def yX5_bridges : MethodName := ⟨RX5, "bridges", "(I)I"⟩
abbrev cX5_bridge : ByteArray := prog_1_method_21_code
def yX5_bridge : MethodName := ⟨RX5, "bridge", "(III)I"⟩
abbrev cX5_answers : ByteArray := prog_1_method_22_code
def yX5_answers : MethodName := ⟨RX5, "answers", "()J"⟩
abbrev cX5_fillings : ByteArray := prog_1_method_23_code
def yX5_fillings : MethodName := ⟨RX5, "fillings", "(I)I"⟩
abbrev cX5_weight : ByteArray := prog_1_method_24_code
def yX5_weight : MethodName := ⟨RX5, "weight", "(I)I"⟩
abbrev cX5_dead : ByteArray := prog_1_method_25_code
def yX5_dead : MethodName := ⟨RX5, "dead", "()J"⟩
abbrev cX5_solve : ByteArray := prog_1_method_26_code
def yX5_solve : MethodName := ⟨RX5, "solve", "()I"⟩
abbrev cX5_winningMoves : ByteArray := prog_1_method_27_code
def yX5_winningMoves : MethodName := ⟨RX5, "winningMoves", "()J"⟩
abbrev cX5_duration : ByteArray := prog_1_method_28_code
def yX5_duration : MethodName := ⟨RX5, "duration", "()I"⟩
abbrev cX5_winningOpenings : ByteArray := prog_1_method_29_code
def yX5_winningOpenings : MethodName := ⟨RX5, "winningOpenings", "(I)J"⟩
abbrev cX5_strength : ByteArray := prog_1_method_30_code
def yX5_strength : MethodName := ⟨RX5, "strength", "(IIIJ)I"⟩
abbrev cX5_smallestFull : ByteArray := prog_1_method_31_code
def yX5_smallestFull : MethodName := ⟨RX5, "smallestFull", "(IIIJ)I"⟩
abbrev cX5_addThreat : ByteArray := prog_1_method_32_code
def yX5_addThreat : MethodName := ⟨RX5, "addThreat", "(IJ)I"⟩
abbrev cX5_clearThreats : ByteArray := prog_1_method_33_code
def yX5_clearThreats : MethodName := ⟨RX5, "clearThreats", "()I"⟩
abbrev cX5_threats : ByteArray := prog_1_method_34_code
def yX5_threats : MethodName := ⟨RX5, "threats", "(I)I"⟩
abbrev cX5_needed : ByteArray := prog_1_method_35_code
def yX5_needed : MethodName := ⟨RX5, "needed", "(I)J"⟩
abbrev cX5_randomGames : ByteArray := prog_1_method_36_code
def yX5_randomGames : MethodName := ⟨RX5, "randomGames", "(II)I"⟩
abbrev cX5_append : ByteArray := prog_1_method_37_code
def yX5_append : MethodName := ⟨RX5, "append", "(I)I"⟩
abbrev cX5_clearText : ByteArray := prog_1_method_38_code
def yX5_clearText : MethodName := ⟨RX5, "clearText", "()I"⟩
abbrev cX5_faultPosition : ByteArray := prog_1_method_39_code
def yX5_faultPosition : MethodName := ⟨RX5, "faultPosition", "()I"⟩
abbrev cX5_read : ByteArray := prog_1_method_40_code
def yX5_read : MethodName := ⟨RX5, "read", "()I"⟩
abbrev cX5_save : ByteArray := prog_1_method_41_code
def yX5_save : MethodName := ⟨RX5, "save", "(I)I"⟩
abbrev cX5_restore : ByteArray := prog_1_method_42_code
def yX5_restore : MethodName := ⟨RX5, "restore", "(I)I"⟩
abbrev cX5_checksum : ByteArray := prog_1_method_43_code
def yX5_checksum : MethodName := ⟨RX5, "checksum", "()J"⟩
abbrev cX5_isPlayer : ByteArray := prog_1_method_44_code
def yX5_isPlayer : MethodName := ⟨RX5, "isPlayer", "(I)Z"⟩
abbrev cX5_isCell : ByteArray := prog_1_method_45_code
def yX5_isCell : MethodName := ⟨RX5, "isCell", "(I)Z"⟩
abbrev cX5_hasFreeAtMost : ByteArray := prog_1_method_46_code
def yX5_hasFreeAtMost : MethodName := ⟨RX5, "hasFreeAtMost", "(I)Z"⟩
abbrev cX5_lowest : ByteArray := prog_1_method_47_code
def yX5_lowest : MethodName := ⟨RX5, "lowest", "(J)I"⟩
abbrev cX5_cellWithNumber : ByteArray := prog_1_method_48_code
def yX5_cellWithNumber : MethodName := ⟨RX5, "cellWithNumber", "(JI)J"⟩
abbrev cX5_nextSubset : ByteArray := prog_1_method_49_code
def yX5_nextSubset : MethodName := ⟨RX5, "nextSubset", "(JJ)J"⟩
abbrev cX5_chainAround : ByteArray := prog_1_method_50_code
def yX5_chainAround : MethodName := ⟨RX5, "chainAround", "(I)J"⟩
abbrev cX5_findBridges : ByteArray := prog_1_method_51_code
def yX5_findBridges : MethodName := ⟨RX5, "findBridges", "(JJ)I"⟩
abbrev cX5_bridgePartners : ByteArray := prog_1_method_52_code
def yX5_bridgePartners : MethodName := ⟨RX5, "bridgePartners", "(JJ)J"⟩
abbrev cX5_carrierOf : ByteArray := prog_1_method_53_code
def yX5_carrierOf : MethodName := ⟨RX5, "carrierOf", "(I)J"⟩
abbrev cX5_outcomeOfGame : ByteArray := prog_1_method_54_code
def yX5_outcomeOfGame : MethodName := ⟨RX5, "outcomeOfGame", "()I"⟩
abbrev cX5_isPlace : ByteArray := prog_1_method_55_code
def yX5_isPlace : MethodName := ⟨RX5, "isPlace", "(I)Z"⟩
abbrev cX5_regionError : ByteArray := prog_1_method_56_code
def yX5_regionError : MethodName := ⟨RX5, "regionError", "(IIIJI)I"⟩
abbrev cX5_canConnect : ByteArray := prog_1_method_57_code
def yX5_canConnect : MethodName := ⟨RX5, "canConnect", "(IIIJZ)Z"⟩
abbrev cX5_isValidThreat : ByteArray := prog_1_method_58_code
def yX5_isValidThreat : MethodName := ⟨RX5, "isValidThreat", "(II)Z"⟩
abbrev cX5_tryText : ByteArray := prog_1_method_59_code
def yX5_tryText : MethodName := ⟨RX5, "tryText", "()I"⟩
abbrev cX5_letterAt : ByteArray := prog_1_method_60_code
def yX5_letterAt : MethodName := ⟨RX5, "letterAt", "(I)I"⟩
abbrev cX5_moveLength : ByteArray := prog_1_method_61_code
def yX5_moveLength : MethodName := ⟨RX5, "moveLength", "(I)I"⟩
abbrev cX5_cellAt : ByteArray := prog_1_method_62_code
def yX5_cellAt : MethodName := ⟨RX5, "cellAt", "(I)I"⟩
abbrev cX5_faultOfMove : ByteArray := prog_1_method_63_code
def yX5_faultOfMove : MethodName := ⟨RX5, "faultOfMove", "(II)I"⟩
def RX6 : String := "HexWorkbenchModel"
def TX6 : u_T := fun k => match k with
  | 0 => ("HexWorkbenchModel", "n", "I", false)
  | 1 => ("HexWorkbenchModel", "game", "[I", true)
  | 2 => ("HexWorkbenchModel", "all", "I", false)
  | 3 => ("HexWorkbenchModel", "made", "I", false)
  | 4 => ("HexWorkbenchModel", "own0", "J", false)
  | 5 => ("HexWorkbenchModel", "own1", "J", false)
  | 6 => ("HexWorkbenchModel", "near", "[J", true)
  | 7 => ("HexWorkbenchModel", "kept", "[I", true)
  | 8 => ("HexWorkbenchModel", "isKept", "[Z", true)
  | 9 => ("HexWorkbenchModel", "threatOf", "[I", true)
  | 10 => ("HexWorkbenchModel", "threatSet", "[J", true)
  | 11 => ("HexWorkbenchModel", "threatMany", "I", false)
  | 12 => ("HexWorkbenchModel", "text", "[I", true)
  | 13 => ("HexWorkbenchModel", "length", "I", false)
  | 14 => ("HexWorkbenchModel", "far", "[I", true)
  | 15 => ("HexWorkbenchModel", "back", "[I", true)
  | 16 => ("HexWorkbenchModel", "hole", "[I", true)
  | 17 => ("HexWorkbenchModel", "holes", "I", false)
  | 18 => ("HexWorkbenchModel", "isWon", "[Z", true)
  | 19 => ("HexWorkbenchModel", "won", "[I", true)
  | 20 => ("HexWorkbenchModel", "lasts", "[I", true)
  | 21 => ("HexWorkbenchModel", "power", "[I", true)
  | 22 => ("HexWorkbenchModel", "told", "[I", true)
  | _ => ("HexWorkbenchModel", "tellings", "I", false)
def tyX6 : Nat → FieldType := fun k => match k with
  | 0 => .int
  | 1 => .array .int
  | 2 => .int
  | 3 => .int
  | 4 => .long
  | 5 => .long
  | 6 => .array .long
  | 7 => .array .int
  | 8 => .array .boolean
  | 9 => .array .int
  | 10 => .array .long
  | 11 => .int
  | 12 => .array .int
  | 13 => .int
  | 14 => .array .int
  | 15 => .array .int
  | 16 => .array .int
  | 17 => .int
  | 18 => .array .boolean
  | 19 => .array .int
  | 20 => .array .int
  | 21 => .array .int
  | 22 => .array .int
  | _ => .int
abbrev wsX60 : List Cond := u_ws RX6 TX6 24
theorem nmX6 : ∀ a, a < 24 → ∀ b, b < 24 → a ≠ b → (TX6 a).2.1 ≠ (TX6 b).2.1 := by decide +kernel
theorem tyX6_ok : ∀ k, k < 24 → parseFieldDescriptor (TX6 k).2.2.1 = some (tyX6 k) := by decide +kernel
abbrev cX6_init : ByteArray := prog_8_method_1_code
def yX6_init : MethodName := ⟨RX6, "<init>", "()V"⟩
abbrev cX6_in : ByteArray := prog_8_method_3_code
def yX6_in : MethodName := ⟨RX6, "in", "(III)Z"⟩
abbrev cX6_has : ByteArray := prog_8_method_4_code
def yX6_has : MethodName := ⟨RX6, "has", "(JI)Z"⟩
abbrev cX6_size : ByteArray := prog_8_method_5_code
def yX6_size : MethodName := ⟨RX6, "size", "(J)I"⟩
abbrev cX6_joins : ByteArray := prog_8_method_6_code
def yX6_joins : MethodName := ⟨RX6, "joins", "(III)V"⟩
abbrev cX6_shapes : ByteArray := prog_8_method_7_code
def yX6_shapes : MethodName := ⟨RX6, "shapes", "()V"⟩
abbrev cX6_cells : ByteArray := prog_8_method_8_code
def yX6_cells : MethodName := ⟨RX6, "cells", "()J"⟩
abbrev cX6_free : ByteArray := prog_8_method_9_code
def yX6_free : MethodName := ⟨RX6, "free", "()J"⟩
abbrev cX6_own : ByteArray := prog_8_method_10_code
def yX6_own : MethodName := ⟨RX6, "own", "(I)J"⟩
abbrev cX6_isCell : ByteArray := prog_8_method_11_code
def yX6_isCell : MethodName := ⟨RX6, "isCell", "(I)Z"⟩
abbrev cX6_isPlayer : ByteArray := prog_8_method_12_code
def yX6_isPlayer : MethodName := ⟨RX6, "isPlayer", "(I)Z"⟩
abbrev cX6_edge : ByteArray := prog_8_method_13_code
def yX6_edge : MethodName := ⟨RX6, "edge", "(I)J"⟩
abbrev cX6_around : ByteArray := prog_8_method_14_code
def yX6_around : MethodName := ⟨RX6, "around", "(J)J"⟩
abbrev cX6_reach : ByteArray := prog_8_method_15_code
def yX6_reach : MethodName := ⟨RX6, "reach", "(JJ)J"⟩
abbrev cX6_wins : ByteArray := prog_8_method_16_code
def yX6_wins : MethodName := ⟨RX6, "wins", "(IJ)Z"⟩
abbrev cX6_winnerNow : ByteArray := prog_8_method_17_code
def yX6_winnerNow : MethodName := ⟨RX6, "winnerNow", "()I"⟩
abbrev cX6_lays : ByteArray := prog_8_method_18_code
def yX6_lays : MethodName := ⟨RX6, "lays", "(II)V"⟩
abbrev cX6_goes : ByteArray := prog_8_method_19_code
def yX6_goes : MethodName := ⟨RX6, "goes", "(I)V"⟩
abbrev cX6_adds : ByteArray := prog_8_method_20_code
def yX6_adds : MethodName := ⟨RX6, "adds", "(I)V"⟩
abbrev cX6_begin : ByteArray := prog_8_method_21_code
def yX6_begin : MethodName := ⟨RX6, "begin", "(I)I"⟩
abbrev cX6_rows : ByteArray := prog_8_method_22_code
def yX6_rows : MethodName := ⟨RX6, "rows", "()I"⟩
abbrev cX6_play : ByteArray := prog_8_method_23_code
def yX6_play : MethodName := ⟨RX6, "play", "(I)I"⟩
abbrev cX6_swap : ByteArray := prog_8_method_24_code
def yX6_swap : MethodName := ⟨RX6, "swap", "()I"⟩
abbrev cX6_takeBack : ByteArray := prog_8_method_25_code
def yX6_takeBack : MethodName := ⟨RX6, "takeBack", "()I"⟩
abbrev cX6_again : ByteArray := prog_8_method_26_code
def yX6_again : MethodName := ⟨RX6, "again", "()I"⟩
abbrev cX6_moves : ByteArray := prog_8_method_27_code
def yX6_moves : MethodName := ⟨RX6, "moves", "()I"⟩
abbrev cX6_moveAt : ByteArray := prog_8_method_28_code
def yX6_moveAt : MethodName := ⟨RX6, "moveAt", "(I)I"⟩
abbrev cX6_turn : ByteArray := prog_8_method_29_code
def yX6_turn : MethodName := ⟨RX6, "turn", "()I"⟩
abbrev cX6_winner : ByteArray := prog_8_method_30_code
def yX6_winner : MethodName := ⟨RX6, "winner", "()I"⟩
abbrev cX6_stones : ByteArray := prog_8_method_31_code
def yX6_stones : MethodName := ⟨RX6, "stones", "(I)J"⟩
abbrev cX6_beside : ByteArray := prog_8_method_32_code
def yX6_beside : MethodName := ⟨RX6, "beside", "(I)J"⟩
abbrev cX6_lowest : ByteArray := prog_8_method_33_code
def yX6_lowest : MethodName := ⟨RX6, "lowest", "(J)I"⟩
abbrev cX6_chainWith : ByteArray := prog_8_method_34_code
def yX6_chainWith : MethodName := ⟨RX6, "chainWith", "(I)J"⟩
abbrev cX6_chains : ByteArray := prog_8_method_35_code
def yX6_chains : MethodName := ⟨RX6, "chains", "(I)I"⟩
abbrev cX6_chainOf : ByteArray := prog_8_method_36_code
def yX6_chainOf : MethodName := ⟨RX6, "chainOf", "(I)I"⟩
abbrev cX6_chain : ByteArray := prog_8_method_37_code
def yX6_chain : MethodName := ⟨RX6, "chain", "(I)J"⟩
abbrev cX6_levels : ByteArray := prog_8_method_38_code
def yX6_levels : MethodName := ⟨RX6, "levels", "(II[I)V"⟩
abbrev cX6_distanceOf : ByteArray := prog_8_method_39_code
def yX6_distanceOf : MethodName := ⟨RX6, "distanceOf", "(I)I"⟩
abbrev cX6_distance : ByteArray := prog_8_method_40_code
def yX6_distance : MethodName := ⟨RX6, "distance", "(I)I"⟩
abbrev cX6_shortestOf : ByteArray := prog_8_method_41_code
def yX6_shortestOf : MethodName := ⟨RX6, "shortestOf", "(I)J"⟩
abbrev cX6_shortest : ByteArray := prog_8_method_42_code
def yX6_shortest : MethodName := ⟨RX6, "shortest", "(I)J"⟩
abbrev cX6_cut : ByteArray := prog_8_method_43_code
def yX6_cut : MethodName := ⟨RX6, "cut", "(I)I"⟩
abbrev cX6_carrier : ByteArray := prog_8_method_44_code
def yX6_carrier : MethodName := ⟨RX6, "carrier", "(IIJ)J"⟩
abbrev cX6_bridges : ByteArray := prog_8_method_45_code
def yX6_bridges : MethodName := ⟨RX6, "bridges", "(I)I"⟩
abbrev cX6_bridge : ByteArray := prog_8_method_46_code
def yX6_bridge : MethodName := ⟨RX6, "bridge", "(III)I"⟩
abbrev cX6_answersNow : ByteArray := prog_8_method_47_code
def yX6_answersNow : MethodName := ⟨RX6, "answersNow", "()J"⟩
abbrev cX6_answers : ByteArray := prog_8_method_48_code
def yX6_answers : MethodName := ⟨RX6, "answers", "()J"⟩
abbrev cX6_findHoles : ByteArray := prog_8_method_49_code
def yX6_findHoles : MethodName := ⟨RX6, "findHoles", "(J)V"⟩
abbrev cX6_fills : ByteArray := prog_8_method_50_code
def yX6_fills : MethodName := ⟨RX6, "fills", "()Z"⟩
abbrev cX6_fillings : ByteArray := prog_8_method_51_code
def yX6_fillings : MethodName := ⟨RX6, "fillings", "(I)I"⟩
abbrev cX6_weightOf : ByteArray := prog_8_method_52_code
def yX6_weightOf : MethodName := ⟨RX6, "weightOf", "(I)I"⟩
abbrev cX6_weight : ByteArray := prog_8_method_53_code
def yX6_weight : MethodName := ⟨RX6, "weight", "(I)I"⟩
abbrev cX6_dead : ByteArray := prog_8_method_54_code
def yX6_dead : MethodName := ⟨RX6, "dead", "()J"⟩
abbrev cX6_powers : ByteArray := prog_8_method_55_code
def yX6_powers : MethodName := ⟨RX6, "powers", "()V"⟩
abbrev cX6_digit : ByteArray := prog_8_method_56_code
def yX6_digit : MethodName := ⟨RX6, "digit", "(II)I"⟩
abbrev cX6_laid : ByteArray := prog_8_method_57_code
def yX6_laid : MethodName := ⟨RX6, "laid", "(II)J"⟩
abbrev cX6_laidMany : ByteArray := prog_8_method_58_code
def yX6_laidMany : MethodName := ⟨RX6, "laidMany", "(I)I"⟩
abbrev cX6_decides : ByteArray := prog_8_method_59_code
def yX6_decides : MethodName := ⟨RX6, "decides", "(II)V"⟩
abbrev cX6_solves : ByteArray := prog_8_method_60_code
def yX6_solves : MethodName := ⟨RX6, "solves", "()Z"⟩
abbrev cX6_solve : ByteArray := prog_8_method_61_code
def yX6_solve : MethodName := ⟨RX6, "solve", "()I"⟩
abbrev cX6_winning : ByteArray := prog_8_method_62_code
def yX6_winning : MethodName := ⟨RX6, "winning", "()J"⟩
abbrev cX6_winningMoves : ByteArray := prog_8_method_63_code
def yX6_winningMoves : MethodName := ⟨RX6, "winningMoves", "()J"⟩
abbrev cX6_duration : ByteArray := prog_8_method_64_code
def yX6_duration : MethodName := ⟨RX6, "duration", "()I"⟩
abbrev cX6_winningOpenings : ByteArray := prog_8_method_65_code
def yX6_winningOpenings : MethodName := ⟨RX6, "winningOpenings", "(I)J"⟩
abbrev cX6_isPlace : ByteArray := prog_8_method_66_code
def yX6_isPlace : MethodName := ⟨RX6, "isPlace", "(I)Z"⟩
abbrev cX6_place : ByteArray := prog_8_method_67_code
def yX6_place : MethodName := ⟨RX6, "place", "(I)J"⟩
abbrev cX6_arePlaces : ByteArray := prog_8_method_68_code
def yX6_arePlaces : MethodName := ⟨RX6, "arePlaces", "(III)Z"⟩
abbrev cX6_isRegion : ByteArray := prog_8_method_69_code
def yX6_isRegion : MethodName := ⟨RX6, "isRegion", "(JI)Z"⟩
abbrev cX6_connects : ByteArray := prog_8_method_70_code
def yX6_connects : MethodName := ⟨RX6, "connects", "(IIIJI)Z"⟩
abbrev cX6_strengthOf : ByteArray := prog_8_method_71_code
def yX6_strengthOf : MethodName := ⟨RX6, "strengthOf", "(IIIJ)I"⟩
abbrev cX6_strength : ByteArray := prog_8_method_72_code
def yX6_strength : MethodName := ⟨RX6, "strength", "(IIIJ)I"⟩
abbrev cX6_smallestFull : ByteArray := prog_8_method_73_code
def yX6_smallestFull : MethodName := ⟨RX6, "smallestFull", "(IIIJ)I"⟩
abbrev cX6_addThreat : ByteArray := prog_8_method_74_code
def yX6_addThreat : MethodName := ⟨RX6, "addThreat", "(IJ)I"⟩
abbrev cX6_clearThreats : ByteArray := prog_8_method_75_code
def yX6_clearThreats : MethodName := ⟨RX6, "clearThreats", "()I"⟩
abbrev cX6_isThreat : ByteArray := prog_8_method_76_code
def yX6_isThreat : MethodName := ⟨RX6, "isThreat", "(II)Z"⟩
abbrev cX6_threatsOf : ByteArray := prog_8_method_77_code
def yX6_threatsOf : MethodName := ⟨RX6, "threatsOf", "(I)I"⟩
abbrev cX6_threats : ByteArray := prog_8_method_78_code
def yX6_threats : MethodName := ⟨RX6, "threats", "(I)I"⟩
abbrev cX6_neededOf : ByteArray := prog_8_method_79_code
def yX6_neededOf : MethodName := ⟨RX6, "neededOf", "(I)J"⟩
abbrev cX6_needed : ByteArray := prog_8_method_80_code
def yX6_needed : MethodName := ⟨RX6, "needed", "(I)J"⟩
abbrev cX6_nth : ByteArray := prog_8_method_81_code
def yX6_nth : MethodName := ⟨RX6, "nth", "(JI)I"⟩
abbrev cX6_randomGames : ByteArray := prog_8_method_82_code
def yX6_randomGames : MethodName := ⟨RX6, "randomGames", "(II)I"⟩
abbrev cX6_append : ByteArray := prog_8_method_83_code
def yX6_append : MethodName := ⟨RX6, "append", "(I)I"⟩
abbrev cX6_clearText : ByteArray := prog_8_method_84_code
def yX6_clearText : MethodName := ⟨RX6, "clearText", "()I"⟩
abbrev cX6_faultOf : ByteArray := prog_8_method_85_code
def yX6_faultOf : MethodName := ⟨RX6, "faultOf", "()I"⟩
abbrev cX6_faultAside : ByteArray := prog_8_method_86_code
def yX6_faultAside : MethodName := ⟨RX6, "faultAside", "()I"⟩
abbrev cX6_faultPosition : ByteArray := prog_8_method_87_code
def yX6_faultPosition : MethodName := ⟨RX6, "faultPosition", "()I"⟩
abbrev cX6_read : ByteArray := prog_8_method_88_code
def yX6_read : MethodName := ⟨RX6, "read", "()I"⟩
abbrev cX6_save : ByteArray := prog_8_method_89_code
def yX6_save : MethodName := ⟨RX6, "save", "(I)I"⟩
abbrev cX6_restore : ByteArray := prog_8_method_90_code
def yX6_restore : MethodName := ⟨RX6, "restore", "(I)I"⟩
abbrev cX6_more : ByteArray := prog_8_method_91_code
def yX6_more : MethodName := ⟨RX6, "more", "(JJ)J"⟩
abbrev cX6_checksum : ByteArray := prog_8_method_92_code
def yX6_checksum : MethodName := ⟨RX6, "checksum", "()J"⟩
def RJ13 : String := "java/lang/Long"
def TJ13 : u_T := fun k => match k with
  | _ => ("", "", "", false)
def tyJ13 : Nat → FieldType := fun k => match k with
  | _ => .int
abbrev wsJ130 : List Cond := u_ws RJ13 TJ13 0
theorem nmJ13 : ∀ a, a < 0 → ∀ b, b < 0 → a ≠ b → (TJ13 a).2.1 ≠ (TJ13 b).2.1 := by decide +kernel
theorem tyJ13_ok : ∀ k, k < 0 → parseFieldDescriptor (TJ13 k).2.2.1 = some (tyJ13 k) := by decide +kernel
abbrev cJ13_bitCount_95d88 : ByteArray := prog_9_method_50_code
def yJ13_bitCount_95d88 : MethodName := ⟨RJ13, "bitCount", "(J)I"⟩
def RJ9 : String := "java/lang/Math"
def TJ9 : u_T := fun k => match k with
  | _ => ("", "", "", false)
def tyJ9 : Nat → FieldType := fun k => match k with
  | _ => .int
abbrev wsJ90 : List Cond := u_ws RJ9 TJ9 0
theorem nmJ9 : ∀ a, a < 0 → ∀ b, b < 0 → a ≠ b → (TJ9 a).2.1 ≠ (TJ9 b).2.1 := by decide +kernel
theorem tyJ9_ok : ∀ k, k < 0 → parseFieldDescriptor (TJ9 k).2.2.1 = some (tyJ9 k) := by decide +kernel
abbrev cJ9_max_7cf53 : ByteArray := prog_10_method_65_code
def yJ9_max_7cf53 : MethodName := ⟨RJ9, "max", "(II)I"⟩
abbrev cJ9_min_7cf53 : ByteArray := prog_10_method_69_code
def yJ9_min_7cf53 : MethodName := ⟨RJ9, "min", "(II)I"⟩
def RL : String := "HexWorkbenchLaw"
abbrev cL_law : ByteArray := code
def yL_law : MethodName := ⟨RL, "law", "([I)Z"⟩
abbrev vwCl : List vw_C := [(RX0, TX0, 7), (RX1, TX1, 5), (RX2, TX2, 2), (RX3, TX3, 6), (RX4, TX4, 1), (RX5, TX5, 12), (RX6, TX6, 24)]
