section
-- ===== PART A: goes FIRST, ahead of the names: the tables' words, and 'selects' of the private methods out of them =====
/-- a private method of a class that the tables say can be made, by its rows of tables_1 -/
def lw_okq (q : MethodName × Nat) : Prop := (q.1.cls ≠ "java/lang/invoke/MethodHandle" ∧ q.1.cls ≠ "java/lang/invoke/VarHandle") ∧ Cond.instantiable q.1.cls q.2 ∈ tables_1 ∧ Cond.privateMethod q.1 ∈ tables_1 ∧ Cond.instanceMethod q.1 ∈ tables_1
theorem lw_p0 : lw_okq (⟨"Feederlight", "letMinutePass", "()I"⟩, 11) := ⟨⟨by decide +kernel, by decide +kernel⟩, List.mem_of_getElem? (i := 21) (by decide +kernel), List.mem_of_getElem? (i := 228) (by decide +kernel), List.mem_of_getElem? (i := 229) (by decide +kernel)⟩
theorem lw_p1 : lw_okq (⟨"Feederlight", "workOutOwnCurrents", "()V"⟩, 11) := ⟨⟨by decide +kernel, by decide +kernel⟩, List.mem_of_getElem? (i := 21) (by decide +kernel), List.mem_of_getElem? (i := 232) (by decide +kernel), List.mem_of_getElem? (i := 233) (by decide +kernel)⟩
theorem lw_p2 : lw_okq (⟨"Feederlight$Roof", "currentFor", "(I)I"⟩, 3) := ⟨⟨by decide +kernel, by decide +kernel⟩, List.mem_of_getElem? (i := 173) (by decide +kernel), List.mem_of_getElem? (i := 236) (by decide +kernel), List.mem_of_getElem? (i := 237) (by decide +kernel)⟩
theorem lw_p3 : lw_okq (⟨"Feederlight", "serveByTurn", "()V"⟩, 11) := ⟨⟨by decide +kernel, by decide +kernel⟩, List.mem_of_getElem? (i := 21) (by decide +kernel), List.mem_of_getElem? (i := 243) (by decide +kernel), List.mem_of_getElem? (i := 244) (by decide +kernel)⟩
theorem lw_p4 : lw_okq (⟨"Feederlight$Chargers", "lineUp", "(I)V"⟩, 5) := ⟨⟨by decide +kernel, by decide +kernel⟩, List.mem_of_getElem? (i := 145) (by decide +kernel), List.mem_of_getElem? (i := 247) (by decide +kernel), List.mem_of_getElem? (i := 248) (by decide +kernel)⟩
theorem lw_p5 : lw_okq (⟨"Feederlight$Chargers", "enterLine", "(I)V"⟩, 5) := ⟨⟨by decide +kernel, by decide +kernel⟩, List.mem_of_getElem? (i := 145) (by decide +kernel), List.mem_of_getElem? (i := 251) (by decide +kernel), List.mem_of_getElem? (i := 252) (by decide +kernel)⟩
theorem lw_p6 : lw_okq (⟨"Feederlight", "staysWithinLimitsWith", "(I)Z"⟩, 11) := ⟨⟨by decide +kernel, by decide +kernel⟩, List.mem_of_getElem? (i := 21) (by decide +kernel), List.mem_of_getElem? (i := 255) (by decide +kernel), List.mem_of_getElem? (i := 256) (by decide +kernel)⟩
theorem lw_p7 : lw_okq (⟨"Feederlight", "workOutFlowsWith", "(I)V"⟩, 11) := ⟨⟨by decide +kernel, by decide +kernel⟩, List.mem_of_getElem? (i := 21) (by decide +kernel), List.mem_of_getElem? (i := 259) (by decide +kernel), List.mem_of_getElem? (i := 260) (by decide +kernel)⟩
theorem lw_p8 : lw_okq (⟨"Feederlight$Flows", "workOut", "([I[III)V"⟩, 3) := ⟨⟨by decide +kernel, by decide +kernel⟩, List.mem_of_getElem? (i := 29) (by decide +kernel), List.mem_of_getElem? (i := 263) (by decide +kernel), List.mem_of_getElem? (i := 264) (by decide +kernel)⟩
theorem lw_p9 : lw_okq (⟨"Feederlight$Flows", "areWithinLimits", "()Z"⟩, 3) := ⟨⟨by decide +kernel, by decide +kernel⟩, List.mem_of_getElem? (i := 29) (by decide +kernel), List.mem_of_getElem? (i := 273) (by decide +kernel), List.mem_of_getElem? (i := 274) (by decide +kernel)⟩
theorem lw_p10 : lw_okq (⟨"Feederlight$Flows", "carriedTo", "(I)I"⟩, 3) := ⟨⟨by decide +kernel, by decide +kernel⟩, List.mem_of_getElem? (i := 29) (by decide +kernel), List.mem_of_getElem? (i := 277) (by decide +kernel), List.mem_of_getElem? (i := 278) (by decide +kernel)⟩
theorem lw_p11 : lw_okq (⟨"Feederlight", "countMinute", "()V"⟩, 11) := ⟨⟨by decide +kernel, by decide +kernel⟩, List.mem_of_getElem? (i := 21) (by decide +kernel), List.mem_of_getElem? (i := 284) (by decide +kernel), List.mem_of_getElem? (i := 285) (by decide +kernel)⟩
theorem lw_p12 : lw_okq (⟨"Feederlight", "heatFuses", "()I"⟩, 11) := ⟨⟨by decide +kernel, by decide +kernel⟩, List.mem_of_getElem? (i := 21) (by decide +kernel), List.mem_of_getElem? (i := 289) (by decide +kernel), List.mem_of_getElem? (i := 290) (by decide +kernel)⟩
theorem lw_p13 : lw_okq (⟨"Feederlight$Grid", "heatFuse", "(II)Z"⟩, 10) := ⟨⟨by decide +kernel, by decide +kernel⟩, List.mem_of_getElem? (i := 41) (by decide +kernel), List.mem_of_getElem? (i := 294) (by decide +kernel), List.mem_of_getElem? (i := 295) (by decide +kernel)⟩
theorem lw_p14 : lw_okq (⟨"Feederlight$Feeding", "workOut", "()V"⟩, 8) := ⟨⟨by decide +kernel, by decide +kernel⟩, List.mem_of_getElem? (i := 35) (by decide +kernel), List.mem_of_getElem? (i := 301) (by decide +kernel), List.mem_of_getElem? (i := 302) (by decide +kernel)⟩
theorem lw_p15 : lw_okq (⟨"Feederlight$Feeding", "startAtTransformer", "()V"⟩, 8) := ⟨⟨by decide +kernel, by decide +kernel⟩, List.mem_of_getElem? (i := 35) (by decide +kernel), List.mem_of_getElem? (i := 305) (by decide +kernel), List.mem_of_getElem? (i := 306) (by decide +kernel)⟩
def lw_privs_1 : List (MethodName × Nat) := [(⟨"Feederlight", "letMinutePass", "()I"⟩, 11), (⟨"Feederlight", "workOutOwnCurrents", "()V"⟩, 11), (⟨"Feederlight$Roof", "currentFor", "(I)I"⟩, 3), (⟨"Feederlight", "serveByTurn", "()V"⟩, 11), (⟨"Feederlight$Chargers", "lineUp", "(I)V"⟩, 5), (⟨"Feederlight$Chargers", "enterLine", "(I)V"⟩, 5), (⟨"Feederlight", "staysWithinLimitsWith", "(I)Z"⟩, 11), (⟨"Feederlight", "workOutFlowsWith", "(I)V"⟩, 11), (⟨"Feederlight$Flows", "workOut", "([I[III)V"⟩, 3), (⟨"Feederlight$Flows", "areWithinLimits", "()Z"⟩, 3), (⟨"Feederlight$Flows", "carriedTo", "(I)I"⟩, 3), (⟨"Feederlight", "countMinute", "()V"⟩, 11), (⟨"Feederlight", "heatFuses", "()I"⟩, 11), (⟨"Feederlight$Grid", "heatFuse", "(II)Z"⟩, 10), (⟨"Feederlight$Feeding", "workOut", "()V"⟩, 8), (⟨"Feederlight$Feeding", "startAtTransformer", "()V"⟩, 8)]
theorem lw_r1 : ∀ q ∈ lw_privs_1, lw_okq q := List.forall_mem_cons.mpr ⟨lw_p0, List.forall_mem_cons.mpr ⟨lw_p1, List.forall_mem_cons.mpr ⟨lw_p2, List.forall_mem_cons.mpr ⟨lw_p3, List.forall_mem_cons.mpr ⟨lw_p4, List.forall_mem_cons.mpr ⟨lw_p5, List.forall_mem_cons.mpr ⟨lw_p6, List.forall_mem_cons.mpr ⟨lw_p7, List.forall_mem_cons.mpr ⟨lw_p8, List.forall_mem_cons.mpr ⟨lw_p9, List.forall_mem_cons.mpr ⟨lw_p10, List.forall_mem_cons.mpr ⟨lw_p11, List.forall_mem_cons.mpr ⟨lw_p12, List.forall_mem_cons.mpr ⟨lw_p13, List.forall_mem_cons.mpr ⟨lw_p14, List.forall_mem_cons.mpr ⟨lw_p15, fun _ h => absurd h List.not_mem_nil⟩⟩⟩⟩⟩⟩⟩⟩⟩⟩⟩⟩⟩⟩⟩⟩
theorem lw_p16 : lw_okq (⟨"Feederlight$Feeding", "spreadOverCables", "(I)V"⟩, 8) := ⟨⟨by decide +kernel, by decide +kernel⟩, List.mem_of_getElem? (i := 35) (by decide +kernel), List.mem_of_getElem? (i := 309) (by decide +kernel), List.mem_of_getElem? (i := 310) (by decide +kernel)⟩
theorem lw_p17 : lw_okq (⟨"Feederlight$Feeding", "spreadFrom", "(I)V"⟩, 8) := ⟨⟨by decide +kernel, by decide +kernel⟩, List.mem_of_getElem? (i := 35) (by decide +kernel), List.mem_of_getElem? (i := 313) (by decide +kernel), List.mem_of_getElem? (i := 314) (by decide +kernel)⟩
theorem lw_p18 : lw_okq (⟨"Feederlight$Feeding", "feedOverCable", "(III)V"⟩, 8) := ⟨⟨by decide +kernel, by decide +kernel⟩, List.mem_of_getElem? (i := 35) (by decide +kernel), List.mem_of_getElem? (i := 317) (by decide +kernel), List.mem_of_getElem? (i := 318) (by decide +kernel)⟩
theorem lw_p19 : lw_okq (⟨"Feederlight$Feeding", "feed", "(III)V"⟩, 8) := ⟨⟨by decide +kernel, by decide +kernel⟩, List.mem_of_getElem? (i := 35) (by decide +kernel), List.mem_of_getElem? (i := 321) (by decide +kernel), List.mem_of_getElem? (i := 322) (by decide +kernel)⟩
theorem lw_p20 : lw_okq (⟨"Feederlight$Feeding", "tieThatCanFeed", "()I"⟩, 8) := ⟨⟨by decide +kernel, by decide +kernel⟩, List.mem_of_getElem? (i := 35) (by decide +kernel), List.mem_of_getElem? (i := 325) (by decide +kernel), List.mem_of_getElem? (i := 326) (by decide +kernel)⟩
theorem lw_p21 : lw_okq (⟨"Feederlight$Feeding", "close", "(I)V"⟩, 8) := ⟨⟨by decide +kernel, by decide +kernel⟩, List.mem_of_getElem? (i := 35) (by decide +kernel), List.mem_of_getElem? (i := 329) (by decide +kernel), List.mem_of_getElem? (i := 330) (by decide +kernel)⟩
theorem lw_p22 : lw_okq (⟨"Feederlight$Feeding", "fedSet", "()I"⟩, 8) := ⟨⟨by decide +kernel, by decide +kernel⟩, List.mem_of_getElem? (i := 35) (by decide +kernel), List.mem_of_getElem? (i := 333) (by decide +kernel), List.mem_of_getElem? (i := 334) (by decide +kernel)⟩
theorem lw_p23 : lw_okq (⟨"Feederlight", "workOutFlows", "()V"⟩, 11) := ⟨⟨by decide +kernel, by decide +kernel⟩, List.mem_of_getElem? (i := 21) (by decide +kernel), List.mem_of_getElem? (i := 351) (by decide +kernel), List.mem_of_getElem? (i := 352) (by decide +kernel)⟩
theorem lw_p24 : lw_okq (⟨"Feederlight", "voltagesAgree", "()Z"⟩, 11) := ⟨⟨by decide +kernel, by decide +kernel⟩, List.mem_of_getElem? (i := 21) (by decide +kernel), List.mem_of_getElem? (i := 379) (by decide +kernel), List.mem_of_getElem? (i := 380) (by decide +kernel)⟩
theorem lw_p25 : lw_okq (⟨"Feederlight", "voltageAlongWay", "(I)I"⟩, 11) := ⟨⟨by decide +kernel, by decide +kernel⟩, List.mem_of_getElem? (i := 21) (by decide +kernel), List.mem_of_getElem? (i := 383) (by decide +kernel), List.mem_of_getElem? (i := 384) (by decide +kernel)⟩
theorem lw_p26 : lw_okq (⟨"Feederlight", "flowFoundAlone", "(I)I"⟩, 11) := ⟨⟨by decide +kernel, by decide +kernel⟩, List.mem_of_getElem? (i := 21) (by decide +kernel), List.mem_of_getElem? (i := 387) (by decide +kernel), List.mem_of_getElem? (i := 388) (by decide +kernel)⟩
theorem lw_p27 : lw_okq (⟨"Feederlight$Feeding", "hasOnWay", "(II)Z"⟩, 8) := ⟨⟨by decide +kernel, by decide +kernel⟩, List.mem_of_getElem? (i := 35) (by decide +kernel), List.mem_of_getElem? (i := 391) (by decide +kernel), List.mem_of_getElem? (i := 392) (by decide +kernel)⟩
theorem lw_p28 : lw_okq (⟨"Feederlight", "netCurrent", "(I)I"⟩, 11) := ⟨⟨by decide +kernel, by decide +kernel⟩, List.mem_of_getElem? (i := 21) (by decide +kernel), List.mem_of_getElem? (i := 395) (by decide +kernel), List.mem_of_getElem? (i := 396) (by decide +kernel)⟩
theorem lw_p29 : lw_okq (⟨"Feederlight", "countsAsServed", "(I)Z"⟩, 11) := ⟨⟨by decide +kernel, by decide +kernel⟩, List.mem_of_getElem? (i := 21) (by decide +kernel), List.mem_of_getElem? (i := 399) (by decide +kernel), List.mem_of_getElem? (i := 400) (by decide +kernel)⟩
theorem lw_p30 : lw_okq (⟨"Feederlight", "mostOfAllSets", "()I"⟩, 11) := ⟨⟨by decide +kernel, by decide +kernel⟩, List.mem_of_getElem? (i := 21) (by decide +kernel), List.mem_of_getElem? (i := 404) (by decide +kernel), List.mem_of_getElem? (i := 405) (by decide +kernel)⟩
theorem lw_p31 : lw_okq (⟨"Feederlight", "chargersToServe", "()I"⟩, 11) := ⟨⟨by decide +kernel, by decide +kernel⟩, List.mem_of_getElem? (i := 21) (by decide +kernel), List.mem_of_getElem? (i := 408) (by decide +kernel), List.mem_of_getElem? (i := 409) (by decide +kernel)⟩
def lw_privs_2 : List (MethodName × Nat) := [(⟨"Feederlight$Feeding", "spreadOverCables", "(I)V"⟩, 8), (⟨"Feederlight$Feeding", "spreadFrom", "(I)V"⟩, 8), (⟨"Feederlight$Feeding", "feedOverCable", "(III)V"⟩, 8), (⟨"Feederlight$Feeding", "feed", "(III)V"⟩, 8), (⟨"Feederlight$Feeding", "tieThatCanFeed", "()I"⟩, 8), (⟨"Feederlight$Feeding", "close", "(I)V"⟩, 8), (⟨"Feederlight$Feeding", "fedSet", "()I"⟩, 8), (⟨"Feederlight", "workOutFlows", "()V"⟩, 11), (⟨"Feederlight", "voltagesAgree", "()Z"⟩, 11), (⟨"Feederlight", "voltageAlongWay", "(I)I"⟩, 11), (⟨"Feederlight", "flowFoundAlone", "(I)I"⟩, 11), (⟨"Feederlight$Feeding", "hasOnWay", "(II)Z"⟩, 8), (⟨"Feederlight", "netCurrent", "(I)I"⟩, 11), (⟨"Feederlight", "countsAsServed", "(I)Z"⟩, 11), (⟨"Feederlight", "mostOfAllSets", "()I"⟩, 11), (⟨"Feederlight", "chargersToServe", "()I"⟩, 11)]
theorem lw_r2 : ∀ q ∈ lw_privs_2, lw_okq q := List.forall_mem_cons.mpr ⟨lw_p16, List.forall_mem_cons.mpr ⟨lw_p17, List.forall_mem_cons.mpr ⟨lw_p18, List.forall_mem_cons.mpr ⟨lw_p19, List.forall_mem_cons.mpr ⟨lw_p20, List.forall_mem_cons.mpr ⟨lw_p21, List.forall_mem_cons.mpr ⟨lw_p22, List.forall_mem_cons.mpr ⟨lw_p23, List.forall_mem_cons.mpr ⟨lw_p24, List.forall_mem_cons.mpr ⟨lw_p25, List.forall_mem_cons.mpr ⟨lw_p26, List.forall_mem_cons.mpr ⟨lw_p27, List.forall_mem_cons.mpr ⟨lw_p28, List.forall_mem_cons.mpr ⟨lw_p29, List.forall_mem_cons.mpr ⟨lw_p30, List.forall_mem_cons.mpr ⟨lw_p31, fun _ h => absurd h List.not_mem_nil⟩⟩⟩⟩⟩⟩⟩⟩⟩⟩⟩⟩⟩⟩⟩⟩
theorem lw_p32 : lw_okq (⟨"Feederlight$Chargers", "setAbove0", "(I)I"⟩, 5) := ⟨⟨by decide +kernel, by decide +kernel⟩, List.mem_of_getElem? (i := 145) (by decide +kernel), List.mem_of_getElem? (i := 412) (by decide +kernel), List.mem_of_getElem? (i := 413) (by decide +kernel)⟩
theorem lw_p33 : lw_okq (⟨"Feederlight", "mostFromLargerSets", "()I"⟩, 11) := ⟨⟨by decide +kernel, by decide +kernel⟩, List.mem_of_getElem? (i := 21) (by decide +kernel), List.mem_of_getElem? (i := 417) (by decide +kernel), List.mem_of_getElem? (i := 418) (by decide +kernel)⟩
theorem lw_p34 : lw_okq (⟨"java/lang/Throwable", "fillInStackTrace", "(I)Ljava/lang/Throwable;"⟩, 6) := ⟨⟨by decide +kernel, by decide +kernel⟩, List.mem_of_getElem? (i := 458) (by decide +kernel), List.mem_of_getElem? (i := 456) (by decide +kernel), List.mem_of_getElem? (i := 457) (by decide +kernel)⟩
theorem lw_p35 : lw_okq (⟨"Feederlight", "checkNode", "(I)V"⟩, 11) := ⟨⟨by decide +kernel, by decide +kernel⟩, List.mem_of_getElem? (i := 21) (by decide +kernel), List.mem_of_getElem? (i := 510) (by decide +kernel), List.mem_of_getElem? (i := 511) (by decide +kernel)⟩
theorem lw_p36 : lw_okq (⟨"Feederlight", "checkRange", "(III)V"⟩, 11) := ⟨⟨by decide +kernel, by decide +kernel⟩, List.mem_of_getElem? (i := 21) (by decide +kernel), List.mem_of_getElem? (i := 527) (by decide +kernel), List.mem_of_getElem? (i := 528) (by decide +kernel)⟩
theorem lw_p37 : lw_okq (⟨"Feederlight$Grid", "putNode", "(III)I"⟩, 10) := ⟨⟨by decide +kernel, by decide +kernel⟩, List.mem_of_getElem? (i := 41) (by decide +kernel), List.mem_of_getElem? (i := 563) (by decide +kernel), List.mem_of_getElem? (i := 564) (by decide +kernel)⟩
theorem lw_p38 : lw_okq (⟨"Feederlight$Grid", "putTie", "(III)I"⟩, 10) := ⟨⟨by decide +kernel, by decide +kernel⟩, List.mem_of_getElem? (i := 41) (by decide +kernel), List.mem_of_getElem? (i := 576) (by decide +kernel), List.mem_of_getElem? (i := 577) (by decide +kernel)⟩
theorem lw_p39 : lw_okq (⟨"Feederlight$Roof", "startWith", "(I)V"⟩, 3) := ⟨⟨by decide +kernel, by decide +kernel⟩, List.mem_of_getElem? (i := 173) (by decide +kernel), List.mem_of_getElem? (i := 615) (by decide +kernel), List.mem_of_getElem? (i := 616) (by decide +kernel)⟩
theorem lw_p40 : lw_okq (⟨"Feederlight", "checkRoomForLayer", "(I)V"⟩, 11) := ⟨⟨by decide +kernel, by decide +kernel⟩, List.mem_of_getElem? (i := 21) (by decide +kernel), List.mem_of_getElem? (i := 626) (by decide +kernel), List.mem_of_getElem? (i := 627) (by decide +kernel)⟩
theorem lw_p41 : lw_okq (⟨"Feederlight$Roof", "putLayer", "(ZI)I"⟩, 3) := ⟨⟨by decide +kernel, by decide +kernel⟩, List.mem_of_getElem? (i := 173) (by decide +kernel), List.mem_of_getElem? (i := 631) (by decide +kernel), List.mem_of_getElem? (i := 632) (by decide +kernel)⟩
theorem lw_p42 : lw_okq (⟨"Feederlight", "checkFedOverLine", "(I)V"⟩, 11) := ⟨⟨by decide +kernel, by decide +kernel⟩, List.mem_of_getElem? (i := 21) (by decide +kernel), List.mem_of_getElem? (i := 680) (by decide +kernel), List.mem_of_getElem? (i := 681) (by decide +kernel)⟩
theorem lw_p43 : lw_okq (⟨"Feederlight", "checkFed", "(I)V"⟩, 11) := ⟨⟨by decide +kernel, by decide +kernel⟩, List.mem_of_getElem? (i := 21) (by decide +kernel), List.mem_of_getElem? (i := 700) (by decide +kernel), List.mem_of_getElem? (i := 701) (by decide +kernel)⟩
theorem lw_p44 : lw_okq (⟨"Feederlight", "checkHasCable", "(I)V"⟩, 11) := ⟨⟨by decide +kernel, by decide +kernel⟩, List.mem_of_getElem? (i := 21) (by decide +kernel), List.mem_of_getElem? (i := 778) (by decide +kernel), List.mem_of_getElem? (i := 779) (by decide +kernel)⟩
theorem lw_p45 : lw_okq (⟨"FeederlightModel", "isNone", "(I)Z"⟩, 33) := ⟨⟨by decide +kernel, by decide +kernel⟩, List.mem_of_getElem? (i := 813) (by decide +kernel), List.mem_of_getElem? (i := 927) (by decide +kernel), List.mem_of_getElem? (i := 928) (by decide +kernel)⟩
theorem lw_p46 : lw_okq (⟨"FeederlightModel", "isThrown", "(ZI)Z"⟩, 33) := ⟨⟨by decide +kernel, by decide +kernel⟩, List.mem_of_getElem? (i := 813) (by decide +kernel), List.mem_of_getElem? (i := 934) (by decide +kernel), List.mem_of_getElem? (i := 935) (by decide +kernel)⟩
theorem lw_p47 : lw_okq (⟨"FeederlightModel", "adds", "(IZII)I"⟩, 33) := ⟨⟨by decide +kernel, by decide +kernel⟩, List.mem_of_getElem? (i := 813) (by decide +kernel), List.mem_of_getElem? (i := 966) (by decide +kernel), List.mem_of_getElem? (i := 967) (by decide +kernel)⟩
def lw_privs_3 : List (MethodName × Nat) := [(⟨"Feederlight$Chargers", "setAbove0", "(I)I"⟩, 5), (⟨"Feederlight", "mostFromLargerSets", "()I"⟩, 11), (⟨"java/lang/Throwable", "fillInStackTrace", "(I)Ljava/lang/Throwable;"⟩, 6), (⟨"Feederlight", "checkNode", "(I)V"⟩, 11), (⟨"Feederlight", "checkRange", "(III)V"⟩, 11), (⟨"Feederlight$Grid", "putNode", "(III)I"⟩, 10), (⟨"Feederlight$Grid", "putTie", "(III)I"⟩, 10), (⟨"Feederlight$Roof", "startWith", "(I)V"⟩, 3), (⟨"Feederlight", "checkRoomForLayer", "(I)V"⟩, 11), (⟨"Feederlight$Roof", "putLayer", "(ZI)I"⟩, 3), (⟨"Feederlight", "checkFedOverLine", "(I)V"⟩, 11), (⟨"Feederlight", "checkFed", "(I)V"⟩, 11), (⟨"Feederlight", "checkHasCable", "(I)V"⟩, 11), (⟨"FeederlightModel", "isNone", "(I)Z"⟩, 33), (⟨"FeederlightModel", "isThrown", "(ZI)Z"⟩, 33), (⟨"FeederlightModel", "adds", "(IZII)I"⟩, 33)]
theorem lw_r3 : ∀ q ∈ lw_privs_3, lw_okq q := List.forall_mem_cons.mpr ⟨lw_p32, List.forall_mem_cons.mpr ⟨lw_p33, List.forall_mem_cons.mpr ⟨lw_p34, List.forall_mem_cons.mpr ⟨lw_p35, List.forall_mem_cons.mpr ⟨lw_p36, List.forall_mem_cons.mpr ⟨lw_p37, List.forall_mem_cons.mpr ⟨lw_p38, List.forall_mem_cons.mpr ⟨lw_p39, List.forall_mem_cons.mpr ⟨lw_p40, List.forall_mem_cons.mpr ⟨lw_p41, List.forall_mem_cons.mpr ⟨lw_p42, List.forall_mem_cons.mpr ⟨lw_p43, List.forall_mem_cons.mpr ⟨lw_p44, List.forall_mem_cons.mpr ⟨lw_p45, List.forall_mem_cons.mpr ⟨lw_p46, List.forall_mem_cons.mpr ⟨lw_p47, fun _ h => absurd h List.not_mem_nil⟩⟩⟩⟩⟩⟩⟩⟩⟩⟩⟩⟩⟩⟩⟩⟩
theorem lw_p48 : lw_okq (⟨"FeederlightModel", "curve", "(II)I"⟩, 33) := ⟨⟨by decide +kernel, by decide +kernel⟩, List.mem_of_getElem? (i := 813) (by decide +kernel), List.mem_of_getElem? (i := 978) (by decide +kernel), List.mem_of_getElem? (i := 979) (by decide +kernel)⟩
theorem lw_p49 : lw_okq (⟨"FeederlightModel", "passes", "()I"⟩, 33) := ⟨⟨by decide +kernel, by decide +kernel⟩, List.mem_of_getElem? (i := 813) (by decide +kernel), List.mem_of_getElem? (i := 987) (by decide +kernel), List.mem_of_getElem? (i := 988) (by decide +kernel)⟩
theorem lw_p50 : lw_okq (⟨"FeederlightModel", "nets", "()V"⟩, 33) := ⟨⟨by decide +kernel, by decide +kernel⟩, List.mem_of_getElem? (i := 813) (by decide +kernel), List.mem_of_getElem? (i := 991) (by decide +kernel), List.mem_of_getElem? (i := 992) (by decide +kernel)⟩
theorem lw_p51 : lw_okq (⟨"FeederlightModel", "spreads", "()V"⟩, 33) := ⟨⟨by decide +kernel, by decide +kernel⟩, List.mem_of_getElem? (i := 813) (by decide +kernel), List.mem_of_getElem? (i := 995) (by decide +kernel), List.mem_of_getElem? (i := 996) (by decide +kernel)⟩
theorem lw_p52 : lw_okq (⟨"FeederlightModel", "feeds", "(IIII)V"⟩, 33) := ⟨⟨by decide +kernel, by decide +kernel⟩, List.mem_of_getElem? (i := 813) (by decide +kernel), List.mem_of_getElem? (i := 999) (by decide +kernel), List.mem_of_getElem? (i := 1000) (by decide +kernel)⟩
theorem lw_p53 : lw_okq (⟨"FeederlightModel", "turns", "()I"⟩, 33) := ⟨⟨by decide +kernel, by decide +kernel⟩, List.mem_of_getElem? (i := 813) (by decide +kernel), List.mem_of_getElem? (i := 1003) (by decide +kernel), List.mem_of_getElem? (i := 1004) (by decide +kernel)⟩
theorem lw_p54 : lw_okq (⟨"FeederlightModel", "keeps", "()Z"⟩, 33) := ⟨⟨by decide +kernel, by decide +kernel⟩, List.mem_of_getElem? (i := 813) (by decide +kernel), List.mem_of_getElem? (i := 1007) (by decide +kernel), List.mem_of_getElem? (i := 1008) (by decide +kernel)⟩
theorem lw_p55 : lw_okq (⟨"FeederlightModel", "flows", "()V"⟩, 33) := ⟨⟨by decide +kernel, by decide +kernel⟩, List.mem_of_getElem? (i := 813) (by decide +kernel), List.mem_of_getElem? (i := 1011) (by decide +kernel), List.mem_of_getElem? (i := 1012) (by decide +kernel)⟩
theorem lw_p56 : lw_okq (⟨"FeederlightModel", "fed", "()I"⟩, 33) := ⟨⟨by decide +kernel, by decide +kernel⟩, List.mem_of_getElem? (i := 813) (by decide +kernel), List.mem_of_getElem? (i := 1025) (by decide +kernel), List.mem_of_getElem? (i := 1026) (by decide +kernel)⟩
theorem lw_p57 : lw_okq (⟨"FeederlightModel", "isNotFed", "(IZ)Z"⟩, 33) := ⟨⟨by decide +kernel, by decide +kernel⟩, List.mem_of_getElem? (i := 813) (by decide +kernel), List.mem_of_getElem? (i := 1041) (by decide +kernel), List.mem_of_getElem? (i := 1042) (by decide +kernel)⟩
theorem lw_p58 : lw_okq (⟨"FeederlightModel", "lays", "()V"⟩, 33) := ⟨⟨by decide +kernel, by decide +kernel⟩, List.mem_of_getElem? (i := 813) (by decide +kernel), List.mem_of_getElem? (i := 1045) (by decide +kernel), List.mem_of_getElem? (i := 1046) (by decide +kernel)⟩
theorem lw_p59 : lw_okq (⟨"FeederlightModel", "most", "()I"⟩, 33) := ⟨⟨by decide +kernel, by decide +kernel⟩, List.mem_of_getElem? (i := 813) (by decide +kernel), List.mem_of_getElem? (i := 1090) (by decide +kernel), List.mem_of_getElem? (i := 1091) (by decide +kernel)⟩
theorem lw_p60 : lw_okq (⟨"FeederlightModel", "isNoFuse", "(I)Z"⟩, 33) := ⟨⟨by decide +kernel, by decide +kernel⟩, List.mem_of_getElem? (i := 813) (by decide +kernel), List.mem_of_getElem? (i := 1104) (by decide +kernel), List.mem_of_getElem? (i := 1105) (by decide +kernel)⟩
def lw_privs_4 : List (MethodName × Nat) := [(⟨"FeederlightModel", "curve", "(II)I"⟩, 33), (⟨"FeederlightModel", "passes", "()I"⟩, 33), (⟨"FeederlightModel", "nets", "()V"⟩, 33), (⟨"FeederlightModel", "spreads", "()V"⟩, 33), (⟨"FeederlightModel", "feeds", "(IIII)V"⟩, 33), (⟨"FeederlightModel", "turns", "()I"⟩, 33), (⟨"FeederlightModel", "keeps", "()Z"⟩, 33), (⟨"FeederlightModel", "flows", "()V"⟩, 33), (⟨"FeederlightModel", "fed", "()I"⟩, 33), (⟨"FeederlightModel", "isNotFed", "(IZ)Z"⟩, 33), (⟨"FeederlightModel", "lays", "()V"⟩, 33), (⟨"FeederlightModel", "most", "()I"⟩, 33), (⟨"FeederlightModel", "isNoFuse", "(I)Z"⟩, 33)]
theorem lw_r4 : ∀ q ∈ lw_privs_4, lw_okq q := List.forall_mem_cons.mpr ⟨lw_p48, List.forall_mem_cons.mpr ⟨lw_p49, List.forall_mem_cons.mpr ⟨lw_p50, List.forall_mem_cons.mpr ⟨lw_p51, List.forall_mem_cons.mpr ⟨lw_p52, List.forall_mem_cons.mpr ⟨lw_p53, List.forall_mem_cons.mpr ⟨lw_p54, List.forall_mem_cons.mpr ⟨lw_p55, List.forall_mem_cons.mpr ⟨lw_p56, List.forall_mem_cons.mpr ⟨lw_p57, List.forall_mem_cons.mpr ⟨lw_p58, List.forall_mem_cons.mpr ⟨lw_p59, List.forall_mem_cons.mpr ⟨lw_p60, fun _ h => absurd h List.not_mem_nil⟩⟩⟩⟩⟩⟩⟩⟩⟩⟩⟩⟩⟩
def lw_privs : List (MethodName × Nat) := lw_privs_1 ++ (lw_privs_2 ++ (lw_privs_3 ++ (lw_privs_4)))
def lw_tbl : List Cond := k2_sels lw_privs ++ tables_1
theorem lw_privs_ok : ∀ q ∈ lw_privs, lw_okq q := by
  show ∀ q ∈ lw_privs_1 ++ (lw_privs_2 ++ (lw_privs_3 ++ (lw_privs_4))), lw_okq q
  exact List.forall_mem_append.mpr ⟨lw_r1, List.forall_mem_append.mpr ⟨lw_r2, List.forall_mem_append.mpr ⟨lw_r3, lw_r4⟩⟩⟩
/-- the streams that the claim lets the run draw from -/
abbrev lw_cs : List Choice := [Jvm.Choice.named "NaN.bits"]
theorem lw_bits : nanBits ∈ lw_cs := by first | decide | exact List.mem_cons_self | simp [lw_cs, nanBits]
end
section
/-! ===== BEGIN words of one list among another's, by their places ===== -/
theorem goodIn_r {big : List Cond} (ws : List Cond) (ps : List Nat) (hp : ws = ps.filterMap (fun i => big[i]?)) (h : ws.all goodWord = true) : GoodIn big ws := by
  intro w hw
  have h1 := List.all_eq_true.mp h w hw
  rw [hp] at hw
  obtain ⟨i, -, hi⟩ := List.mem_filterMap.mp hw
  have hm : w ∈ big := by first | exact List.mem_of_getElem? hi | exact List.getElem?_mem hi
  exact ⟨hm, good_of_word h1⟩
theorem goodIn_app {big a b : List Cond} (ha : GoodIn big a) (hb : GoodIn big b) : GoodIn big (a ++ b) := fun w h => (List.mem_append.mp h).elim (ha w) (hb w)
theorem goodIn_ca {big a b : List Cond} {c : Cond} (ha : GoodIn big (c :: a)) (hb : GoodIn big b) : GoodIn big (c :: (a ++ b)) := fun w h => (List.mem_cons.mp h).elim (fun e => ha w (List.mem_cons.mpr (Or.inl e))) (fun h => (List.mem_append.mp h).elim (fun h => ha w (List.mem_cons.mpr (Or.inr h))) (hb w))
theorem goodIn_sub {big ws : List Cond} (hm : ∀ w ∈ ws, w ∈ big) (h : ws.all goodWord = true) : GoodIn big ws := fun w hw => ⟨hm w hw, good_of_word (List.all_eq_true.mp h w hw)⟩
/-! ===== END ===== -/

/-! ===== BEGIN exceptions that leave a method, and their catching by the caller (launches without stack traces) ===== -/
section VXA
/-! The laws vx_back, vx_callV, vx_callS, vx_callSW, vx_throw0, vx_throwS follow proofs of the library, with one case more: JvmDerived/Free/Laws.lean (Back.of_free), Shelf42/LK1.lean (callV, callS), Shelf/KitTraced.lean (throwNew0V, throwNewS). -/
/-- where a method has thrown q: the class by its name, the cell, what was written, the world -/
def vx_T (XC : String → State → State → Prop) (st : State) (q : Addr) (t : State) (mc ms : Nat) (free : Addr → Prop) : Prop :=
  ∃ (E : String) (ce : Cell) (L : List Loc), XC E st t ∧ t.heap[q]? = some ce ∧ ce.vm = .none ∧ st.vm.findClass E = some ce.cls ∧ st.WarmedH t.vm ∧ st.sameButNew ({ t with vm := st.vm } : State) L mc ms ∧ ∀ z ∈ L, free z.base
def vx_Q (Qc : Array Value → State → Outcome → State → Prop) (XC : String → State → State → Prop) (mc ms : Nat) (free : Addr → Prop) : Array Value → State → Outcome → State → Prop := fun a st o t =>
  (Qc a st o t ∧ ∃ L, FrameEnd st o t L mc ms ∧ ∀ q ∈ L, free q.base) ∨ ∃ q, o = .threw q ∧ vx_T XC st q t mc ms free
/-- a callee that returns or throws -/
def vx_Met (l : Launch) (y : MethodName) (ws : List Cond) (rm : Room) (Pc : Array Value → State → Prop) (Qc : Array Value → State → Outcome → State → Prop) (XC : String → State → State → Prop) (mc ms : Nat) (free : Addr → Prop) : Prop :=
  MetFree l y (headSpec ws rm) Pc (fun _ _ _ _ _ => True) (vx_Q Qc XC mc ms free)
def vx_Post (XC : String → State → State → Prop) (mc ms : Nat) (free : Addr → Prop) : Pt → Array Value → Addr → Pt → Prop := fun A a q B =>
  ∃ (g : JFrame) (mk : MethodId) (t : State) (L : List Loc) (E : String) (ce : Cell), B.U.heap = t.heap ∧ B.U.vm = t.vm ∧ XC E (A.U.calling g mk a) t ∧ t.heap[q]? = some ce ∧ ce.vm = .none ∧ A.U.vm.findClass E = some ce.cls ∧ B.locs = A.locs ++ L ∧ (∀ z ∈ L, free z.base) ∧ B.cells = A.cells + mc ∧ B.slots = A.slots + ms
def vx_Back (l : Launch) (R : Room) (p : Program) (e : Env) (below : List Frame) (s : State) (sargs : Array Value) (y : MethodName) (len W9 : Nat)
    (Pre : Pt → Array Value → Prop) (Post : Pt → Array Value → Option Value → Pt → Prop) (PostX : Pt → Array Value → Addr → Pt → Prop) : Prop :=
  ∀ (m : MethodId) (meth : Method) (c : Code) (A : Pt) (g : JFrame) (ig : Instr) (mk : MethodId) (a : Array Value),
    Stand p l e R s m sargs below meth c A.U A.locs A.cells A.slots → g.method = m → g.locals.size = c.maxLocals → decode c.code g.pc = .ok (ig, len) →
    2 * g.monitorRoom + (g.stack.map fun v => v.category).sum ≤ W9 → A.U.methodNamed? y = some mk → Pre A a →
    (∃ (v : Option Value) (B : Pt), Stand p l e R s m sargs below meth c B.U B.locs B.cells B.slots ∧ Post A a v B ∧
      Steps p.tables e below (doInvoke e (A.U.setTop g) [] mk a).1 (B.U.setTop { g with pc := g.pc + len, stack := v.toList ++ g.stack })) ∨
    (∃ (q : Addr) (B : Pt), Stand p l e R s m sargs below meth c B.U B.locs B.cells B.slots ∧ PostX A a q B ∧
      Steps p.tables e below (doInvoke e (A.U.setTop g) [] mk a).1 ((B.U.setTop g).pushFrame (.throwing q)))
section Payer
variable {l : Launch} {R : Room} {p : Program} {e : Env} {below : List Frame} {s : State} {sargs : Array Value} {y : MethodName} {len W9 : Nat}
theorem vx_back {ws : List Cond} {rm : Room} {Pc : Array Value → State → Prop} {Qc : Array Value → State → Outcome → State → Prop} {XC : String → State → State → Prop} {mc ms : Nat} {free : Addr → Prop} {bytes : ByteArray} {maxL : Nat} {ret : Option FieldType}
    (hM : vx_Met l y ws rm Pc Qc XC mc ms free) (hblind : FrameBlind Pc) (hrc : rm.cells = mc) (hrs : rm.slots = ms)
    (hframes : rm.frames + 1 ≤ R.frames) (hlocals : W9 + (maxL + 11) + rm.locals ≤ R.locals)
    (hws : ∀ w ∈ ws, ∀ a' U, s.WarmedH U.vm → w.before a' U = true) (hcode : Cond.code y bytes maxL ret ∈ ws) (hinit : ∀ a' U, s.WarmedH U.vm → (Cond.initialized y.cls).before a' U = true) :
    vx_Back l R p e below s sargs y len W9 (PreOf R mc ms Pc) (PostOf Qc mc ms free) (vx_Post XC mc ms free) := by
  intro m meth c A g ig mk a X hg hsize hdg hW hn hp
  have h1 : (headSpec ws rm).pre.before a A.U = true := atoms_intro fun w hw => hws w hw _ _ X.warmed
  have h2 : (Cond.code y bytes maxL ret).before a A.U = true := hws _ hcode _ _ X.warmed
  have h3 : (Cond.initialized y.cls).before a A.U = true := hinit _ _ X.warmed
  have h4 : A.cells + (headSpec ws rm).room.cells ≤ R.cells := by rw [show (headSpec ws rm).room.cells = mc from hrc]; exact hp.1
  have h5 : A.slots + (headSpec ws rm).room.slots ≤ R.slots := by rw [show (headSpec ws rm).room.slots = ms from hrs]; exact hp.2.1
  have hPc : Pc a (A.U.calling g mk a) := hblind _ _ _ _ hp.2.2
  obtain ⟨U, Ls, c0, s0⟩ := A
  dsimp only [Pt.U, Pt.locs, Pt.cells, Pt.slots] at h1 h2 h3 h4 h5 X hn hPc ⊢
  obtain ⟨methY, cY, hmY, hcY, -, hlY, -, -, -, -⟩ := Cond.code_spec hn h2
  obtain ⟨kY, hkY, -⟩ := className_of_methodNamed hn
  have hinitY : kY.init = .initialized := Cond.initialized_spec (findClass_of_methodNamed hn) hkY h3
  have h : At U g.method c below := by rw [hg]; exact X.here
  have hlocals9 : W9 + (maxL + 11) + (headSpec ws rm).room.locals ≤ R.locals := hlocals
  have happ : (headSpec ws rm).appliesLoose y e.platform (U.calling g mk a) = true :=
    Spec.appliesLoose_calling (g := g) h hdg hn hkY hinitY
      (X.room_calling (g := g) (R' := (headSpec ws rm).room) hsize hmY hcY hframes (by rw [hlY]; omega) h4 h5) h1
  obtain ⟨mid, hmid⟩ := h.above
  have hfr : (U.setTop g).frames = (.java g :: mid) ++ below := by rw [State.frames_setTop' g h.top, hmid]; rfl
  obtain ⟨o, s₂, hsteps, -, hend, hq⟩ := Steps.callFree hM p X.admits X.cas X.clock (acts := []) hfr happ hPc trivial
  have hq' : vx_Q Qc XC mc ms free a (U.calling g mk a) o s₂ := hq
  rw [State.frames_setTop' g h.top] at hend
  obtain ⟨g₀, hg0⟩ := Option.isSome_iff_exists.mp h.top
  obtain ⟨r, hr⟩ := State.topJava?_eq_some.mp hg0
  have hr' : (({ U with heap := s₂.heap, slotsUsed := s₂.slotsUsed } : State).setVm s₂.vm).frames = .java g₀ :: r := hr
  rcases hq' with ⟨hqc, L, hfe, hL⟩ | ⟨q, rfl, E, ce, L, hx, hce, hcv, hcl, hW₂, hsm, hL⟩
  · obtain ⟨⟨v, rfl⟩, hW₂, e2, q2, q3, q4, q5, q6⟩ := id hfe
    have e3 : s₂ = ({ (U.calling g mk a).setFrames s₂.frames with heap := s₂.heap, slotsUsed := s₂.slotsUsed } : State).setVm s₂.vm := by
      have : s₂ = ({ s₂ with vm := (U.calling g mk a).vm } : State).setVm s₂.vm := rfl
      rw [e2] at this
      exact this
    obtain ⟨c₂, i₂, len₂, hc₂, hd₂, hf₂⟩ := hend
    have hW' : U.WarmedH s₂.vm := hW₂
    have hcc : c₂ = c := by
      have h1 : s₂.code? g.method = U.code? g.method := by
        rw [State.code?_eq, State.code?_eq, hW'.alike.method?]
      exact Option.some.inj (hc₂.symm.trans (h1.trans h.code))
    subst hcc
    have hlen : len₂ = len := by rw [hdg] at hd₂; cases hd₂; rfl
    subst hlen
    have hs₂ : s₂ = (({ U with heap := s₂.heap, slotsUsed := s₂.slotsUsed } : State).setVm s₂.vm).setTop { g with pc := g.pc + len₂, stack := v.toList ++ g.stack } := by
      refine e3.trans ?_
      rw [hf₂, State.calling_eq h.top, State.setFrames_setFrames, State.setTop_of_frames _ hr', hr]
      rfl
    have hsame : U.sameButNew ({ U with heap := s₂.heap, slotsUsed := s₂.slotsUsed } : State) L mc ms := by
      refine ⟨?_, q2, q3, q4, q5, q6⟩
      obtain ⟨t, ht, -⟩ := State.frames_cons hr
      show ({ U with heap := s₂.heap, slotsUsed := s₂.slotsUsed } : State) = { U.setFrames U.frames with heap := s₂.heap, slotsUsed := s₂.slotsUsed }
      rw [State.setFrames_self ht]
    subst hg
    refine Or.inl ⟨v, ⟨(({ U with heap := s₂.heap, slotsUsed := s₂.slotsUsed } : State).setVm s₂.vm), Ls ++ L, c0 + mc, s0 + ms⟩,
      ⟨X.admits, X.cas, X.clock, X.frames, X.room, X.hears, X.method, X.code, (X.here.setHeapUsed s₂.heap s₂.slotsUsed).setVm hW'.alike, X.tail, State.WarmedH.trans X.warmed hW', X.limits, X.bytes, X.same.trans (hsame.setVm s.vm)⟩,
      ⟨g, mk, s₂, L, rfl, rfl, hqc, rfl, hL, rfl, rfl⟩, ?_⟩
    show Steps p.tables e below _ ((({ U with heap := s₂.heap, slotsUsed := s₂.slotsUsed } : State).setVm s₂.vm).setTop { g with pc := g.pc + len₂, stack := v.toList ++ g.stack })
    rw [← hs₂]
    exact hsteps
  · obtain ⟨e2, q2, q3, q4, q5, q6⟩ := id hsm
    have e3 : s₂ = ({ (U.calling g mk a).setFrames s₂.frames with heap := s₂.heap, slotsUsed := s₂.slotsUsed } : State).setVm s₂.vm := by
      have : s₂ = ({ s₂ with vm := (U.calling g mk a).vm } : State).setVm s₂.vm := rfl
      rw [e2] at this
      exact this
    have hf₂ : s₂.frames = .throwing q :: .java g :: U.frames.tail := hend
    have hW' : U.WarmedH s₂.vm := hW₂
    have hs₂ : s₂ = ((({ U with heap := s₂.heap, slotsUsed := s₂.slotsUsed } : State).setVm s₂.vm).setTop g).pushFrame (.throwing q) := by
      refine e3.trans ?_
      rw [hf₂, State.calling_eq h.top, State.setFrames_setFrames, State.pushFrame, State.frames_setTop _ hr', State.setTop_of_frames _ hr', State.setFrames_setFrames, hr]
      rfl
    have hsame : U.sameButNew ({ U with heap := s₂.heap, slotsUsed := s₂.slotsUsed } : State) L mc ms := by
      refine ⟨?_, q2, q3, q4, q5, q6⟩
      obtain ⟨t, ht, -⟩ := State.frames_cons hr
      show ({ U with heap := s₂.heap, slotsUsed := s₂.slotsUsed } : State) = { U.setFrames U.frames with heap := s₂.heap, slotsUsed := s₂.slotsUsed }
      rw [State.setFrames_self ht]
    subst hg
    refine Or.inr ⟨q, ⟨(({ U with heap := s₂.heap, slotsUsed := s₂.slotsUsed } : State).setVm s₂.vm), Ls ++ L, c0 + mc, s0 + ms⟩,
      ⟨X.admits, X.cas, X.clock, X.frames, X.room, X.hears, X.method, X.code, (X.here.setHeapUsed s₂.heap s₂.slotsUsed).setVm hW'.alike, X.tail, State.WarmedH.trans X.warmed hW', X.limits, X.bytes, X.same.trans (hsame.setVm s.vm)⟩,
      ⟨g, mk, s₂, L, E, ce, rfl, rfl, hx, hce, hcv, hcl, rfl, hL, rfl, rfl⟩, ?_⟩
    show Steps p.tables e below _ (((({ U with heap := s₂.heap, slotsUsed := s₂.slotsUsed } : State).setVm s₂.vm).setTop g).pushFrame (.throwing q))
    rw [← hs₂]
    exact hsteps
end Payer
section Calls
variable {p : Program} {l : Launch} {e : Env} {R : Room} {s : State} {m : MethodId} {args : Array Value} {below : List Frame} {meth : Method} {c : Code} {T : State} {locs : List Loc} {cells slots : Nat}
theorem vx_callV (X : Stand p l e R s m args below meth c T locs cells slots) (hexec : p.tables.exec = Jvm.exec) {own C : String} {index : Nat} {y : MethodName} {bytes : ByteArray} {maxL : Nat} {ret : Option FieldType}
    (hown : s.vm.findClass own = some m.cls) (hlink : (Cond.methodLink own index y).before args s = true) (hinst : (Cond.instanceMethod y).before args s = true) (hsel : (Cond.selects C y y).before args s = true)
    (hcode : (Cond.code y bytes maxL ret).before args s = true) (hy : y.cls ≠ "java/lang/invoke/MethodHandle" ∧ y.cls ≠ "java/lang/invoke/VarHandle")
    {W9 : Nat} {Pre : Pt → Array Value → Prop} {Post : Pt → Array Value → Option Value → Pt → Prop} {PostX : Pt → Array Value → Addr → Pt → Prop} (hK : vx_Back l R p e below s args y 3 W9 Pre Post PostX)
    {b : Addr} {cellB : Cell} (hcell : T.heap[b]? = some cellB) (hobj : cellB.vm.isStatics = false) (hcls : s.vm.findClass C = some cellB.cls)
    {g : JFrame} (hg : g.method = m) (hsize : g.locals.size = c.maxLocals) {argsL rest : List Value} (hlen : ∀ sig, parseMethodDescriptor y.desc = some sig → argsL.length = sig.parameters.length)
    (hstack : g.stack = argsL.reverse ++ .ref b :: rest) (hW : 2 * g.monitorRoom + (rest.map fun v => v.category).sum ≤ W9) (hdg : decode c.code g.pc = .ok (.invokevirtual index, 3))
    (hpre : ∀ vm₁, s.WarmedH vm₁ → Pre ⟨T.setVm vm₁, locs, cells, slots⟩ (Value.ref b :: argsL).toArray) :
    (∃ (v : Option Value) (vm₁ : Vm) (B : Pt), s.WarmedH vm₁ ∧ Stand p l e R s m args below meth c B.U B.locs B.cells B.slots ∧ Post ⟨T.setVm vm₁, locs, cells, slots⟩ (Value.ref b :: argsL).toArray v B ∧
      ∀ target, Steps p.tables e below (B.U.setTop { g with pc := g.pc + 3, stack := v.toList ++ rest }) target → Steps p.tables e below (T.setTop g) target) ∨
    (∃ (q : Addr) (vm₁ : Vm) (B : Pt), s.WarmedH vm₁ ∧ Stand p l e R s m args below meth c B.U B.locs B.cells B.slots ∧ PostX ⟨T.setVm vm₁, locs, cells, slots⟩ (Value.ref b :: argsL).toArray q B ∧
      Steps p.tables e below (T.setTop g) ((B.U.setTop { g with stack := rest }).pushFrame (.throwing q))) := by
  obtain ⟨mk, methM, hnamed, hmethM, hstM, habM⟩ := Cond.instanceMethod_spec hinst
  obtain ⟨methM', cM, hmethM', -, -, -, -, -, -, hsigM⟩ := Cond.code_spec hnamed hcode
  cases hmethM.symm.trans hmethM'
  obtain ⟨c2, r2, m2, q1, q2, q3, q4, kP, hkP, hkPi⟩ := Cond.selects_spec hsel
  cases hcls.symm.trans q1
  cases (State.methodFound?_of_named hnamed hy).symm.trans q2
  cases hnamed.symm.trans q3
  have hselP : selectMethod e.platform s.vm cellB.cls mk = .method mk := by rw [Launch.admits_selectMethod X.admits]; exact q4
  obtain ⟨vm₁, X₁, hstep₁⟩ := X.invokevirtual hexec hown hlink hnamed hmethM hstM hkP hkPi hy (a := b) (cell := cellB) hcell
    (fun z h => by rw [h] at hobj; cases hobj) hselP hmethM habM hkP hkPi (g := g) hg (argsL := argsL) (rest := rest) (hlen _ hsigM) hstack hdg
  rcases hK m meth c ⟨T.setVm vm₁, locs, cells, slots⟩ { g with stack := rest } (.invokevirtual index) mk (Value.ref b :: argsL).toArray X₁ hg hsize hdg hW (X₁.named hnamed) (hpre vm₁ X₁.warmed) with ⟨v, B, X', hpost, hsteps⟩ | ⟨q, B, X', hpost, hsteps⟩
  · exact Or.inl ⟨v, vm₁, B, X₁.warmed, X', hpost, fun target h => hstep₁ _ fun acts => by rw [doInvoke_state]; exact hsteps.trans h⟩
  · exact Or.inr ⟨q, vm₁, B, X₁.warmed, X', hpost, hstep₁ _ fun acts => by rw [doInvoke_state]; exact hsteps⟩
theorem vx_callS (X : Stand p l e R s m args below meth c T locs cells slots) (hexec : p.tables.exec = Jvm.exec) {own : String} {index : Nat} {y : MethodName} {bytes : ByteArray} {maxL : Nat} {ret : Option FieldType}
    (hown : s.vm.findClass own = some m.cls) (hlink : (Cond.methodLink own index y).before args s = true) (hstat : (Cond.static y).before args s = true) (hinit : (Cond.initialized y.cls).before args s = true)
    (hcode : (Cond.code y bytes maxL ret).before args s = true) (hy : y.cls ≠ "java/lang/invoke/MethodHandle" ∧ y.cls ≠ "java/lang/invoke/VarHandle")
    {W9 : Nat} {Pre : Pt → Array Value → Prop} {Post : Pt → Array Value → Option Value → Pt → Prop} {PostX : Pt → Array Value → Addr → Pt → Prop} (hK : vx_Back l R p e below s args y 3 W9 Pre Post PostX)
    {g : JFrame} (hg : g.method = m) (hsize : g.locals.size = c.maxLocals) {argsL rest : List Value} (hlen : ∀ sig, parseMethodDescriptor y.desc = some sig → argsL.length = sig.parameters.length)
    (hstack : g.stack = argsL.reverse ++ rest) (hW : 2 * g.monitorRoom + (rest.map fun v => v.category).sum ≤ W9) (hdg : decode c.code g.pc = .ok (.invokestatic index, 3))
    (hpre : ∀ vm₁, s.WarmedH vm₁ → Pre ⟨T.setVm vm₁, locs, cells, slots⟩ argsL.toArray) :
    (∃ (v : Option Value) (vm₁ : Vm) (B : Pt), s.WarmedH vm₁ ∧ Stand p l e R s m args below meth c B.U B.locs B.cells B.slots ∧ Post ⟨T.setVm vm₁, locs, cells, slots⟩ argsL.toArray v B ∧
      ∀ target, Steps p.tables e below (B.U.setTop { g with pc := g.pc + 3, stack := v.toList ++ rest }) target → Steps p.tables e below (T.setTop g) target) ∨
    (∃ (q : Addr) (vm₁ : Vm) (B : Pt), s.WarmedH vm₁ ∧ Stand p l e R s m args below meth c B.U B.locs B.cells B.slots ∧ PostX ⟨T.setVm vm₁, locs, cells, slots⟩ argsL.toArray q B ∧
      Steps p.tables e below (T.setTop g) ((B.U.setTop { g with stack := rest }).pushFrame (.throwing q))) := by
  obtain ⟨mk, hnamed⟩ := Cond.code_named hcode
  obtain ⟨methM, cM, hmethM, -, -, -, -, -, -, hsigM⟩ := Cond.code_spec hnamed hcode
  have hstatic : methM.isStatic = true := Cond.static_spec hnamed hmethM hstat
  obtain ⟨kP, hkP, -⟩ := className_of_methodNamed hnamed
  have hinitP : kP.init = .initialized := Cond.initialized_spec (findClass_of_methodNamed hnamed) hkP hinit
  obtain ⟨vm₁, X₁, hstep₁⟩ := X.invokestatic hexec hown hlink hnamed hmethM hstatic hkP hinitP hy (g := g) hg (argsL := argsL) (rest := rest) (hlen _ hsigM) hstack hdg
  rcases hK m meth c ⟨T.setVm vm₁, locs, cells, slots⟩ { g with stack := rest } (.invokestatic index) mk argsL.toArray X₁ hg hsize hdg hW (X₁.named hnamed) (hpre vm₁ X₁.warmed) with ⟨v, B, X', hpost, hsteps⟩ | ⟨q, B, X', hpost, hsteps⟩
  · exact Or.inl ⟨v, vm₁, B, X₁.warmed, X', hpost, fun target h => hstep₁ _ fun acts => by rw [doInvoke_state]; exact hsteps.trans h⟩
  · exact Or.inr ⟨q, vm₁, B, X₁.warmed, X', hpost, hstep₁ _ fun acts => by rw [doInvoke_state]; exact hsteps⟩
end Calls
theorem vx_cls {s : State} {T : State} {vm₁ : Vm} {E : String} {k : ClassId} (hW : s.WarmedH vm₁) (h : (T.setVm vm₁).vm.findClass E = some k) : s.vm.findClass E = some k := by
  have h1 : vm₁.findClass E = some k := h
  rw [hW.alike.findClass] at h1
  exact h1
/-- the method's frame g, with q thrown over it -/
def vx_W (p : Program) (l : Launch) (e : Env) (R : Room) (s : State) (m : MethodId) (args : Array Value) (below : List Frame) (meth : Method) (c : Code) (H : Heap) (locs : List Loc) (cells slots : Nat) (Q : State → Prop) (g : JFrame) (q : Addr) : Prop :=
  ∀ T : State, T.heap = H → Stand p l e R s m args below meth c T locs cells slots → ∃ t, Steps p.tables e below ((T.setTop g).pushFrame (.throwing q)) t ∧ Q t
def vx_Run (p : Program) (l : Launch) (e : Env) (R : Room) (s : State) (m : MethodId) (args : Array Value) (below : List Frame) (meth : Method) (c : Code) (H : Heap) (locs : List Loc) (cells slots mc ms : Nat) (g : JFrame) (rest : List Value) (Qa : State → Outcome → State → Prop) (XC : String → State → State → Prop) (free : Addr → Prop) : Prop :=
  ∀ T : State, T.heap = H → Stand p l e R s m args below meth c T locs cells slots →
    (∃ (v : Option Value) (st₀ t T' : State) (L : List Loc), st₀.heap = H ∧ Stand p l e R s m args below meth c T' (locs ++ L) (cells + mc) (slots + ms) ∧ (∀ q ∈ L, free q.base) ∧ T'.heap = t.heap ∧ T'.vm = t.vm ∧ Qa st₀ (.returned v) t ∧
      Goes p e below T g T' { g with pc := g.pc + 3, stack := v.toList ++ rest }) ∨
    (∃ (q : Addr) (st₀ t T' : State) (L : List Loc) (E : String) (ce : Cell), st₀.heap = H ∧ Stand p l e R s m args below meth c T' (locs ++ L) (cells + mc) (slots + ms) ∧ (∀ z ∈ L, free z.base) ∧ T'.heap = t.heap ∧ T'.vm = t.vm ∧ XC E st₀ t ∧ t.heap[q]? = some ce ∧ ce.vm = .none ∧ s.vm.findClass E = some ce.cls ∧
      Steps p.tables e below (T.setTop g) ((T'.setTop { g with stack := rest }).pushFrame (.throwing q)))
def vx_X {S : Type} (px : S → Prop) (B : String → S → State → Prop) (A : Nat → Prop) : String → State → State → Prop := fun E st t => ∃ u : S, px u ∧ B E u t ∧ va_F A st t
section Runs
variable {p : Program} {l : Launch} {e : Env} {R : Room} {s : State} {m : MethodId} {args : Array Value} {below : List Frame} {meth : Method} {c : Code} {H : Heap} {locs : List Loc} {cells slots : Nat}
variable {y : MethodName} {bytes cc : ByteArray} {maxL nL mc ms n index : Nat} {ret : Option FieldType} {ws : List Cond} {rm : Room} {Pc : Array Value → State → Prop} {Qc : Array Value → State → Outcome → State → Prop} {XC : String → State → State → Prop} {free : Addr → Prop} {Ts : List Cond} {own C : String} {b : Addr} {As rest : List Value} {g : JFrame}
theorem vx_callBack (cb : CallB R s args own index y bytes maxL ret ws rm mc ms n) (hM : vx_Met l y ws rm Pc Qc XC mc ms free) (hbl : FrameBlind Pc) : vx_Back l R p e below s args y 3 8 (PreOf R mc ms Pc) (PostOf Qc mc ms free) (vx_Post XC mc ms free) := by
  obtain ⟨hrc, hrs, hfr, hlo, hws, hcw, -, hini, -⟩ := cb
  exact vx_back (bytes := bytes) (maxL := maxL) (ret := ret) hM hbl hrc hrs hfr hlo hws hcw (fun a' U hW => word_at hW (Or.inl (by first | rfl | simp [Cond.onTables, Cond.keeps, Cond.steady])) hini)
theorem vx_runV (S : CallFix p m c cc nL s args Ts own) (hM : vx_Met l y ws rm Pc Qc XC mc ms free) (cw : CallW R s args own C index y bytes maxL ret ws rm mc ms n) (hp : PreV s H C b Pc As)
    (hg : g.method = m) (hn : As.length = n) (hsize : g.locals.size = nL) (hstack : g.stack = As.reverse ++ .ref b :: rest) (hW : 2 * g.monitorRoom + (rest.map fun v => v.category).sum ≤ 8) (hdg : decode cc g.pc = .ok (.invokevirtual index, 3)) (hf : cells + mc ≤ R.cells ∧ slots + ms ≤ R.slots) :
    vx_Run p l e R s m args below meth c H locs cells slots mc ms g rest (Qc (Value.ref b :: As).toArray) XC free := by
  have hK : vx_Back l R p e below s args y 3 8 (PreOf R mc ms Pc) (PostOf Qc mc ms free) (vx_Post XC mc ms free) := vx_callBack cw.1 hM hp.1
  obtain ⟨⟨-, -, -, -, -, -, hcode, -, hy, hlen, hl⟩, hin, hse⟩ := cw
  obtain ⟨hx, hb, hml, ho, -⟩ := S
  obtain ⟨-, ⟨cellB, hcB, hoB, hclB⟩, hPc⟩ := hp
  intro T hT X
  rcases vx_callV X hx (C := C) (bytes := bytes) (maxL := maxL) (ret := ret) ho hl hin hse hcode hy hK (by rw [hT]; exact hcB) hoB hclB hg (hsize.trans hml.symm) (argsL := As) (rest := rest) (fun sig h => hn.trans (hlen sig h)) hstack hW (by rw [hb]; exact hdg)
    (fun vm₁ hW₁ => ⟨hf.1, hf.2, hPc (T.setVm vm₁) hT hW₁⟩) with ⟨v, vm₁, ⟨U', l2, c2, s2⟩, hW₁, X', ⟨g', mk, t, L, e1, e2, hq, h1, hL, h2, h3⟩, st⟩ | ⟨q, vm₁, ⟨U', l2, c2, s2⟩, hW₁, X', ⟨g', mk, t, L, E, ce, e1, e2, hq, hce, hcv, hcl, h1, hL, h2, h3⟩, st⟩
  · dsimp only [Pt.U, Pt.locs, Pt.cells, Pt.slots] at X' e1 e2 h1 h2 h3 st
    subst h1; subst h2; subst h3
    exact Or.inl ⟨v, (T.setVm vm₁).calling g' mk (Value.ref b :: As).toArray, t, U', L, hT, X', hL, e1, e2, hq, st⟩
  · dsimp only [Pt.U, Pt.locs, Pt.cells, Pt.slots] at X' e1 e2 h1 h2 h3 st hcl
    subst h1; subst h2; subst h3
    exact Or.inr ⟨q, (T.setVm vm₁).calling g' mk (Value.ref b :: As).toArray, t, U', L, E, ce, hT, X', hL, e1, e2, hq, hce, hcv, vx_cls hW₁ hcl, st⟩
theorem vx_runS (S : CallFix p m c cc nL s args Ts own) (hM : vx_Met l y ws rm Pc Qc XC mc ms free) (cw : CallB R s args own index y bytes maxL ret ws rm mc ms n ∧ (Cond.static y).before args s = true) (hp : PreS s H Pc As)
    (hg : g.method = m) (hn : As.length = n) (hsize : g.locals.size = nL) (hstack : g.stack = As.reverse ++ rest) (hW : 2 * g.monitorRoom + (rest.map fun v => v.category).sum ≤ 8) (hdg : decode cc g.pc = .ok (.invokestatic index, 3)) (hf : cells + mc ≤ R.cells ∧ slots + ms ≤ R.slots) :
    vx_Run p l e R s m args below meth c H locs cells slots mc ms g rest (Qc As.toArray) XC free := by
  have hK : vx_Back l R p e below s args y 3 8 (PreOf R mc ms Pc) (PostOf Qc mc ms free) (vx_Post XC mc ms free) := vx_callBack cw.1 hM hp.1
  obtain ⟨⟨-, -, -, -, -, -, hcode, hini, hy, hlen, hl⟩, hstt⟩ := cw
  obtain ⟨hx, hb, hml, ho, -⟩ := S
  intro T hT X
  rcases vx_callS X hx (bytes := bytes) (maxL := maxL) (ret := ret) ho hl hstt hini hcode hy hK hg (hsize.trans hml.symm) (argsL := As) (rest := rest) (fun sig h => hn.trans (hlen sig h)) hstack hW (by rw [hb]; exact hdg)
    (fun vm₁ hW₁ => ⟨hf.1, hf.2, hp.2 (T.setVm vm₁) hT hW₁⟩) with ⟨v, vm₁, ⟨U', l2, c2, s2⟩, hW₁, X', ⟨g', mk, t, L, e1, e2, hq, h1, hL, h2, h3⟩, st⟩ | ⟨q, vm₁, ⟨U', l2, c2, s2⟩, hW₁, X', ⟨g', mk, t, L, E, ce, e1, e2, hq, hce, hcv, hcl, h1, hL, h2, h3⟩, st⟩
  · dsimp only [Pt.U, Pt.locs, Pt.cells, Pt.slots] at X' e1 e2 h1 h2 h3 st
    subst h1; subst h2; subst h3
    exact Or.inl ⟨v, (T.setVm vm₁).calling g' mk As.toArray, t, U', L, hT, X', hL, e1, e2, hq, st⟩
  · dsimp only [Pt.U, Pt.locs, Pt.cells, Pt.slots] at X' e1 e2 h1 h2 h3 st hcl
    subst h1; subst h2; subst h3
    exact Or.inr ⟨q, (T.setVm vm₁).calling g' mk As.toArray, t, U', L, E, ce, hT, X', hL, e1, e2, hq, hce, hcv, vx_cls hW₁ hcl, st⟩
end Runs
section Rows
variable {p : Program} {l : Launch} {e : Env} {R : Room} {s : State} {m : MethodId} {args : Array Value} {below : List Frame} {meth : Method} {c : Code} {H : Heap} {locs : List Loc} {cells slots : Nat} {Q : State → Prop}
variable {mc ms : Nat} {free : Addr → Prop} {A0 A1 : Nat → Prop} {H0 : Heap} {a : Array Value} {pc : Nat} {ls : Array Slot} {st0 rest : List Value}
theorem vx_keep {st₀ t T' : State} {L : List Loc} (h0 : st₀.heap = H) (e1 : T'.heap = t.heap) (hS : va_S A0 H0 H locs) (hA : ∀ q, q < H.size → A1 q → A0 q) (hf : ∀ q, free q → A0 q) (hL : ∀ q ∈ L, free q.base) (hF : va_F A1 st₀ t) :
    H.size ≤ T'.heap.size ∧ (∀ q : Nat, q < H.size → ¬ A1 q → T'.heap[q]? = H[q]?) ∧ va_S A0 H0 T'.heap (locs ++ L) := by
  obtain ⟨hz, hk⟩ := hF
  rw [h0] at hz hk
  exact ⟨by rw [e1]; exact hz, fun q h1 h2 => by rw [e1]; exact hk q h1 h2,
    ⟨Nat.le_trans hS.1 (by rw [e1]; exact hz), fun q h1 h2 => by rw [e1, hk q (Nat.lt_of_lt_of_le h1 hS.1) (fun z => h2 (hA q (Nat.lt_of_lt_of_le h1 hS.1) z))]; exact hS.2.1 q h1 h2, fun q hq => by
      rcases List.mem_append.mp hq with h | h
      · exact hS.2.2 q h
      · exact hf _ (hL q h)⟩⟩
theorem vx_calli {S SX : Type} {post : Int32 → S → Prop} {px : SX → Prop} {B : S → State → Prop} {BX : String → SX → State → Prop} {AX : Nat → Prop} (hr : vx_Run p l e R s m args below meth c H locs cells slots mc ms (F0 m pc ls st0) rest (va_Qi post B A1 a) (vx_X px BX AX) free) (hS : va_S A0 H0 H locs) (hA : ∀ q, q < H.size → A1 q → A0 q) (hf : ∀ q, free q → A0 q) (hAX : ∀ q, q < H.size → AX q → A0 q)
    (kx : ∀ (E : String) (ce : Cell) (q9 : Addr) (u : SX) (t : State) (H1 : Heap) (locs1 : List Loc), t.heap = H1 → s.vm.Alike t.vm → px u → BX E u t → H.size ≤ H1.size → (∀ q : Nat, q < H.size → ¬ AX q → H1[q]? = H[q]?) → va_S A0 H0 H1 locs1 → H1[q9]? = some ce → ce.vm = .none → s.vm.findClass E = some ce.cls → vx_W p l e R s m args below meth c H1 locs1 (cells + mc) (slots + ms) Q (F0 m pc ls rest) q9)
    (kk : ∀ (r : Int32) (u : S) (t : State) (H1 : Heap) (locs1 : List Loc), t.heap = H1 → s.vm.Alike t.vm → post r u → B u t → H.size ≤ H1.size → (∀ q : Nat, q < H.size → ¬ A1 q → H1[q]? = H[q]?) → va_S A0 H0 H1 locs1 → W p l e R s m args below meth c H1 locs1 (cells + mc) (slots + ms) Q (F0 m (pc + 3) ls (.int r :: rest))) : W p l e R s m args below meth c H locs cells slots Q (F0 m pc ls st0) := by
  intro T hT X
  rcases hr T hT X with ⟨v, st₀, t, T', L, h0, X', hL, e1, e2, ⟨⟨r, u, hv, hp, hb⟩, hF⟩, st⟩ | ⟨q, st₀, t, T', L, E, ce, h0, X', hL, e1, e2, ⟨u, hp, hb, hF⟩, hce, hcv, hcl, st⟩
  · cases hv
    obtain ⟨k1, k2, k3⟩ := vx_keep h0 e1 hS hA hf hL hF
    obtain ⟨t2, a1, b1⟩ := kk r u t T'.heap (locs ++ L) e1.symm (by rw [← e2]; exact X'.warmed.alike) hp hb k1 k2 k3 T' rfl X'
    exact ⟨t2, st t2 a1, b1⟩
  · obtain ⟨k1, k2, k3⟩ := vx_keep h0 e1 hS hAX hf hL hF
    obtain ⟨t2, a1, b1⟩ := kx E ce q u t T'.heap (locs ++ L) e1.symm (by rw [← e2]; exact X'.warmed.alike) hp hb k1 k2 k3 (by rw [e1]; exact hce) hcv hcl T' rfl X'
    exact ⟨t2, st.trans a1, b1⟩
theorem vx_calll {S SX : Type} {post : Int64 → S → Prop} {px : SX → Prop} {B : S → State → Prop} {BX : String → SX → State → Prop} {AX : Nat → Prop} (hr : vx_Run p l e R s m args below meth c H locs cells slots mc ms (F0 m pc ls st0) rest (va_Ql post B A1 a) (vx_X px BX AX) free) (hS : va_S A0 H0 H locs) (hA : ∀ q, q < H.size → A1 q → A0 q) (hf : ∀ q, free q → A0 q) (hAX : ∀ q, q < H.size → AX q → A0 q)
    (kx : ∀ (E : String) (ce : Cell) (q9 : Addr) (u : SX) (t : State) (H1 : Heap) (locs1 : List Loc), t.heap = H1 → s.vm.Alike t.vm → px u → BX E u t → H.size ≤ H1.size → (∀ q : Nat, q < H.size → ¬ AX q → H1[q]? = H[q]?) → va_S A0 H0 H1 locs1 → H1[q9]? = some ce → ce.vm = .none → s.vm.findClass E = some ce.cls → vx_W p l e R s m args below meth c H1 locs1 (cells + mc) (slots + ms) Q (F0 m pc ls rest) q9)
    (kk : ∀ (r : Int64) (u : S) (t : State) (H1 : Heap) (locs1 : List Loc), t.heap = H1 → s.vm.Alike t.vm → post r u → B u t → H.size ≤ H1.size → (∀ q : Nat, q < H.size → ¬ A1 q → H1[q]? = H[q]?) → va_S A0 H0 H1 locs1 → W p l e R s m args below meth c H1 locs1 (cells + mc) (slots + ms) Q (F0 m (pc + 3) ls (.long r :: rest))) : W p l e R s m args below meth c H locs cells slots Q (F0 m pc ls st0) := by
  intro T hT X
  rcases hr T hT X with ⟨v, st₀, t, T', L, h0, X', hL, e1, e2, ⟨⟨r, u, hv, hp, hb⟩, hF⟩, st⟩ | ⟨q, st₀, t, T', L, E, ce, h0, X', hL, e1, e2, ⟨u, hp, hb, hF⟩, hce, hcv, hcl, st⟩
  · cases hv
    obtain ⟨k1, k2, k3⟩ := vx_keep h0 e1 hS hA hf hL hF
    obtain ⟨t2, a1, b1⟩ := kk r u t T'.heap (locs ++ L) e1.symm (by rw [← e2]; exact X'.warmed.alike) hp hb k1 k2 k3 T' rfl X'
    exact ⟨t2, st t2 a1, b1⟩
  · obtain ⟨k1, k2, k3⟩ := vx_keep h0 e1 hS hAX hf hL hF
    obtain ⟨t2, a1, b1⟩ := kx E ce q u t T'.heap (locs ++ L) e1.symm (by rw [← e2]; exact X'.warmed.alike) hp hb k1 k2 k3 (by rw [e1]; exact hce) hcv hcl T' rfl X'
    exact ⟨t2, st.trans a1, b1⟩
theorem vx_callf {S SX : Type} {post : UInt32 → S → Prop} {px : SX → Prop} {B : S → State → Prop} {BX : String → SX → State → Prop} {AX : Nat → Prop} (hr : vx_Run p l e R s m args below meth c H locs cells slots mc ms (F0 m pc ls st0) rest (va_Qf post B A1 a) (vx_X px BX AX) free) (hS : va_S A0 H0 H locs) (hA : ∀ q, q < H.size → A1 q → A0 q) (hf : ∀ q, free q → A0 q) (hAX : ∀ q, q < H.size → AX q → A0 q)
    (kx : ∀ (E : String) (ce : Cell) (q9 : Addr) (u : SX) (t : State) (H1 : Heap) (locs1 : List Loc), t.heap = H1 → s.vm.Alike t.vm → px u → BX E u t → H.size ≤ H1.size → (∀ q : Nat, q < H.size → ¬ AX q → H1[q]? = H[q]?) → va_S A0 H0 H1 locs1 → H1[q9]? = some ce → ce.vm = .none → s.vm.findClass E = some ce.cls → vx_W p l e R s m args below meth c H1 locs1 (cells + mc) (slots + ms) Q (F0 m pc ls rest) q9)
    (kk : ∀ (r : UInt32) (u : S) (t : State) (H1 : Heap) (locs1 : List Loc), t.heap = H1 → s.vm.Alike t.vm → post r u → B u t → H.size ≤ H1.size → (∀ q : Nat, q < H.size → ¬ A1 q → H1[q]? = H[q]?) → va_S A0 H0 H1 locs1 → W p l e R s m args below meth c H1 locs1 (cells + mc) (slots + ms) Q (F0 m (pc + 3) ls (.float r :: rest))) : W p l e R s m args below meth c H locs cells slots Q (F0 m pc ls st0) := by
  intro T hT X
  rcases hr T hT X with ⟨v, st₀, t, T', L, h0, X', hL, e1, e2, ⟨⟨r, u, hv, hp, hb⟩, hF⟩, st⟩ | ⟨q, st₀, t, T', L, E, ce, h0, X', hL, e1, e2, ⟨u, hp, hb, hF⟩, hce, hcv, hcl, st⟩
  · cases hv
    obtain ⟨k1, k2, k3⟩ := vx_keep h0 e1 hS hA hf hL hF
    obtain ⟨t2, a1, b1⟩ := kk r u t T'.heap (locs ++ L) e1.symm (by rw [← e2]; exact X'.warmed.alike) hp hb k1 k2 k3 T' rfl X'
    exact ⟨t2, st t2 a1, b1⟩
  · obtain ⟨k1, k2, k3⟩ := vx_keep h0 e1 hS hAX hf hL hF
    obtain ⟨t2, a1, b1⟩ := kx E ce q u t T'.heap (locs ++ L) e1.symm (by rw [← e2]; exact X'.warmed.alike) hp hb k1 k2 k3 (by rw [e1]; exact hce) hcv hcl T' rfl X'
    exact ⟨t2, st.trans a1, b1⟩
theorem vx_calld {S SX : Type} {post : UInt64 → S → Prop} {px : SX → Prop} {B : S → State → Prop} {BX : String → SX → State → Prop} {AX : Nat → Prop} (hr : vx_Run p l e R s m args below meth c H locs cells slots mc ms (F0 m pc ls st0) rest (va_Qd post B A1 a) (vx_X px BX AX) free) (hS : va_S A0 H0 H locs) (hA : ∀ q, q < H.size → A1 q → A0 q) (hf : ∀ q, free q → A0 q) (hAX : ∀ q, q < H.size → AX q → A0 q)
    (kx : ∀ (E : String) (ce : Cell) (q9 : Addr) (u : SX) (t : State) (H1 : Heap) (locs1 : List Loc), t.heap = H1 → s.vm.Alike t.vm → px u → BX E u t → H.size ≤ H1.size → (∀ q : Nat, q < H.size → ¬ AX q → H1[q]? = H[q]?) → va_S A0 H0 H1 locs1 → H1[q9]? = some ce → ce.vm = .none → s.vm.findClass E = some ce.cls → vx_W p l e R s m args below meth c H1 locs1 (cells + mc) (slots + ms) Q (F0 m pc ls rest) q9)
    (kk : ∀ (r : UInt64) (u : S) (t : State) (H1 : Heap) (locs1 : List Loc), t.heap = H1 → s.vm.Alike t.vm → post r u → B u t → H.size ≤ H1.size → (∀ q : Nat, q < H.size → ¬ A1 q → H1[q]? = H[q]?) → va_S A0 H0 H1 locs1 → W p l e R s m args below meth c H1 locs1 (cells + mc) (slots + ms) Q (F0 m (pc + 3) ls (.double r :: rest))) : W p l e R s m args below meth c H locs cells slots Q (F0 m pc ls st0) := by
  intro T hT X
  rcases hr T hT X with ⟨v, st₀, t, T', L, h0, X', hL, e1, e2, ⟨⟨r, u, hv, hp, hb⟩, hF⟩, st⟩ | ⟨q, st₀, t, T', L, E, ce, h0, X', hL, e1, e2, ⟨u, hp, hb, hF⟩, hce, hcv, hcl, st⟩
  · cases hv
    obtain ⟨k1, k2, k3⟩ := vx_keep h0 e1 hS hA hf hL hF
    obtain ⟨t2, a1, b1⟩ := kk r u t T'.heap (locs ++ L) e1.symm (by rw [← e2]; exact X'.warmed.alike) hp hb k1 k2 k3 T' rfl X'
    exact ⟨t2, st t2 a1, b1⟩
  · obtain ⟨k1, k2, k3⟩ := vx_keep h0 e1 hS hAX hf hL hF
    obtain ⟨t2, a1, b1⟩ := kx E ce q u t T'.heap (locs ++ L) e1.symm (by rw [← e2]; exact X'.warmed.alike) hp hb k1 k2 k3 (by rw [e1]; exact hce) hcv hcl T' rfl X'
    exact ⟨t2, st.trans a1, b1⟩
theorem vx_callv {S SX : Type} {post : S → Prop} {px : SX → Prop} {B : S → State → Prop} {BX : String → SX → State → Prop} {AX : Nat → Prop} (hr : vx_Run p l e R s m args below meth c H locs cells slots mc ms (F0 m pc ls st0) rest (va_Qv post B A1 a) (vx_X px BX AX) free) (hS : va_S A0 H0 H locs) (hA : ∀ q, q < H.size → A1 q → A0 q) (hf : ∀ q, free q → A0 q) (hAX : ∀ q, q < H.size → AX q → A0 q)
    (kx : ∀ (E : String) (ce : Cell) (q9 : Addr) (u : SX) (t : State) (H1 : Heap) (locs1 : List Loc), t.heap = H1 → s.vm.Alike t.vm → px u → BX E u t → H.size ≤ H1.size → (∀ q : Nat, q < H.size → ¬ AX q → H1[q]? = H[q]?) → va_S A0 H0 H1 locs1 → H1[q9]? = some ce → ce.vm = .none → s.vm.findClass E = some ce.cls → vx_W p l e R s m args below meth c H1 locs1 (cells + mc) (slots + ms) Q (F0 m pc ls rest) q9)
    (kk : ∀ (u : S) (t : State) (H1 : Heap) (locs1 : List Loc), t.heap = H1 → s.vm.Alike t.vm → post u → B u t → H.size ≤ H1.size → (∀ q : Nat, q < H.size → ¬ A1 q → H1[q]? = H[q]?) → va_S A0 H0 H1 locs1 → W p l e R s m args below meth c H1 locs1 (cells + mc) (slots + ms) Q (F0 m (pc + 3) ls (rest))) : W p l e R s m args below meth c H locs cells slots Q (F0 m pc ls st0) := by
  intro T hT X
  rcases hr T hT X with ⟨v, st₀, t, T', L, h0, X', hL, e1, e2, ⟨⟨u, hv, hp, hb⟩, hF⟩, st⟩ | ⟨q, st₀, t, T', L, E, ce, h0, X', hL, e1, e2, ⟨u, hp, hb, hF⟩, hce, hcv, hcl, st⟩
  · cases hv
    obtain ⟨k1, k2, k3⟩ := vx_keep h0 e1 hS hA hf hL hF
    obtain ⟨t2, a1, b1⟩ := kk u t T'.heap (locs ++ L) e1.symm (by rw [← e2]; exact X'.warmed.alike) hp hb k1 k2 k3 T' rfl X'
    exact ⟨t2, st t2 a1, b1⟩
  · obtain ⟨k1, k2, k3⟩ := vx_keep h0 e1 hS hAX hf hL hF
    obtain ⟨t2, a1, b1⟩ := kx E ce q u t T'.heap (locs ++ L) e1.symm (by rw [← e2]; exact X'.warmed.alike) hp hb k1 k2 k3 (by rw [e1]; exact hce) hcv hcl T' rfl X'
    exact ⟨t2, st.trans a1, b1⟩
/-- caught by the row x of this method's table; the rows ahead don't take it -/
theorem vx_catch {own name : String} {E : String} {ce : Cell} {q : Addr} (hown : s.vm.findClass own = some m.cls) (pre : List ExceptionTableEntry) (x : ExceptionTableEntry) (suf : List ExceptionTableEntry) (hsplit : c.exceptionTable.toList = pre ++ x :: suf)
    (hpass : ∀ z ∈ pre, covers z pc = false ∨ (z.catchType ≠ 0 ∧ ∃ nm : String, (Cond.classLink own z.catchType nm).before args s = true ∧ va_Nc E nm s)) (hx : covers x pc = true) (h0 : x.catchType ≠ 0)
    (hlink : (Cond.classLink own x.catchType name).before args s = true) (hcast : (Cond.castable E name).before args s = true) (hcell : H[q]? = some ce) (hv : ce.vm = .none) (hcl : s.vm.findClass E = some ce.cls)
    (kk : W p l e R s m args below meth c H locs cells slots Q (F0 m x.handlerPc ls [.ref q])) : vx_W p l e R s m args below meth c H locs cells slots Q (F0 m pc ls rest) q := by
  intro T hT X
  have hpl : e.platform.magicAccessors = ({} : Platform).magicAccessors := by rw [X.admits.platform]
  obtain ⟨c3, c4, hc3, hc4, hasg⟩ := Cond.castable_spec hcast
  cases Option.some.inj (hc3.symm.trans hcl)
  obtain ⟨c5, hc5, hcl5⟩ := Cond.classLink_spec hown hlink e.platform hpl
  cases Option.some.inj (hc4.symm.trans hc5)
  obtain ⟨vm', X', st⟩ := X.thenCaughtThrough q (g := F0 m pc ls rest) rfl (Steps.refl _) (by rw [hT]; exact hcell) (by rw [hv]; rfl) (by obtain ⟨k9, h9, -⟩ := Vm.findClass_spec hcl; exact ⟨k9, h9⟩) pre x suf hsplit
    (fun z hz => by
      rcases hpass z hz with h | ⟨hz0, nm, hl1, hn1⟩
      · exact Or.inl h
      · obtain ⟨c6, hc6, hcl6⟩ := Cond.classLink_spec hown hl1 e.platform hpl
        obtain ⟨a8, b8, h1, h2, h3⟩ := hn1
        cases Option.some.inj (h1.symm.trans hcl)
        cases Option.some.inj (h2.symm.trans hc6)
        exact Or.inr ⟨hz0, _, hcl6, h3⟩) hx (Or.inr ⟨h0, c4, hcl5, hasg⟩)
  obtain ⟨t, a1, b1⟩ := kk (T.setVm vm') hT X'
  exact ⟨t, st.trans a1, b1⟩
end Rows
section Ends
variable {p : Program} {l : Launch} {e : Env} {R : Room} {s : State} {m : MethodId} {args : Array Value} {below : List Frame} {meth : Method} {c : Code} {H : Heap} {locs : List Loc} {cells slots : Nat} {Q : State → Prop}
variable {mc ms : Nat} {free : Addr → Prop} {A0 A1 : Nat → Prop} {H0 : Heap} {a : Array Value} {ls : Array Slot} {st0 rest : List Value}
variable {Qc : Array Value → State → Outcome → State → Prop} {XC : String → State → State → Prop}
/-- what a body that may throw owes at its end -/
def vx_MQ (below : List Frame) (Qc : Array Value → State → Outcome → State → Prop) (XC : String → State → State → Prop) (a : Array Value) (s : State) (mc ms : Nat) (free : Addr → Prop) : State → Prop := fun t =>
  ∃ o, t.status = .running ∧ Ended t below o ∧ vx_Q Qc XC mc ms free a s o t
theorem vx_ret {g : JFrame} {mc ms : Nat} (k : W p l e R s m args below meth c H locs cells slots (MQ below Qc args s mc ms free) g) : W p l e R s m args below meth c H locs cells slots (vx_MQ below Qc XC args s mc ms free) g := by
  intro T hT X
  obtain ⟨t, a1, o, b1, b2, b3, b4⟩ := k T hT X
  exact ⟨t, a1, o, b1, b2, Or.inl ⟨b3, b4⟩⟩
/-- not caught here: it goes on to the caller -/
theorem vx_widen {g : JFrame} {q : Addr} {k n : Nat} (h1 : cells ≤ k) (h2 : slots ≤ n) (kk : vx_W p l e R s m args below meth c H locs k n Q g q) : vx_W p l e R s m args below meth c H locs cells slots Q g q := fun T hT X => kk T hT (stand_widen X h1 h2)
theorem vx_out {pc : Nat} {E : String} {ce : Cell} {q : Addr} {mc ms : Nat} (hout : ∀ x ∈ c.exceptionTable.toList, covers x pc = false) (hlocks : meth.locks = false) (hcell : H[q]? = some ce) (hv : ce.vm = .none) (hcl : s.vm.findClass E = some ce.cls)
    (hx : ∀ t : State, t.heap = H → s.vm.Alike t.vm → XC E s t) (hf : ∀ z ∈ locs, free z.base) (hc : cells ≤ mc) (hs : slots ≤ ms) :
    vx_W p l e R s m args below meth c H locs cells slots (vx_MQ below Qc XC args s mc ms free) (F0 m pc ls rest) q := by
  intro T hT X
  obtain ⟨st1, hrun, hend, hW, hsm⟩ := X.leaveThrown q (g := F0 m pc ls rest) rfl rfl rfl hout hlocks
  have hcell9 : (T.setFrames (.throwing q :: below)).heap[q]? = some ce := by
    show T.heap[q]? = some ce
    rw [hT]; exact hcell
  exact ⟨_, st1, .threw q, hrun, hend, Or.inr ⟨q, rfl, E, ce, locs, hx _ hT hW.alike, hcell9, hv, hcl, hW, hsm.mono hc hs, hf⟩⟩
theorem vx_frame {U : State} {k n : Nat} (h : s.sameButNew ({ U with vm := s.vm } : State) locs k n) : s.heap.size ≤ U.heap.size ∧ ∀ q : Nat, q < s.heap.size → (∀ z ∈ locs, z.base ≠ q) → U.heap[q]? = s.heap[q]? := by
  obtain ⟨-, h2, -, -, -, h6⟩ := h
  refine ⟨h2, fun q hq hz => ?_⟩
  obtain ⟨c9, e1, e2, e3, e4⟩ := h6 q _ (Array.getElem?_eq_getElem hq)
  have hs : c9.slots = (s.heap[q]).slots := Array.ext_getElem? fun i => e4 i fun hm => hz _ hm rfl
  have h9 : c9 = s.heap[q] := by
    rw [hs] at e2
    exact e2
  have e5 : U.heap[q]? = some c9 := e1
  rw [e5, h9, Array.getElem?_eq_getElem hq]
/-- the words of a throw but the four that speak of the heap -/
def vx_no (w : Cond) : Bool := decide (w ≠ .isRef (.static Bundle.tN "UNASSIGNED_STACK" Bundle.steD)) && decide (w ≠ .isRef (.static Bundle.tN "SUPPRESSED_SENTINEL" Bundle.listD)) && decide (w ≠ .laysStatic Bundle.tN "UNASSIGNED_STACK" Bundle.steD) && decide (w ≠ .laysStatic Bundle.tN "SUPPRESSED_SENTINEL" Bundle.listD)
def vx_at0 (own : String) (ic : Nat) (X : String) (names : List String) : List Cond := (Bundle.ownAtoms0 own ic X names).filter vx_no
def vx_atS (own : String) (ic : Nat) (X : String) (names : List String) : List Cond := (Bundle.ownAtoms own ic X names).filter vx_no
/-- a word that the tables alone decide, or a good one -/
def vx_ot (w : Cond) : Bool := w.onTables || goodWord w
theorem vx_ot_at {args a' : Array Value} {s U : State} {w : Cond} (hW : s.WarmedH U.vm) (hvm : s.vm = U.vm) (hg : vx_ot w = true) (h : w.before args s = true) : w.before a' U = true := by
  simp only [vx_ot, Bool.or_eq_true] at hg
  rcases hg with hg | hg
  · exact va_tabs hg hvm h
  · exact word_at hW (good_of_word hg) h
/-- a list's words: the good ones out of the method's own list, the others by premises of their own -/
theorem vx_hat {args : Array Value} {s : State} {L B : List Cond} (h1 : ∀ w ∈ L.filter goodWord, w.before args s = true) (h2 : ∀ w ∈ L.filter (fun w => !goodWord w), w ∈ B) (h3 : ∀ w ∈ B, w.before args s = true) : ∀ w ∈ L, w.before args s = true := by
  intro w hw
  by_cases g : goodWord w = true
  · exact h1 w (List.mem_filter.mpr ⟨hw, g⟩)
  · refine h3 w (h2 w (List.mem_filter.mpr ⟨hw, ?_⟩))
    show (!goodWord w) = true
    cases hgw : goodWord w
    · rfl
    · exact absurd hgw g
theorem vx_c {args : Array Value} {s : State} {w : Cond} {B : List Cond} (h : w.before args s = true) (t : ∀ w ∈ B, w.before args s = true) : ∀ w' ∈ w :: B, w'.before args s = true := fun w' h' => (List.mem_cons.mp h').elim (fun e => by rw [e]; exact h) (t w')
theorem vx_n {args : Array Value} {s : State} : ∀ w ∈ ([] : List Cond), w.before args s = true := fun _ h => nomatch h
theorem vx_own {args : Array Value} {s : State} {L : List Cond} (h1 : ∀ w ∈ L.filter vx_no, w.before args s = true)
    (hU : (Cond.isRef (.static Bundle.tN "UNASSIGNED_STACK" Bundle.steD)).before args s = true) (hN : (Cond.isRef (.static Bundle.tN "SUPPRESSED_SENTINEL" Bundle.listD)).before args s = true)
    (lU : (Cond.laysStatic Bundle.tN "UNASSIGNED_STACK" Bundle.steD).before args s = true) (lN : (Cond.laysStatic Bundle.tN "SUPPRESSED_SENTINEL" Bundle.listD).before args s = true) : ∀ w ∈ L, w.before args s = true := by
  intro w hw
  by_cases e1 : w = .isRef (.static Bundle.tN "UNASSIGNED_STACK" Bundle.steD)
  · rw [e1]; exact hU
  · by_cases e2 : w = .isRef (.static Bundle.tN "SUPPRESSED_SENTINEL" Bundle.listD)
    · rw [e2]; exact hN
    · by_cases e3 : w = .laysStatic Bundle.tN "UNASSIGNED_STACK" Bundle.steD
      · rw [e3]; exact lU
      · by_cases e4 : w = .laysStatic Bundle.tN "SUPPRESSED_SENTINEL" Bundle.listD
        · rw [e4]; exact lN
        · exact h1 w (List.mem_filter.mpr ⟨hw, by unfold vx_no; rw [decide_eq_true e1, decide_eq_true e2, decide_eq_true e3, decide_eq_true e4]; rfl⟩)
/-- where a static field lies, its class's statics cell in H -/
def vx_L (C n d : String) (A : Nat → Prop) (U : State) (H : Heap) : Prop := ∃ (c : ClassId) (k : Class) (i : Nat) (f : Field) (a : Nat) (cell : Cell), U.vm.findClass C = some c ∧ U.fieldFound? C n d = some (c, k, i, f) ∧ f.isStatic = true ∧ k.statics = some a ∧ H[a]? = some cell ∧ cell.vm.isStatics = true ∧ cell.cls = c ∧ f.slot < cell.slots.size ∧ k.staticTypes[f.slot]? = some f.type ∧ ¬ A a
theorem vx_L.moved {C n d : String} {A : Nat → Prop} {u U : State} {H : Heap} (hvm : u.vm.Alike U.vm) (h : vx_L C n d A u H) : vx_L C n d A U H := by
  obtain ⟨c, k, i, f, a, cell, h1, h2, h3, h4, h5, h6, h7, h8, h9, h10⟩ := h
  obtain ⟨k', hi', he⟩ := State.fieldFound?_setVm hvm h2
  exact ⟨c, k', i, f, a, cell, by rw [hvm.findClass]; exact h1, hi', h3, by rw [he]; exact h4, h5, h6, h7, h8, by rw [he]; exact h9, h10⟩
theorem vx_L.kept {C n d : String} {A : Nat → Prop} {U : State} {H H1 : Heap} (h : vx_L C n d A U H) (hq : ∀ a : Nat, a < H.size → ¬ A a → H1[a]? = H[a]?) : vx_L C n d A U H1 := by
  obtain ⟨c, k, i, f, a, cell, h1, h2, h3, h4, h5, h6, h7, h8, h9, h10⟩ := h
  exact ⟨c, k, i, f, a, cell, h1, h2, h3, h4, by rw [hq a (Array.getElem?_eq_some_iff.mp h5).1 h10]; exact h5, h6, h7, h8, h9, h10⟩
theorem vx_L.narrow {C n d : String} {A B : Nat → Prop} {U : State} {H : Heap} (h : vx_L C n d A U H) (hAB : ∀ q, B q → A q) : vx_L C n d B U H := by
  obtain ⟨c, k, i, f, a, cell, h1, h2, h3, h4, h5, h6, h7, h8, h9, h10⟩ := h
  exact ⟨c, k, i, f, a, cell, h1, h2, h3, h4, h5, h6, h7, h8, h9, fun z => h10 (hAB _ z)⟩
theorem vx_L.word {C n d : String} {A : Nat → Prop} {s : State} {args : Array Value} (h : vx_L C n d A s s.heap) : (Cond.laysStatic C n d).before args s = true := by
  obtain ⟨c, k, i, f, a, cell, h1, h2, h3, h4, h5, h6, h7, h8, h9, -⟩ := h
  show (Cond.laysStatic C n d).holds args s none s [] = true
  exact Cond.laysStatic_of h1 h2 h3 h4 h5 h6 h7 h8 h9
/-- .. and what it holds: null or some reference -/
def vx_Zq (C n d : String) (A : Nat → Prop) (U : State) (H : Heap) : Prop := va_Zq C n d A U H ∧ vx_L C n d A U H
theorem vx_Zq.moved {C n d : String} {A : Nat → Prop} {u U : State} {H : Heap} (hvm : u.vm.Alike U.vm) (h : vx_Zq C n d A u H) : vx_Zq C n d A U H := ⟨va_Zq.moved hvm h.1, vx_L.moved hvm h.2⟩
theorem vx_Zq.kept {C n d : String} {A : Nat → Prop} {U : State} {H H1 : Heap} (h : vx_Zq C n d A U H) (hq : ∀ a : Nat, a < H.size → ¬ A a → H1[a]? = H[a]?) : vx_Zq C n d A U H1 := ⟨va_Zq.kept h.1 hq, vx_L.kept h.2 hq⟩
theorem vx_Zq.narrow {C n d : String} {A B : Nat → Prop} {U : State} {H : Heap} (h : vx_Zq C n d A U H) (hAB : ∀ q, B q → A q) : vx_Zq C n d B U H := ⟨va_Zq.narrow h.1 hAB, vx_L.narrow h.2 hAB⟩
theorem vx_Zqof {args : Array Value} {s : State} {C n d : String} {A : Nat → Prop} (hl : (Cond.laysStatic C n d).before args s = true) (hini : (Cond.initialized C).before args s = true) (h : (Cond.isRef (.static C n d)).before args s = true) (hA : ∀ a : Nat, a < s.heap.size → ¬ A a) : vx_Zq C n d A s s.heap := by
  refine ⟨va_Zqof hl hini h hA, ?_⟩
  obtain ⟨c, k, i, f, a, cell, h1, h2, h3, h4, h5, h6, h7, h8, h9⟩ := Cond.laysStatic_spec hl
  exact ⟨c, k, i, f, a, cell, h1, h2, h3, h4, h5, h6, h7, h8, h9, hA a (Array.getElem?_eq_some_iff.mp h5).1⟩
theorem vx_isRef {C n d : String} {v : Value} {A : Nat → Prop} {s : State} {args : Array Value} (h : va_Z C n d v A s s.heap) (hv : v.isRef = true) : (Cond.isRef (.static C n d)).before args s = true := by
  obtain ⟨cf, kf, fi, f, a, cell, h1, h2, h3, h4, h5, h6, h7, -⟩ := h
  have he : (Term.static C n d).eval args s none [] s = some v := by
    simp [Term.eval, State.fieldNamed?, h1, h2, h4, h5, h6, h7]
  simp only [Cond.before, Cond.holds, Cond.value, he]
  cases v <;> simp_all [Value.isRef]
theorem vx_isRefq {C n d : String} {A : Nat → Prop} {s : State} {args : Array Value} (h : va_Zq C n d A s s.heap) : (Cond.isRef (.static C n d)).before args s = true := by
  rcases h with h | ⟨t, h⟩
  · exact vx_isRef h rfl
  · exact vx_isRef h rfl
/-- the same frame, seen from here: as if the method were called anew in this heap -/
theorem vx_rebase {T : State} (X : Stand p l e R s m args below meth c T locs cells slots) {R' : Room} (hf : R'.frames ≤ R.frames) (hl : R'.locals ≤ R.locals) (hc : cells + R'.cells ≤ R.cells) (hs : slots + R'.slots ≤ R.slots) :
    Stand p l e R' ((T.setVm s.vm).setFrames (.invoking m args :: below)) m args below meth c T [] 0 0 := by
  have htop : (T.setVm s.vm).topJava?.isSome := X.here.top
  have hF : ((T.setVm s.vm).setFrames (.invoking m args :: below)).frames = .invoking m args :: below := State.frames_setFrames _ (State.cur_lt_of_top htop)
  obtain ⟨g₀, hg0⟩ := Option.isSome_iff_exists.mp htop
  obtain ⟨r, hr⟩ := State.topJava?_eq_some.mp hg0
  have hl9 : e.platform.stackLimits (T.setVm s.vm).me = e.platform.stackLimits s.me := X.limits
  have hb9 : (T.setVm s.vm).me.stackBytes = s.me.stackBytes := X.bytes
  refine ⟨X.admits, X.cas, X.clock, hF, ?_, X.hears, X.method, X.code, X.here, X.tail, X.warmed, ?_, ?_, ?_⟩
  · have h := X.room
    have hU : ((T.setVm s.vm).setFrames (.invoking m args :: below)).localsInUse = s.localsInUse := by
      rw [State.localsInUse_invoking hF (meth := meth) (c := c) X.method X.code, State.localsInUse_invoking X.frames X.method X.code]
    simp only [State.hasRoom, Bool.and_eq_true, decide_eq_true_eq] at h ⊢
    obtain ⟨⟨⟨⟨h1, h2, h3, h4, h5, h6⟩, h7⟩, h8⟩, h9⟩ := h
    rw [X.frames, List.length_cons] at h2 h3
    have q1 := X.heapSize
    have q2 := X.used
    simp only [hF, hU, List.length_cons, State.stackLimits_setFrames, State.stackBytes_setFrames, hl9, hb9]
    refine ⟨⟨⟨⟨by omega, by omega, by omega, by omega, by omega, h6⟩, ?_⟩, ?_⟩, X.book⟩
    · show T.heap.size + R'.cells ≤ e.platform.maxCells
      omega
    · show T.slotsUsed + R'.slots ≤ e.platform.maxSlots
      omega
  · rw [State.stackLimits_setFrames]; rfl
  · rw [State.stackBytes_setFrames]; rfl
  · refine ⟨?_, Nat.le_refl _, Nat.le_refl _, ?_, ?_, fun a c9 h9 => ⟨c9, h9, rfl, rfl, fun _ _ => rfl⟩⟩
    · obtain ⟨t, ht, -⟩ := State.frames_cons hr
      show T.setVm s.vm = { ((T.setVm s.vm).setFrames (.invoking m args :: below)).setFrames (T.setVm s.vm).frames with heap := T.heap, slotsUsed := T.slotsUsed }
      rw [State.setFrames_setFrames, State.setFrames_self ht]
      rfl
    · show T.slotsUsed = T.slotsUsed + ((T.heap.toList.drop T.heap.size).map (·.slots.size)).sum
      rw [List.drop_eq_nil_of_le (Nat.le_of_eq Array.length_toList)]
      rfl
    · show ((T.heap.toList.drop T.heap.size).map (·.slots.size)).sum ≤ 0
      rw [List.drop_eq_nil_of_le (Nat.le_of_eq Array.length_toList)]
      exact Nat.le_refl _
/-- 'throw new E()': new; dup; invokespecial; athrow -/
theorem vx_throw0 {cc : ByteArray} {pc : Nat} (hexec : p.tables.exec = Jvm.exec) (hb : c.code = cc) (hl : l.stackTraces = false) {own cls : String} {names : List String} {ik ic mc ms : Nat} {A : Nat → Prop}
    (hown : s.vm.findClass own = some m.cls) (hcls : Bundle.fit cls = true) (hnames : ∀ n ∈ names, Bundle.fit n = true)
    (hk : (Cond.classLink own ik cls).before args s = true) (hini : (Cond.initialized cls).before args s = true) (hat : ∀ w ∈ vx_at0 own ic cls names, w.before args s = true)
    (hgood : ∀ w ∈ Cond.classLink own ik cls :: Cond.initialized cls :: vx_at0 own ic cls names, vx_ot w = true)
    (hU : vx_Zq Bundle.tN "UNASSIGNED_STACK" Bundle.steD A s s.heap) (hN : vx_Zq Bundle.tN "SUPPRESSED_SENTINEL" Bundle.listD A s s.heap) (hS : va_S A s.heap H locs) (hsize : ls.size = c.maxLocals)
    (d0 : decode cc pc = .ok (.new ik, 3)) (d3 : decode cc (pc + 3) = .ok (.dup, 1)) (d4 : decode cc (pc + 4) = .ok (.invokespecial ic, 3)) (d7 : decode cc (pc + 7) = .ok (.athrow, 1))
    (hout : ∀ x ∈ c.exceptionTable.toList, covers x (pc + 7) = false)
    (hRframes : names.length + 3 < R.frames) (hRlocals : (rest.map fun v => v.category).sum + (13 * (names.length + 1) + 42) ≤ R.locals) (hRcells : cells + 1 ≤ R.cells) (hRslots : slots + 6 ≤ R.slots) (hlocks : meth.locks = false)
    (hx : ∀ t : State, s.vm.Alike t.vm → H.size ≤ t.heap.size → (∀ q : Nat, q < H.size → t.heap[q]? = H[q]?) → XC cls s t)
    (hf : ∀ z ∈ locs, free z.base) (hc : cells + 1 ≤ mc) (hs : slots + 6 ≤ ms) :
    W p l e R s m args below meth c H locs cells slots (vx_MQ below Qc XC args s mc ms free) (F0 m pc ls rest) := by
  intro T hT X
  have htr : e.platform.stackTraces = false := (show e.platform.stackTraces = l.stackTraces by rw [X.admits.platform]).trans hl
  have Y := vx_rebase X (R' := { frames := R.frames, locals := R.locals, cells := 1, slots := 6 }) (Nat.le_refl _) (Nat.le_refl _) hRcells hRslots
  obtain ⟨s', hA⟩ : ∃ z, z = (T.setVm s.vm).setFrames (.invoking m args :: below) := ⟨_, rfl⟩
  rw [← hA] at Y
  have hvm : s'.vm = s.vm := by rw [hA]; rfl
  have hhp : s'.heap = H := by rw [hA]; exact hT
  have hW0 : s.WarmedH s'.vm := by rw [hvm]; exact State.WarmedH.refl s
  have hat' : ∀ w ∈ vx_at0 own ic cls names, w.before args s' = true := fun w hw => vx_ot_at hW0 hvm.symm (hgood w (List.mem_cons_of_mem _ (List.mem_cons_of_mem _ hw))) (hat w hw)
  have hk' : (Cond.classLink own ik cls).before args s' = true := vx_ot_at hW0 hvm.symm (hgood _ List.mem_cons_self) hk
  have hini' : (Cond.initialized cls).before args s' = true := vx_ot_at hW0 hvm.symm (hgood _ (List.mem_cons_of_mem _ List.mem_cons_self)) hini
  have hU' : vx_Zq Bundle.tN "UNASSIGNED_STACK" Bundle.steD A s' s'.heap := by rw [hhp]; exact vx_Zq.moved hW0.alike (hU.kept hS.2.1)
  have hN' : vx_Zq Bundle.tN "SUPPRESSED_SENTINEL" Bundle.listD A s' s'.heap := by rw [hhp]; exact vx_Zq.moved hW0.alike (hN.kept hS.2.1)
  have h : ∀ w ∈ Bundle.ownAtoms0 own ic cls names, w.before args s' = true := vx_own hat' (vx_isRefq hU'.1) (vx_isRefq hN'.1) hU'.2.word hN'.2.word
  have hown' : s'.vm.findClass own = some m.cls := by rw [hvm]; exact hown
  have hins : (Cond.instantiable cls 6).before args s' = true := h _ (by simp [Bundle.ownAtoms0])
  obtain ⟨vm₁, cX, kX, hfX, hkX, -, -, X₁, st1⟩ := Y.newCold hexec (own := own) (C := cls) (index := ik) (n := 6) hown' hk' hins hini'
    (g := F0 m pc ls rest) rfl (by rw [hb]; exact d0) (Nat.le_refl _) (Nat.le_refl _)
  generalize hT1 : (T.setVm vm₁).pushCell { cls := cX, slots := kX.instanceTypes.map defaultValue, vm := .none } = T1 at X₁ st1
  have hcat : (Value.ref T.heap.size).category = 1 := rfl
  have hcellA : T1.heap[T.heap.size]? = some (freshCell cX kX) := by rw [← hT1]; exact State.heap_pushCell_size _ _
  have d3' : decode c.code (pc + 3) = .ok (.dup, 1) := by rw [hb]; exact d3
  obtain ⟨U, hsteps, hrun, hend, hW, hsame, ce, hce, hO⟩ := X₁.ctorThrow0 hexec htr (own := own) (cls := cls) (names := names) (ic := ic) hown' hcls hnames h (fun x hx => nomatch hx) hfX hkX hcellA (by rw [hhp, hT]; exact Nat.le_refl _)
    (g := { method := m, pc := pc + 4, locals := ls, stack := .ref T.heap.size :: .ref T.heap.size :: rest, locked := none }) rfl hsize rfl rfl (rest := rest) rfl
    (by rw [hb]; exact d4) (by rw [hb]; exact d7) hout hRframes (by simp only [List.map_cons, List.sum_cons, hcat]; omega) hlocks
  obtain ⟨f1, f2⟩ := vx_frame hsame
  rw [hhp] at f1 f2
  have hWs : s.WarmedH U.vm := State.WarmedH.trans hW0 hW
  have hcl : s.vm.findClass cls = some ce.cls := by
    have h9 := hO.cls
    rw [hvm] at h9
    exact h9
  have hall : s.sameButNew ({ U with vm := s.vm } : State) locs mc ms := by
    subst hA
    obtain ⟨e1, e2⟩ := hsame
    rw [State.setFrames_setFrames] at e1
    have h2 : (T.setVm s.vm).sameButNew ({ U with vm := s.vm } : State) [] (0 + 1) (0 + 6) := ⟨e1, e2⟩
    have h3 := X.same.trans h2
    rw [List.append_nil] at h3
    exact h3.mono hc hs
  refine ⟨U, ?_, .threw T.heap.size, hrun, hend, Or.inr ⟨T.heap.size, rfl, cls, ce, locs, hx U hWs.alike f1 (fun q hq => f2 q hq (fun z hz => nomatch hz)), hce, hO.vm, hcl, hWs, hall, hf⟩⟩
  refine st1 _ ?_
  show Steps p.tables e below (T1.setTop { method := m, pc := pc + 3, locals := ls, stack := .ref T.heap.size :: rest, locked := none }) _
  jvm_step X₁.here [X₁.here.top, hexec, d3', Value.category]
  exact hsteps
/-- 'throw new E("text")': new; dup; ldc; invokespecial; athrow -/
theorem vx_throwS {cc : ByteArray} {pc : Nat} (hexec : p.tables.exec = Jvm.exec) (hb : c.code = cc) (hl : l.stackTraces = false) {own cls text : String} {names : List String} {ik is ic mc ms sa : Nat} {A : Nat → Prop}
    (hown : s.vm.findClass own = some m.cls) (hcls : Bundle.fit cls = true) (hnames : ∀ n ∈ names, Bundle.fit n = true)
    (hk : (Cond.classLink own ik cls).before args s = true) (hini : (Cond.initialized cls).before args s = true) (hstr : vk_R own is text sa s) (hat : ∀ w ∈ vx_atS own ic cls names, w.before args s = true)
    (hgood : ∀ w ∈ Cond.classLink own ik cls :: Cond.initialized cls :: vx_atS own ic cls names, vx_ot w = true)
    (hU : vx_Zq Bundle.tN "UNASSIGNED_STACK" Bundle.steD A s s.heap) (hN : vx_Zq Bundle.tN "SUPPRESSED_SENTINEL" Bundle.listD A s s.heap) (hS : va_S A s.heap H locs) (hsize : ls.size = c.maxLocals)
    (d0 : decode cc pc = .ok (.new ik, 3)) (d3 : decode cc (pc + 3) = .ok (.dup, 1)) (d4 : decode cc (pc + 4) = .ok (.ldc is, 2)) (d6 : decode cc (pc + 6) = .ok (.invokespecial ic, 3)) (d9 : decode cc (pc + 9) = .ok (.athrow, 1))
    (hout : ∀ x ∈ c.exceptionTable.toList, covers x (pc + 9) = false)
    (hRframes : names.length + 3 < R.frames) (hRlocals : (rest.map fun v => v.category).sum + (13 * (names.length + 1) + 43) ≤ R.locals) (hRcells : cells + 1 ≤ R.cells) (hRslots : slots + 6 ≤ R.slots) (hlocks : meth.locks = false)
    (hx : ∀ t : State, s.vm.Alike t.vm → H.size ≤ t.heap.size → (∀ q : Nat, q < H.size → t.heap[q]? = H[q]?) → XC cls s t)
    (hf : ∀ z ∈ locs, free z.base) (hc : cells + 1 ≤ mc) (hs : slots + 6 ≤ ms) :
    W p l e R s m args below meth c H locs cells slots (vx_MQ below Qc XC args s mc ms free) (F0 m pc ls rest) := by
  intro T hT X
  have htr : e.platform.stackTraces = false := (show e.platform.stackTraces = l.stackTraces by rw [X.admits.platform]).trans hl
  have Y := vx_rebase X (R' := { frames := R.frames, locals := R.locals, cells := 1, slots := 6 }) (Nat.le_refl _) (Nat.le_refl _) hRcells hRslots
  obtain ⟨s', hA⟩ : ∃ z, z = (T.setVm s.vm).setFrames (.invoking m args :: below) := ⟨_, rfl⟩
  rw [← hA] at Y
  have hvm : s'.vm = s.vm := by rw [hA]; rfl
  have hhp : s'.heap = H := by rw [hA]; exact hT
  have hW0 : s.WarmedH s'.vm := by rw [hvm]; exact State.WarmedH.refl s
  have hat' : ∀ w ∈ vx_atS own ic cls names, w.before args s' = true := fun w hw => vx_ot_at hW0 hvm.symm (hgood w (List.mem_cons_of_mem _ (List.mem_cons_of_mem _ hw))) (hat w hw)
  have hk' : (Cond.classLink own ik cls).before args s' = true := vx_ot_at hW0 hvm.symm (hgood _ List.mem_cons_self) hk
  have hini' : (Cond.initialized cls).before args s' = true := vx_ot_at hW0 hvm.symm (hgood _ (List.mem_cons_of_mem _ List.mem_cons_self)) hini
  have hU' : vx_Zq Bundle.tN "UNASSIGNED_STACK" Bundle.steD A s' s'.heap := by rw [hhp]; exact vx_Zq.moved hW0.alike (hU.kept hS.2.1)
  have hN' : vx_Zq Bundle.tN "SUPPRESSED_SENTINEL" Bundle.listD A s' s'.heap := by rw [hhp]; exact vx_Zq.moved hW0.alike (hN.kept hS.2.1)
  have h : ∀ w ∈ Bundle.ownAtoms own ic cls names, w.before args s' = true := vx_own hat' (vx_isRefq hU'.1) (vx_isRefq hN'.1) hU'.2.word hN'.2.word
  have hown' : s'.vm.findClass own = some m.cls := by rw [hvm]; exact hown
  have hins : (Cond.instantiable cls 6).before args s' = true := h _ (by simp [Bundle.ownAtoms])
  obtain ⟨vm₁, cX, kX, hfX, hkX, -, -, X₁, st1⟩ := Y.newCold hexec (own := own) (C := cls) (index := ik) (n := 6) hown' hk' hins hini'
    (g := F0 m pc ls rest) rfl (by rw [hb]; exact d0) (Nat.le_refl _) (Nat.le_refl _)
  generalize hT1 : (T.setVm vm₁).pushCell { cls := cX, slots := kX.instanceTypes.map defaultValue, vm := .none } = T1 at X₁ st1
  have hcat : (Value.ref T.heap.size).category = 1 := rfl
  have hcellA : T1.heap[T.heap.size]? = some (freshCell cX kX) := by rw [← hT1]; exact State.heap_pushCell_size _ _
  have d3' : decode c.code (pc + 3) = .ok (.dup, 1) := by rw [hb]; exact d3
  have d4' : decode c.code (pc + 4) = .ok (.ldc is, 2) := by rw [hb]; exact d4
  have hstr' : vk_R own is text sa s' := vk_R.warm hW0 hstr
  obtain ⟨U, hsteps, hrun, hend, hW, hsame, ce, hce, hO⟩ := X₁.ctorThrowS hexec htr (own := own) (cls := cls) (names := names) (ic := ic) hown' hcls hnames h (fun x hx => nomatch hx) hfX hkX hcellA (by rw [hhp, hT]; exact Nat.le_refl _) (msg := .ref sa) rfl
    (g := { method := m, pc := pc + 6, locals := ls, stack := .ref sa :: .ref T.heap.size :: .ref T.heap.size :: rest, locked := none }) rfl hsize rfl rfl (rest := rest) rfl
    (by rw [hb]; exact d6) (by rw [hb]; exact d9) hout hRframes (by simp only [List.map_cons, List.sum_cons, hcat]; omega) hlocks
  obtain ⟨f1, f2⟩ := vx_frame hsame
  rw [hhp] at f1 f2
  have hWs : s.WarmedH U.vm := State.WarmedH.trans hW0 hW
  have hcl : s.vm.findClass cls = some ce.cls := by
    have h9 := hO.cls
    rw [hvm] at h9
    exact h9
  have hall : s.sameButNew ({ U with vm := s.vm } : State) locs mc ms := by
    subst hA
    obtain ⟨e1, e2⟩ := hsame
    rw [State.setFrames_setFrames] at e1
    have h2 : (T.setVm s.vm).sameButNew ({ U with vm := s.vm } : State) [] (0 + 1) (0 + 6) := ⟨e1, e2⟩
    have h3 := X.same.trans h2
    rw [List.append_nil] at h3
    exact h3.mono hc hs
  refine ⟨U, ?_, .threw T.heap.size, hrun, hend, Or.inr ⟨T.heap.size, rfl, cls, ce, locs, hx U hWs.alike f1 (fun q hq => f2 q hq (fun z hz => nomatch hz)), hce, hO.vm, hcl, hWs, hall, hf⟩⟩
  refine st1 _ ?_
  show Steps p.tables e below (T1.setTop { method := m, pc := pc + 3, locals := ls, stack := .ref T.heap.size :: rest, locked := none }) _
  jvm_step X₁.here [X₁.here.top, hexec, d3', Value.category]
  exact X₁.ldcString hexec (own := own) (text := text) (index := is) (a := sa) hown' hstr'.1 hstr'.2
    (g := { method := m, pc := pc + 4, locals := ls, stack := .ref T.heap.size :: .ref T.heap.size :: rest, locked := none }) rfl d4' _ hsteps
/-- 'throw new E("text")', the text by a wide index -/
theorem vx_throwSW {cc : ByteArray} {pc : Nat} (hexec : p.tables.exec = Jvm.exec) (hb : c.code = cc) (hl : l.stackTraces = false) {own cls text : String} {names : List String} {ik is ic mc ms sa : Nat} {A : Nat → Prop}
    (hown : s.vm.findClass own = some m.cls) (hcls : Bundle.fit cls = true) (hnames : ∀ n ∈ names, Bundle.fit n = true)
    (hk : (Cond.classLink own ik cls).before args s = true) (hini : (Cond.initialized cls).before args s = true) (hstr : vk_R own is text sa s) (hat : ∀ w ∈ vx_atS own ic cls names, w.before args s = true)
    (hgood : ∀ w ∈ Cond.classLink own ik cls :: Cond.initialized cls :: vx_atS own ic cls names, vx_ot w = true)
    (hU : vx_Zq Bundle.tN "UNASSIGNED_STACK" Bundle.steD A s s.heap) (hN : vx_Zq Bundle.tN "SUPPRESSED_SENTINEL" Bundle.listD A s s.heap) (hS : va_S A s.heap H locs) (hsize : ls.size = c.maxLocals)
    (d0 : decode cc pc = .ok (.new ik, 3)) (d3 : decode cc (pc + 3) = .ok (.dup, 1)) (d4 : decode cc (pc + 4) = .ok (.ldc_w is, 3)) (d7 : decode cc (pc + 7) = .ok (.invokespecial ic, 3)) (d10 : decode cc (pc + 10) = .ok (.athrow, 1))
    (hout : ∀ x ∈ c.exceptionTable.toList, covers x (pc + 10) = false)
    (hRframes : names.length + 3 < R.frames) (hRlocals : (rest.map fun v => v.category).sum + (13 * (names.length + 1) + 43) ≤ R.locals) (hRcells : cells + 1 ≤ R.cells) (hRslots : slots + 6 ≤ R.slots) (hlocks : meth.locks = false)
    (hx : ∀ t : State, s.vm.Alike t.vm → H.size ≤ t.heap.size → (∀ q : Nat, q < H.size → t.heap[q]? = H[q]?) → XC cls s t)
    (hf : ∀ z ∈ locs, free z.base) (hc : cells + 1 ≤ mc) (hs : slots + 6 ≤ ms) :
    W p l e R s m args below meth c H locs cells slots (vx_MQ below Qc XC args s mc ms free) (F0 m pc ls rest) := by
  intro T hT X
  have htr : e.platform.stackTraces = false := (show e.platform.stackTraces = l.stackTraces by rw [X.admits.platform]).trans hl
  have Y := vx_rebase X (R' := { frames := R.frames, locals := R.locals, cells := 1, slots := 6 }) (Nat.le_refl _) (Nat.le_refl _) hRcells hRslots
  obtain ⟨s', hA⟩ : ∃ z, z = (T.setVm s.vm).setFrames (.invoking m args :: below) := ⟨_, rfl⟩
  rw [← hA] at Y
  have hvm : s'.vm = s.vm := by rw [hA]; rfl
  have hhp : s'.heap = H := by rw [hA]; exact hT
  have hW0 : s.WarmedH s'.vm := by rw [hvm]; exact State.WarmedH.refl s
  have hat' : ∀ w ∈ vx_atS own ic cls names, w.before args s' = true := fun w hw => vx_ot_at hW0 hvm.symm (hgood w (List.mem_cons_of_mem _ (List.mem_cons_of_mem _ hw))) (hat w hw)
  have hk' : (Cond.classLink own ik cls).before args s' = true := vx_ot_at hW0 hvm.symm (hgood _ List.mem_cons_self) hk
  have hini' : (Cond.initialized cls).before args s' = true := vx_ot_at hW0 hvm.symm (hgood _ (List.mem_cons_of_mem _ List.mem_cons_self)) hini
  have hU' : vx_Zq Bundle.tN "UNASSIGNED_STACK" Bundle.steD A s' s'.heap := by rw [hhp]; exact vx_Zq.moved hW0.alike (hU.kept hS.2.1)
  have hN' : vx_Zq Bundle.tN "SUPPRESSED_SENTINEL" Bundle.listD A s' s'.heap := by rw [hhp]; exact vx_Zq.moved hW0.alike (hN.kept hS.2.1)
  have h : ∀ w ∈ Bundle.ownAtoms own ic cls names, w.before args s' = true := vx_own hat' (vx_isRefq hU'.1) (vx_isRefq hN'.1) hU'.2.word hN'.2.word
  have hown' : s'.vm.findClass own = some m.cls := by rw [hvm]; exact hown
  have hins : (Cond.instantiable cls 6).before args s' = true := h _ (by simp [Bundle.ownAtoms])
  obtain ⟨vm₁, cX, kX, hfX, hkX, -, -, X₁, st1⟩ := Y.newCold hexec (own := own) (C := cls) (index := ik) (n := 6) hown' hk' hins hini'
    (g := F0 m pc ls rest) rfl (by rw [hb]; exact d0) (Nat.le_refl _) (Nat.le_refl _)
  generalize hT1 : (T.setVm vm₁).pushCell { cls := cX, slots := kX.instanceTypes.map defaultValue, vm := .none } = T1 at X₁ st1
  have hcat : (Value.ref T.heap.size).category = 1 := rfl
  have hcellA : T1.heap[T.heap.size]? = some (freshCell cX kX) := by rw [← hT1]; exact State.heap_pushCell_size _ _
  have d3' : decode c.code (pc + 3) = .ok (.dup, 1) := by rw [hb]; exact d3
  have d4' : decode c.code (pc + 4) = .ok (.ldc_w is, 3) := by rw [hb]; exact d4
  have hstr' : vk_R own is text sa s' := vk_R.warm hW0 hstr
  obtain ⟨U, hsteps, hrun, hend, hW, hsame, ce, hce, hO⟩ := X₁.ctorThrowS hexec htr (own := own) (cls := cls) (names := names) (ic := ic) hown' hcls hnames h (fun x hx => nomatch hx) hfX hkX hcellA (by rw [hhp, hT]; exact Nat.le_refl _) (msg := .ref sa) rfl
    (g := { method := m, pc := pc + 7, locals := ls, stack := .ref sa :: .ref T.heap.size :: .ref T.heap.size :: rest, locked := none }) rfl hsize rfl rfl (rest := rest) rfl
    (by rw [hb]; exact d7) (by rw [hb]; exact d10) hout hRframes (by simp only [List.map_cons, List.sum_cons, hcat]; omega) hlocks
  obtain ⟨f1, f2⟩ := vx_frame hsame
  rw [hhp] at f1 f2
  have hWs : s.WarmedH U.vm := State.WarmedH.trans hW0 hW
  have hcl : s.vm.findClass cls = some ce.cls := by
    have h9 := hO.cls
    rw [hvm] at h9
    exact h9
  have hall : s.sameButNew ({ U with vm := s.vm } : State) locs mc ms := by
    subst hA
    obtain ⟨e1, e2⟩ := hsame
    rw [State.setFrames_setFrames] at e1
    have h2 : (T.setVm s.vm).sameButNew ({ U with vm := s.vm } : State) [] (0 + 1) (0 + 6) := ⟨e1, e2⟩
    have h3 := X.same.trans h2
    rw [List.append_nil] at h3
    exact h3.mono hc hs
  refine ⟨U, ?_, .threw T.heap.size, hrun, hend, Or.inr ⟨T.heap.size, rfl, cls, ce, locs, hx U hWs.alike f1 (fun q hq => f2 q hq (fun z hz => nomatch hz)), hce, hO.vm, hcl, hWs, hall, hf⟩⟩
  refine st1 _ ?_
  show Steps p.tables e below (T1.setTop { method := m, pc := pc + 3, locals := ls, stack := .ref T.heap.size :: rest, locked := none }) _
  jvm_step X₁.here [X₁.here.top, hexec, d3', Value.category]
  exact X₁.ldcStringW hexec (own := own) (text := text) (index := is) (a := sa) hown' hstr'.1 hstr'.2
    (g := { method := m, pc := pc + 4, locals := ls, stack := .ref T.heap.size :: .ref T.heap.size :: rest, locked := none }) rfl d4' _ hsteps
end Ends
section Bodies
variable {l : Launch}
theorem vx_ofW {y : MethodName} {ws ws' : List Cond} {rm : Room} {Pc : Array Value → State → Prop} {Qc : Array Value → State → Outcome → State → Prop} {XC : String → State → State → Prop} {mc ms : Nat} {free : Addr → Prop} {cc : ByteArray} {maxL : Nat} {ret : Option FieldType}
    (hy : plainName y.cls = true) (hw : ws = Cond.code y cc maxL ret :: ws')
    (body : ∀ p e s m args below meth c s₁, BodyLoose p l y (headSpec ws rm) cc maxL ret e s m args below meth c s₁ → c.maxLocals = maxL → (∀ x ∈ c.exceptionTable.toList, False) → Pc args s →
      W p l e (headSpec ws rm).room s m args below meth c s.heap [] 0 0 (vx_MQ below Qc XC args s mc ms free) (entryFrame m args maxL)) : vx_Met l y ws rm Pc Qc XC mc ms free := by
  refine MetFree.of_bodyS (code := cc) (maxLocals := maxL) (ret := ret) hy ?_ ?_
  · intro args s m h hn
    obtain ⟨meth, c, h1, h2, h3, h4, h5, h6, -, -⟩ := Cond.code_spec hn (atoms_spec (ws := ws) h _ (by rw [hw]; exact List.mem_cons_self))
    exact ⟨meth, c, h1, h2, h3, h4, h5, h6⟩
  · intro p e s m args below meth c s₁ B hml hP _
    have hh0 : s₁.heap = s.heap := by rw [B.state]; rfl
    have ht : ∀ x ∈ c.exceptionTable.toList, False := by
      obtain ⟨meth9, c9, h1, h2, -, -, -, -, h7, -⟩ := Cond.code_spec B.named (atoms_spec (ws := ws) B.pre _ (by rw [hw]; exact List.mem_cons_self))
      cases Option.some.inj (h1.symm.trans B.method)
      cases Option.some.inj (h2.symm.trans (Stand.of_body B).code)
      intro x hx
      rw [Array.isEmpty_iff.mp h7] at hx
      cases hx
    obtain ⟨t, a1, o, b1, b2, b3⟩ := body p e s m args below meth c s₁ B hml ht hP s₁ hh0 (Stand.of_body B)
    exact ⟨t, o, a1, b1, b2, b3⟩
/-- the table of a body with handlers -/
theorem vx_table {p : Program} {x y : MethodName} {S : Spec} {cc bytes : ByteArray} {maxL maxL' : Nat} {ret ret' : Option FieldType} {e : Env} {s s₁ : State} {m : MethodId} {args : Array Value} {below : List Frame} {meth : Method} {c : Code} {hh : List (Nat × Nat × Nat × Nat)}
    (B : BodyLoose p l y S cc maxL ret e s m args below meth c s₁) (h : (Cond.codeWith y bytes maxL' ret' hh).before args s = true) : c.exceptionTable.toList = tableOf hh := by
  obtain ⟨m9, meth9, c9, hn9, h1, h2, -, -, h6, -⟩ := Cond.codeWith_spec h
  cases Option.some.inj (hn9.symm.trans B.named)
  cases Option.some.inj (h1.symm.trans B.method)
  cases Option.some.inj (h2.symm.trans (Stand.of_body B).code)
  rw [← h6, table_eq]
end Bodies
end VXA
/-! ===== END ===== -/
/-! ===== BEGIN a static call of a method with an exception table ===== -/
section VXS
variable {p : Program} {l : Launch} {e : Env} {R : Room} {s : State} {m : MethodId} {args : Array Value} {below : List Frame} {meth : Method} {c : Code} {T : State} {H : Heap} {locs : List Loc} {cells slots : Nat}
abbrev vx_CSW (R : Room) (s : State) (args : Array Value) (own : String) (index : Nat) (y : MethodName) (bytes : ByteArray) (maxL : Nat) (ret : Option FieldType) (hh : List (Nat × Nat × Nat × Nat)) (ws : List Cond) (rm : Room) (mc ms n : Nat) : Prop :=
  (rm.cells = mc ∧ rm.slots = ms ∧ rm.frames + 1 ≤ R.frames ∧ 8 + (maxL + 11) + rm.locals ≤ R.locals ∧ (∀ w ∈ ws, ∀ (a' : Array Value) (U : State), s.WarmedH U.vm → w.before a' U = true) ∧ Cond.codeWith y bytes maxL ret hh ∈ ws) ∧
  (Cond.codeWith y bytes maxL ret hh).before args s = true ∧ (Cond.initialized y.cls).before args s = true ∧ (y.cls ≠ "java/lang/invoke/MethodHandle" ∧ y.cls ≠ "java/lang/invoke/VarHandle") ∧
  (∀ sig, parseMethodDescriptor y.desc = some sig → n = sig.parameters.length) ∧ (Cond.methodLink own index y).before args s = true ∧ (Cond.static y).before args s = true
theorem vx_cwSW {own : String} {index maxL mc ms : Nat} {y : MethodName} {bytes : ByteArray} {ret : Option FieldType} {hh : List (Nat × Nat × Nat × Nat)} {Ts ws ws' : List Cond} {rm : Room} (n : Nat) (ht : ∀ w ∈ Ts, w.before args s = true) (hT : GoodIn Ts (va_wsS own index y ws)) (hw : ws = Cond.codeWith y bytes maxL ret hh :: ws') (hrc : rm.cells = mc) (hrs : rm.slots = ms)
    (hd : y.cls ≠ "java/lang/invoke/MethodHandle" ∧ y.cls ≠ "java/lang/invoke/VarHandle" ∧ (parseMethodDescriptor y.desc).map (fun d => d.parameters.length) = some n) (hR : rm.frames + 1 ≤ R.frames ∧ 8 + (maxL + 11) + rm.locals ≤ R.locals) :
    vx_CSW R s args own index y bytes maxL ret hh ws rm mc ms n := by
  have ok : ∀ w ∈ va_wsS own index y ws, w.before args s = true := fun w h => ht w (hT w h).1
  have hG : GoodIn Ts ws := fun w h => hT w (by unfold va_wsS; exact List.mem_append_right _ h)
  have hc : Cond.codeWith y bytes maxL ret hh ∈ ws := by rw [hw]; exact List.mem_cons_self
  refine ⟨⟨hrc, hrs, hR.1, hR.2, pay_in ht hG, hc⟩, ht _ (hG _ hc).1, ok _ (by simp [va_wsS]), ⟨hd.1, hd.2.1⟩, fun sig h => ?_, ok _ (by simp [va_wsS]), ok _ (by simp [va_wsS])⟩
  have h2 := hd.2.2
  rw [h] at h2
  exact (Option.some.inj h2).symm
theorem vx_callSW (X : Stand p l e R s m args below meth c T locs cells slots) (hexec : p.tables.exec = Jvm.exec) {own : String} {index : Nat} {y : MethodName} {bytes : ByteArray} {maxL : Nat} {ret : Option FieldType} {hh : List (Nat × Nat × Nat × Nat)}
    (hown : s.vm.findClass own = some m.cls) (hlink : (Cond.methodLink own index y).before args s = true) (hstat : (Cond.static y).before args s = true) (hinit : (Cond.initialized y.cls).before args s = true)
    (hcode : (Cond.codeWith y bytes maxL ret hh).before args s = true) (hy : y.cls ≠ "java/lang/invoke/MethodHandle" ∧ y.cls ≠ "java/lang/invoke/VarHandle")
    {W9 : Nat} {Pre : Pt → Array Value → Prop} {Post : Pt → Array Value → Option Value → Pt → Prop} (hK : Back l R p e below s args y 3 W9 Pre Post)
    {g : JFrame} (hg : g.method = m) (hsize : g.locals.size = c.maxLocals) {argsL rest : List Value} (hlen : ∀ sig, parseMethodDescriptor y.desc = some sig → argsL.length = sig.parameters.length)
    (hstack : g.stack = argsL.reverse ++ rest) (hW : 2 * g.monitorRoom + (rest.map fun v => v.category).sum ≤ W9) (hdg : decode c.code g.pc = .ok (.invokestatic index, 3))
    (hpre : ∀ vm₁, s.WarmedH vm₁ → Pre ⟨T.setVm vm₁, locs, cells, slots⟩ argsL.toArray) :
    ∃ (v : Option Value) (vm₁ : Vm) (B : Pt), s.WarmedH vm₁ ∧ Stand p l e R s m args below meth c B.U B.locs B.cells B.slots ∧ Post ⟨T.setVm vm₁, locs, cells, slots⟩ argsL.toArray v B ∧
      ∀ target, Steps p.tables e below (B.U.setTop { g with pc := g.pc + 3, stack := v.toList ++ rest }) target → Steps p.tables e below (T.setTop g) target := by
  obtain ⟨mk, methM, cM, hnamed, hmethM, -, -, -, -, -, -, hsigM⟩ := Cond.codeWith_spec hcode
  have hstatic : methM.isStatic = true := Cond.static_spec hnamed hmethM hstat
  obtain ⟨kP, hkP, -⟩ := className_of_methodNamed hnamed
  have hinitP : kP.init = .initialized := Cond.initialized_spec (findClass_of_methodNamed hnamed) hkP hinit
  obtain ⟨vm₁, X₁, hstep₁⟩ := X.invokestatic hexec hown hlink hnamed hmethM hstatic hkP hinitP hy (g := g) hg (argsL := argsL) (rest := rest) (hlen _ hsigM) hstack hdg
  obtain ⟨v, B, X', hpost, hsteps⟩ := hK m meth c ⟨T.setVm vm₁, locs, cells, slots⟩ { g with stack := rest } (.invokestatic index) mk argsL.toArray X₁ hg hsize hdg hW (X₁.named hnamed) (hpre vm₁ X₁.warmed)
  exact ⟨v, vm₁, B, X₁.warmed, X', hpost, fun target h => hstep₁ _ fun acts => by rw [doInvoke_state]; exact hsteps.trans h⟩
theorem vx_runSW {y : MethodName} {bytes cc : ByteArray} {maxL nL mc ms n index : Nat} {ret : Option FieldType} {hh : List (Nat × Nat × Nat × Nat)} {ws : List Cond} {rm : Room} {Pc : Array Value → State → Prop} {Qc : Array Value → State → Outcome → State → Prop} {free : Addr → Prop} {Ts : List Cond} {own : String} {As rest : List Value} {g : JFrame}
    (S : CallFix p m c cc nL s args Ts own) (hM : Met l y ws rm Pc Qc mc ms free) (cw : vx_CSW R s args own index y bytes maxL ret hh ws rm mc ms n) (hp : PreS s H Pc As)
    (hg : g.method = m) (hn : As.length = n) (hsize : g.locals.size = nL) (hstack : g.stack = As.reverse ++ rest) (hW : 2 * g.monitorRoom + (rest.map fun v => v.category).sum ≤ 8) (hdg : decode cc g.pc = .ok (.invokestatic index, 3)) (hf : cells + mc ≤ R.cells ∧ slots + ms ≤ R.slots) :
    va_Run p l e R s m args below meth c H locs cells slots mc ms g rest (Qc As.toArray) (free) := by
  obtain ⟨⟨hrc, hrs, hfr, hlo, hws, hcw⟩, hcode, hini, hy, hlen, hl, hstt⟩ := cw
  have hK : Back l R p e below s args y 3 8 (PreOf R mc ms Pc) (PostOf Qc mc ms free) := va_backW (hh := hh) (bytes := bytes) (maxL := maxL) (ret := ret) hM hp.1 hrc hrs hfr hlo hws hcw (fun a' U hW => word_at hW (Or.inl (by first | rfl | simp [Cond.onTables, Cond.keeps, Cond.steady])) hini)
  obtain ⟨hx, hb, hml, ho, -⟩ := S
  intro T hT X
  obtain ⟨v, vm₁, ⟨U', l2, c2, s2⟩, hW₁, X', ⟨g', mk, t, L, e1, e2, hq, h1, hL, h2, h3⟩, st⟩ := vx_callSW X hx (hh := hh) (bytes := bytes) (maxL := maxL) (ret := ret) ho hl hstt hini hcode hy hK hg (hsize.trans hml.symm) (argsL := As) (rest := rest) (fun sig h => hn.trans (hlen sig h)) hstack hW (by rw [hb]; exact hdg)
    (fun vm₁ hW₁ => ⟨hf.1, hf.2, hp.2 (T.setVm vm₁) hT hW₁⟩)
  dsimp only [Pt.U, Pt.locs, Pt.cells, Pt.slots] at X' e1 e2 h1 h2 h3 st
  subst h1; subst h2; subst h3
  exact ⟨v, (T.setVm vm₁).calling g' mk As.toArray, t, U', L, hT, X', hL, e1, e2, hq, st⟩
/-- not caught here, past rows that name other classes: it goes on to the caller -/
theorem vx_outP {p : Program} {l : Launch} {e : Env} {R : Room} {s : State} {m : MethodId} {args : Array Value} {below : List Frame} {meth : Method} {c : Code} {H : Heap} {locs : List Loc} {cells slots : Nat} {free : Addr → Prop} {ls : Array Slot} {rest : List Value} {Qc : Array Value → State → Outcome → State → Prop} {XC : String → State → State → Prop}
    {pc : Nat} {own E : String} {ce : Cell} {q : Addr} {mc ms : Nat} (hown : s.vm.findClass own = some m.cls) (hlocks : meth.locks = false)
    (hpass : ∀ z ∈ c.exceptionTable.toList, covers z pc = false ∨ (z.catchType ≠ 0 ∧ ∃ nm : String, (Cond.classLink own z.catchType nm).before args s = true ∧ va_Nc E nm s)) (hcell : H[q]? = some ce) (hv : ce.vm = .none) (hcl : s.vm.findClass E = some ce.cls)
    (hx : ∀ t : State, t.heap = H → s.vm.Alike t.vm → XC E s t) (hf : ∀ z ∈ locs, free z.base) (hc : cells ≤ mc) (hs : slots ≤ ms) :
    vx_W p l e R s m args below meth c H locs cells slots (vx_MQ below Qc XC args s mc ms free) (F0 m pc ls rest) q := by
  intro T hT X
  have hpl : e.platform.magicAccessors = ({} : Platform).magicAccessors := by rw [X.admits.platform]
  obtain ⟨vm', hW', X', st⟩ := X.outThrough hlocks q (g := F0 m pc ls rest) rfl rfl rfl (cell := ce) (by rw [hT]; exact hcell) (by rw [hv]; rfl)
    (by obtain ⟨k9, h9, -⟩ := Vm.findClass_spec hcl; exact ⟨k9, h9⟩) (fun z hz => by
      rcases hpass z hz with h | ⟨hz0, nm, hl1, hn1⟩
      · exact Or.inl h
      · obtain ⟨c6, hc6, hcl6⟩ := Cond.classLink_spec hown hl1 e.platform hpl
        obtain ⟨a8, b8, h1, h2, h3⟩ := hn1
        cases Option.some.inj (h1.symm.trans hcl)
        cases Option.some.inj (h2.symm.trans hc6)
        exact Or.inr ⟨hz0, _, hcl6, h3⟩)
  obtain ⟨g₀, hfr⟩ := X'.frames_eq
  have hcell9 : ((T.setVm vm').setFrames (.throwing q :: below)).heap[q]? = some ce := by
    show T.heap[q]? = some ce
    rw [hT]; exact hcell
  have hend : Ended ((T.setVm vm').setFrames (.throwing q :: below)) below (.threw q) := State.frames_setFrames _ (State.cur_lt_of_frames hfr)
  refine ⟨(T.setVm vm').setFrames (.throwing q :: below), ?_, .threw q, X'.here.running, hend, Or.inr ⟨q, rfl, E, ce, locs, hx _ hT (X'.ends _).1.alike, hcell9, hv, hcl, (X'.ends _).1, (X'.ends _).2.mono hc hs, hf⟩⟩
  rw [X.pushThrowing_eq]
  exact st
/-- a thing of a world lies in the heap -/
theorem vx_lt {D : va_G} {cl : List vw_C} {ws : va_W} {H1 : Heap} (h : va_P D cl ws H1) {k : Nat} {q : Nat × va_E} (hk : ws[k]? = some q) : q.1 < H1.size := (h k q hk).lt
end VXS
/-! ===== END ===== -/
/-! ===== BEGIN methods with a table of their own: called by a name, returning or throwing ===== -/
section VXH
/-! vx_backW, vx_callVX, vx_callSX, vx_callVW, vx_runVW, vx_runVX, vx_runSX, vx_ofWH follow the same proofs as their sisters above (Free/Laws.lean, Shelf42/LK1.lean); vx_outP calls Shelf42/NT130.lean (outThrough). -/
section
variable {l : Launch} {R : Room} {p : Program} {e : Env} {below : List Frame} {s : State} {sargs : Array Value} {y : MethodName} {len W9 : Nat}
theorem vx_backW {ws : List Cond} {rm : Room} {Pc : Array Value → State → Prop} {Qc : Array Value → State → Outcome → State → Prop} {XC : String → State → State → Prop} {mc ms : Nat} {free : Addr → Prop} {bytes : ByteArray} {maxL : Nat} {ret : Option FieldType} {hh : List (Nat × Nat × Nat × Nat)}
    (hM : vx_Met l y ws rm Pc Qc XC mc ms free) (hblind : FrameBlind Pc) (hrc : rm.cells = mc) (hrs : rm.slots = ms)
    (hframes : rm.frames + 1 ≤ R.frames) (hlocals : W9 + (maxL + 11) + rm.locals ≤ R.locals)
    (hws : ∀ w ∈ ws, ∀ a' U, s.WarmedH U.vm → w.before a' U = true) (hcode : Cond.codeWith y bytes maxL ret hh ∈ ws) (hinit : ∀ a' U, s.WarmedH U.vm → (Cond.initialized y.cls).before a' U = true) :
    vx_Back l R p e below s sargs y len W9 (PreOf R mc ms Pc) (PostOf Qc mc ms free) (vx_Post XC mc ms free) := by
  intro m meth c A g ig mk a X hg hsize hdg hW hn hp
  have h1 : (headSpec ws rm).pre.before a A.U = true := atoms_intro fun w hw => hws w hw _ _ X.warmed
  have h2 : (Cond.codeWith y bytes maxL ret hh).before a A.U = true := hws _ hcode _ _ X.warmed
  have h3 : (Cond.initialized y.cls).before a A.U = true := hinit _ _ X.warmed
  have h4 : A.cells + (headSpec ws rm).room.cells ≤ R.cells := by rw [show (headSpec ws rm).room.cells = mc from hrc]; exact hp.1
  have h5 : A.slots + (headSpec ws rm).room.slots ≤ R.slots := by rw [show (headSpec ws rm).room.slots = ms from hrs]; exact hp.2.1
  have hPc : Pc a (A.U.calling g mk a) := hblind _ _ _ _ hp.2.2
  obtain ⟨U, Ls, c0, s0⟩ := A
  dsimp only [Pt.U, Pt.locs, Pt.cells, Pt.slots] at h1 h2 h3 h4 h5 X hn hPc ⊢
  obtain ⟨m9, methY, cY, hn9, hmY, hcY, -, hlY, -⟩ := Cond.codeWith_spec h2
  cases Option.some.inj (hn9.symm.trans hn)
  obtain ⟨kY, hkY, -⟩ := className_of_methodNamed hn
  have hinitY : kY.init = .initialized := Cond.initialized_spec (findClass_of_methodNamed hn) hkY h3
  have h : At U g.method c below := by rw [hg]; exact X.here
  have hlocals9 : W9 + (maxL + 11) + (headSpec ws rm).room.locals ≤ R.locals := hlocals
  have happ : (headSpec ws rm).appliesLoose y e.platform (U.calling g mk a) = true :=
    Spec.appliesLoose_calling (g := g) h hdg hn hkY hinitY
      (X.room_calling (g := g) (R' := (headSpec ws rm).room) hsize hmY hcY hframes (by rw [hlY]; omega) h4 h5) h1
  obtain ⟨mid, hmid⟩ := h.above
  have hfr : (U.setTop g).frames = (.java g :: mid) ++ below := by rw [State.frames_setTop' g h.top, hmid]; rfl
  obtain ⟨o, s₂, hsteps, -, hend, hq⟩ := Steps.callFree hM p X.admits X.cas X.clock (acts := []) hfr happ hPc trivial
  have hq' : vx_Q Qc XC mc ms free a (U.calling g mk a) o s₂ := hq
  rw [State.frames_setTop' g h.top] at hend
  obtain ⟨g₀, hg0⟩ := Option.isSome_iff_exists.mp h.top
  obtain ⟨r, hr⟩ := State.topJava?_eq_some.mp hg0
  have hr' : (({ U with heap := s₂.heap, slotsUsed := s₂.slotsUsed } : State).setVm s₂.vm).frames = .java g₀ :: r := hr
  rcases hq' with ⟨hqc, L, hfe, hL⟩ | ⟨q, rfl, E, ce, L, hx, hce, hcv, hcl, hW₂, hsm, hL⟩
  · obtain ⟨⟨v, rfl⟩, hW₂, e2, q2, q3, q4, q5, q6⟩ := id hfe
    have e3 : s₂ = ({ (U.calling g mk a).setFrames s₂.frames with heap := s₂.heap, slotsUsed := s₂.slotsUsed } : State).setVm s₂.vm := by
      have : s₂ = ({ s₂ with vm := (U.calling g mk a).vm } : State).setVm s₂.vm := rfl
      rw [e2] at this
      exact this
    obtain ⟨c₂, i₂, len₂, hc₂, hd₂, hf₂⟩ := hend
    have hW' : U.WarmedH s₂.vm := hW₂
    have hcc : c₂ = c := by
      have h1 : s₂.code? g.method = U.code? g.method := by
        rw [State.code?_eq, State.code?_eq, hW'.alike.method?]
      exact Option.some.inj (hc₂.symm.trans (h1.trans h.code))
    subst hcc
    have hlen : len₂ = len := by rw [hdg] at hd₂; cases hd₂; rfl
    subst hlen
    have hs₂ : s₂ = (({ U with heap := s₂.heap, slotsUsed := s₂.slotsUsed } : State).setVm s₂.vm).setTop { g with pc := g.pc + len₂, stack := v.toList ++ g.stack } := by
      refine e3.trans ?_
      rw [hf₂, State.calling_eq h.top, State.setFrames_setFrames, State.setTop_of_frames _ hr', hr]
      rfl
    have hsame : U.sameButNew ({ U with heap := s₂.heap, slotsUsed := s₂.slotsUsed } : State) L mc ms := by
      refine ⟨?_, q2, q3, q4, q5, q6⟩
      obtain ⟨t, ht, -⟩ := State.frames_cons hr
      show ({ U with heap := s₂.heap, slotsUsed := s₂.slotsUsed } : State) = { U.setFrames U.frames with heap := s₂.heap, slotsUsed := s₂.slotsUsed }
      rw [State.setFrames_self ht]
    subst hg
    refine Or.inl ⟨v, ⟨(({ U with heap := s₂.heap, slotsUsed := s₂.slotsUsed } : State).setVm s₂.vm), Ls ++ L, c0 + mc, s0 + ms⟩,
      ⟨X.admits, X.cas, X.clock, X.frames, X.room, X.hears, X.method, X.code, (X.here.setHeapUsed s₂.heap s₂.slotsUsed).setVm hW'.alike, X.tail, State.WarmedH.trans X.warmed hW', X.limits, X.bytes, X.same.trans (hsame.setVm s.vm)⟩,
      ⟨g, mk, s₂, L, rfl, rfl, hqc, rfl, hL, rfl, rfl⟩, ?_⟩
    show Steps p.tables e below _ ((({ U with heap := s₂.heap, slotsUsed := s₂.slotsUsed } : State).setVm s₂.vm).setTop { g with pc := g.pc + len₂, stack := v.toList ++ g.stack })
    rw [← hs₂]
    exact hsteps
  · obtain ⟨e2, q2, q3, q4, q5, q6⟩ := id hsm
    have e3 : s₂ = ({ (U.calling g mk a).setFrames s₂.frames with heap := s₂.heap, slotsUsed := s₂.slotsUsed } : State).setVm s₂.vm := by
      have : s₂ = ({ s₂ with vm := (U.calling g mk a).vm } : State).setVm s₂.vm := rfl
      rw [e2] at this
      exact this
    have hf₂ : s₂.frames = .throwing q :: .java g :: U.frames.tail := hend
    have hW' : U.WarmedH s₂.vm := hW₂
    have hs₂ : s₂ = ((({ U with heap := s₂.heap, slotsUsed := s₂.slotsUsed } : State).setVm s₂.vm).setTop g).pushFrame (.throwing q) := by
      refine e3.trans ?_
      rw [hf₂, State.calling_eq h.top, State.setFrames_setFrames, State.pushFrame, State.frames_setTop _ hr', State.setTop_of_frames _ hr', State.setFrames_setFrames, hr]
      rfl
    have hsame : U.sameButNew ({ U with heap := s₂.heap, slotsUsed := s₂.slotsUsed } : State) L mc ms := by
      refine ⟨?_, q2, q3, q4, q5, q6⟩
      obtain ⟨t, ht, -⟩ := State.frames_cons hr
      show ({ U with heap := s₂.heap, slotsUsed := s₂.slotsUsed } : State) = { U.setFrames U.frames with heap := s₂.heap, slotsUsed := s₂.slotsUsed }
      rw [State.setFrames_self ht]
    subst hg
    refine Or.inr ⟨q, ⟨(({ U with heap := s₂.heap, slotsUsed := s₂.slotsUsed } : State).setVm s₂.vm), Ls ++ L, c0 + mc, s0 + ms⟩,
      ⟨X.admits, X.cas, X.clock, X.frames, X.room, X.hears, X.method, X.code, (X.here.setHeapUsed s₂.heap s₂.slotsUsed).setVm hW'.alike, X.tail, State.WarmedH.trans X.warmed hW', X.limits, X.bytes, X.same.trans (hsame.setVm s.vm)⟩,
      ⟨g, mk, s₂, L, E, ce, rfl, rfl, hx, hce, hcv, hcl, rfl, hL, rfl, rfl⟩, ?_⟩
    show Steps p.tables e below _ (((({ U with heap := s₂.heap, slotsUsed := s₂.slotsUsed } : State).setVm s₂.vm).setTop g).pushFrame (.throwing q))
    rw [← hs₂]
    exact hsteps
end
variable {p : Program} {l : Launch} {e : Env} {R : Room} {s : State} {m : MethodId} {args : Array Value} {below : List Frame} {meth : Method} {c : Code} {T : State} {H : Heap} {locs : List Loc} {cells slots : Nat}
theorem vx_callVX (X : Stand p l e R s m args below meth c T locs cells slots) (hexec : p.tables.exec = Jvm.exec) {own C : String} {index : Nat} {y : MethodName} {bytes : ByteArray} {maxL : Nat} {ret : Option FieldType} {hh : List (Nat × Nat × Nat × Nat)}
    (hown : s.vm.findClass own = some m.cls) (hlink : (Cond.methodLink own index y).before args s = true) (hinst : (Cond.instanceMethod y).before args s = true) (hsel : (Cond.selects C y y).before args s = true)
    (hcode : (Cond.codeWith y bytes maxL ret hh).before args s = true) (hy : y.cls ≠ "java/lang/invoke/MethodHandle" ∧ y.cls ≠ "java/lang/invoke/VarHandle")
    {W9 : Nat} {Pre : Pt → Array Value → Prop} {Post : Pt → Array Value → Option Value → Pt → Prop} {PostX : Pt → Array Value → Addr → Pt → Prop} (hK : vx_Back l R p e below s args y 3 W9 Pre Post PostX)
    {b : Addr} {cellB : Cell} (hcell : T.heap[b]? = some cellB) (hobj : cellB.vm.isStatics = false) (hcls : s.vm.findClass C = some cellB.cls)
    {g : JFrame} (hg : g.method = m) (hsize : g.locals.size = c.maxLocals) {argsL rest : List Value} (hlen : ∀ sig, parseMethodDescriptor y.desc = some sig → argsL.length = sig.parameters.length)
    (hstack : g.stack = argsL.reverse ++ .ref b :: rest) (hW : 2 * g.monitorRoom + (rest.map fun v => v.category).sum ≤ W9) (hdg : decode c.code g.pc = .ok (.invokevirtual index, 3))
    (hpre : ∀ vm₁, s.WarmedH vm₁ → Pre ⟨T.setVm vm₁, locs, cells, slots⟩ (Value.ref b :: argsL).toArray) :
    (∃ (v : Option Value) (vm₁ : Vm) (B : Pt), s.WarmedH vm₁ ∧ Stand p l e R s m args below meth c B.U B.locs B.cells B.slots ∧ Post ⟨T.setVm vm₁, locs, cells, slots⟩ (Value.ref b :: argsL).toArray v B ∧
      ∀ target, Steps p.tables e below (B.U.setTop { g with pc := g.pc + 3, stack := v.toList ++ rest }) target → Steps p.tables e below (T.setTop g) target) ∨
    (∃ (q : Addr) (vm₁ : Vm) (B : Pt), s.WarmedH vm₁ ∧ Stand p l e R s m args below meth c B.U B.locs B.cells B.slots ∧ PostX ⟨T.setVm vm₁, locs, cells, slots⟩ (Value.ref b :: argsL).toArray q B ∧
      Steps p.tables e below (T.setTop g) ((B.U.setTop { g with stack := rest }).pushFrame (.throwing q))) := by
  obtain ⟨mk, methM, hnamed, hmethM, hstM, habM⟩ := Cond.instanceMethod_spec hinst
  obtain ⟨m8, methM', cM, hn8, hmethM', -, -, -, -, -, -, hsigM⟩ := Cond.codeWith_spec hcode
  cases Option.some.inj (hn8.symm.trans hnamed)
  cases hmethM.symm.trans hmethM'
  obtain ⟨c2, r2, m2, q1, q2, q3, q4, kP, hkP, hkPi⟩ := Cond.selects_spec hsel
  cases hcls.symm.trans q1
  cases (State.methodFound?_of_named hnamed hy).symm.trans q2
  cases hnamed.symm.trans q3
  have hselP : selectMethod e.platform s.vm cellB.cls mk = .method mk := by rw [Launch.admits_selectMethod X.admits]; exact q4
  obtain ⟨vm₁, X₁, hstep₁⟩ := X.invokevirtual hexec hown hlink hnamed hmethM hstM hkP hkPi hy (a := b) (cell := cellB) hcell
    (fun z h => by rw [h] at hobj; cases hobj) hselP hmethM habM hkP hkPi (g := g) hg (argsL := argsL) (rest := rest) (hlen _ hsigM) hstack hdg
  rcases hK m meth c ⟨T.setVm vm₁, locs, cells, slots⟩ { g with stack := rest } (.invokevirtual index) mk (Value.ref b :: argsL).toArray X₁ hg hsize hdg hW (X₁.named hnamed) (hpre vm₁ X₁.warmed) with ⟨v, B, X', hpost, hsteps⟩ | ⟨q, B, X', hpost, hsteps⟩
  · exact Or.inl ⟨v, vm₁, B, X₁.warmed, X', hpost, fun target h => hstep₁ _ fun acts => by rw [doInvoke_state]; exact hsteps.trans h⟩
  · exact Or.inr ⟨q, vm₁, B, X₁.warmed, X', hpost, hstep₁ _ fun acts => by rw [doInvoke_state]; exact hsteps⟩
theorem vx_callSX (X : Stand p l e R s m args below meth c T locs cells slots) (hexec : p.tables.exec = Jvm.exec) {own : String} {index : Nat} {y : MethodName} {bytes : ByteArray} {maxL : Nat} {ret : Option FieldType} {hh : List (Nat × Nat × Nat × Nat)}
    (hown : s.vm.findClass own = some m.cls) (hlink : (Cond.methodLink own index y).before args s = true) (hstat : (Cond.static y).before args s = true) (hinit : (Cond.initialized y.cls).before args s = true)
    (hcode : (Cond.codeWith y bytes maxL ret hh).before args s = true) (hy : y.cls ≠ "java/lang/invoke/MethodHandle" ∧ y.cls ≠ "java/lang/invoke/VarHandle")
    {W9 : Nat} {Pre : Pt → Array Value → Prop} {Post : Pt → Array Value → Option Value → Pt → Prop} {PostX : Pt → Array Value → Addr → Pt → Prop} (hK : vx_Back l R p e below s args y 3 W9 Pre Post PostX)
    {g : JFrame} (hg : g.method = m) (hsize : g.locals.size = c.maxLocals) {argsL rest : List Value} (hlen : ∀ sig, parseMethodDescriptor y.desc = some sig → argsL.length = sig.parameters.length)
    (hstack : g.stack = argsL.reverse ++ rest) (hW : 2 * g.monitorRoom + (rest.map fun v => v.category).sum ≤ W9) (hdg : decode c.code g.pc = .ok (.invokestatic index, 3))
    (hpre : ∀ vm₁, s.WarmedH vm₁ → Pre ⟨T.setVm vm₁, locs, cells, slots⟩ argsL.toArray) :
    (∃ (v : Option Value) (vm₁ : Vm) (B : Pt), s.WarmedH vm₁ ∧ Stand p l e R s m args below meth c B.U B.locs B.cells B.slots ∧ Post ⟨T.setVm vm₁, locs, cells, slots⟩ argsL.toArray v B ∧
      ∀ target, Steps p.tables e below (B.U.setTop { g with pc := g.pc + 3, stack := v.toList ++ rest }) target → Steps p.tables e below (T.setTop g) target) ∨
    (∃ (q : Addr) (vm₁ : Vm) (B : Pt), s.WarmedH vm₁ ∧ Stand p l e R s m args below meth c B.U B.locs B.cells B.slots ∧ PostX ⟨T.setVm vm₁, locs, cells, slots⟩ argsL.toArray q B ∧
      Steps p.tables e below (T.setTop g) ((B.U.setTop { g with stack := rest }).pushFrame (.throwing q))) := by
  obtain ⟨mk, methM, cM, hnamed, hmethM, -, -, -, -, -, -, hsigM⟩ := Cond.codeWith_spec hcode
  have hstatic : methM.isStatic = true := Cond.static_spec hnamed hmethM hstat
  obtain ⟨kP, hkP, -⟩ := className_of_methodNamed hnamed
  have hinitP : kP.init = .initialized := Cond.initialized_spec (findClass_of_methodNamed hnamed) hkP hinit
  obtain ⟨vm₁, X₁, hstep₁⟩ := X.invokestatic hexec hown hlink hnamed hmethM hstatic hkP hinitP hy (g := g) hg (argsL := argsL) (rest := rest) (hlen _ hsigM) hstack hdg
  rcases hK m meth c ⟨T.setVm vm₁, locs, cells, slots⟩ { g with stack := rest } (.invokestatic index) mk argsL.toArray X₁ hg hsize hdg hW (X₁.named hnamed) (hpre vm₁ X₁.warmed) with ⟨v, B, X', hpost, hsteps⟩ | ⟨q, B, X', hpost, hsteps⟩
  · exact Or.inl ⟨v, vm₁, B, X₁.warmed, X', hpost, fun target h => hstep₁ _ fun acts => by rw [doInvoke_state]; exact hsteps.trans h⟩
  · exact Or.inr ⟨q, vm₁, B, X₁.warmed, X', hpost, hstep₁ _ fun acts => by rw [doInvoke_state]; exact hsteps⟩
theorem vx_callVW (X : Stand p l e R s m args below meth c T locs cells slots) (hexec : p.tables.exec = Jvm.exec) {own C : String} {index : Nat} {y : MethodName} {bytes : ByteArray} {maxL : Nat} {ret : Option FieldType} {hh : List (Nat × Nat × Nat × Nat)}
    (hown : s.vm.findClass own = some m.cls) (hlink : (Cond.methodLink own index y).before args s = true) (hinst : (Cond.instanceMethod y).before args s = true) (hsel : (Cond.selects C y y).before args s = true)
    (hcode : (Cond.codeWith y bytes maxL ret hh).before args s = true) (hy : y.cls ≠ "java/lang/invoke/MethodHandle" ∧ y.cls ≠ "java/lang/invoke/VarHandle")
    {W9 : Nat} {Pre : Pt → Array Value → Prop} {Post : Pt → Array Value → Option Value → Pt → Prop} (hK : Back l R p e below s args y 3 W9 Pre Post)
    {b : Addr} {cellB : Cell} (hcell : T.heap[b]? = some cellB) (hobj : cellB.vm.isStatics = false) (hcls : s.vm.findClass C = some cellB.cls)
    {g : JFrame} (hg : g.method = m) (hsize : g.locals.size = c.maxLocals) {argsL rest : List Value} (hlen : ∀ sig, parseMethodDescriptor y.desc = some sig → argsL.length = sig.parameters.length)
    (hstack : g.stack = argsL.reverse ++ .ref b :: rest) (hW : 2 * g.monitorRoom + (rest.map fun v => v.category).sum ≤ W9) (hdg : decode c.code g.pc = .ok (.invokevirtual index, 3))
    (hpre : ∀ vm₁, s.WarmedH vm₁ → Pre ⟨T.setVm vm₁, locs, cells, slots⟩ (Value.ref b :: argsL).toArray) :
    ∃ (v : Option Value) (vm₁ : Vm) (B : Pt), s.WarmedH vm₁ ∧ Stand p l e R s m args below meth c B.U B.locs B.cells B.slots ∧ Post ⟨T.setVm vm₁, locs, cells, slots⟩ (Value.ref b :: argsL).toArray v B ∧
      ∀ target, Steps p.tables e below (B.U.setTop { g with pc := g.pc + 3, stack := v.toList ++ rest }) target → Steps p.tables e below (T.setTop g) target := by
  obtain ⟨mk, methM, hnamed, hmethM, hstM, habM⟩ := Cond.instanceMethod_spec hinst
  obtain ⟨m8, methM', cM, hn8, hmethM', -, -, -, -, -, -, hsigM⟩ := Cond.codeWith_spec hcode
  cases Option.some.inj (hn8.symm.trans hnamed)
  cases hmethM.symm.trans hmethM'
  obtain ⟨c2, r2, m2, q1, q2, q3, q4, kP, hkP, hkPi⟩ := Cond.selects_spec hsel
  cases hcls.symm.trans q1
  cases (State.methodFound?_of_named hnamed hy).symm.trans q2
  cases hnamed.symm.trans q3
  have hselP : selectMethod e.platform s.vm cellB.cls mk = .method mk := by rw [Launch.admits_selectMethod X.admits]; exact q4
  obtain ⟨vm₁, X₁, hstep₁⟩ := X.invokevirtual hexec hown hlink hnamed hmethM hstM hkP hkPi hy (a := b) (cell := cellB) hcell
    (fun z h => by rw [h] at hobj; cases hobj) hselP hmethM habM hkP hkPi (g := g) hg (argsL := argsL) (rest := rest) (hlen _ hsigM) hstack hdg
  obtain ⟨v, B, X', hpost, hsteps⟩ := hK m meth c ⟨T.setVm vm₁, locs, cells, slots⟩ { g with stack := rest } (.invokevirtual index) mk (Value.ref b :: argsL).toArray X₁ hg hsize hdg hW (X₁.named hnamed) (hpre vm₁ X₁.warmed)
  exact ⟨v, vm₁, B, X₁.warmed, X', hpost, fun target h => hstep₁ _ fun acts => by rw [doInvoke_state]; exact hsteps.trans h⟩
abbrev vx_CVW (R : Room) (s : State) (args : Array Value) (own C : String) (index : Nat) (y : MethodName) (bytes : ByteArray) (maxL : Nat) (ret : Option FieldType) (hh : List (Nat × Nat × Nat × Nat)) (ws : List Cond) (rm : Room) (mc ms n : Nat) : Prop :=
  (rm.cells = mc ∧ rm.slots = ms ∧ rm.frames + 1 ≤ R.frames ∧ 8 + (maxL + 11) + rm.locals ≤ R.locals ∧ (∀ w ∈ ws, ∀ (a' : Array Value) (U : State), s.WarmedH U.vm → w.before a' U = true) ∧ Cond.codeWith y bytes maxL ret hh ∈ ws) ∧
  (Cond.codeWith y bytes maxL ret hh).before args s = true ∧ (Cond.initialized y.cls).before args s = true ∧ (y.cls ≠ "java/lang/invoke/MethodHandle" ∧ y.cls ≠ "java/lang/invoke/VarHandle") ∧
  (∀ sig, parseMethodDescriptor y.desc = some sig → n = sig.parameters.length) ∧ (Cond.methodLink own index y).before args s = true ∧ (Cond.instanceMethod y).before args s = true ∧ (Cond.selects C y y).before args s = true
theorem vx_cwVW {own C : String} {index maxL mc ms : Nat} {y : MethodName} {bytes : ByteArray} {ret : Option FieldType} {hh : List (Nat × Nat × Nat × Nat)} {Ts ws ws' : List Cond} {rm : Room} (n : Nat) (ht : ∀ w ∈ Ts, w.before args s = true) (hT : GoodIn Ts (wsV own index C y ws)) (hw : ws = Cond.codeWith y bytes maxL ret hh :: ws') (hrc : rm.cells = mc) (hrs : rm.slots = ms)
    (hd : y.cls = C ∧ y.cls ≠ "java/lang/invoke/MethodHandle" ∧ y.cls ≠ "java/lang/invoke/VarHandle" ∧ (parseMethodDescriptor y.desc).map (fun d => d.parameters.length) = some n) (hR : rm.frames + 1 ≤ R.frames ∧ 8 + (maxL + 11) + rm.locals ≤ R.locals) :
    vx_CVW R s args own C index y bytes maxL ret hh ws rm mc ms n := by
  obtain ⟨hC, hd⟩ := hd
  subst hC
  have ok : ∀ w ∈ wsV own index y.cls y ws, w.before args s = true := fun w h => ht w (hT w h).1
  have hG : GoodIn Ts ws := fun w h => hT w (by unfold wsV; exact List.mem_append_right _ h)
  have hc : Cond.codeWith y bytes maxL ret hh ∈ ws := by rw [hw]; exact List.mem_cons_self
  refine ⟨⟨hrc, hrs, hR.1, hR.2, pay_in ht hG, hc⟩, ht _ (hG _ hc).1, ok _ (by simp [wsV]), ⟨hd.1, hd.2.1⟩, fun sig h => ?_, ok _ (by simp [wsV]), ok _ (by simp [wsV]), ok _ (by simp [wsV])⟩
  have h2 := hd.2.2
  rw [h] at h2
  exact (Option.some.inj h2).symm
theorem vx_runVW {y : MethodName} {bytes cc : ByteArray} {maxL nL mc ms n index : Nat} {ret : Option FieldType} {hh : List (Nat × Nat × Nat × Nat)} {ws : List Cond} {rm : Room} {Pc : Array Value → State → Prop} {Qc : Array Value → State → Outcome → State → Prop} {free : Addr → Prop} {Ts : List Cond} {own C : String} {b : Addr} {As rest : List Value} {g : JFrame}
    (S : CallFix p m c cc nL s args Ts own) (hM : Met l y ws rm Pc Qc mc ms free) (cw : vx_CVW R s args own C index y bytes maxL ret hh ws rm mc ms n) (hp : PreV s H C b Pc As)
    (hg : g.method = m) (hn : As.length = n) (hsize : g.locals.size = nL) (hstack : g.stack = As.reverse ++ .ref b :: rest) (hW : 2 * g.monitorRoom + (rest.map fun v => v.category).sum ≤ 8) (hdg : decode cc g.pc = .ok (.invokevirtual index, 3)) (hf : cells + mc ≤ R.cells ∧ slots + ms ≤ R.slots) :
    va_Run p l e R s m args below meth c H locs cells slots mc ms g rest (Qc (Value.ref b :: As).toArray) free := by
  obtain ⟨⟨hrc, hrs, hfr, hlo, hws, hcw⟩, hcode, hini, hy, hlen, hl, hin, hse⟩ := cw
  have hK : Back l R p e below s args y 3 8 (PreOf R mc ms Pc) (PostOf Qc mc ms free) := va_backW (hh := hh) (bytes := bytes) (maxL := maxL) (ret := ret) hM hp.1 hrc hrs hfr hlo hws hcw (fun a' U hW => word_at hW (Or.inl (by first | rfl | simp [Cond.onTables, Cond.keeps, Cond.steady])) hini)
  obtain ⟨hx, hb, hml, ho, -⟩ := S
  obtain ⟨-, ⟨cellB, hcB, hoB, hclB⟩, hPc⟩ := hp
  intro T hT X
  obtain ⟨v, vm₁, ⟨U', l2, c2, s2⟩, hW₁, X', ⟨g', mk, t, L, e1, e2, hq, h1, hL, h2, h3⟩, st⟩ := vx_callVW X hx (C := C) (hh := hh) (bytes := bytes) (maxL := maxL) (ret := ret) ho hl hin hse hcode hy hK (by rw [hT]; exact hcB) hoB hclB hg (hsize.trans hml.symm) (argsL := As) (rest := rest) (fun sig h => hn.trans (hlen sig h)) hstack hW (by rw [hb]; exact hdg)
    (fun vm₁ hW₁ => ⟨hf.1, hf.2, hPc (T.setVm vm₁) hT hW₁⟩)
  dsimp only [Pt.U, Pt.locs, Pt.cells, Pt.slots] at X' e1 e2 h1 h2 h3 st
  subst h1; subst h2; subst h3
  exact ⟨v, (T.setVm vm₁).calling g' mk (Value.ref b :: As).toArray, t, U', L, hT, X', hL, e1, e2, hq, st⟩
section
variable {y : MethodName} {bytes cc : ByteArray} {maxL nL mc ms n index : Nat} {ret : Option FieldType} {ws : List Cond} {rm : Room} {Pc : Array Value → State → Prop} {Qc : Array Value → State → Outcome → State → Prop} {XC : String → State → State → Prop} {free : Addr → Prop} {Ts : List Cond} {own C : String} {b : Addr} {As rest : List Value} {g : JFrame}
theorem vx_runVX {hh : List (Nat × Nat × Nat × Nat)} (S : CallFix p m c cc nL s args Ts own) (hM : vx_Met l y ws rm Pc Qc XC mc ms free) (cw : vx_CVW R s args own C index y bytes maxL ret hh ws rm mc ms n) (hp : PreV s H C b Pc As)
    (hg : g.method = m) (hn : As.length = n) (hsize : g.locals.size = nL) (hstack : g.stack = As.reverse ++ .ref b :: rest) (hW : 2 * g.monitorRoom + (rest.map fun v => v.category).sum ≤ 8) (hdg : decode cc g.pc = .ok (.invokevirtual index, 3)) (hf : cells + mc ≤ R.cells ∧ slots + ms ≤ R.slots) :
    vx_Run p l e R s m args below meth c H locs cells slots mc ms g rest (Qc (Value.ref b :: As).toArray) XC free := by
  obtain ⟨⟨hrc, hrs, hfr, hlo, hws, hcw⟩, hcode, hini, hy, hlen, hl, hin, hse⟩ := cw
  have hK : vx_Back l R p e below s args y 3 8 (PreOf R mc ms Pc) (PostOf Qc mc ms free) (vx_Post XC mc ms free) := vx_backW (hh := hh) (bytes := bytes) (maxL := maxL) (ret := ret) hM hp.1 hrc hrs hfr hlo hws hcw (fun a' U hW => word_at hW (Or.inl (by first | rfl | simp [Cond.onTables, Cond.keeps, Cond.steady])) hini)
  obtain ⟨hx, hb, hml, ho, -⟩ := S
  obtain ⟨-, ⟨cellB, hcB, hoB, hclB⟩, hPc⟩ := hp
  intro T hT X
  rcases vx_callVX X hx (C := C) (hh := hh) (bytes := bytes) (maxL := maxL) (ret := ret) ho hl hin hse hcode hy hK (by rw [hT]; exact hcB) hoB hclB hg (hsize.trans hml.symm) (argsL := As) (rest := rest) (fun sig h => hn.trans (hlen sig h)) hstack hW (by rw [hb]; exact hdg)
    (fun vm₁ hW₁ => ⟨hf.1, hf.2, hPc (T.setVm vm₁) hT hW₁⟩) with ⟨v, vm₁, ⟨U', l2, c2, s2⟩, hW₁, X', ⟨g', mk, t, L, e1, e2, hq, h1, hL, h2, h3⟩, st⟩ | ⟨q, vm₁, ⟨U', l2, c2, s2⟩, hW₁, X', ⟨g', mk, t, L, E, ce, e1, e2, hq, hce, hcv, hcl, h1, hL, h2, h3⟩, st⟩
  · dsimp only [Pt.U, Pt.locs, Pt.cells, Pt.slots] at X' e1 e2 h1 h2 h3 st
    subst h1; subst h2; subst h3
    exact Or.inl ⟨v, (T.setVm vm₁).calling g' mk (Value.ref b :: As).toArray, t, U', L, hT, X', hL, e1, e2, hq, st⟩
  · dsimp only [Pt.U, Pt.locs, Pt.cells, Pt.slots] at X' e1 e2 h1 h2 h3 st hcl
    subst h1; subst h2; subst h3
    exact Or.inr ⟨q, (T.setVm vm₁).calling g' mk (Value.ref b :: As).toArray, t, U', L, E, ce, hT, X', hL, e1, e2, hq, hce, hcv, vx_cls hW₁ hcl, st⟩
theorem vx_runSX {hh : List (Nat × Nat × Nat × Nat)} (S : CallFix p m c cc nL s args Ts own) (hM : vx_Met l y ws rm Pc Qc XC mc ms free) (cw : vx_CSW R s args own index y bytes maxL ret hh ws rm mc ms n) (hp : PreS s H Pc As)
    (hg : g.method = m) (hn : As.length = n) (hsize : g.locals.size = nL) (hstack : g.stack = As.reverse ++ rest) (hW : 2 * g.monitorRoom + (rest.map fun v => v.category).sum ≤ 8) (hdg : decode cc g.pc = .ok (.invokestatic index, 3)) (hf : cells + mc ≤ R.cells ∧ slots + ms ≤ R.slots) :
    vx_Run p l e R s m args below meth c H locs cells slots mc ms g rest (Qc As.toArray) XC free := by
  obtain ⟨⟨hrc, hrs, hfr, hlo, hws, hcw⟩, hcode, hini, hy, hlen, hl, hstt⟩ := cw
  have hK : vx_Back l R p e below s args y 3 8 (PreOf R mc ms Pc) (PostOf Qc mc ms free) (vx_Post XC mc ms free) := vx_backW (hh := hh) (bytes := bytes) (maxL := maxL) (ret := ret) hM hp.1 hrc hrs hfr hlo hws hcw (fun a' U hW => word_at hW (Or.inl (by first | rfl | simp [Cond.onTables, Cond.keeps, Cond.steady])) hini)
  obtain ⟨hx, hb, hml, ho, -⟩ := S
  intro T hT X
  rcases vx_callSX X hx (hh := hh) (bytes := bytes) (maxL := maxL) (ret := ret) ho hl hstt hini hcode hy hK hg (hsize.trans hml.symm) (argsL := As) (rest := rest) (fun sig h => hn.trans (hlen sig h)) hstack hW (by rw [hb]; exact hdg)
    (fun vm₁ hW₁ => ⟨hf.1, hf.2, hp.2 (T.setVm vm₁) hT hW₁⟩) with ⟨v, vm₁, ⟨U', l2, c2, s2⟩, hW₁, X', ⟨g', mk, t, L, e1, e2, hq, h1, hL, h2, h3⟩, st⟩ | ⟨q, vm₁, ⟨U', l2, c2, s2⟩, hW₁, X', ⟨g', mk, t, L, E, ce, e1, e2, hq, hce, hcv, hcl, h1, hL, h2, h3⟩, st⟩
  · dsimp only [Pt.U, Pt.locs, Pt.cells, Pt.slots] at X' e1 e2 h1 h2 h3 st
    subst h1; subst h2; subst h3
    exact Or.inl ⟨v, (T.setVm vm₁).calling g' mk As.toArray, t, U', L, hT, X', hL, e1, e2, hq, st⟩
  · dsimp only [Pt.U, Pt.locs, Pt.cells, Pt.slots] at X' e1 e2 h1 h2 h3 st hcl
    subst h1; subst h2; subst h3
    exact Or.inr ⟨q, (T.setVm vm₁).calling g' mk As.toArray, t, U', L, E, ce, hT, X', hL, e1, e2, hq, hce, hcv, vx_cls hW₁ hcl, st⟩
end
end VXH
theorem vx_ofWH {l : Launch} {y : MethodName} {ws ws' : List Cond} {rm : Room} {Pc : Array Value → State → Prop} {Qc : Array Value → State → Outcome → State → Prop} {XC : String → State → State → Prop} {mc ms : Nat} {free : Addr → Prop} {cc : ByteArray} {maxL : Nat} {ret : Option FieldType} {hh : List (Nat × Nat × Nat × Nat)}
    (hy : plainName y.cls = true) (hw : ws = Cond.codeWith y cc maxL ret hh :: ws')
    (body : ∀ p e s m args below meth c s₁, BodyLoose p l y (headSpec ws rm) cc maxL ret e s m args below meth c s₁ → c.maxLocals = maxL → Pc args s →
      W p l e (headSpec ws rm).room s m args below meth c s.heap [] 0 0 (vx_MQ below Qc XC args s mc ms free) (entryFrame m args maxL)) : vx_Met l y ws rm Pc Qc XC mc ms free := by
  refine MetFree.of_bodyS (code := cc) (maxLocals := maxL) (ret := ret) hy ?_ ?_
  · intro args s m h hn
    obtain ⟨m9, meth, c, hn9, h1, h2, h3, h4, -, h5, h6, -⟩ := Cond.codeWith_spec (atoms_spec (ws := ws) h _ (by rw [hw]; exact List.mem_cons_self))
    cases hn.symm.trans hn9
    exact ⟨meth, c, h1, h2, h3, h4, h5, h6⟩
  · intro p e s m args below meth c s₁ B hml hP _
    have hh0 : s₁.heap = s.heap := by rw [B.state]; rfl
    obtain ⟨t, a1, o, b1, b2, b3⟩ := body p e s m args below meth c s₁ B hml hP s₁ hh0 (Stand.of_body B)
    exact ⟨t, o, a1, b1, b2, b3⟩
/-! ===== END ===== -/
end
section
/-! A small machine: frames of methods over a world of numbered cells; its steps, its runs, and what must hold so that a run comes to an end with Q. -/
/-- a value: a machine's value whose references are numbers of cells; or a thing of the pool: what (0 the object, 1 and 2 its rows) and which -/
abbrev fm_V : Type := Value ⊕ (Nat × Nat)
/-- a cell's shape: kind, length, references -/
abbrev fm_Sc : Type := Nat × Nat × List (Option Nat)
/-- what the cells hold: ints, longs, doubles by cell and place; how many cells were thrown away -/
abbrev fm_N : Type := (Nat → Nat → Int32) × (Nat → Nat → Int64) × (Nat → Nat → UInt64) × Nat
/-- the memory: what the cells hold, and their shapes -/
abbrev fm_M : Type := fm_N × List fm_Sc
/-- a constant -/
def fm_k (n : Int) : Int32 := match n with
  | .ofNat k => nI k
  | .negSucc k => Int32.ofInt (.negSucc k)
/-- a frame: place, locals, stack, memory -/
abbrev fm_F : Type := Nat × List (Option fm_V) × List fm_V × fm_M
/-- an end: returned, or threw an exception of that number -/
abbrev fm_O : Type := Option fm_V ⊕ Nat
/-- a row of code: place, instruction, length, remarks -/
abbrev fm_En : Type := Nat × Instr × Nat × List Nat
/-- a row of a table of handlers: from, to, handler, its class by number, where it goes on, the local that is lost -/
abbrev fm_H : Type := Nat × Nat × Nat × Nat × Nat × Nat
abbrev fm_P : Type := (c : Prop) × Decidable c
/-- what a step gives: a frame; a frame under a condition; one of two; a call (method, kind of answer, arguments, the frame behind); an end; one of many by a number; nothing -/
abbrev fm_R : Type := fm_F ⊕ (fm_P × fm_F) ⊕ (fm_P × fm_F × fm_F) ⊕ (Nat × Nat × List fm_V × fm_F) ⊕ (fm_O × fm_M) ⊕ (Int32 × List (Int32 × fm_F) × fm_F) ⊕ (fm_P × fm_O × fm_M) ⊕ Unit
abbrev fm_go (f : fm_F) : fm_R := .inl f
abbrev fm_gd (c : Prop) [d : Decidable c] (f : fm_F) : fm_R := .inr (.inl (⟨c, d⟩, f))
abbrev fm_br (c : Prop) [d : Decidable c] (f g : fm_F) : fm_R := .inr (.inr (.inl (⟨c, d⟩, f, g)))
abbrev fm_ca (mj rk : Nat) (as : List fm_V) (f : fm_F) : fm_R := .inr (.inr (.inr (.inl (mj, rk, as, f))))
abbrev fm_dn (o : fm_O) (M : fm_M) : fm_R := .inr (.inr (.inr (.inr (.inl (o, M)))))
abbrev fm_sw (x : Int32) (l : List (Int32 × fm_F)) (f : fm_F) : fm_R := .inr (.inr (.inr (.inr (.inr (.inl (x, l, f))))))
abbrev fm_dg (c : Prop) [d : Decidable c] (o : fm_O) (M : fm_M) : fm_R := .inr (.inr (.inr (.inr (.inr (.inr (.inl (⟨c, d⟩, o, M)))))))
abbrev fm_no : fm_R := .inr (.inr (.inr (.inr (.inr (.inr (.inr ()))))))
def fm_uI {α : Type} (f : Nat → Nat → α) (c i : Nat) (v : α) : Nat → Nat → α := fun c' i' => if c' = c ∧ i' = i then v else f c' i'
/-- the pool's first cell -/
abbrev fm_R0 : Nat := 25
/-- the pool: how many -/
abbrev fm_RN : Nat := 12
def fm_pc (t j : Nat) : Nat := fm_R0 + 3 * j + t
/-- the script's number -/
abbrev fm_scr : Nat := 999999
def fm_poolRow (S : List fm_Sc) (j : Nat) : Bool := (S[fm_R0 + 3 * j]? == some (4, 3, [some (fm_R0 + 3 * j + 1), some (fm_R0 + 3 * j + 2), none])) && (S[fm_R0 + 3 * j + 1]? == some (11, 5, [])) && (S[fm_R0 + 3 * j + 2]? == some (10, 5, []))
def fm_poolRefs : List (Option Nat) := (List.range fm_RN).map fun j => some (fm_R0 + 3 * j)
def fm_pool (S : List fm_Sc) : Bool := (List.range fm_RN).all (fm_poolRow S)
/-- a cell of an array: its number, kind, length -/
def fm_arr (v : fm_V) (S : List fm_Sc) : Option (Nat × Nat × Nat) := match v with
  | .inl (.ref c) => match S[c]? with
    | some q => some (c, q.1, q.2.1)
    | none => none
  | .inr (t, j) => match t with
    | 1 => cond (fm_pool S) (some (fm_pc 1 j, 11, 5)) none
    | 2 => cond (fm_pool S) (some (fm_pc 2 j, 10, 5)) none
    | _ => none
  | _ => none
def fm_refv (r : Option Nat) : fm_V := match r with
  | some j => .inl (.ref j)
  | none => .inl .null
def fm_getf (ci k fk : Nat) (v : fm_V) (M : fm_M) : Option fm_V := match v with
  | .inl (.ref c) => match M.2[c]? with
    | some q => cond (Nat.beq q.1 ci) (match fk with
      | 0 => some (.inl (.int (M.1.1 c k)))
      | 1 => some (.inl (.long (M.1.2.1 c k)))
      | _ => (q.2.2[k]?).map fm_refv) none
    | none => none
  | .inr (t, j) => cond (Nat.beq t 0 && Nat.beq ci 4 && fm_pool M.2) (match k with
    | 0 => some (.inr (1, j))
    | 1 => some (.inr (2, j))
    | 2 => some (.inl (.int (M.1.1 (fm_pc 0 j) 2)))
    | _ => none) none
  | _ => none
def fm_putf (ci k fk : Nat) (v : fm_V) (x : fm_V) (M : fm_M) : Option fm_M := match v with
  | .inl (.ref c) => match M.2[c]? with
    | some q => cond (Nat.beq q.1 ci && Nat.blt k q.2.1) (match fk, x with
      | 0, .inl (.int y) => some ((fm_uI M.1.1 c k y, M.1.2), M.2)
      | 1, .inl (.long y) => some ((M.1.1, fm_uI M.1.2.1 c k y, M.1.2.2), M.2)
      | 2, .inl (.ref j) => cond (Nat.blt j M.2.length && Nat.blt k q.2.2.length && (!(fm_pool M.2) || fm_pool (M.2.set c (q.1, q.2.1, q.2.2.set k (some j))))) (some (M.1, M.2.set c (q.1, q.2.1, q.2.2.set k (some j)))) none
      | _, _ => none) none
    | none => none
  | .inr (t, j) => cond (Nat.beq t 0 && Nat.beq ci 4 && Nat.beq k 2 && fm_pool M.2) (match x with
    | .inl (.int y) => some ((fm_uI M.1.1 (fm_pc 0 j) 2 y, M.1.2), M.2)
    | _ => none) none
  | _ => none
/-- a new cell of that shape -/
def fm_newc (q : fm_Sc) (M : fm_M) : Option (Nat × fm_M) := cond (Nat.beq M.1.2.2.2 0 && Nat.blt M.2.length 1000) (some (M.2.length, M.1, M.2 ++ [q])) none
def fm_nb (x : Int32) : Int32 := vp_nar .boolean x
def fm_ld (lo : List (Option fm_V)) (i : Nat) : Option fm_V := match lo[i]? with
  | some (some v) => some v
  | _ => none
def fm_cat (v : fm_V) : Nat := match v with
  | .inl (.long _) => 2
  | .inl (.double _) => 2
  | _ => 1
/-- the place before i no longer counts, if it held a wide thing -/
def fm_cl (lo : List (Option fm_V)) (i : Nat) : List (Option fm_V) := match i with
  | 0 => lo
  | k + 1 => match lo[k]? with
    | some (some v) => cond (Nat.beq (fm_cat v) 2) (lo.set k none) lo
    | _ => lo
def fm_sto (lo : List (Option fm_V)) (i : Nat) (v : fm_V) : List (Option fm_V) := cond (Nat.beq (fm_cat v) 2) (((fm_cl lo i).set i (some v)).set (i + 1) none) ((fm_cl lo i).set i (some v))
/-- a store: the local's place lies within; w: the method has wide locals ([] for none) -/
def fm_st (w : List Nat) (nx : Nat) (lo : List (Option fm_V)) (i : Nat) (v : fm_V) (r : List fm_V) (M : fm_M) : fm_R := match w with
  | [] => cond (Nat.blt i lo.length && Nat.beq (fm_cat v) 1) (fm_go (nx, lo.set i (some v), r, M)) fm_no
  | _ => cond (Nat.blt (i + (fm_cat v - 1)) lo.length) (fm_go (nx, fm_sto lo i v, r, M)) fm_no
def fm_isI : Option fm_V → Bool
  | some (.inl (.int _)) => true
  | _ => false
def fm_isA : Option fm_V → Bool
  | some (.inl (.ref _)) => true
  | some (.inr _) => true
  | _ => false
def fm_isD : Option fm_V → Bool
  | some (.inl (.double _)) => true
  | _ => false
def fm_load (ok : Option fm_V → Bool) (nx : Nat) (lo : List (Option fm_V)) (i : Nat) (st : List fm_V) (M : fm_M) : fm_R := match fm_ld lo i with
  | some v => cond (ok (some v)) (fm_go (nx, lo, v :: st, M)) fm_no
  | none => fm_no
def fm_csum (st : List fm_V) : Nat := match st with
  | [] => 0
  | v :: r => fm_cat v + fm_csum r
/-- the first n of the stack, turned round, and the rest -/
def fm_pop : Nat → List fm_V → List fm_V → Option (List fm_V × List fm_V)
  | 0, st, acc => some (acc, st)
  | n + 1, v :: st, acc => fm_pop n st (v :: acc)
  | _ + 1, [], _ => none
abbrev fm_inb (i : Int32) (n : Nat) : Prop := ¬ (i < 0 ∨ n ≤ i.toNatClampNeg)
/-- an array's place is read -/
def fm_ald (kd : Nat) (g : Nat → Int32 → fm_V) (nx : Nat) (lo : List (Option fm_V)) (st : List fm_V) (M : fm_M) : fm_R := match st with
  | .inl (.int i) :: a :: r => match fm_arr a M.2 with
    | some q => cond (Nat.beq q.2.1 kd) (fm_gd (fm_inb i q.2.2) (nx, lo, g q.1 i :: r, M)) fm_no
    | none => fm_no
  | _ => fm_no
def fm_bin (nx : Nat) (lo : List (Option fm_V)) (st : List fm_V) (M : fm_M) (op : Int32 → Int32 → Int32) : fm_R := match st with
  | .inl (.int y) :: .inl (.int x) :: r => fm_go (nx, lo, .inl (.int (op x y)) :: r, M)
  | _ => fm_no
def fm_un (nx : Nat) (lo : List (Option fm_V)) (st : List fm_V) (M : fm_M) (op : Int32 → fm_V) : fm_R := match st with
  | .inl (.int x) :: r => fm_go (nx, lo, op x :: r, M)
  | _ => fm_no
def fm_if (tg nx : Nat) (lo : List (Option fm_V)) (st : List fm_V) (M : fm_M) (c : Int32 → Prop) (d : ∀ x, Decidable (c x)) : fm_R := match st with
  | .inl (.int x) :: r => .inr (.inr (.inl (⟨c x, d x⟩, (tg, lo, r, M), (nx, lo, r, M))))
  | _ => fm_no
def fm_icmp (tg nx : Nat) (lo : List (Option fm_V)) (st : List fm_V) (M : fm_M) (c : Int32 → Int32 → Prop) (d : ∀ x y, Decidable (c x y)) : fm_R := match st with
  | .inl (.int y) :: .inl (.int x) :: r => .inr (.inr (.inl (⟨c x y, d x y⟩, (tg, lo, r, M), (nx, lo, r, M))))
  | _ => fm_no
/-- the receiver is of the class ci -/
def fm_rcv (ci : Nat) (as : List fm_V) (S : List fm_Sc) : Bool := match as with
  | .inl (.ref c) :: _ => match S[c]? with
    | some q => Nat.beq q.1 ci
    | none => false
  | .inr (t, _) :: _ => Nat.beq t 0 && Nat.beq ci 4 && fm_pool S
  | _ => false
def fm_callv (mj rk n ci : Nat) (nx : Nat) (lo : List (Option fm_V)) (st : List fm_V) (M : fm_M) : fm_R := match fm_pop n st [] with
  | some q => cond (Nat.ble (fm_csum q.2) 8 && q.1.all (fun v => Nat.beq (fm_cat v) 1) && fm_rcv ci q.1 M.2) (fm_ca mj rk q.1 (nx, lo, q.2, M)) fm_no
  | none => fm_no
def fm_callr (mj rk n : Nat) (nx : Nat) (lo : List (Option fm_V)) (st : List fm_V) (M : fm_M) : fm_R := match fm_pop n st [] with
  | some q => cond (Nat.ble (fm_csum q.2) 8 && q.1.all (fun v => Nat.beq (fm_cat v) 1)) (fm_ca mj rk q.1 (nx, lo, q.2, M)) fm_no
  | none => fm_no
def fm_calls (mj rk n : Nat) (nx : Nat) (lo : List (Option fm_V)) (st : List fm_V) (M : fm_M) : fm_R := match fm_pop n st [] with
  | some q => cond (Nat.ble (fm_csum q.2) 8 && q.1.all (fun v => Nat.beq (fm_cat v) 1) && fm_isA q.1.head?) (fm_ca mj rk q.1 (nx, lo, q.2, M)) fm_no
  | none => fm_no
def fm_swl (lo : List (Option fm_V)) (r : List fm_V) (M : fm_M) : Nat → List Nat → List (Int32 × fm_F)
  | _, [] => []
  | k, t :: ts => (nI k, (t, lo, r, M)) :: fm_swl lo r M (k + 1) ts
/-- one step; X: the script's length and ints -/
def fm_step (X : Nat × (Nat → Int32)) (e : fm_En) (lo : List (Option fm_V)) (st : List fm_V) (M : fm_M) : fm_R := match e.2.1 with
  | .iconst n => fm_go (e.1 + 1, lo, .inl (.int (fm_k n)) :: st, M)
  | .bipush n => fm_go (e.1 + 2, lo, .inl (.int (fm_k n)) :: st, M)
  | .sipush n => fm_go (e.1 + 3, lo, .inl (.int (fm_k n)) :: st, M)
  | .lconst n => fm_go (e.1 + 1, lo, .inl (.long (Int64.ofNat n)) :: st, M)
  | .dconst n => cond (Nat.beq n.1 0) (fm_go (e.1 + 1, lo, .inl (.double FP.dconst0) :: st, M)) fm_no
  | .iload_n k => fm_load fm_isI (e.1 + 1) lo k st M
  | .iload k => fm_load fm_isI (e.1 + 2) lo k st M
  | .aload_n k => fm_load fm_isA (e.1 + 1) lo k st M
  | .aload k => fm_load fm_isA (e.1 + 2) lo k st M
  | .dload k => fm_load fm_isD (e.1 + 2) lo k st M
  | .istore_n k => match st with
    | .inl (.int x) :: r => fm_st e.2.2.2 (e.1 + 1) lo k (.inl (.int x)) r M
    | _ => fm_no
  | .istore k => match st with
    | .inl (.int x) :: r => fm_st e.2.2.2 (e.1 + 2) lo k (.inl (.int x)) r M
    | _ => fm_no
  | .astore_n k => match st with
    | v :: r => cond (fm_isA (some v)) (fm_st e.2.2.2 (e.1 + 1) lo k v r M) fm_no
    | _ => fm_no
  | .astore k => match st with
    | v :: r => cond (fm_isA (some v)) (fm_st e.2.2.2 (e.1 + 2) lo k v r M) fm_no
    | _ => fm_no
  | .dstore k => match e.2.2.2, st with
    | [w], .inl (.double x) :: r => fm_st [w] (e.1 + 2) lo k (.inl (.double x)) r M
    | _, _ => fm_no
  | .iinc k n => match fm_ld lo k with
    | some (.inl (.int x)) => fm_st e.2.2.2 (e.1 + 3) lo k (.inl (.int (x + fm_k n))) st M
    | _ => fm_no
  | .iadd => fm_bin (e.1 + 1) lo st M (fun x y => x + y)
  | .isub => fm_bin (e.1 + 1) lo st M (fun x y => x - y)
  | .imul => fm_bin (e.1 + 1) lo st M (fun x y => x * y)
  | .iand => fm_bin (e.1 + 1) lo st M (fun x y => x &&& y)
  | .ior => fm_bin (e.1 + 1) lo st M (fun x y => x ||| y)
  | .ixor => fm_bin (e.1 + 1) lo st M (fun x y => x ^^^ y)
  | .ishl => fm_bin (e.1 + 1) lo st M (fun x y => x <<< (y &&& 31))
  | .ishr => fm_bin (e.1 + 1) lo st M (fun x y => x >>> (y &&& 31))
  | .iushr => fm_bin (e.1 + 1) lo st M (fun x y => (x.toUInt32 >>> (y.toUInt32 &&& Int32.toUInt32 31)).toInt32)
  | .idiv => match st with
    | .inl (.int y) :: .inl (.int x) :: r => cond (decide (y = nI 0)) fm_no (fm_go (e.1 + 1, lo, .inl (.int (x / y)) :: r, M))
    | _ => fm_no
  | .ineg => fm_un (e.1 + 1) lo st M (fun x => .inl (.int (-x)))
  | .i2l => fm_un (e.1 + 1) lo st M (fun x => .inl (.long x.toInt64))
  | .i2f => fm_un (e.1 + 1) lo st M (fun x => .inl (.float (FP.i2f x)))
  | .i2d => fm_un (e.1 + 1) lo st M (fun x => .inl (.double (FP.i2d x)))
  | .ladd => match st with
    | .inl (.long y) :: .inl (.long x) :: r => fm_go (e.1 + 1, lo, .inl (.long (x + y)) :: r, M)
    | _ => fm_no
  | .lcmp => match st with
    | .inl (.long y) :: .inl (.long x) :: r => fm_go (e.1 + 1, lo, .inl (.int (lg_cmp x y)) :: r, M)
    | _ => fm_no
  | .fdiv => match st with
    | .inl (.float y) :: .inl (.float x) :: r => fm_gd (FP.fdiv x y &&& 0x7fffffff ≤ 0x7f800000) (e.1 + 1, lo, .inl (.float (FP.fdiv x y)) :: r, M)
    | _ => fm_no
  | .ddiv => match st with
    | .inl (.double y) :: .inl (.double x) :: r => fm_gd (FP.ddiv x y &&& 0x7fffffffffffffff ≤ 0x7ff0000000000000) (e.1 + 1, lo, .inl (.double (FP.ddiv x y)) :: r, M)
    | _ => fm_no
  | .f2d => match st with
    | .inl (.float x) :: r => fm_gd (FP.f2d x &&& 0x7fffffffffffffff ≤ 0x7ff0000000000000) (e.1 + 1, lo, .inl (.double (FP.f2d x)) :: r, M)
    | _ => fm_no
  | .dcmp op => match st with
    | .inl (.double y) :: .inl (.double x) :: r => fm_go (e.1 + 1, lo, .inl (.int (Op.cmpValue (FP.dcmp x y) op)) :: r, M)
    | _ => fm_no
  | .dup => match st with
    | v :: r => cond (Nat.beq (fm_cat v) 1) (fm_go (e.1 + 1, lo, v :: v :: r, M)) fm_no
    | _ => fm_no
  | .pop => match st with
    | v :: r => cond (Nat.beq (fm_cat v) 1) (fm_go (e.1 + 1, lo, r, M)) fm_no
    | _ => fm_no
  | .dup2 => match st with
    | v :: w :: r => cond (Nat.beq (fm_cat v) 1 && Nat.beq (fm_cat w) 1) (fm_go (e.1 + 1, lo, v :: w :: v :: w :: r, M)) fm_no
    | _ => fm_no
  | .ifCond c _ => match e.2.2.2 with
    | [tg] => match c with
      | .eq => fm_if tg (e.1 + 3) lo st M (fun x => x = nI 0) (fun x => inferInstance)
      | .ne => fm_if (e.1 + 3) tg lo st M (fun x => x = nI 0) (fun x => inferInstance)
      | .lt => fm_if tg (e.1 + 3) lo st M (fun x => x < nI 0) (fun x => inferInstance)
      | .ge => fm_if tg (e.1 + 3) lo st M (fun x => nI 0 ≤ x) (fun x => inferInstance)
      | .gt => fm_if tg (e.1 + 3) lo st M (fun x => nI 0 < x) (fun x => inferInstance)
      | .le => fm_if tg (e.1 + 3) lo st M (fun x => x ≤ nI 0) (fun x => inferInstance)
    | _ => fm_no
  | .if_icmp c _ => match e.2.2.2 with
    | [tg] => match c with
      | .eq => fm_icmp tg (e.1 + 3) lo st M (fun x y => x = y) (fun x y => inferInstance)
      | .ne => fm_icmp (e.1 + 3) tg lo st M (fun x y => x = y) (fun x y => inferInstance)
      | .lt => fm_icmp tg (e.1 + 3) lo st M (fun x y => x < y) (fun x y => inferInstance)
      | .ge => fm_icmp tg (e.1 + 3) lo st M (fun x y => y ≤ x) (fun x y => inferInstance)
      | .gt => fm_icmp tg (e.1 + 3) lo st M (fun x y => y < x) (fun x y => inferInstance)
      | .le => fm_icmp tg (e.1 + 3) lo st M (fun x y => x ≤ y) (fun x y => inferInstance)
    | _ => fm_no
  | .goto _ => match e.2.2.2 with
    | [tg] => fm_go (tg, lo, st, M)
    | _ => fm_no
  | .tableswitch _ _ _ _ => match e.2.2.2, st with
    | dt :: ts, .inl (.int x) :: r => fm_sw x (fm_swl lo r M 0 ts) (dt, lo, r, M)
    | _, _ => fm_no
  | .iaload => match st with
    | .inl (.int i) :: .inl (.ref c) :: r => cond (Nat.beq c fm_scr) (fm_gd (fm_inb i X.1) (e.1 + 1, lo, .inl (.int (X.2 i.toNatClampNeg)) :: r, M)) (fm_ald 10 (fun c i => .inl (.int (M.1.1 c i.toNatClampNeg))) (e.1 + 1) lo st M)
    | _ => fm_ald 10 (fun c i => .inl (.int (M.1.1 c i.toNatClampNeg))) (e.1 + 1) lo st M
  | .baload => fm_ald 11 (fun c i => .inl (.int (M.1.1 c i.toNatClampNeg))) (e.1 + 1) lo st M
  | .laload => fm_ald 12 (fun c i => .inl (.long (M.1.2.1 c i.toNatClampNeg))) (e.1 + 1) lo st M
  | .daload => fm_ald 13 (fun c i => .inl (.double (M.1.2.2.1 c i.toNatClampNeg))) (e.1 + 1) lo st M
  | .aaload => match st with
    | .inl (.int i) :: .inl (.ref c) :: r => cond (fm_pool M.2 && (M.2[c]? == some (14, 12, fm_poolRefs))) (fm_gd (fm_inb i 12) (e.1 + 1, lo, .inr (0, i.toNatClampNeg) :: r, M)) fm_no
    | _ => fm_no
  | .iastore => match st with
    | .inl (.int x) :: .inl (.int i) :: a :: r => match fm_arr a M.2 with
      | some q => cond (Nat.beq q.2.1 10) (fm_gd (fm_inb i q.2.2) (e.1 + 1, lo, r, ((fm_uI M.1.1 q.1 i.toNatClampNeg x, M.1.2), M.2))) fm_no
      | none => fm_no
    | _ => fm_no
  | .bastore => match st with
    | .inl (.int x) :: .inl (.int i) :: a :: r => match fm_arr a M.2 with
      | some q => cond (Nat.beq q.2.1 11) (fm_gd (fm_inb i q.2.2) (e.1 + 1, lo, r, ((fm_uI M.1.1 q.1 i.toNatClampNeg (fm_nb x), M.1.2), M.2))) fm_no
      | none => fm_no
    | _ => fm_no
  | .lastore => match st with
    | .inl (.long x) :: .inl (.int i) :: a :: r => match fm_arr a M.2 with
      | some q => cond (Nat.beq q.2.1 12) (fm_gd (fm_inb i q.2.2) (e.1 + 1, lo, r, ((M.1.1, fm_uI M.1.2.1 q.1 i.toNatClampNeg x, M.1.2.2), M.2))) fm_no
      | none => fm_no
    | _ => fm_no
  | .dastore => match st with
    | .inl (.double x) :: .inl (.int i) :: a :: r => match fm_arr a M.2 with
      | some q => cond (Nat.beq q.2.1 13) (fm_gd (fm_inb i q.2.2) (e.1 + 1, lo, r, ((M.1.1, M.1.2.1, fm_uI M.1.2.2.1 q.1 i.toNatClampNeg x, M.1.2.2.2), M.2))) fm_no
      | none => fm_no
    | _ => fm_no
  | .aastore => match st with
    | .inl (.ref j) :: .inl (.int i) :: .inl (.ref c) :: r => match M.2[c]?, M.2[j]? with
      | some q, some q' => cond (Nat.beq q.1 14 && Nat.beq q'.1 4 && Nat.blt i.toNatClampNeg q.2.2.length && (!(fm_pool M.2) || fm_pool (M.2.set c (q.1, q.2.1, q.2.2.set i.toNatClampNeg (some j))))) (fm_gd (fm_inb i q.2.1) (e.1 + 1, lo, r, (M.1, M.2.set c (q.1, q.2.1, q.2.2.set i.toNatClampNeg (some j))))) fm_no
      | _, _ => fm_no
    | _ => fm_no
  | .arraylength => match st with
    | .inl (.ref c) :: r => cond (Nat.beq c fm_scr) (fm_go (e.1 + 1, lo, .inl (.int (nI X.1)) :: r, M)) fm_no
    | _ => fm_no
  | .getfield _ => match e.2.2.2, st with
    | [ci, k, fk, _], v :: r => match fm_getf ci k fk v M with
      | some w => fm_go (e.1 + 3, lo, w :: r, M)
      | none => fm_no
    | _, _ => fm_no
  | .putfield _ => match e.2.2.2, st with
    | [ci, k, fk, _], x :: v :: r => match fm_putf ci k fk v x M with
      | some M' => fm_go (e.1 + 3, lo, r, M')
      | none => fm_no
    | _, _ => fm_no
  | .new _ => match e.2.2.2 with
    | [0, ci, n, _] => match fm_newc (ci, n, List.replicate n none) M with
      | some q => fm_go (e.1 + 3, lo, .inl (.ref q.1) :: st, q.2)
      | none => fm_no
    | [1, x, _] => cond (Nat.ble (fm_csum st) 8) (fm_dn (.inr x) ((M.1.1, M.1.2.1, M.1.2.2.1, M.1.2.2.2 + 1), M.2)) fm_no
    | _ => fm_no
  | .newarray _ => match e.2.2.2, st with
    | [kd], .inl (.int n) :: r => match fm_newc (kd, n.toNatClampNeg, []) M with
      | some q => cond (Nat.ble n.toNatClampNeg 1000) (fm_gd (¬ n < 0) (e.1 + 2, lo, .inl (.ref q.1) :: r, q.2)) fm_no
      | none => fm_no
    | _, _ => fm_no
  | .anewarray _ => match st with
    | .inl (.int n) :: r => match fm_newc (14, n.toNatClampNeg, List.replicate n.toNatClampNeg none) M with
      | some q => cond (Nat.ble n.toNatClampNeg 1000) (fm_gd (¬ n < 0) (e.1 + 3, lo, .inl (.ref q.1) :: r, q.2)) fm_no
      | none => fm_no
    | _ => fm_no
  | .ldc _ => match e.2.2.2 with
    | [n] => fm_go (e.1 + 2, lo, .inl (.int (nI n)) :: st, M)
    | _ => fm_no
  | .ldc_w _ => match e.2.2.2 with
    | [n] => fm_go (e.1 + 3, lo, .inl (.int (nI n)) :: st, M)
    | _ => fm_no
  | .invokevirtual _ => match e.2.2.2 with
    | [mj, rk, n, _, ci] => fm_callv mj rk n ci (e.1 + 3) lo st M
    | _ => fm_no
  | .invokestatic _ => match e.2.2.2 with
    | [mj, rk, n, _] => fm_callr mj rk n (e.1 + 3) lo st M
    | _ => fm_no
  | .invokespecial _ => match e.2.2.2 with
    | [mj, rk, n, _] => fm_calls mj rk n (e.1 + 3) lo st M
    | [_] => match st with
      | .inl (.ref _) :: r => cond (Nat.ble (fm_csum r) 8) (fm_go (e.1 + 3, lo, r, M)) fm_no
      | _ => fm_no
    | _ => fm_no
  | .ireturn => match e.2.2.2, st with
    | [0], [.inl (.int x)] => fm_dn (.inl (some (.inl (.int x)))) M
    | [1], [.inl (.int x)] => fm_dg (x = nI 0 ∨ x = nI 1) (.inl (some (.inl (.int x)))) M
    | _, _ => fm_no
  | .lreturn => match st with
    | [.inl (.long x)] => fm_dn (.inl (some (.inl (.long x)))) M
    | _ => fm_no
  | .freturn => match st with
    | [.inl (.float x)] => fm_dn (.inl (some (.inl (.float x)))) M
    | _ => fm_no
  | .dreturn => match st with
    | [.inl (.double x)] => fm_dn (.inl (some (.inl (.double x)))) M
    | _ => fm_no
  | .return_ => match st with
    | [] => fm_dn (.inl none) M
    | _ => fm_no
  | _ => fm_no
/-- the code of a method, and its handlers; method by number -/
def fm_fetch (cl : List fm_En) (pc : Nat) : Option fm_En := match cl with
  | [] => none
  | e :: r => cond (Nat.beq e.1 pc) (some e) (fm_fetch r pc)
def fm_entry (nL : Nat) (as : List fm_V) (M : fm_M) : fm_F := (0, as.map some ++ List.replicate (nL - as.length) none, [], M)
/-- the first handler over pc for the exception x -/
def fm_hnd (hs : List fm_H) (pc x : Nat) : Option fm_H := match hs with
  | [] => none
  | h :: r => cond (Nat.ble h.1 pc && Nat.blt pc h.2.1 && Nat.beq h.2.2.2.1 x) (some h) (fm_hnd r pc x)
/-- a handler's frame: its first instruction, which stores the exception, is done -/
def fm_hfr (h : fm_H) (lo : List (Option fm_V)) (M : fm_M) : fm_F := (h.2.2.2.2.1, lo.set h.2.2.2.2.2 none, [], M)
def fm_sel (x : Int32) (l : List (Int32 × fm_F)) (d : fm_F) : fm_F := match l with
  | [] => d
  | q :: r => if x = q.1 then q.2 else fm_sel x r d
def fm_push (v : Option fm_V) (f : fm_F) (M : fm_M) : fm_F := match v with
  | some w => (f.1, f.2.1, w :: f.2.2.1, M)
  | none => (f.1, f.2.1, f.2.2.1, M)
/-- the program: code, handlers, locals of each method; the script -/
abbrev fm_Pr : Type := (Nat → List fm_En) × (Nat → List fm_H) × (Nat → Nat) × (Nat × (Nat → Int32))
def fm_run (P : fm_Pr) : Nat → Nat → fm_F → Option (fm_O × fm_M)
  | 0, _, _ => none
  | n + 1, mi, f => match fm_fetch (P.1 mi) f.1 with
    | none => none
    | some e => match fm_step P.2.2.2 e f.2.1 f.2.2.1 f.2.2.2 with
      | .inl g => fm_run P n mi g
      | .inr (.inl (c, g)) => @ite _ c.1 c.2 (fm_run P n mi g) none
      | .inr (.inr (.inl (c, g, h))) => @ite _ c.1 c.2 (fm_run P n mi g) (fm_run P n mi h)
      | .inr (.inr (.inr (.inl (mj, _, as, g)))) => match fm_run P n mj (fm_entry (P.2.2.1 mj) as g.2.2.2) with
        | none => none
        | some (.inl v, M) => fm_run P n mi (fm_push v g M)
        | some (.inr x, M) => match fm_hnd (P.2.1 mi) f.1 x with
          | some h => fm_run P n mi (fm_hfr h g.2.1 M)
          | none => some (.inr x, M)
      | .inr (.inr (.inr (.inr (.inl q)))) => some q
      | .inr (.inr (.inr (.inr (.inr (.inl (x, l, d)))))) => fm_run P n mi (fm_sel x l d)
      | .inr (.inr (.inr (.inr (.inr (.inr (.inl (c, q))))))) => @ite _ c.1 c.2 (some q) none
      | .inr (.inr (.inr (.inr (.inr (.inr (.inr _)))))) => none
/-- the run from f comes to an end with Q -/
def fm_Ev (P : fm_Pr) (mi : Nat) (f : fm_F) (Q : fm_O → fm_M → Prop) : Prop := ∃ (n : Nat) (r : fm_O × fm_M), fm_run P n mi f = some r ∧ Q r.1 r.2
/-- a call that answers a value of its kind (0 nothing, 1 an int, 2 a long, 3 a float, 4 a double) with K, or throws with X -/
def fm_Cv (P : fm_Pr) (mj : Nat) (as : List fm_V) (M : fm_M) (K : fm_N → Prop) (X : Nat → fm_N → Prop) : Prop := fm_Ev P mj (fm_entry (P.2.2.1 mj) as M) fun o M' => match o with
  | .inl none => M'.2 = M.2 ∧ K M'.1
  | .inr x => M'.2 = M.2 ∧ X x M'.1
  | _ => False
def fm_Ci (P : fm_Pr) (mj : Nat) (as : List fm_V) (M : fm_M) (K : Int32 → fm_N → Prop) (X : Nat → fm_N → Prop) : Prop := fm_Ev P mj (fm_entry (P.2.2.1 mj) as M) fun o M' => match o with
  | .inl (some (.inl (.int r))) => M'.2 = M.2 ∧ K r M'.1
  | .inr x => M'.2 = M.2 ∧ X x M'.1
  | _ => False
def fm_Cl (P : fm_Pr) (mj : Nat) (as : List fm_V) (M : fm_M) (K : Int64 → fm_N → Prop) (X : Nat → fm_N → Prop) : Prop := fm_Ev P mj (fm_entry (P.2.2.1 mj) as M) fun o M' => match o with
  | .inl (some (.inl (.long r))) => M'.2 = M.2 ∧ K r M'.1
  | .inr x => M'.2 = M.2 ∧ X x M'.1
  | _ => False
def fm_Cf (P : fm_Pr) (mj : Nat) (as : List fm_V) (M : fm_M) (K : UInt32 → fm_N → Prop) (X : Nat → fm_N → Prop) : Prop := fm_Ev P mj (fm_entry (P.2.2.1 mj) as M) fun o M' => match o with
  | .inl (some (.inl (.float r))) => M'.2 = M.2 ∧ K r M'.1
  | .inr x => M'.2 = M.2 ∧ X x M'.1
  | _ => False
def fm_Cd (P : fm_Pr) (mj : Nat) (as : List fm_V) (M : fm_M) (K : UInt64 → fm_N → Prop) (X : Nat → fm_N → Prop) : Prop := fm_Ev P mj (fm_entry (P.2.2.1 mj) as M) fun o M' => match o with
  | .inl (some (.inl (.double r))) => M'.2 = M.2 ∧ K r M'.1
  | .inr x => M'.2 = M.2 ∧ X x M'.1
  | _ => False
/-- where an exception x at pc goes on: by the handlers, or out -/
def fm_hw (hs : List fm_H) (pc : Nat) (K : fm_H → Prop) (X : Prop) (x : Nat) : Prop := match hs with
  | [] => X
  | h :: r => cond (Nat.ble h.1 pc && Nat.blt pc h.2.1) ((x = h.2.2.2.1 → K h) ∧ (¬ x = h.2.2.2.1 → fm_hw r pc K X x)) (fm_hw r pc K X x)
def fm_sww (x : Int32) (l : List (Int32 × fm_F)) (d : fm_F) (K : fm_F → Prop) : Prop := match l with
  | [] => K d
  | q :: r => (x = q.1 → K q.2) ∧ (¬ x = q.1 → fm_sww x r d K)
/-- what must hold so that the run from f comes to an end with Q: k steps, but no step from the places sp -/
def fm_wp (P : fm_Pr) (cl : List fm_En) (hs : List fm_H) (mi : Nat) (sp : List Nat) : Nat → Bool → fm_F → (fm_O → fm_M → Prop) → Prop
  | 0, _, f, Q => fm_Ev P mi f Q
  | k + 1, b, f, Q => cond (b && sp.contains f.1) (fm_Ev P mi f Q) (match fm_fetch cl f.1 with
    | none => False
    | some e => match fm_step P.2.2.2 e f.2.1 f.2.2.1 f.2.2.2 with
      | .inl g => fm_wp P cl hs mi sp k true g Q
      | .inr (.inl (c, g)) => c.1 ∧ fm_wp P cl hs mi sp k true g Q
      | .inr (.inr (.inl (c, g, h))) => (c.1 → fm_wp P cl hs mi sp k true g Q) ∧ (¬ c.1 → fm_wp P cl hs mi sp k true h Q)
      | .inr (.inr (.inr (.inl (mj, rk, as, g)))) => match rk with
        | 0 => fm_Cv P mj as g.2.2.2 (fun N => fm_wp P cl hs mi sp k true (g.1, g.2.1, g.2.2.1, (N, g.2.2.2.2)) Q) (fun x N => fm_hw hs f.1 (fun h => fm_wp P cl hs mi sp k true (fm_hfr h g.2.1 (N, g.2.2.2.2)) Q) (Q (.inr x) (N, g.2.2.2.2)) x)
        | 1 => fm_Ci P mj as g.2.2.2 (fun r N => fm_wp P cl hs mi sp k true (g.1, g.2.1, .inl (.int r) :: g.2.2.1, (N, g.2.2.2.2)) Q) (fun x N => fm_hw hs f.1 (fun h => fm_wp P cl hs mi sp k true (fm_hfr h g.2.1 (N, g.2.2.2.2)) Q) (Q (.inr x) (N, g.2.2.2.2)) x)
        | 2 => fm_Cl P mj as g.2.2.2 (fun r N => fm_wp P cl hs mi sp k true (g.1, g.2.1, .inl (.long r) :: g.2.2.1, (N, g.2.2.2.2)) Q) (fun x N => fm_hw hs f.1 (fun h => fm_wp P cl hs mi sp k true (fm_hfr h g.2.1 (N, g.2.2.2.2)) Q) (Q (.inr x) (N, g.2.2.2.2)) x)
        | 3 => fm_Cf P mj as g.2.2.2 (fun r N => fm_wp P cl hs mi sp k true (g.1, g.2.1, .inl (.float r) :: g.2.2.1, (N, g.2.2.2.2)) Q) (fun x N => fm_hw hs f.1 (fun h => fm_wp P cl hs mi sp k true (fm_hfr h g.2.1 (N, g.2.2.2.2)) Q) (Q (.inr x) (N, g.2.2.2.2)) x)
        | _ => fm_Cd P mj as g.2.2.2 (fun r N => fm_wp P cl hs mi sp k true (g.1, g.2.1, .inl (.double r) :: g.2.2.1, (N, g.2.2.2.2)) Q) (fun x N => fm_hw hs f.1 (fun h => fm_wp P cl hs mi sp k true (fm_hfr h g.2.1 (N, g.2.2.2.2)) Q) (Q (.inr x) (N, g.2.2.2.2)) x)
      | .inr (.inr (.inr (.inr (.inl q)))) => Q q.1 q.2
      | .inr (.inr (.inr (.inr (.inr (.inl (x, l, d)))))) => fm_sww x l d (fun g => fm_wp P cl hs mi sp k true g Q)
      | .inr (.inr (.inr (.inr (.inr (.inr (.inl (c, q))))))) => c.1 ∧ Q q.1 q.2
      | .inr (.inr (.inr (.inr (.inr (.inr (.inr _)))))) => False)
theorem fm_run_mono (P : fm_Pr) : ∀ (n mi : Nat) (f : fm_F) (r : fm_O × fm_M), fm_run P n mi f = some r → fm_run P (n + 1) mi f = some r := by
  intro n
  induction n with
  | zero => intro mi f r h; cases h
  | succ n ih =>
    intro mi f r h
    rw [fm_run] at h ⊢
    split at h
    · cases h
    · rename_i e he
      try rw [he]
      try dsimp only
      split at h
      · rename_i g hg; (try rw [hg]); exact ih _ _ _ h
      · rename_i c g hg
        (try rw [hg])
        (try dsimp only)
        by_cases hc : c.1
        · rw [if_pos hc] at h ⊢; exact ih _ _ _ h
        · rw [if_neg hc] at h; cases h
      · rename_i c g g' hg
        (try rw [hg])
        (try dsimp only)
        by_cases hc : c.1
        · rw [if_pos hc] at h ⊢; exact ih _ _ _ h
        · rw [if_neg hc] at h ⊢; exact ih _ _ _ h
      · rename_i mj rk as g hg
        (try rw [hg])
        (try dsimp only)
        split at h
        · cases h
        · rename_i v M hr; rw [ih _ _ _ hr]; exact ih _ _ _ h
        · rename_i x M hr
          rw [ih _ _ _ hr]
          dsimp only
          split at h
          · rename_i hh hq; (try rw [hq]); exact ih _ _ _ h
          · rename_i hq; (try rw [hq]); exact h
      · rename_i q hg; (try rw [hg]); exact h
      · rename_i x l d hg; (try rw [hg]); exact ih _ _ _ h
      · rename_i c q hg; (try rw [hg]); exact h
      · cases h
theorem fm_run_le (P : fm_Pr) {n m mi : Nat} {f : fm_F} {r : fm_O × fm_M} (hnm : n ≤ m) (h : fm_run P n mi f = some r) : fm_run P m mi f = some r := by
  induction m with
  | zero => rw [Nat.le_zero.mp hnm] at h; exact h
  | succ m ih =>
    rcases Nat.lt_or_ge n (m + 1) with q | q
    · exact fm_run_mono P _ _ _ _ (ih (by omega))
    · rw [show m + 1 = n by omega]; exact h
theorem fm_Ev.mono {P : fm_Pr} {mi : Nat} {f : fm_F} {Q Q' : fm_O → fm_M → Prop} (h : fm_Ev P mi f Q) (k : ∀ o M, Q o M → Q' o M) : fm_Ev P mi f Q' := by
  obtain ⟨n, r, h1, h2⟩ := h
  exact ⟨n, r, h1, k _ _ h2⟩
theorem fm_Ev.step {P : fm_Pr} {mi : Nat} {f g : fm_F} {Q : fm_O → fm_M → Prop} (hr : ∀ n r, fm_run P n mi g = some r → fm_run P (n + 1) mi f = some r) (h : fm_Ev P mi g Q) : fm_Ev P mi f Q := by
  obtain ⟨n, r, h1, h2⟩ := h
  exact ⟨n + 1, r, hr _ _ h1, h2⟩
theorem fm_hw_out {hs : List fm_H} {pc x : Nat} {K : fm_H → Prop} {X : Prop} (h : fm_hw hs pc K X x) : (∃ q, fm_hnd hs pc x = some q ∧ K q) ∨ (fm_hnd hs pc x = none ∧ X) := by
  induction hs with
  | nil => exact Or.inr ⟨rfl, h⟩
  | cons q r ih =>
    unfold fm_hw at h
    unfold fm_hnd
    cases hc : (Nat.ble q.1 pc && Nat.blt pc q.2.1)
    · rw [hc] at h
      simp only [Bool.false_and, cond_false] at h ⊢
      exact ih h
    · rw [hc] at h
      simp only [Bool.true_and, cond_true] at h ⊢
      by_cases hx : x = q.2.2.2.1
      · have hb : Nat.beq q.2.2.2.1 x = true := by rw [hx]; exact Nat.beq_refl _
        rw [hb]
        exact Or.inl ⟨q, rfl, h.1 hx⟩
      · have hb : Nat.beq q.2.2.2.1 x = false := by
          cases hbb : Nat.beq q.2.2.2.1 x
          · rfl
          · exact absurd (Nat.eq_of_beq_eq_true hbb).symm hx
        rw [hb]
        exact ih (h.2 hx)
theorem fm_sww_out {x : Int32} {l : List (Int32 × fm_F)} {d : fm_F} {K : fm_F → Prop} (h : fm_sww x l d K) : K (fm_sel x l d) := by
  induction l with
  | nil => exact h
  | cons q r ih =>
    unfold fm_sww at h
    unfold fm_sel
    by_cases hx : x = q.1
    · rw [if_pos hx]; exact h.1 hx
    · rw [if_neg hx]; exact ih (h.2 hx)
/-- a call, and what is behind it -/
theorem fm_call {P : fm_Pr} {mi : Nat} {f : fm_F} {Q : fm_O → fm_M → Prop} {e : fm_En} {mj rk : Nat} {as : List fm_V} {g : fm_F} (he : fm_fetch (P.1 mi) f.1 = some e) (hs : fm_step P.2.2.2 e f.2.1 f.2.2.1 f.2.2.2 = fm_ca mj rk as g)
    (h : fm_Ev P mj (fm_entry (P.2.2.1 mj) as g.2.2.2) fun o M => match o with
      | .inl v => fm_Ev P mi (fm_push v g M) Q
      | .inr x => (∃ q, fm_hnd (P.2.1 mi) f.1 x = some q ∧ fm_Ev P mi (fm_hfr q g.2.1 M) Q) ∨ (fm_hnd (P.2.1 mi) f.1 x = none ∧ Q (.inr x) M)) : fm_Ev P mi f Q := by
  obtain ⟨n, ⟨o, M⟩, h1, h2⟩ := h
  cases o with
  | inl v =>
    obtain ⟨m, r, h3, h4⟩ := h2
    refine ⟨max n m + 1, r, ?_, h4⟩
    rw [fm_run, he]
    dsimp only
    rw [hs]
    dsimp only
    rw [fm_run_le P (Nat.le_max_left n m) h1]
    exact fm_run_le P (Nat.le_max_right n m) h3
  | inr x =>
    rcases h2 with ⟨q, hq, m, r, h3, h4⟩ | ⟨hq, h4⟩
    · refine ⟨max n m + 1, r, ?_, h4⟩
      rw [fm_run, he]
      dsimp only
      rw [hs]
      dsimp only
      rw [fm_run_le P (Nat.le_max_left n m) h1]
      dsimp only
      rw [hq]
      exact fm_run_le P (Nat.le_max_right n m) h3
    · refine ⟨n + 1, (.inr x, M), ?_, h4⟩
      rw [fm_run, he]
      dsimp only
      rw [hs]
      dsimp only
      rw [h1]
      dsimp only
      rw [hq]
/-- what must hold is enough -/
theorem fm_wp_ok (P : fm_Pr) (cl : List fm_En) (hs : List fm_H) (mi : Nat) (sp : List Nat) (hc : P.1 mi = cl) (hh : P.2.1 mi = hs) : ∀ (k : Nat) (b : Bool) (f : fm_F) (Q : fm_O → fm_M → Prop), fm_wp P cl hs mi sp k b f Q → fm_Ev P mi f Q := by
  subst hc
  subst hh
  intro k
  induction k with
  | zero => intro b f Q h; exact h
  | succ k ih =>
    intro b f Q h
    unfold fm_wp at h
    cases hb : (b && sp.contains f.1)
    · rw [hb, cond_false] at h
      split at h
      · exact h.elim
      · rename_i e he
        split at h
        · rename_i g hg
          refine fm_Ev.step (fun n r hr => ?_) (ih _ _ _ h)
          rw [fm_run, he]; dsimp only; rw [hg]; exact hr
        · rename_i c g hg
          refine fm_Ev.step (fun n r hr => ?_) (ih _ _ _ h.2)
          rw [fm_run, he]; dsimp only; rw [hg]; dsimp only; rw [if_pos h.1]; exact hr
        · rename_i c g g' hg
          by_cases hcc : c.1
          · refine fm_Ev.step (fun n r hr => ?_) (ih _ _ _ (h.1 hcc))
            rw [fm_run, he]; dsimp only; rw [hg]; dsimp only; rw [if_pos hcc]; exact hr
          · refine fm_Ev.step (fun n r hr => ?_) (ih _ _ _ (h.2 hcc))
            rw [fm_run, he]; dsimp only; rw [hg]; dsimp only; rw [if_neg hcc]; exact hr
        · rename_i mj rk as g hg
          have hX : ∀ x M, fm_hw (P.2.1 mi) f.1 (fun h => fm_wp P (P.1 mi) (P.2.1 mi) mi sp k true (fm_hfr h g.2.1 M) Q) (Q (.inr x) M) x → (∃ q, fm_hnd (P.2.1 mi) f.1 x = some q ∧ fm_Ev P mi (fm_hfr q g.2.1 M) Q) ∨ (fm_hnd (P.2.1 mi) f.1 x = none ∧ Q (.inr x) M) := by
            intro x M hx
            rcases fm_hw_out hx with ⟨q, h1, h2⟩ | h1
            · exact Or.inl ⟨q, h1, ih _ _ _ h2⟩
            · exact Or.inr h1
          refine fm_call he hg ?_
          have hM : ∀ (M : fm_M), M.2 = g.2.2.2.2 → M = (M.1, g.2.2.2.2) := fun M e => by rw [← e]
          split at h <;> refine fm_Ev.mono h fun o M ho => ?_ <;> (split at ho <;> first | exact ho.elim | (rw [hM M ho.1]; exact ih _ _ _ ho.2) | (rw [hM M ho.1]; exact hX _ _ ho.2))
        · rename_i q hg
          exact ⟨1, q, by rw [fm_run, he]; dsimp only; rw [hg], h⟩
        · rename_i x l d hg
          refine fm_Ev.step (fun n r hr => ?_) (ih _ _ _ (fm_sww_out h))
          rw [fm_run, he]; dsimp only; rw [hg]; exact hr
        · rename_i c q hg
          exact ⟨1, q, by rw [fm_run, he]; dsimp only; rw [hg]; dsimp only; rw [if_pos h.1], h.2⟩
        · exact h.elim
    · rw [hb, cond_true] at h
      exact h
end
section
/-! printed by a program: the code of each method as rows, its handlers and locals; the cells' shapes -/
/-- FeederlightLaw.law([I)Z -/
def fm_c0 : List fm_En := [(0, .new 8, 3, [0, 5, 11, 0]), (3, .dup, 1, []), (4, .invokespecial 103, 3, [1, 0, 1, 0]), (7, .astore_n 1, 1, [1]), (8, .new 104, 3, [0, 6, 33, 1]), (11, .dup, 1, []), (12, .invokespecial 106, 3, [61, 0, 1, 1]), (15, .astore_n 2, 1, [1]), (16, .iconst 1, 1, []), (17, .newarray .long, 2, [12]), (19, .astore_n 3, 1, [1]), (20, .iconst 1, 1, []), (21, .newarray .double, 2, [13]), (23, .astore 4, 2, [1]), (25, .iconst 0, 1, []), (26, .istore 5, 2, [1]), (28, .iload 5, 2, []), (30, .aload_n 0, 1, []), (31, .arraylength, 1, []), (32, .iconst 4, 1, []), (33, .isub, 1, []), (34, .if_icmp .gt 1937, 3, [1971]), (37, .aload_n 0, 1, []), (38, .iload 5, 2, []), (40, .iaload, 1, []), (41, .bipush 63, 2, []), (43, .iand, 1, []), (44, .tableswitch 1921 0 34 #[156, 236, 316, 372, 440, 508, 564, 632, 700, 768, 836, 849, 905, 961, 974, 1037, 1093, 1156, 1212, 1268, 1324, 1337, 1350, 1413, 1469, 1525, 1569, 1613, 1669, 1732, 1745, 1759, 1802, 1843, 1908], 156, [1965, 200, 280, 360, 416, 484, 552, 608, 676, 744, 812, 880, 893, 949, 1005, 1018, 1081, 1137, 1200, 1256, 1312, 1368, 1381, 1394, 1457, 1513, 1569, 1613, 1657, 1713, 1776, 1789, 1803, 1846, 1887, 1952]), (200, .aload_n 1, 1, []), (201, .aload_n 0, 1, []), (202, .iload 5, 2, []), (204, .iconst 1, 1, []), (205, .iadd, 1, []), (206, .iaload, 1, []), (207, .aload_n 0, 1, []), (208, .iload 5, 2, []), (210, .iconst 2, 1, []), (211, .iadd, 1, []), (212, .iaload, 1, []), (213, .aload_n 0, 1, []), (214, .iload 5, 2, []), (216, .iconst 3, 1, []), (217, .iadd, 1, []), (218, .iaload, 1, []), (219, .aload_n 3, 1, []), (220, .invokestatic 107, 3, [142, 1, 5, 2]), (223, .istore 6, 2, [1]), (225, .aload_n 2, 1, []), (226, .aload_n 0, 1, []), (227, .iload 5, 2, []), (229, .iconst 1, 1, []), (230, .iadd, 1, []), (231, .iaload, 1, []), (232, .aload_n 0, 1, []), (233, .iload 5, 2, []), (235, .iconst 2, 1, []), (236, .iadd, 1, []), (237, .iaload, 1, []), (238, .aload_n 0, 1, []), (239, .iload 5, 2, []), (241, .iconst 3, 1, []), (242, .iadd, 1, []), (243, .iaload, 1, []), (244, .invokevirtual 112, 3, [66, 1, 4, 3, 6]), (247, .istore 7, 2, [1]), (249, .aload_n 2, 1, []), (250, .invokevirtual 113, 3, [62, 1, 1, 4, 6]), (253, .iload 6, 2, []), (255, .if_icmp .eq 5, 3, [260]), (258, .iconst 0, 1, []), (259, .ireturn, 1, [1]), (260, .iload 6, 2, []), (262, .ifCond .ne 15, 3, [277]), (265, .aload_n 3, 1, []), (266, .iconst 0, 1, []), (267, .laload, 1, []), (268, .iload 7, 2, []), (270, .i2l, 1, []), (271, .lcmp, 1, []), (272, .ifCond .eq 5, 3, [277]), (275, .iconst 0, 1, []), (276, .ireturn, 1, [1]), (277, .goto 1688, 3, [1965]), (280, .aload_n 1, 1, []), (281, .aload_n 0, 1, []), (282, .iload 5, 2, []), (284, .iconst 1, 1, []), (285, .iadd, 1, []), (286, .iaload, 1, []), (287, .aload_n 0, 1, []), (288, .iload 5, 2, []), (290, .iconst 2, 1, []), (291, .iadd, 1, []), (292, .iaload, 1, []), (293, .aload_n 0, 1, []), (294, .iload 5, 2, []), (296, .iconst 3, 1, []), (297, .iadd, 1, []), (298, .iaload, 1, []), (299, .aload_n 3, 1, []), (300, .invokestatic 116, 3, [143, 1, 5, 5]), (303, .istore 6, 2, [1]), (305, .aload_n 2, 1, []), (306, .aload_n 0, 1, []), (307, .iload 5, 2, []), (309, .iconst 1, 1, []), (310, .iadd, 1, []), (311, .iaload, 1, []), (312, .aload_n 0, 1, []), (313, .iload 5, 2, []), (315, .iconst 2, 1, []), (316, .iadd, 1, []), (317, .iaload, 1, []), (318, .aload_n 0, 1, []), (319, .iload 5, 2, []), (321, .iconst 3, 1, []), (322, .iadd, 1, []), (323, .iaload, 1, []), (324, .invokevirtual 118, 3, [67, 1, 4, 6, 6]), (327, .istore 7, 2, [1]), (329, .aload_n 2, 1, []), (330, .invokevirtual 113, 3, [62, 1, 1, 4, 6]), (333, .iload 6, 2, []), (335, .if_icmp .eq 5, 3, [340]), (338, .iconst 0, 1, []), (339, .ireturn, 1, [1]), (340, .iload 6, 2, []), (342, .ifCond .ne 15, 3, [357]), (345, .aload_n 3, 1, []), (346, .iconst 0, 1, []), (347, .laload, 1, []), (348, .iload 7, 2, []), (350, .i2l, 1, []), (351, .lcmp, 1, []), (352, .ifCond .eq 5, 3, [357]), (355, .iconst 0, 1, []), (356, .ireturn, 1, [1]), (357, .goto 1608, 3, [1965]), (360, .aload_n 1, 1, []), (361, .aload_n 0, 1, []), (362, .iload 5, 2, []), (364, .iconst 1, 1, []), (365, .iadd, 1, []), (366, .iaload, 1, []), (367, .aload_n 3, 1, []), (368, .invokestatic 119, 3, [144, 1, 3, 7]), (371, .istore 6, 2, [1]), (373, .aload_n 2, 1, []), (374, .aload_n 0, 1, []), (375, .iload 5, 2, []), (377, .iconst 1, 1, []), (378, .iadd, 1, []), (379, .iaload, 1, []), (380, .invokevirtual 122, 3, [68, 1, 2, 8, 6]), (383, .istore 7, 2, [1]), (385, .aload_n 2, 1, []), (386, .invokevirtual 113, 3, [62, 1, 1, 4, 6]), (389, .iload 6, 2, []), (391, .if_icmp .eq 5, 3, [396]), (394, .iconst 0, 1, []), (395, .ireturn, 1, [1]), (396, .iload 6, 2, []), (398, .ifCond .ne 15, 3, [413]), (401, .aload_n 3, 1, []), (402, .iconst 0, 1, []), (403, .laload, 1, []), (404, .iload 7, 2, []), (406, .i2l, 1, []), (407, .lcmp, 1, []), (408, .ifCond .eq 5, 3, [413]), (411, .iconst 0, 1, []), (412, .ireturn, 1, [1]), (413, .goto 1552, 3, [1965]), (416, .aload_n 1, 1, []), (417, .aload_n 0, 1, []), (418, .iload 5, 2, []), (420, .iconst 1, 1, []), (421, .iadd, 1, []), (422, .iaload, 1, []), (423, .aload_n 0, 1, []), (424, .iload 5, 2, []), (426, .iconst 2, 1, []), (427, .iadd, 1, []), (428, .iaload, 1, []), (429, .aload_n 3, 1, []), (430, .invokestatic 123, 3, [145, 1, 4, 9]), (433, .istore 6, 2, [1]), (435, .aload_n 2, 1, []), (436, .aload_n 0, 1, []), (437, .iload 5, 2, []), (439, .iconst 1, 1, []), (440, .iadd, 1, []), (441, .iaload, 1, []), (442, .aload_n 0, 1, []), (443, .iload 5, 2, []), (445, .iconst 2, 1, []), (446, .iadd, 1, []), (447, .iaload, 1, []), (448, .invokevirtual 126, 3, [69, 1, 3, 10, 6]), (451, .istore 7, 2, [1]), (453, .aload_n 2, 1, []), (454, .invokevirtual 113, 3, [62, 1, 1, 4, 6]), (457, .iload 6, 2, []), (459, .if_icmp .eq 5, 3, [464]), (462, .iconst 0, 1, []), (463, .ireturn, 1, [1]), (464, .iload 6, 2, []), (466, .ifCond .ne 15, 3, [481]), (469, .aload_n 3, 1, []), (470, .iconst 0, 1, []), (471, .laload, 1, []), (472, .iload 7, 2, []), (474, .i2l, 1, []), (475, .lcmp, 1, []), (476, .ifCond .eq 5, 3, [481]), (479, .iconst 0, 1, []), (480, .ireturn, 1, [1]), (481, .goto 1484, 3, [1965]), (484, .aload_n 1, 1, []), (485, .aload_n 0, 1, []), (486, .iload 5, 2, []), (488, .iconst 1, 1, []), (489, .iadd, 1, []), (490, .iaload, 1, []), (491, .aload_n 0, 1, []), (492, .iload 5, 2, []), (494, .iconst 2, 1, []), (495, .iadd, 1, []), (496, .iaload, 1, []), (497, .aload_n 3, 1, []), (498, .invokestatic 127, 3, [146, 1, 4, 11]), (501, .istore 6, 2, [1]), (503, .aload_n 2, 1, []), (504, .aload_n 0, 1, []), (505, .iload 5, 2, []), (507, .iconst 1, 1, []), (508, .iadd, 1, []), (509, .iaload, 1, []), (510, .aload_n 0, 1, []), (511, .iload 5, 2, []), (513, .iconst 2, 1, []), (514, .iadd, 1, []), (515, .iaload, 1, []), (516, .invokevirtual 129, 3, [70, 1, 3, 12, 6]), (519, .istore 7, 2, [1]), (521, .aload_n 2, 1, []), (522, .invokevirtual 113, 3, [62, 1, 1, 4, 6]), (525, .iload 6, 2, []), (527, .if_icmp .eq 5, 3, [532]), (530, .iconst 0, 1, []), (531, .ireturn, 1, [1]), (532, .iload 6, 2, []), (534, .ifCond .ne 15, 3, [549]), (537, .aload_n 3, 1, []), (538, .iconst 0, 1, []), (539, .laload, 1, []), (540, .iload 7, 2, []), (542, .i2l, 1, []), (543, .lcmp, 1, []), (544, .ifCond .eq 5, 3, [549]), (547, .iconst 0, 1, []), (548, .ireturn, 1, [1]), (549, .goto 1416, 3, [1965]), (552, .aload_n 1, 1, []), (553, .aload_n 0, 1, []), (554, .iload 5, 2, []), (556, .iconst 1, 1, []), (557, .iadd, 1, []), (558, .iaload, 1, []), (559, .aload_n 3, 1, []), (560, .invokestatic 130, 3, [147, 1, 3, 13]), (563, .istore 6, 2, [1]), (565, .aload_n 2, 1, []), (566, .aload_n 0, 1, []), (567, .iload 5, 2, []), (569, .iconst 1, 1, []), (570, .iadd, 1, []), (571, .iaload, 1, []), (572, .invokevirtual 132, 3, [71, 1, 2, 14, 6]), (575, .istore 7, 2, [1]), (577, .aload_n 2, 1, []), (578, .invokevirtual 113, 3, [62, 1, 1, 4, 6]), (581, .iload 6, 2, []), (583, .if_icmp .eq 5, 3, [588]), (586, .iconst 0, 1, []), (587, .ireturn, 1, [1]), (588, .iload 6, 2, []), (590, .ifCond .ne 15, 3, [605]), (593, .aload_n 3, 1, []), (594, .iconst 0, 1, []), (595, .laload, 1, []), (596, .iload 7, 2, []), (598, .i2l, 1, []), (599, .lcmp, 1, []), (600, .ifCond .eq 5, 3, [605]), (603, .iconst 0, 1, []), (604, .ireturn, 1, [1]), (605, .goto 1360, 3, [1965]), (608, .aload_n 1, 1, []), (609, .aload_n 0, 1, []), (610, .iload 5, 2, []), (612, .iconst 1, 1, []), (613, .iadd, 1, []), (614, .iaload, 1, []), (615, .aload_n 0, 1, []), (616, .iload 5, 2, []), (618, .iconst 2, 1, []), (619, .iadd, 1, []), (620, .iaload, 1, []), (621, .aload_n 3, 1, []), (622, .invokestatic 133, 3, [148, 1, 4, 15]), (625, .istore 6, 2, [1]), (627, .aload_n 2, 1, []), (628, .aload_n 0, 1, []), (629, .iload 5, 2, []), (631, .iconst 1, 1, []), (632, .iadd, 1, []), (633, .iaload, 1, []), (634, .aload_n 0, 1, []), (635, .iload 5, 2, []), (637, .iconst 2, 1, []), (638, .iadd, 1, []), (639, .iaload, 1, []), (640, .invokevirtual 135, 3, [72, 1, 3, 16, 6]), (643, .istore 7, 2, [1]), (645, .aload_n 2, 1, []), (646, .invokevirtual 113, 3, [62, 1, 1, 4, 6]), (649, .iload 6, 2, []), (651, .if_icmp .eq 5, 3, [656]), (654, .iconst 0, 1, []), (655, .ireturn, 1, [1]), (656, .iload 6, 2, []), (658, .ifCond .ne 15, 3, [673]), (661, .aload_n 3, 1, []), (662, .iconst 0, 1, []), (663, .laload, 1, []), (664, .iload 7, 2, []), (666, .i2l, 1, []), (667, .lcmp, 1, []), (668, .ifCond .eq 5, 3, [673]), (671, .iconst 0, 1, []), (672, .ireturn, 1, [1]), (673, .goto 1292, 3, [1965]), (676, .aload_n 1, 1, []), (677, .aload_n 0, 1, []), (678, .iload 5, 2, []), (680, .iconst 1, 1, []), (681, .iadd, 1, []), (682, .iaload, 1, []), (683, .aload_n 0, 1, []), (684, .iload 5, 2, []), (686, .iconst 2, 1, []), (687, .iadd, 1, []), (688, .iaload, 1, []), (689, .aload_n 3, 1, []), (690, .invokestatic 136, 3, [149, 1, 4, 17]), (693, .istore 6, 2, [1]), (695, .aload_n 2, 1, []), (696, .aload_n 0, 1, []), (697, .iload 5, 2, []), (699, .iconst 1, 1, []), (700, .iadd, 1, []), (701, .iaload, 1, []), (702, .aload_n 0, 1, []), (703, .iload 5, 2, []), (705, .iconst 2, 1, []), (706, .iadd, 1, []), (707, .iaload, 1, []), (708, .invokevirtual 138, 3, [74, 1, 3, 18, 6]), (711, .istore 7, 2, [1]), (713, .aload_n 2, 1, []), (714, .invokevirtual 113, 3, [62, 1, 1, 4, 6]), (717, .iload 6, 2, []), (719, .if_icmp .eq 5, 3, [724]), (722, .iconst 0, 1, []), (723, .ireturn, 1, [1]), (724, .iload 6, 2, []), (726, .ifCond .ne 15, 3, [741]), (729, .aload_n 3, 1, []), (730, .iconst 0, 1, []), (731, .laload, 1, []), (732, .iload 7, 2, []), (734, .i2l, 1, []), (735, .lcmp, 1, []), (736, .ifCond .eq 5, 3, [741]), (739, .iconst 0, 1, []), (740, .ireturn, 1, [1]), (741, .goto 1224, 3, [1965]), (744, .aload_n 1, 1, []), (745, .aload_n 0, 1, []), (746, .iload 5, 2, []), (748, .iconst 1, 1, []), (749, .iadd, 1, []), (750, .iaload, 1, []), (751, .aload_n 0, 1, []), (752, .iload 5, 2, []), (754, .iconst 2, 1, []), (755, .iadd, 1, []), (756, .iaload, 1, []), (757, .aload_n 3, 1, []), (758, .invokestatic 139, 3, [150, 1, 4, 19]), (761, .istore 6, 2, [1]), (763, .aload_n 2, 1, []), (764, .aload_n 0, 1, []), (765, .iload 5, 2, []), (767, .iconst 1, 1, []), (768, .iadd, 1, []), (769, .iaload, 1, []), (770, .aload_n 0, 1, []), (771, .iload 5, 2, []), (773, .iconst 2, 1, []), (774, .iadd, 1, []), (775, .iaload, 1, []), (776, .invokevirtual 141, 3, [75, 1, 3, 20, 6]), (779, .istore 7, 2, [1]), (781, .aload_n 2, 1, []), (782, .invokevirtual 113, 3, [62, 1, 1, 4, 6]), (785, .iload 6, 2, []), (787, .if_icmp .eq 5, 3, [792]), (790, .iconst 0, 1, []), (791, .ireturn, 1, [1]), (792, .iload 6, 2, []), (794, .ifCond .ne 15, 3, [809]), (797, .aload_n 3, 1, []), (798, .iconst 0, 1, []), (799, .laload, 1, []), (800, .iload 7, 2, []), (802, .i2l, 1, []), (803, .lcmp, 1, []), (804, .ifCond .eq 5, 3, [809]), (807, .iconst 0, 1, []), (808, .ireturn, 1, [1]), (809, .goto 1156, 3, [1965]), (812, .aload_n 1, 1, []), (813, .aload_n 0, 1, []), (814, .iload 5, 2, []), (816, .iconst 1, 1, []), (817, .iadd, 1, []), (818, .iaload, 1, []), (819, .aload_n 0, 1, []), (820, .iload 5, 2, []), (822, .iconst 2, 1, []), (823, .iadd, 1, []), (824, .iaload, 1, []), (825, .aload_n 3, 1, []), (826, .invokestatic 142, 3, [151, 1, 4, 21]), (829, .istore 6, 2, [1]), (831, .aload_n 2, 1, []), (832, .aload_n 0, 1, []), (833, .iload 5, 2, []), (835, .iconst 1, 1, []), (836, .iadd, 1, []), (837, .iaload, 1, []), (838, .aload_n 0, 1, []), (839, .iload 5, 2, []), (841, .iconst 2, 1, []), (842, .iadd, 1, []), (843, .iaload, 1, []), (844, .invokevirtual 144, 3, [77, 1, 3, 22, 6]), (847, .istore 7, 2, [1]), (849, .aload_n 2, 1, []), (850, .invokevirtual 113, 3, [62, 1, 1, 4, 6]), (853, .iload 6, 2, []), (855, .if_icmp .eq 5, 3, [860]), (858, .iconst 0, 1, []), (859, .ireturn, 1, [1]), (860, .iload 6, 2, []), (862, .ifCond .ne 15, 3, [877]), (865, .aload_n 3, 1, []), (866, .iconst 0, 1, []), (867, .laload, 1, []), (868, .iload 7, 2, []), (870, .i2l, 1, []), (871, .lcmp, 1, []), (872, .ifCond .eq 5, 3, [877]), (875, .iconst 0, 1, []), (876, .ireturn, 1, [1]), (877, .goto 1088, 3, [1965]), (880, .aload_n 1, 1, []), (881, .invokevirtual 145, 3, [12, 1, 1, 23, 5]), (884, .aload_n 2, 1, []), (885, .invokevirtual 148, 3, [86, 1, 1, 24, 6]), (888, .if_icmp .eq 1077, 3, [1965]), (891, .iconst 0, 1, []), (892, .ireturn, 1, [1]), (893, .aload_n 1, 1, []), (894, .aload_n 0, 1, []), (895, .iload 5, 2, []), (897, .iconst 1, 1, []), (898, .iadd, 1, []), (899, .iaload, 1, []), (900, .aload_n 3, 1, []), (901, .invokestatic 149, 3, [152, 1, 3, 25]), (904, .istore 6, 2, [1]), (906, .aload_n 2, 1, []), (907, .aload_n 0, 1, []), (908, .iload 5, 2, []), (910, .iconst 1, 1, []), (911, .iadd, 1, []), (912, .iaload, 1, []), (913, .invokevirtual 151, 3, [87, 1, 2, 26, 6]), (916, .istore 7, 2, [1]), (918, .aload_n 2, 1, []), (919, .invokevirtual 113, 3, [62, 1, 1, 4, 6]), (922, .iload 6, 2, []), (924, .if_icmp .eq 5, 3, [929]), (927, .iconst 0, 1, []), (928, .ireturn, 1, [1]), (929, .iload 6, 2, []), (931, .ifCond .ne 15, 3, [946]), (934, .aload_n 3, 1, []), (935, .iconst 0, 1, []), (936, .laload, 1, []), (937, .iload 7, 2, []), (939, .i2l, 1, []), (940, .lcmp, 1, []), (941, .ifCond .eq 5, 3, [946]), (944, .iconst 0, 1, []), (945, .ireturn, 1, [1]), (946, .goto 1019, 3, [1965]), (949, .aload_n 1, 1, []), (950, .aload_n 0, 1, []), (951, .iload 5, 2, []), (953, .iconst 1, 1, []), (954, .iadd, 1, []), (955, .iaload, 1, []), (956, .aload_n 3, 1, []), (957, .invokestatic 152, 3, [153, 1, 3, 27]), (960, .istore 6, 2, [1]), (962, .aload_n 2, 1, []), (963, .aload_n 0, 1, []), (964, .iload 5, 2, []), (966, .iconst 1, 1, []), (967, .iadd, 1, []), (968, .iaload, 1, []), (969, .invokevirtual 154, 3, [88, 1, 2, 28, 6]), (972, .istore 7, 2, [1]), (974, .aload_n 2, 1, []), (975, .invokevirtual 113, 3, [62, 1, 1, 4, 6]), (978, .iload 6, 2, []), (980, .if_icmp .eq 5, 3, [985]), (983, .iconst 0, 1, []), (984, .ireturn, 1, [1]), (985, .iload 6, 2, []), (987, .ifCond .ne 15, 3, [1002]), (990, .aload_n 3, 1, []), (991, .iconst 0, 1, []), (992, .laload, 1, []), (993, .iload 7, 2, []), (995, .i2l, 1, []), (996, .lcmp, 1, []), (997, .ifCond .eq 5, 3, [1002]), (1000, .iconst 0, 1, []), (1001, .ireturn, 1, [1]), (1002, .goto 963, 3, [1965]), (1005, .aload_n 1, 1, []), (1006, .invokevirtual 155, 3, [15, 1, 1, 29, 5]), (1009, .aload_n 2, 1, []), (1010, .invokevirtual 158, 3, [90, 1, 1, 30, 6]), (1013, .if_icmp .eq 952, 3, [1965]), (1016, .iconst 0, 1, []), (1017, .ireturn, 1, [1]), (1018, .aload_n 1, 1, []), (1019, .aload_n 0, 1, []), (1020, .iload 5, 2, []), (1022, .iconst 1, 1, []), (1023, .iadd, 1, []), (1024, .iaload, 1, []), (1025, .aload_n 3, 1, []), (1026, .invokestatic 159, 3, [154, 1, 3, 31]), (1029, .istore 6, 2, [1]), (1031, .aload_n 2, 1, []), (1032, .aload_n 0, 1, []), (1033, .iload 5, 2, []), (1035, .iconst 1, 1, []), (1036, .iadd, 1, []), (1037, .iaload, 1, []), (1038, .invokevirtual 161, 3, [91, 1, 2, 32, 6]), (1041, .istore 7, 2, [1]), (1043, .aload_n 2, 1, []), (1044, .invokevirtual 113, 3, [62, 1, 1, 4, 6]), (1047, .iload 6, 2, []), (1049, .if_icmp .eq 5, 3, [1054]), (1052, .iconst 0, 1, []), (1053, .ireturn, 1, [1]), (1054, .iload 6, 2, []), (1056, .ifCond .ne 22, 3, [1078]), (1059, .aload_n 3, 1, []), (1060, .iconst 0, 1, []), (1061, .laload, 1, []), (1062, .iload 7, 2, []), (1064, .ifCond .eq 7, 3, [1071]), (1067, .lconst 1, 1, []), (1068, .goto 4, 3, [1072]), (1071, .lconst 0, 1, []), (1072, .lcmp, 1, []), (1073, .ifCond .eq 5, 3, [1078]), (1076, .iconst 0, 1, []), (1077, .ireturn, 1, [1]), (1078, .goto 887, 3, [1965]), (1081, .aload_n 1, 1, []), (1082, .aload_n 0, 1, []), (1083, .iload 5, 2, []), (1085, .iconst 1, 1, []), (1086, .iadd, 1, []), (1087, .iaload, 1, []), (1088, .aload_n 3, 1, []), (1089, .invokestatic 162, 3, [155, 1, 3, 33]), (1092, .istore 6, 2, [1]), (1094, .aload_n 2, 1, []), (1095, .aload_n 0, 1, []), (1096, .iload 5, 2, []), (1098, .iconst 1, 1, []), (1099, .iadd, 1, []), (1100, .iaload, 1, []), (1101, .invokevirtual 164, 3, [93, 1, 2, 34, 6]), (1104, .istore 7, 2, [1]), (1106, .aload_n 2, 1, []), (1107, .invokevirtual 113, 3, [62, 1, 1, 4, 6]), (1110, .iload 6, 2, []), (1112, .if_icmp .eq 5, 3, [1117]), (1115, .iconst 0, 1, []), (1116, .ireturn, 1, [1]), (1117, .iload 6, 2, []), (1119, .ifCond .ne 15, 3, [1134]), (1122, .aload_n 3, 1, []), (1123, .iconst 0, 1, []), (1124, .laload, 1, []), (1125, .iload 7, 2, []), (1127, .i2l, 1, []), (1128, .lcmp, 1, []), (1129, .ifCond .eq 5, 3, [1134]), (1132, .iconst 0, 1, []), (1133, .ireturn, 1, [1]), (1134, .goto 831, 3, [1965]), (1137, .aload_n 1, 1, []), (1138, .aload_n 0, 1, []), (1139, .iload 5, 2, []), (1141, .iconst 1, 1, []), (1142, .iadd, 1, []), (1143, .iaload, 1, []), (1144, .aload_n 3, 1, []), (1145, .invokestatic 165, 3, [156, 1, 3, 35]), (1148, .istore 6, 2, [1]), (1150, .aload_n 2, 1, []), (1151, .aload_n 0, 1, []), (1152, .iload 5, 2, []), (1154, .iconst 1, 1, []), (1155, .iadd, 1, []), (1156, .iaload, 1, []), (1157, .invokevirtual 167, 3, [94, 1, 2, 36, 6]), (1160, .istore 7, 2, [1]), (1162, .aload_n 2, 1, []), (1163, .invokevirtual 113, 3, [62, 1, 1, 4, 6]), (1166, .iload 6, 2, []), (1168, .if_icmp .eq 5, 3, [1173]), (1171, .iconst 0, 1, []), (1172, .ireturn, 1, [1]), (1173, .iload 6, 2, []), (1175, .ifCond .ne 22, 3, [1197]), (1178, .aload_n 3, 1, []), (1179, .iconst 0, 1, []), (1180, .laload, 1, []), (1181, .iload 7, 2, []), (1183, .ifCond .eq 7, 3, [1190]), (1186, .lconst 1, 1, []), (1187, .goto 4, 3, [1191]), (1190, .lconst 0, 1, []), (1191, .lcmp, 1, []), (1192, .ifCond .eq 5, 3, [1197]), (1195, .iconst 0, 1, []), (1196, .ireturn, 1, [1]), (1197, .goto 768, 3, [1965]), (1200, .aload_n 1, 1, []), (1201, .aload_n 0, 1, []), (1202, .iload 5, 2, []), (1204, .iconst 1, 1, []), (1205, .iadd, 1, []), (1206, .iaload, 1, []), (1207, .aload_n 3, 1, []), (1208, .invokestatic 168, 3, [157, 1, 3, 37]), (1211, .istore 6, 2, [1]), (1213, .aload_n 2, 1, []), (1214, .aload_n 0, 1, []), (1215, .iload 5, 2, []), (1217, .iconst 1, 1, []), (1218, .iadd, 1, []), (1219, .iaload, 1, []), (1220, .invokevirtual 170, 3, [95, 1, 2, 38, 6]), (1223, .istore 7, 2, [1]), (1225, .aload_n 2, 1, []), (1226, .invokevirtual 113, 3, [62, 1, 1, 4, 6]), (1229, .iload 6, 2, []), (1231, .if_icmp .eq 5, 3, [1236]), (1234, .iconst 0, 1, []), (1235, .ireturn, 1, [1]), (1236, .iload 6, 2, []), (1238, .ifCond .ne 15, 3, [1253]), (1241, .aload_n 3, 1, []), (1242, .iconst 0, 1, []), (1243, .laload, 1, []), (1244, .iload 7, 2, []), (1246, .i2l, 1, []), (1247, .lcmp, 1, []), (1248, .ifCond .eq 5, 3, [1253]), (1251, .iconst 0, 1, []), (1252, .ireturn, 1, [1]), (1253, .goto 712, 3, [1965]), (1256, .aload_n 1, 1, []), (1257, .aload_n 0, 1, []), (1258, .iload 5, 2, []), (1260, .iconst 1, 1, []), (1261, .iadd, 1, []), (1262, .iaload, 1, []), (1263, .aload_n 3, 1, []), (1264, .invokestatic 171, 3, [158, 1, 3, 39]), (1267, .istore 6, 2, [1]), (1269, .aload_n 2, 1, []), (1270, .aload_n 0, 1, []), (1271, .iload 5, 2, []), (1273, .iconst 1, 1, []), (1274, .iadd, 1, []), (1275, .iaload, 1, []), (1276, .invokevirtual 173, 3, [96, 1, 2, 40, 6]), (1279, .istore 7, 2, [1]), (1281, .aload_n 2, 1, []), (1282, .invokevirtual 113, 3, [62, 1, 1, 4, 6]), (1285, .iload 6, 2, []), (1287, .if_icmp .eq 5, 3, [1292]), (1290, .iconst 0, 1, []), (1291, .ireturn, 1, [1]), (1292, .iload 6, 2, []), (1294, .ifCond .ne 15, 3, [1309]), (1297, .aload_n 3, 1, []), (1298, .iconst 0, 1, []), (1299, .laload, 1, []), (1300, .iload 7, 2, []), (1302, .i2l, 1, []), (1303, .lcmp, 1, []), (1304, .ifCond .eq 5, 3, [1309]), (1307, .iconst 0, 1, []), (1308, .ireturn, 1, [1]), (1309, .goto 656, 3, [1965]), (1312, .aload_n 1, 1, []), (1313, .aload_n 0, 1, []), (1314, .iload 5, 2, []), (1316, .iconst 1, 1, []), (1317, .iadd, 1, []), (1318, .iaload, 1, []), (1319, .aload_n 3, 1, []), (1320, .invokestatic 174, 3, [159, 1, 3, 41]), (1323, .istore 6, 2, [1]), (1325, .aload_n 2, 1, []), (1326, .aload_n 0, 1, []), (1327, .iload 5, 2, []), (1329, .iconst 1, 1, []), (1330, .iadd, 1, []), (1331, .iaload, 1, []), (1332, .invokevirtual 176, 3, [97, 1, 2, 42, 6]), (1335, .istore 7, 2, [1]), (1337, .aload_n 2, 1, []), (1338, .invokevirtual 113, 3, [62, 1, 1, 4, 6]), (1341, .iload 6, 2, []), (1343, .if_icmp .eq 5, 3, [1348]), (1346, .iconst 0, 1, []), (1347, .ireturn, 1, [1]), (1348, .iload 6, 2, []), (1350, .ifCond .ne 15, 3, [1365]), (1353, .aload_n 3, 1, []), (1354, .iconst 0, 1, []), (1355, .laload, 1, []), (1356, .iload 7, 2, []), (1358, .i2l, 1, []), (1359, .lcmp, 1, []), (1360, .ifCond .eq 5, 3, [1365]), (1363, .iconst 0, 1, []), (1364, .ireturn, 1, [1]), (1365, .goto 600, 3, [1965]), (1368, .aload_n 1, 1, []), (1369, .invokevirtual 177, 3, [22, 1, 1, 43, 5]), (1372, .aload_n 2, 1, []), (1373, .invokevirtual 180, 3, [98, 1, 1, 44, 6]), (1376, .if_icmp .eq 589, 3, [1965]), (1379, .iconst 0, 1, []), (1380, .ireturn, 1, [1]), (1381, .aload_n 1, 1, []), (1382, .invokevirtual 181, 3, [23, 1, 1, 45, 5]), (1385, .aload_n 2, 1, []), (1386, .invokevirtual 185, 3, [99, 1, 1, 46, 6]), (1389, .if_icmp .eq 576, 3, [1965]), (1392, .iconst 0, 1, []), (1393, .ireturn, 1, [1]), (1394, .aload_n 1, 1, []), (1395, .aload_n 0, 1, []), (1396, .iload 5, 2, []), (1398, .iconst 1, 1, []), (1399, .iadd, 1, []), (1400, .iaload, 1, []), (1401, .aload_n 3, 1, []), (1402, .invokestatic 186, 3, [160, 1, 3, 47]), (1405, .istore 6, 2, [1]), (1407, .aload_n 2, 1, []), (1408, .aload_n 0, 1, []), (1409, .iload 5, 2, []), (1411, .iconst 1, 1, []), (1412, .iadd, 1, []), (1413, .iaload, 1, []), (1414, .invokevirtual 188, 3, [100, 1, 2, 48, 6]), (1417, .istore 7, 2, [1]), (1419, .aload_n 2, 1, []), (1420, .invokevirtual 113, 3, [62, 1, 1, 4, 6]), (1423, .iload 6, 2, []), (1425, .if_icmp .eq 5, 3, [1430]), (1428, .iconst 0, 1, []), (1429, .ireturn, 1, [1]), (1430, .iload 6, 2, []), (1432, .ifCond .ne 22, 3, [1454]), (1435, .aload_n 3, 1, []), (1436, .iconst 0, 1, []), (1437, .laload, 1, []), (1438, .iload 7, 2, []), (1440, .ifCond .eq 7, 3, [1447]), (1443, .lconst 1, 1, []), (1444, .goto 4, 3, [1448]), (1447, .lconst 0, 1, []), (1448, .lcmp, 1, []), (1449, .ifCond .eq 5, 3, [1454]), (1452, .iconst 0, 1, []), (1453, .ireturn, 1, [1]), (1454, .goto 511, 3, [1965]), (1457, .aload_n 1, 1, []), (1458, .aload_n 0, 1, []), (1459, .iload 5, 2, []), (1461, .iconst 1, 1, []), (1462, .iadd, 1, []), (1463, .iaload, 1, []), (1464, .aload_n 3, 1, []), (1465, .invokestatic 189, 3, [161, 1, 3, 49]), (1468, .istore 6, 2, [1]), (1470, .aload_n 2, 1, []), (1471, .aload_n 0, 1, []), (1472, .iload 5, 2, []), (1474, .iconst 1, 1, []), (1475, .iadd, 1, []), (1476, .iaload, 1, []), (1477, .invokevirtual 191, 3, [101, 1, 2, 50, 6]), (1480, .istore 7, 2, [1]), (1482, .aload_n 2, 1, []), (1483, .invokevirtual 113, 3, [62, 1, 1, 4, 6]), (1486, .iload 6, 2, []), (1488, .if_icmp .eq 5, 3, [1493]), (1491, .iconst 0, 1, []), (1492, .ireturn, 1, [1]), (1493, .iload 6, 2, []), (1495, .ifCond .ne 15, 3, [1510]), (1498, .aload_n 3, 1, []), (1499, .iconst 0, 1, []), (1500, .laload, 1, []), (1501, .iload 7, 2, []), (1503, .i2l, 1, []), (1504, .lcmp, 1, []), (1505, .ifCond .eq 5, 3, [1510]), (1508, .iconst 0, 1, []), (1509, .ireturn, 1, [1]), (1510, .goto 455, 3, [1965]), (1513, .aload_n 1, 1, []), (1514, .aload_n 0, 1, []), (1515, .iload 5, 2, []), (1517, .iconst 1, 1, []), (1518, .iadd, 1, []), (1519, .iaload, 1, []), (1520, .aload_n 3, 1, []), (1521, .invokestatic 192, 3, [162, 1, 3, 51]), (1524, .istore 6, 2, [1]), (1526, .aload_n 2, 1, []), (1527, .aload_n 0, 1, []), (1528, .iload 5, 2, []), (1530, .iconst 1, 1, []), (1531, .iadd, 1, []), (1532, .iaload, 1, []), (1533, .invokevirtual 194, 3, [102, 1, 2, 52, 6]), (1536, .istore 7, 2, [1]), (1538, .aload_n 2, 1, []), (1539, .invokevirtual 113, 3, [62, 1, 1, 4, 6]), (1542, .iload 6, 2, []), (1544, .if_icmp .eq 5, 3, [1549]), (1547, .iconst 0, 1, []), (1548, .ireturn, 1, [1]), (1549, .iload 6, 2, []), (1551, .ifCond .ne 15, 3, [1566]), (1554, .aload_n 3, 1, []), (1555, .iconst 0, 1, []), (1556, .laload, 1, []), (1557, .iload 7, 2, []), (1559, .i2l, 1, []), (1560, .lcmp, 1, []), (1561, .ifCond .eq 5, 3, [1566]), (1564, .iconst 0, 1, []), (1565, .ireturn, 1, [1]), (1566, .goto 399, 3, [1965]), (1569, .aload_n 1, 1, []), (1570, .aload_n 3, 1, []), (1571, .invokestatic 195, 3, [163, 1, 2, 53]), (1574, .istore 6, 2, [1]), (1576, .aload_n 2, 1, []), (1577, .invokevirtual 198, 3, [104, 1, 1, 54, 6]), (1580, .istore 7, 2, [1]), (1582, .aload_n 2, 1, []), (1583, .invokevirtual 113, 3, [62, 1, 1, 4, 6]), (1586, .iload 6, 2, []), (1588, .if_icmp .eq 5, 3, [1593]), (1591, .iconst 0, 1, []), (1592, .ireturn, 1, [1]), (1593, .iload 6, 2, []), (1595, .ifCond .ne 15, 3, [1610]), (1598, .aload_n 3, 1, []), (1599, .iconst 0, 1, []), (1600, .laload, 1, []), (1601, .iload 7, 2, []), (1603, .i2l, 1, []), (1604, .lcmp, 1, []), (1605, .ifCond .eq 5, 3, [1610]), (1608, .iconst 0, 1, []), (1609, .ireturn, 1, [1]), (1610, .goto 355, 3, [1965]), (1613, .aload_n 1, 1, []), (1614, .aload_n 3, 1, []), (1615, .invokestatic 199, 3, [164, 1, 2, 55]), (1618, .istore 6, 2, [1]), (1620, .aload_n 2, 1, []), (1621, .invokevirtual 201, 3, [105, 1, 1, 56, 6]), (1624, .istore 7, 2, [1]), (1626, .aload_n 2, 1, []), (1627, .invokevirtual 113, 3, [62, 1, 1, 4, 6]), (1630, .iload 6, 2, []), (1632, .if_icmp .eq 5, 3, [1637]), (1635, .iconst 0, 1, []), (1636, .ireturn, 1, [1]), (1637, .iload 6, 2, []), (1639, .ifCond .ne 15, 3, [1654]), (1642, .aload_n 3, 1, []), (1643, .iconst 0, 1, []), (1644, .laload, 1, []), (1645, .iload 7, 2, []), (1647, .i2l, 1, []), (1648, .lcmp, 1, []), (1649, .ifCond .eq 5, 3, [1654]), (1652, .iconst 0, 1, []), (1653, .ireturn, 1, [1]), (1654, .goto 311, 3, [1965]), (1657, .aload_n 1, 1, []), (1658, .aload_n 0, 1, []), (1659, .iload 5, 2, []), (1661, .iconst 1, 1, []), (1662, .iadd, 1, []), (1663, .iaload, 1, []), (1664, .aload_n 3, 1, []), (1665, .invokestatic 202, 3, [165, 1, 3, 57]), (1668, .istore 6, 2, [1]), (1670, .aload_n 2, 1, []), (1671, .aload_n 0, 1, []), (1672, .iload 5, 2, []), (1674, .iconst 1, 1, []), (1675, .iadd, 1, []), (1676, .iaload, 1, []), (1677, .invokevirtual 204, 3, [107, 1, 2, 58, 6]), (1680, .istore 7, 2, [1]), (1682, .aload_n 2, 1, []), (1683, .invokevirtual 113, 3, [62, 1, 1, 4, 6]), (1686, .iload 6, 2, []), (1688, .if_icmp .eq 5, 3, [1693]), (1691, .iconst 0, 1, []), (1692, .ireturn, 1, [1]), (1693, .iload 6, 2, []), (1695, .ifCond .ne 15, 3, [1710]), (1698, .aload_n 3, 1, []), (1699, .iconst 0, 1, []), (1700, .laload, 1, []), (1701, .iload 7, 2, []), (1703, .i2l, 1, []), (1704, .lcmp, 1, []), (1705, .ifCond .eq 5, 3, [1710]), (1708, .iconst 0, 1, []), (1709, .ireturn, 1, [1]), (1710, .goto 255, 3, [1965]), (1713, .aload_n 1, 1, []), (1714, .aload_n 0, 1, []), (1715, .iload 5, 2, []), (1717, .iconst 1, 1, []), (1718, .iadd, 1, []), (1719, .iaload, 1, []), (1720, .aload_n 3, 1, []), (1721, .invokestatic 205, 3, [166, 1, 3, 59]), (1724, .istore 6, 2, [1]), (1726, .aload_n 2, 1, []), (1727, .aload_n 0, 1, []), (1728, .iload 5, 2, []), (1730, .iconst 1, 1, []), (1731, .iadd, 1, []), (1732, .iaload, 1, []), (1733, .invokevirtual 207, 3, [108, 1, 2, 60, 6]), (1736, .istore 7, 2, [1]), (1738, .aload_n 2, 1, []), (1739, .invokevirtual 113, 3, [62, 1, 1, 4, 6]), (1742, .iload 6, 2, []), (1744, .if_icmp .eq 5, 3, [1749]), (1747, .iconst 0, 1, []), (1748, .ireturn, 1, [1]), (1749, .iload 6, 2, []), (1751, .ifCond .ne 22, 3, [1773]), (1754, .aload_n 3, 1, []), (1755, .iconst 0, 1, []), (1756, .laload, 1, []), (1757, .iload 7, 2, []), (1759, .ifCond .eq 7, 3, [1766]), (1762, .lconst 1, 1, []), (1763, .goto 4, 3, [1767]), (1766, .lconst 0, 1, []), (1767, .lcmp, 1, []), (1768, .ifCond .eq 5, 3, [1773]), (1771, .iconst 0, 1, []), (1772, .ireturn, 1, [1]), (1773, .goto 192, 3, [1965]), (1776, .aload_n 1, 1, []), (1777, .invokevirtual 208, 3, [31, 1, 1, 61, 5]), (1780, .aload_n 2, 1, []), (1781, .invokevirtual 211, 3, [109, 1, 1, 62, 6]), (1784, .if_icmp .eq 181, 3, [1965]), (1787, .iconst 0, 1, []), (1788, .ireturn, 1, [1]), (1789, .aload_n 1, 1, []), (1790, .invokevirtual 212, 3, [32, 2, 1, 63, 5]), (1793, .aload_n 2, 1, []), (1794, .invokevirtual 216, 3, [110, 2, 1, 64, 6]), (1797, .lcmp, 1, []), (1798, .ifCond .eq 167, 3, [1965]), (1801, .iconst 0, 1, []), (1802, .ireturn, 1, [1]), (1803, .aload_n 1, 1, []), (1804, .invokevirtual 217, 3, [33, 3, 1, 65, 5]), (1807, .f2d, 1, []), (1808, .dstore 6, 2, [1]), (1810, .aload_n 2, 1, []), (1811, .invokevirtual 221, 3, [111, 3, 1, 66, 6]), (1814, .f2d, 1, []), (1815, .dstore 8, 2, [1]), (1817, .dload 6, 2, []), (1819, .dload 8, 2, []), (1821, .dcmp .l, 1, []), (1822, .ifCond .eq 21, 3, [1843]), (1825, .dload 6, 2, []), (1827, .dload 6, 2, []), (1829, .dcmp .l, 1, []), (1830, .ifCond .eq 11, 3, [1841]), (1833, .dload 8, 2, []), (1835, .dload 8, 2, []), (1837, .dcmp .l, 1, []), (1838, .ifCond .ne 5, 3, [1843]), (1841, .iconst 0, 1, []), (1842, .ireturn, 1, [1]), (1843, .goto 122, 3, [1965]), (1846, .aload_n 1, 1, []), (1847, .invokevirtual 222, 3, [34, 4, 1, 67, 5]), (1850, .dstore 6, 2, [1]), (1852, .aload_n 2, 1, []), (1853, .invokevirtual 225, 3, [112, 4, 1, 68, 6]), (1856, .dstore 8, 2, [1]), (1858, .dload 6, 2, []), (1860, .dload 8, 2, []), (1862, .dcmp .l, 1, []), (1863, .ifCond .eq 21, 3, [1884]), (1866, .dload 6, 2, []), (1868, .dload 6, 2, []), (1870, .dcmp .l, 1, []), (1871, .ifCond .eq 11, 3, [1882]), (1874, .dload 8, 2, []), (1876, .dload 8, 2, []), (1878, .dcmp .l, 1, []), (1879, .ifCond .ne 5, 3, [1884]), (1882, .iconst 0, 1, []), (1883, .ireturn, 1, [1]), (1884, .goto 81, 3, [1965]), (1887, .aload_n 1, 1, []), (1888, .aload 4, 2, []), (1890, .invokestatic 226, 3, [167, 1, 2, 69]), (1893, .istore 6, 2, [1]), (1895, .aload_n 2, 1, []), (1896, .invokevirtual 229, 3, [113, 4, 1, 70, 6]), (1899, .dstore 7, 2, [1]), (1901, .aload_n 2, 1, []), (1902, .invokevirtual 113, 3, [62, 1, 1, 4, 6]), (1905, .iload 6, 2, []), (1907, .if_icmp .eq 5, 3, [1912]), (1910, .iconst 0, 1, []), (1911, .ireturn, 1, [1]), (1912, .iload 6, 2, []), (1914, .ifCond .ne 35, 3, [1949]), (1917, .aload 4, 2, []), (1919, .iconst 0, 1, []), (1920, .daload, 1, []), (1921, .dload 7, 2, []), (1923, .dcmp .l, 1, []), (1924, .ifCond .eq 25, 3, [1949]), (1927, .aload 4, 2, []), (1929, .iconst 0, 1, []), (1930, .daload, 1, []), (1931, .aload 4, 2, []), (1933, .iconst 0, 1, []), (1934, .daload, 1, []), (1935, .dcmp .l, 1, []), (1936, .ifCond .eq 11, 3, [1947]), (1939, .dload 7, 2, []), (1941, .dload 7, 2, []), (1943, .dcmp .l, 1, []), (1944, .ifCond .ne 5, 3, [1949]), (1947, .iconst 0, 1, []), (1948, .ireturn, 1, [1]), (1949, .goto 16, 3, [1965]), (1952, .aload_n 1, 1, []), (1953, .invokevirtual 230, 3, [36, 1, 1, 71, 5]), (1956, .aload_n 2, 1, []), (1957, .invokevirtual 233, 3, [114, 1, 1, 72, 6]), (1960, .if_icmp .eq 5, 3, [1965]), (1963, .iconst 0, 1, []), (1964, .ireturn, 1, [1]), (1965, .iinc 5 4, 3, [1]), (1968, .goto (-1940), 3, [28]), (1971, .iconst 1, 1, []), (1972, .ireturn, 1, [1])]
def fm_h0 : List fm_H := []
/-- Feederlight.<init>()V -/
def fm_c1 : List fm_En := [(0, .aload_n 0, 1, []), (1, .invokespecial 1, 3, [0]), (4, .aload_n 0, 1, []), (5, .new 7, 3, [0, 2, 3, 2]), (8, .dup, 1, []), (9, .invokespecial 9, 3, [130, 0, 1, 73]), (12, .putfield 10, 3, [5, 0, 2, 0]), (15, .aload_n 0, 1, []), (16, .aload_n 0, 1, []), (17, .getfield 10, 3, [5, 0, 2, 0]), (20, .getfield 16, 3, [2, 0, 2, 1]), (23, .putfield 20, 3, [5, 1, 2, 2]), (26, .aload_n 0, 1, []), (27, .aload_n 0, 1, []), (28, .getfield 20, 3, [5, 1, 2, 2]), (31, .getfield 21, 3, [1, 0, 2, 3]), (34, .putfield 27, 3, [5, 2, 2, 4]), (37, .aload_n 0, 1, []), (38, .new 28, 3, [0, 0, 5, 3]), (41, .dup, 1, []), (42, .invokespecial 30, 3, [115, 0, 1, 74]), (45, .putfield 31, 3, [5, 3, 2, 5]), (48, .aload_n 0, 1, []), (49, .bipush 12, 2, []), (51, .anewarray 35, 3, [4]), (54, .putfield 37, 3, [5, 4, 2, 6]), (57, .iconst 0, 1, []), (58, .istore_n 1, 1, []), (59, .iload_n 1, 1, []), (60, .bipush 12, 2, []), (62, .if_icmp .ge 22, 3, [84]), (65, .aload_n 0, 1, []), (66, .getfield 37, 3, [5, 4, 2, 6]), (69, .iload_n 1, 1, []), (70, .new 35, 3, [0, 4, 3, 4]), (73, .dup, 1, []), (74, .invokespecial 41, 3, [138, 0, 1, 75]), (77, .aastore, 1, []), (78, .iinc 1 1, 3, []), (81, .goto (-22), 3, [59]), (84, .aload_n 0, 1, []), (85, .bipush 12, 2, []), (87, .newarray .int, 2, [10]), (89, .putfield 42, 3, [5, 5, 2, 7]), (92, .aload_n 0, 1, []), (93, .bipush 12, 2, []), (95, .newarray .int, 2, [10]), (97, .putfield 46, 3, [5, 6, 2, 8]), (100, .aload_n 0, 1, []), (101, .sipush 2300, 3, []), (104, .putfield 49, 3, [5, 7, 0, 9]), (107, .aload_n 0, 1, []), (108, .iconst 0, 1, []), (109, .putfield 53, 3, [5, 8, 0, 10]), (112, .aload_n 0, 1, []), (113, .iconst 0, 1, []), (114, .putfield 56, 3, [5, 9, 0, 11]), (117, .aload_n 0, 1, []), (118, .lconst 0, 1, []), (119, .putfield 59, 3, [5, 10, 1, 12]), (122, .return_, 1, [])]
def fm_h1 : List fm_H := []
/-- Feederlight.addNode(III)I -/
def fm_c2 : List fm_En := [(0, .aload_n 0, 1, []), (1, .iload_n 1, 1, []), (2, .invokevirtual 63, 3, [37, 0, 2, 76, 5]), (5, .aload_n 0, 1, []), (6, .iload_n 2, 1, []), (7, .iconst 1, 1, []), (8, .bipush 20, 2, []), (10, .invokevirtual 67, 3, [38, 0, 4, 77, 5]), (13, .aload_n 0, 1, []), (14, .iload_n 3, 1, []), (15, .iconst 1, 1, []), (16, .sipush 400, 3, []), (19, .invokevirtual 67, 3, [38, 0, 4, 77, 5]), (22, .aload_n 0, 1, []), (23, .getfield 27, 3, [5, 2, 2, 4]), (26, .getfield 71, 3, [3, 8, 0, 13]), (29, .bipush 12, 2, []), (31, .if_icmp .lt 13, 3, [44]), (34, .new 76, 3, [1, 2, 0]), (37, .dup, 1, []), (38, .ldc 78, 2, []), (40, .invokespecial 80, 3, []), (43, .athrow, 1, []), (44, .aload_n 0, 1, []), (45, .getfield 27, 3, [5, 2, 2, 4]), (48, .iload_n 1, 1, []), (49, .iload_n 2, 1, []), (50, .iload_n 3, 1, []), (51, .invokevirtual 83, 3, [135, 1, 4, 78, 3]), (54, .istore 4, 2, []), (56, .aload_n 0, 1, []), (57, .getfield 20, 3, [5, 1, 2, 2]), (60, .invokevirtual 87, 3, [120, 0, 1, 79, 1]), (63, .iload 4, 2, []), (65, .ireturn, 1, [0])]
def fm_h2 : List fm_H := []
/-- Feederlight.addTie(III)I -/
def fm_c3 : List fm_En := [(0, .aload_n 0, 1, []), (1, .iload_n 1, 1, []), (2, .invokevirtual 63, 3, [37, 0, 2, 76, 5]), (5, .aload_n 0, 1, []), (6, .iload_n 2, 1, []), (7, .invokevirtual 63, 3, [37, 0, 2, 76, 5]), (10, .iload_n 1, 1, []), (11, .iload_n 2, 1, []), (12, .if_icmp .ne 13, 3, [25]), (15, .new 90, 3, [1, 1, 1]), (18, .dup, 1, []), (19, .ldc 92, 2, []), (21, .invokespecial 94, 3, []), (24, .athrow, 1, []), (25, .aload_n 0, 1, []), (26, .iload_n 3, 1, []), (27, .iconst 1, 1, []), (28, .bipush 20, 2, []), (30, .invokevirtual 67, 3, [38, 0, 4, 77, 5]), (33, .aload_n 0, 1, []), (34, .getfield 27, 3, [5, 2, 2, 4]), (37, .getfield 95, 3, [3, 9, 0, 14]), (40, .iconst 4, 1, []), (41, .if_icmp .lt 13, 3, [54]), (44, .new 76, 3, [1, 2, 2]), (47, .dup, 1, []), (48, .ldc 98, 2, []), (50, .invokespecial 80, 3, []), (53, .athrow, 1, []), (54, .aload_n 0, 1, []), (55, .getfield 27, 3, [5, 2, 2, 4]), (58, .iload_n 1, 1, []), (59, .iload_n 2, 1, []), (60, .iload_n 3, 1, []), (61, .invokevirtual 100, 3, [136, 1, 4, 80, 3]), (64, .istore 4, 2, []), (66, .aload_n 0, 1, []), (67, .getfield 20, 3, [5, 1, 2, 2]), (70, .invokevirtual 87, 3, [120, 0, 1, 79, 1]), (73, .iload 4, 2, []), (75, .ireturn, 1, [0])]
def fm_h3 : List fm_H := []
/-- Feederlight.setBase(I)I -/
def fm_c4 : List fm_En := [(0, .aload_n 0, 1, []), (1, .iload_n 1, 1, []), (2, .sipush 2000, 3, []), (5, .sipush 2600, 3, []), (8, .invokevirtual 67, 3, [38, 0, 4, 77, 5]), (11, .aload_n 0, 1, []), (12, .getfield 49, 3, [5, 7, 0, 9]), (15, .istore_n 2, 1, []), (16, .aload_n 0, 1, []), (17, .iload_n 1, 1, []), (18, .putfield 49, 3, [5, 7, 0, 9]), (21, .iload_n 2, 1, []), (22, .ireturn, 1, [0])]
def fm_h4 : List fm_H := []
/-- Feederlight.setLoad(II)I -/
def fm_c5 : List fm_En := [(0, .aload_n 0, 1, []), (1, .iload_n 1, 1, []), (2, .invokevirtual 63, 3, [37, 0, 2, 76, 5]), (5, .aload_n 0, 1, []), (6, .iload_n 2, 1, []), (7, .iconst 0, 1, []), (8, .sipush 200, 3, []), (11, .invokevirtual 67, 3, [38, 0, 4, 77, 5]), (14, .aload_n 0, 1, []), (15, .getfield 42, 3, [5, 5, 2, 7]), (18, .iload_n 1, 1, []), (19, .iaload, 1, []), (20, .istore_n 3, 1, []), (21, .aload_n 0, 1, []), (22, .getfield 42, 3, [5, 5, 2, 7]), (25, .iload_n 1, 1, []), (26, .iload_n 2, 1, []), (27, .iastore, 1, []), (28, .iload_n 3, 1, []), (29, .ireturn, 1, [0])]
def fm_h5 : List fm_H := []
/-- Feederlight.setCharger(II)I -/
def fm_c6 : List fm_En := [(0, .aload_n 0, 1, []), (1, .iload_n 1, 1, []), (2, .invokevirtual 63, 3, [37, 0, 2, 76, 5]), (5, .aload_n 0, 1, []), (6, .iload_n 2, 1, []), (7, .iconst 0, 1, []), (8, .bipush 64, 2, []), (10, .invokevirtual 67, 3, [38, 0, 4, 77, 5]), (13, .aload_n 0, 1, []), (14, .getfield 31, 3, [5, 3, 2, 5]), (17, .getfield 103, 3, [0, 0, 2, 15]), (20, .iload_n 1, 1, []), (21, .iload_n 2, 1, []), (22, .iastore, 1, []), (23, .aload_n 0, 1, []), (24, .getfield 31, 3, [5, 3, 2, 5]), (27, .dup, 1, []), (28, .getfield 106, 3, [0, 4, 0, 16]), (31, .iconst 1, 1, []), (32, .iload_n 1, 1, []), (33, .ishl, 1, []), (34, .iconst (-1), 1, []), (35, .ixor, 1, []), (36, .iand, 1, []), (37, .putfield 106, 3, [0, 4, 0, 16]), (40, .aload_n 0, 1, []), (41, .getfield 31, 3, [5, 3, 2, 5]), (44, .getfield 109, 3, [0, 1, 2, 17]), (47, .iload_n 1, 1, []), (48, .iaload, 1, []), (49, .ireturn, 1, [0])]
def fm_h6 : List fm_H := []
/-- Feederlight.setSun(I)I -/
def fm_c7 : List fm_En := [(0, .aload_n 0, 1, []), (1, .iload_n 1, 1, []), (2, .iconst 0, 1, []), (3, .bipush 100, 2, []), (5, .invokevirtual 67, 3, [38, 0, 4, 77, 5]), (8, .aload_n 0, 1, []), (9, .getfield 53, 3, [5, 8, 0, 10]), (12, .istore_n 2, 1, []), (13, .aload_n 0, 1, []), (14, .iload_n 1, 1, []), (15, .putfield 53, 3, [5, 8, 0, 10]), (18, .iload_n 2, 1, []), (19, .ireturn, 1, [0])]
def fm_h7 : List fm_H := []
/-- Feederlight.setRoof(II)I -/
def fm_c8 : List fm_En := [(0, .aload_n 0, 1, []), (1, .iload_n 1, 1, []), (2, .invokevirtual 63, 3, [37, 0, 2, 76, 5]), (5, .aload_n 0, 1, []), (6, .iload_n 2, 1, []), (7, .iconst 0, 1, []), (8, .sipush 200, 3, []), (11, .invokevirtual 67, 3, [38, 0, 4, 77, 5]), (14, .aload_n 0, 1, []), (15, .getfield 37, 3, [5, 4, 2, 6]), (18, .iload_n 1, 1, []), (19, .aaload, 1, []), (20, .getfield 112, 3, [4, 2, 0, 18]), (23, .istore_n 3, 1, []), (24, .aload_n 0, 1, []), (25, .getfield 37, 3, [5, 4, 2, 6]), (28, .iload_n 1, 1, []), (29, .aaload, 1, []), (30, .iload_n 2, 1, []), (31, .invokevirtual 115, 3, [139, 0, 2, 81, 4]), (34, .iload_n 3, 1, []), (35, .ireturn, 1, [0])]
def fm_h8 : List fm_H := []
/-- Feederlight.capRoof(II)I -/
def fm_c9 : List fm_En := [(0, .aload_n 0, 1, []), (1, .iload_n 1, 1, []), (2, .invokevirtual 63, 3, [37, 0, 2, 76, 5]), (5, .aload_n 0, 1, []), (6, .iload_n 2, 1, []), (7, .iconst 0, 1, []), (8, .sipush 200, 3, []), (11, .invokevirtual 67, 3, [38, 0, 4, 77, 5]), (14, .aload_n 0, 1, []), (15, .iload_n 1, 1, []), (16, .invokevirtual 118, 3, [39, 0, 2, 82, 5]), (19, .aload_n 0, 1, []), (20, .getfield 37, 3, [5, 4, 2, 6]), (23, .iload_n 1, 1, []), (24, .aaload, 1, []), (25, .iconst 0, 1, []), (26, .iload_n 2, 1, []), (27, .invokevirtual 121, 3, [140, 1, 3, 83, 4]), (30, .ireturn, 1, [0])]
def fm_h9 : List fm_H := []
/-- Feederlight.shadeRoof(II)I -/
def fm_c10 : List fm_En := [(0, .aload_n 0, 1, []), (1, .iload_n 1, 1, []), (2, .invokevirtual 63, 3, [37, 0, 2, 76, 5]), (5, .aload_n 0, 1, []), (6, .iload_n 2, 1, []), (7, .iconst 0, 1, []), (8, .bipush 100, 2, []), (10, .invokevirtual 67, 3, [38, 0, 4, 77, 5]), (13, .aload_n 0, 1, []), (14, .iload_n 1, 1, []), (15, .invokevirtual 118, 3, [39, 0, 2, 82, 5]), (18, .aload_n 0, 1, []), (19, .getfield 37, 3, [5, 4, 2, 6]), (22, .iload_n 1, 1, []), (23, .aaload, 1, []), (24, .iconst 1, 1, []), (25, .iload_n 2, 1, []), (26, .invokevirtual 121, 3, [140, 1, 3, 83, 4]), (29, .ireturn, 1, [0])]
def fm_h10 : List fm_H := []
/-- Feederlight.roofAt(II)I -/
def fm_c11 : List fm_En := [(0, .aload_n 0, 1, []), (1, .iload_n 1, 1, []), (2, .invokevirtual 63, 3, [37, 0, 2, 76, 5]), (5, .aload_n 0, 1, []), (6, .iload_n 2, 1, []), (7, .iconst 0, 1, []), (8, .bipush 100, 2, []), (10, .invokevirtual 67, 3, [38, 0, 4, 77, 5]), (13, .aload_n 0, 1, []), (14, .getfield 37, 3, [5, 4, 2, 6]), (17, .iload_n 1, 1, []), (18, .aaload, 1, []), (19, .iload_n 2, 1, []), (20, .invokevirtual 125, 3, [141, 1, 2, 84, 4]), (23, .ireturn, 1, [0])]
def fm_h11 : List fm_H := []
/-- Feederlight.minute()I -/
def fm_c12 : List fm_En := [(0, .aload_n 0, 1, []), (1, .invokevirtual 129, 3, [48, 1, 1, 85, 5]), (4, .pop, 1, []), (5, .aload_n 0, 1, []), (6, .getfield 31, 3, [5, 3, 2, 5]), (9, .getfield 106, 3, [0, 4, 0, 16]), (12, .aload_n 0, 1, []), (13, .getfield 20, 3, [5, 1, 2, 2]), (16, .invokevirtual 133, 3, [128, 1, 1, 86, 1]), (19, .iand, 1, []), (20, .invokestatic 136, 3, [168, 1, 1, 87]), (23, .ireturn, 1, [0])]
def fm_h12 : List fm_H := []
/-- Feederlight.pass(I)I -/
def fm_c13 : List fm_En := [(0, .aload_n 0, 1, []), (1, .iload_n 1, 1, []), (2, .iconst 1, 1, []), (3, .bipush 100, 2, []), (5, .invokevirtual 67, 3, [38, 0, 4, 77, 5]), (8, .iconst 0, 1, []), (9, .istore_n 2, 1, []), (10, .iconst 0, 1, []), (11, .istore_n 3, 1, []), (12, .iload_n 3, 1, []), (13, .iload_n 1, 1, []), (14, .if_icmp .ge 16, 3, [30]), (17, .iload_n 2, 1, []), (18, .aload_n 0, 1, []), (19, .invokevirtual 129, 3, [48, 1, 1, 85, 5]), (22, .iadd, 1, []), (23, .istore_n 2, 1, []), (24, .iinc 3 1, 3, []), (27, .goto (-15), 3, [12]), (30, .iload_n 2, 1, []), (31, .ireturn, 1, [0])]
def fm_h13 : List fm_H := []
/-- Feederlight.replaceFuse(I)I -/
def fm_c14 : List fm_En := [(0, .aload_n 0, 1, []), (1, .iload_n 1, 1, []), (2, .invokevirtual 63, 3, [37, 0, 2, 76, 5]), (5, .iload_n 1, 1, []), (6, .ifCond .ne 13, 3, [19]), (9, .new 76, 3, [1, 2, 3]), (12, .dup, 1, []), (13, .ldc 141, 2, []), (15, .invokespecial 80, 3, []), (18, .athrow, 1, []), (19, .aload_n 0, 1, []), (20, .getfield 27, 3, [5, 2, 2, 4]), (23, .getfield 143, 3, [3, 4, 2, 19]), (26, .iload_n 1, 1, []), (27, .baload, 1, []), (28, .ifCond .ne 13, 3, [41]), (31, .new 76, 3, [1, 2, 4]), (34, .dup, 1, []), (35, .ldc 147, 2, []), (37, .invokespecial 80, 3, []), (40, .athrow, 1, []), (41, .aload_n 0, 1, []), (42, .getfield 27, 3, [5, 2, 2, 4]), (45, .getfield 143, 3, [3, 4, 2, 19]), (48, .iload_n 1, 1, []), (49, .iconst 0, 1, []), (50, .bastore, 1, []), (51, .aload_n 0, 1, []), (52, .getfield 27, 3, [5, 2, 2, 4]), (55, .getfield 149, 3, [3, 3, 2, 20]), (58, .iload_n 1, 1, []), (59, .iconst 0, 1, []), (60, .iastore, 1, []), (61, .aload_n 0, 1, []), (62, .getfield 20, 3, [5, 1, 2, 2]), (65, .invokevirtual 87, 3, [120, 0, 1, 79, 1]), (68, .aload_n 0, 1, []), (69, .getfield 20, 3, [5, 1, 2, 2]), (72, .getfield 152, 3, [1, 7, 0, 21]), (75, .ireturn, 1, [0])]
def fm_h14 : List fm_H := []
/-- Feederlight.nodes()I -/
def fm_c15 : List fm_En := [(0, .aload_n 0, 1, []), (1, .getfield 27, 3, [5, 2, 2, 4]), (4, .getfield 71, 3, [3, 8, 0, 13]), (7, .ireturn, 1, [0])]
def fm_h15 : List fm_H := []
/-- Feederlight.isFed(I)Z -/
def fm_c16 : List fm_En := [(0, .aload_n 0, 1, []), (1, .iload_n 1, 1, []), (2, .invokevirtual 63, 3, [37, 0, 2, 76, 5]), (5, .aload_n 0, 1, []), (6, .getfield 20, 3, [5, 1, 2, 2]), (9, .getfield 155, 3, [1, 1, 2, 22]), (12, .iload_n 1, 1, []), (13, .baload, 1, []), (14, .ireturn, 1, [1])]
def fm_h16 : List fm_H := []
/-- Feederlight.feeder(I)I -/
def fm_c17 : List fm_En := [(0, .aload_n 0, 1, []), (1, .iload_n 1, 1, []), (2, .invokevirtual 63, 3, [37, 0, 2, 76, 5]), (5, .aload_n 0, 1, []), (6, .iload_n 1, 1, []), (7, .invokevirtual 158, 3, [41, 0, 2, 88, 5]), (10, .aload_n 0, 1, []), (11, .getfield 20, 3, [5, 1, 2, 2]), (14, .getfield 161, 3, [1, 2, 2, 23]), (17, .iload_n 1, 1, []), (18, .iaload, 1, []), (19, .ireturn, 1, [0])]
def fm_h17 : List fm_H := []
/-- Feederlight.isClosed(I)Z -/
def fm_c18 : List fm_En := [(0, .iload_n 1, 1, []), (1, .ifCond .lt 14, 3, [15]), (4, .iload_n 1, 1, []), (5, .aload_n 0, 1, []), (6, .getfield 27, 3, [5, 2, 2, 4]), (9, .getfield 95, 3, [3, 9, 0, 14]), (12, .if_icmp .lt 13, 3, [25]), (15, .new 164, 3, [1, 3, 5]), (18, .dup, 1, []), (19, .ldc 166, 2, []), (21, .invokespecial 168, 3, []), (24, .athrow, 1, []), (25, .aload_n 0, 1, []), (26, .getfield 20, 3, [5, 1, 2, 2]), (29, .getfield 169, 3, [1, 6, 2, 24]), (32, .iload_n 1, 1, []), (33, .baload, 1, []), (34, .ireturn, 1, [1])]
def fm_h18 : List fm_H := []
/-- Feederlight.flow(I)I -/
def fm_c19 : List fm_En := [(0, .aload_n 0, 1, []), (1, .iload_n 1, 1, []), (2, .invokevirtual 63, 3, [37, 0, 2, 76, 5]), (5, .aload_n 0, 1, []), (6, .iload_n 1, 1, []), (7, .invokevirtual 158, 3, [41, 0, 2, 88, 5]), (10, .aload_n 0, 1, []), (11, .invokevirtual 172, 3, [45, 0, 1, 89, 5]), (14, .aload_n 0, 1, []), (15, .getfield 10, 3, [5, 0, 2, 0]), (18, .getfield 175, 3, [2, 1, 2, 25]), (21, .iload_n 1, 1, []), (22, .iaload, 1, []), (23, .ireturn, 1, [0])]
def fm_h19 : List fm_H := []
/-- Feederlight.voltage(I)I -/
def fm_c20 : List fm_En := [(0, .aload_n 0, 1, []), (1, .iload_n 1, 1, []), (2, .invokevirtual 63, 3, [37, 0, 2, 76, 5]), (5, .aload_n 0, 1, []), (6, .iload_n 1, 1, []), (7, .invokevirtual 176, 3, [40, 0, 2, 90, 5]), (10, .aload_n 0, 1, []), (11, .invokevirtual 172, 3, [45, 0, 1, 89, 5]), (14, .aload_n 0, 1, []), (15, .getfield 10, 3, [5, 0, 2, 0]), (18, .getfield 179, 3, [2, 2, 2, 26]), (21, .iload_n 1, 1, []), (22, .iaload, 1, []), (23, .ireturn, 1, [0])]
def fm_h20 : List fm_H := []
/-- Feederlight.voltageByWay(I)I -/
def fm_c21 : List fm_En := [(0, .aload_n 0, 1, []), (1, .iload_n 1, 1, []), (2, .invokevirtual 63, 3, [37, 0, 2, 76, 5]), (5, .aload_n 0, 1, []), (6, .iload_n 1, 1, []), (7, .invokevirtual 176, 3, [40, 0, 2, 90, 5]), (10, .aload_n 0, 1, []), (11, .iload_n 1, 1, []), (12, .invokevirtual 182, 3, [52, 1, 2, 91, 5]), (15, .ireturn, 1, [0])]
def fm_h21 : List fm_H := []
/-- Feederlight.lowest()I -/
def fm_c22 : List fm_En := [(0, .aload_n 0, 1, []), (1, .invokevirtual 172, 3, [45, 0, 1, 89, 5]), (4, .iconst 0, 1, []), (5, .istore_n 1, 1, []), (6, .iconst 1, 1, []), (7, .istore_n 2, 1, []), (8, .iload_n 2, 1, []), (9, .aload_n 0, 1, []), (10, .getfield 27, 3, [5, 2, 2, 4]), (13, .getfield 71, 3, [3, 8, 0, 13]), (16, .if_icmp .ge 44, 3, [60]), (19, .aload_n 0, 1, []), (20, .getfield 20, 3, [5, 1, 2, 2]), (23, .getfield 155, 3, [1, 1, 2, 22]), (26, .iload_n 2, 1, []), (27, .baload, 1, []), (28, .ifCond .eq 26, 3, [54]), (31, .aload_n 0, 1, []), (32, .getfield 10, 3, [5, 0, 2, 0]), (35, .getfield 179, 3, [2, 2, 2, 26]), (38, .iload_n 2, 1, []), (39, .iaload, 1, []), (40, .aload_n 0, 1, []), (41, .getfield 10, 3, [5, 0, 2, 0]), (44, .getfield 179, 3, [2, 2, 2, 26]), (47, .iload_n 1, 1, []), (48, .iaload, 1, []), (49, .if_icmp .ge 5, 3, [54]), (52, .iload_n 2, 1, []), (53, .istore_n 1, 1, []), (54, .iinc 2 1, 3, []), (57, .goto (-49), 3, [8]), (60, .iload_n 1, 1, []), (61, .ireturn, 1, [0])]
def fm_h22 : List fm_H := []
/-- Feederlight.keepsLimits()Z -/
def fm_c23 : List fm_En := [(0, .aload_n 0, 1, []), (1, .invokevirtual 172, 3, [45, 0, 1, 89, 5]), (4, .aload_n 0, 1, []), (5, .getfield 10, 3, [5, 0, 2, 0]), (8, .invokevirtual 185, 3, [133, 1, 1, 92, 2]), (11, .ireturn, 1, [1])]
def fm_h23 : List fm_H := []
/-- Feederlight.isServed(I)Z -/
def fm_c24 : List fm_En := [(0, .aload_n 0, 1, []), (1, .iload_n 1, 1, []), (2, .invokevirtual 63, 3, [37, 0, 2, 76, 5]), (5, .aload_n 0, 1, []), (6, .iload_n 1, 1, []), (7, .invokevirtual 189, 3, [43, 1, 2, 93, 5]), (10, .ireturn, 1, [1])]
def fm_h24 : List fm_H := []
/-- Feederlight.leftOut(I)I -/
def fm_c25 : List fm_En := [(0, .aload_n 0, 1, []), (1, .iload_n 1, 1, []), (2, .invokevirtual 63, 3, [37, 0, 2, 76, 5]), (5, .aload_n 0, 1, []), (6, .getfield 31, 3, [5, 3, 2, 5]), (9, .getfield 109, 3, [0, 1, 2, 17]), (12, .iload_n 1, 1, []), (13, .iaload, 1, []), (14, .ireturn, 1, [0])]
def fm_h25 : List fm_H := []
/-- Feederlight.turn(I)I -/
def fm_c26 : List fm_En := [(0, .aload_n 0, 1, []), (1, .getfield 31, 3, [5, 3, 2, 5]), (4, .aload_n 0, 1, []), (5, .getfield 27, 3, [5, 2, 2, 4]), (8, .getfield 71, 3, [3, 8, 0, 13]), (11, .invokevirtual 193, 3, [116, 0, 2, 94, 0]), (14, .iload_n 1, 1, []), (15, .ifCond .lt 14, 3, [29]), (18, .iload_n 1, 1, []), (19, .aload_n 0, 1, []), (20, .getfield 31, 3, [5, 3, 2, 5]), (23, .getfield 196, 3, [0, 3, 0, 27]), (26, .if_icmp .lt 13, 3, [39]), (29, .new 164, 3, [1, 3, 6]), (32, .dup, 1, []), (33, .ldc 199, 2, []), (35, .invokespecial 168, 3, []), (38, .athrow, 1, []), (39, .aload_n 0, 1, []), (40, .getfield 31, 3, [5, 3, 2, 5]), (43, .getfield 201, 3, [0, 2, 2, 28]), (46, .iload_n 1, 1, []), (47, .iaload, 1, []), (48, .ireturn, 1, [0])]
def fm_h26 : List fm_H := []
/-- Feederlight.mostServed()I -/
def fm_c27 : List fm_En := [(0, .aload_n 0, 1, []), (1, .invokevirtual 204, 3, [57, 1, 1, 95, 5]), (4, .istore_n 1, 1, []), (5, .iload_n 1, 1, []), (6, .iconst (-1), 1, []), (7, .if_icmp .ne 13, 3, [20]), (10, .new 164, 3, [1, 3, 7]), (13, .dup, 1, []), (14, .ldc 207, 2, []), (16, .invokespecial 168, 3, []), (19, .athrow, 1, []), (20, .iload_n 1, 1, []), (21, .ireturn, 1, [0])]
def fm_h27 : List fm_H := []
/-- Feederlight.mostByAll()I -/
def fm_c28 : List fm_En := [(0, .aload_n 0, 1, []), (1, .invokevirtual 209, 3, [58, 1, 1, 96, 5]), (4, .istore_n 1, 1, []), (5, .iload_n 1, 1, []), (6, .iconst (-1), 1, []), (7, .if_icmp .ne 13, 3, [20]), (10, .new 164, 3, [1, 3, 7]), (13, .dup, 1, []), (14, .ldc 207, 2, []), (16, .invokespecial 168, 3, []), (19, .athrow, 1, []), (20, .iload_n 1, 1, []), (21, .ireturn, 1, [0])]
def fm_h28 : List fm_H := []
/-- Feederlight.heat(I)I -/
def fm_c29 : List fm_En := [(0, .aload_n 0, 1, []), (1, .iload_n 1, 1, []), (2, .invokevirtual 63, 3, [37, 0, 2, 76, 5]), (5, .aload_n 0, 1, []), (6, .iload_n 1, 1, []), (7, .invokevirtual 212, 3, [42, 0, 2, 97, 5]), (10, .aload_n 0, 1, []), (11, .getfield 27, 3, [5, 2, 2, 4]), (14, .getfield 149, 3, [3, 3, 2, 20]), (17, .iload_n 1, 1, []), (18, .iaload, 1, []), (19, .ireturn, 1, [0])]
def fm_h29 : List fm_H := []
/-- Feederlight.isBlown(I)Z -/
def fm_c30 : List fm_En := [(0, .aload_n 0, 1, []), (1, .iload_n 1, 1, []), (2, .invokevirtual 63, 3, [37, 0, 2, 76, 5]), (5, .aload_n 0, 1, []), (6, .iload_n 1, 1, []), (7, .invokevirtual 212, 3, [42, 0, 2, 97, 5]), (10, .aload_n 0, 1, []), (11, .getfield 27, 3, [5, 2, 2, 4]), (14, .getfield 143, 3, [3, 4, 2, 19]), (17, .iload_n 1, 1, []), (18, .baload, 1, []), (19, .ireturn, 1, [1])]
def fm_h30 : List fm_H := []
/-- Feederlight.minutes()I -/
def fm_c31 : List fm_En := [(0, .aload_n 0, 1, []), (1, .getfield 56, 3, [5, 9, 0, 11]), (4, .ireturn, 1, [0])]
def fm_h31 : List fm_H := []
/-- Feederlight.charged()J -/
def fm_c32 : List fm_En := [(0, .aload_n 0, 1, []), (1, .getfield 59, 3, [5, 10, 1, 12]), (4, .lreturn, 1, [])]
def fm_h32 : List fm_H := []
/-- Feederlight.fedShare()F -/
def fm_c33 : List fm_En := [(0, .aload_n 0, 1, []), (1, .getfield 20, 3, [5, 1, 2, 2]), (4, .getfield 152, 3, [1, 7, 0, 21]), (7, .i2f, 1, []), (8, .aload_n 0, 1, []), (9, .getfield 27, 3, [5, 2, 2, 4]), (12, .getfield 71, 3, [3, 8, 0, 13]), (15, .i2f, 1, []), (16, .fdiv, 1, []), (17, .freturn, 1, [])]
def fm_h33 : List fm_H := []
/-- Feederlight.meanVoltage()D -/
def fm_c34 : List fm_En := [(0, .aload_n 0, 1, []), (1, .invokevirtual 172, 3, [45, 0, 1, 89, 5]), (4, .iconst 0, 1, []), (5, .istore_n 1, 1, []), (6, .iconst 0, 1, []), (7, .istore_n 2, 1, []), (8, .iload_n 2, 1, []), (9, .aload_n 0, 1, []), (10, .getfield 20, 3, [5, 1, 2, 2]), (13, .getfield 152, 3, [1, 7, 0, 21]), (16, .if_icmp .ge 29, 3, [45]), (19, .iload_n 1, 1, []), (20, .aload_n 0, 1, []), (21, .getfield 10, 3, [5, 0, 2, 0]), (24, .getfield 179, 3, [2, 2, 2, 26]), (27, .aload_n 0, 1, []), (28, .getfield 20, 3, [5, 1, 2, 2]), (31, .getfield 215, 3, [1, 5, 2, 29]), (34, .iload_n 2, 1, []), (35, .iaload, 1, []), (36, .iaload, 1, []), (37, .iadd, 1, []), (38, .istore_n 1, 1, []), (39, .iinc 2 1, 3, []), (42, .goto (-34), 3, [8]), (45, .iload_n 1, 1, []), (46, .i2d, 1, []), (47, .aload_n 0, 1, []), (48, .getfield 20, 3, [5, 1, 2, 2]), (51, .getfield 152, 3, [1, 7, 0, 21]), (54, .i2d, 1, []), (55, .ddiv, 1, []), (56, .dreturn, 1, [])]
def fm_h34 : List fm_H := []
/-- Feederlight.meanLeftOut()D -/
def fm_c35 : List fm_En := [(0, .iconst 0, 1, []), (1, .istore_n 1, 1, []), (2, .iconst 0, 1, []), (3, .istore_n 2, 1, []), (4, .iconst 0, 1, []), (5, .istore_n 3, 1, []), (6, .iload_n 3, 1, []), (7, .aload_n 0, 1, []), (8, .getfield 27, 3, [5, 2, 2, 4]), (11, .getfield 71, 3, [3, 8, 0, 13]), (14, .if_icmp .ge 36, 3, [50]), (17, .aload_n 0, 1, []), (18, .getfield 31, 3, [5, 3, 2, 5]), (21, .getfield 103, 3, [0, 0, 2, 15]), (24, .iload_n 3, 1, []), (25, .iaload, 1, []), (26, .ifCond .le 18, 3, [44]), (29, .iload_n 1, 1, []), (30, .aload_n 0, 1, []), (31, .getfield 31, 3, [5, 3, 2, 5]), (34, .getfield 109, 3, [0, 1, 2, 17]), (37, .iload_n 3, 1, []), (38, .iaload, 1, []), (39, .iadd, 1, []), (40, .istore_n 1, 1, []), (41, .iinc 2 1, 3, []), (44, .iinc 3 1, 3, []), (47, .goto (-41), 3, [6]), (50, .iload_n 2, 1, []), (51, .ifCond .ne 13, 3, [64]), (54, .new 218, 3, [1, 4, 8]), (57, .dup, 1, []), (58, .ldc 220, 2, []), (60, .invokespecial 222, 3, []), (63, .athrow, 1, []), (64, .iload_n 1, 1, []), (65, .i2d, 1, []), (66, .iload_n 2, 1, []), (67, .i2d, 1, []), (68, .ddiv, 1, []), (69, .dreturn, 1, [])]
def fm_h35 : List fm_H := []
/-- Feederlight.isSound()Z -/
def fm_c36 : List fm_En := [(0, .aload_n 0, 1, []), (1, .invokevirtual 223, 3, [55, 1, 1, 98, 5]), (4, .ifCond .eq 29, 3, [33]), (7, .aload_n 0, 1, []), (8, .invokevirtual 209, 3, [58, 1, 1, 96, 5]), (11, .aload_n 0, 1, []), (12, .invokevirtual 204, 3, [57, 1, 1, 95, 5]), (15, .if_icmp .ne 18, 3, [33]), (18, .aload_n 0, 1, []), (19, .getfield 20, 3, [5, 1, 2, 2]), (22, .invokevirtual 226, 3, [125, 1, 1, 99, 1]), (25, .iconst (-1), 1, []), (26, .if_icmp .ne 7, 3, [33]), (29, .iconst 1, 1, []), (30, .goto 4, 3, [34]), (33, .iconst 0, 1, []), (34, .ireturn, 1, [1])]
def fm_h36 : List fm_H := []
/-- Feederlight.checkNode(I)V -/
def fm_c37 : List fm_En := [(0, .iload_n 1, 1, []), (1, .ifCond .lt 14, 3, [15]), (4, .iload_n 1, 1, []), (5, .aload_n 0, 1, []), (6, .getfield 27, 3, [5, 2, 2, 4]), (9, .getfield 71, 3, [3, 8, 0, 13]), (12, .if_icmp .lt 13, 3, [25]), (15, .new 229, 3, [1, 0, 9]), (18, .dup, 1, []), (19, .ldc 231, 2, []), (21, .invokespecial 233, 3, []), (24, .athrow, 1, []), (25, .return_, 1, [])]
def fm_h37 : List fm_H := []
/-- Feederlight.checkRange(III)V -/
def fm_c38 : List fm_En := [(0, .iload_n 1, 1, []), (1, .iload_n 2, 1, []), (2, .if_icmp .lt 8, 3, [10]), (5, .iload_n 1, 1, []), (6, .iload_n 3, 1, []), (7, .if_icmp .le 13, 3, [20]), (10, .new 90, 3, [1, 1, 10]), (13, .dup, 1, []), (14, .ldc 234, 2, []), (16, .invokespecial 94, 3, []), (19, .athrow, 1, []), (20, .return_, 1, [])]
def fm_h38 : List fm_H := []
/-- Feederlight.checkRoomForLayer(I)V -/
def fm_c39 : List fm_En := [(0, .aload_n 0, 1, []), (1, .getfield 37, 3, [5, 4, 2, 6]), (4, .iload_n 1, 1, []), (5, .aaload, 1, []), (6, .getfield 112, 3, [4, 2, 0, 18]), (9, .iconst 5, 1, []), (10, .if_icmp .lt 13, 3, [23]), (13, .new 76, 3, [1, 2, 11]), (16, .dup, 1, []), (17, .ldc 236, 2, []), (19, .invokespecial 80, 3, []), (22, .athrow, 1, []), (23, .return_, 1, [])]
def fm_h39 : List fm_H := []
/-- Feederlight.checkFed(I)V -/
def fm_c40 : List fm_En := [(0, .aload_n 0, 1, []), (1, .getfield 20, 3, [5, 1, 2, 2]), (4, .getfield 155, 3, [1, 1, 2, 22]), (7, .iload_n 1, 1, []), (8, .baload, 1, []), (9, .ifCond .ne 13, 3, [22]), (12, .new 164, 3, [1, 3, 12]), (15, .dup, 1, []), (16, .ldc 238, 2, []), (18, .invokespecial 168, 3, []), (21, .athrow, 1, []), (22, .return_, 1, [])]
def fm_h40 : List fm_H := []
/-- Feederlight.checkFedOverLine(I)V -/
def fm_c41 : List fm_En := [(0, .iload_n 1, 1, []), (1, .ifCond .ne 13, 3, [14]), (4, .new 164, 3, [1, 3, 13]), (7, .dup, 1, []), (8, .ldc 240, 2, []), (10, .invokespecial 168, 3, []), (13, .athrow, 1, []), (14, .aload_n 0, 1, []), (15, .iload_n 1, 1, []), (16, .invokevirtual 176, 3, [40, 0, 2, 90, 5]), (19, .return_, 1, [])]
def fm_h41 : List fm_H := []
/-- Feederlight.checkHasCable(I)V -/
def fm_c42 : List fm_En := [(0, .iload_n 1, 1, []), (1, .ifCond .ne 13, 3, [14]), (4, .new 164, 3, [1, 3, 14]), (7, .dup, 1, []), (8, .ldc 141, 2, []), (10, .invokespecial 168, 3, []), (13, .athrow, 1, []), (14, .return_, 1, [])]
def fm_h42 : List fm_H := []
/-- Feederlight.countsAsServed(I)Z -/
def fm_c43 : List fm_En := [(0, .aload_n 0, 1, []), (1, .getfield 20, 3, [5, 1, 2, 2]), (4, .getfield 155, 3, [1, 1, 2, 22]), (7, .iload_n 1, 1, []), (8, .baload, 1, []), (9, .ifCond .eq 21, 3, [30]), (12, .aload_n 0, 1, []), (13, .getfield 31, 3, [5, 3, 2, 5]), (16, .getfield 106, 3, [0, 4, 0, 16]), (19, .iload_n 1, 1, []), (20, .invokestatic 242, 3, [59, 1, 2, 100]), (23, .ifCond .eq 7, 3, [30]), (26, .iconst 1, 1, []), (27, .goto 4, 3, [31]), (30, .iconst 0, 1, []), (31, .ireturn, 1, [1])]
def fm_h43 : List fm_H := []
/-- Feederlight.workOutOwnCurrents()V -/
def fm_c44 : List fm_En := [(0, .iconst 0, 1, []), (1, .istore_n 1, 1, []), (2, .iload_n 1, 1, []), (3, .aload_n 0, 1, []), (4, .getfield 27, 3, [5, 2, 2, 4]), (7, .getfield 71, 3, [3, 8, 0, 13]), (10, .if_icmp .ge 35, 3, [45]), (13, .aload_n 0, 1, []), (14, .getfield 46, 3, [5, 6, 2, 8]), (17, .iload_n 1, 1, []), (18, .aload_n 0, 1, []), (19, .getfield 42, 3, [5, 5, 2, 7]), (22, .iload_n 1, 1, []), (23, .iaload, 1, []), (24, .aload_n 0, 1, []), (25, .getfield 37, 3, [5, 4, 2, 6]), (28, .iload_n 1, 1, []), (29, .aaload, 1, []), (30, .aload_n 0, 1, []), (31, .getfield 53, 3, [5, 8, 0, 10]), (34, .invokevirtual 125, 3, [141, 1, 2, 84, 4]), (37, .isub, 1, []), (38, .iastore, 1, []), (39, .iinc 1 1, 3, []), (42, .goto (-40), 3, [2]), (45, .return_, 1, [])]
def fm_h44 : List fm_H := []
/-- Feederlight.workOutFlows()V -/
def fm_c45 : List fm_En := [(0, .aload_n 0, 1, []), (1, .invokevirtual 246, 3, [44, 0, 1, 101, 5]), (4, .aload_n 0, 1, []), (5, .aload_n 0, 1, []), (6, .getfield 31, 3, [5, 3, 2, 5]), (9, .getfield 106, 3, [0, 4, 0, 16]), (12, .invokevirtual 249, 3, [46, 0, 2, 102, 5]), (15, .return_, 1, [])]
def fm_h45 : List fm_H := []
/-- Feederlight.workOutFlowsWith(I)V -/
def fm_c46 : List fm_En := [(0, .aload_n 0, 1, []), (1, .getfield 10, 3, [5, 0, 2, 0]), (4, .aload_n 0, 1, []), (5, .getfield 46, 3, [5, 6, 2, 8]), (8, .aload_n 0, 1, []), (9, .getfield 31, 3, [5, 3, 2, 5]), (12, .getfield 103, 3, [0, 0, 2, 15]), (15, .iload_n 1, 1, []), (16, .aload_n 0, 1, []), (17, .getfield 49, 3, [5, 7, 0, 9]), (20, .invokevirtual 252, 3, [131, 0, 5, 103, 2]), (23, .return_, 1, [])]
def fm_h46 : List fm_H := []
/-- Feederlight.staysWithinLimitsWith(I)Z -/
def fm_c47 : List fm_En := [(0, .aload_n 0, 1, []), (1, .iload_n 1, 1, []), (2, .invokevirtual 249, 3, [46, 0, 2, 102, 5]), (5, .aload_n 0, 1, []), (6, .getfield 10, 3, [5, 0, 2, 0]), (9, .invokevirtual 185, 3, [133, 1, 1, 92, 2]), (12, .ireturn, 1, [1])]
def fm_h47 : List fm_H := []
/-- Feederlight.letMinutePass()I -/
def fm_c48 : List fm_En := [(0, .aload_n 0, 1, []), (1, .invokevirtual 246, 3, [44, 0, 1, 101, 5]), (4, .aload_n 0, 1, []), (5, .invokevirtual 255, 3, [49, 0, 1, 104, 5]), (8, .aload_n 0, 1, []), (9, .invokevirtual 258, 3, [50, 0, 1, 105, 5]), (12, .aload_n 0, 1, []), (13, .aload_n 0, 1, []), (14, .getfield 31, 3, [5, 3, 2, 5]), (17, .getfield 106, 3, [0, 4, 0, 16]), (20, .invokevirtual 249, 3, [46, 0, 2, 102, 5]), (23, .aload_n 0, 1, []), (24, .invokevirtual 261, 3, [51, 1, 1, 106, 5]), (27, .istore_n 1, 1, []), (28, .iload_n 1, 1, []), (29, .ifCond .le 10, 3, [39]), (32, .aload_n 0, 1, []), (33, .getfield 20, 3, [5, 1, 2, 2]), (36, .invokevirtual 87, 3, [120, 0, 1, 79, 1]), (39, .iload_n 1, 1, []), (40, .ireturn, 1, [0])]
def fm_h48 : List fm_H := []
/-- Feederlight.serveByTurn()V -/
def fm_c49 : List fm_En := [(0, .aload_n 0, 1, []), (1, .getfield 31, 3, [5, 3, 2, 5]), (4, .aload_n 0, 1, []), (5, .getfield 27, 3, [5, 2, 2, 4]), (8, .getfield 71, 3, [3, 8, 0, 13]), (11, .invokevirtual 193, 3, [116, 0, 2, 94, 0]), (14, .iconst 0, 1, []), (15, .istore_n 1, 1, []), (16, .iconst 0, 1, []), (17, .istore_n 2, 1, []), (18, .iload_n 2, 1, []), (19, .aload_n 0, 1, []), (20, .getfield 31, 3, [5, 3, 2, 5]), (23, .getfield 196, 3, [0, 3, 0, 27]), (26, .if_icmp .ge 50, 3, [76]), (29, .aload_n 0, 1, []), (30, .getfield 31, 3, [5, 3, 2, 5]), (33, .getfield 201, 3, [0, 2, 2, 28]), (36, .iload_n 2, 1, []), (37, .iaload, 1, []), (38, .istore_n 3, 1, []), (39, .iload_n 1, 1, []), (40, .iconst 1, 1, []), (41, .iload_n 3, 1, []), (42, .ishl, 1, []), (43, .ior, 1, []), (44, .istore 4, 2, []), (46, .aload_n 0, 1, []), (47, .getfield 20, 3, [5, 1, 2, 2]), (50, .getfield 155, 3, [1, 1, 2, 22]), (53, .iload_n 3, 1, []), (54, .baload, 1, []), (55, .ifCond .eq 15, 3, [70]), (58, .aload_n 0, 1, []), (59, .iload 4, 2, []), (61, .invokevirtual 264, 3, [47, 1, 2, 107, 5]), (64, .ifCond .eq 6, 3, [70]), (67, .iload 4, 2, []), (69, .istore_n 1, 1, []), (70, .iinc 2 1, 3, []), (73, .goto (-55), 3, [18]), (76, .aload_n 0, 1, []), (77, .getfield 31, 3, [5, 3, 2, 5]), (80, .iload_n 1, 1, []), (81, .putfield 106, 3, [0, 4, 0, 16]), (84, .return_, 1, [])]
def fm_h49 : List fm_H := []
/-- Feederlight.countMinute()V -/
def fm_c50 : List fm_En := [(0, .iconst 0, 1, []), (1, .istore_n 1, 1, []), (2, .iload_n 1, 1, []), (3, .aload_n 0, 1, []), (4, .getfield 31, 3, [5, 3, 2, 5]), (7, .getfield 196, 3, [0, 3, 0, 27]), (10, .if_icmp .ge 68, 3, [78]), (13, .aload_n 0, 1, []), (14, .getfield 31, 3, [5, 3, 2, 5]), (17, .getfield 201, 3, [0, 2, 2, 28]), (20, .iload_n 1, 1, []), (21, .iaload, 1, []), (22, .istore_n 2, 1, []), (23, .aload_n 0, 1, []), (24, .getfield 31, 3, [5, 3, 2, 5]), (27, .getfield 106, 3, [0, 4, 0, 16]), (30, .iload_n 2, 1, []), (31, .invokestatic 242, 3, [59, 1, 2, 100]), (34, .ifCond .eq 25, 3, [59]), (37, .aload_n 0, 1, []), (38, .dup, 1, []), (39, .getfield 59, 3, [5, 10, 1, 12]), (42, .aload_n 0, 1, []), (43, .getfield 31, 3, [5, 3, 2, 5]), (46, .getfield 103, 3, [0, 0, 2, 15]), (49, .iload_n 2, 1, []), (50, .iaload, 1, []), (51, .i2l, 1, []), (52, .ladd, 1, []), (53, .putfield 59, 3, [5, 10, 1, 12]), (56, .goto 16, 3, [72]), (59, .aload_n 0, 1, []), (60, .getfield 31, 3, [5, 3, 2, 5]), (63, .getfield 109, 3, [0, 1, 2, 17]), (66, .iload_n 2, 1, []), (67, .dup2, 1, []), (68, .iaload, 1, []), (69, .iconst 1, 1, []), (70, .iadd, 1, []), (71, .iastore, 1, []), (72, .iinc 1 1, 3, []), (75, .goto (-73), 3, [2]), (78, .aload_n 0, 1, []), (79, .dup, 1, []), (80, .getfield 56, 3, [5, 9, 0, 11]), (83, .iconst 1, 1, []), (84, .iadd, 1, []), (85, .putfield 56, 3, [5, 9, 0, 11]), (88, .return_, 1, [])]
def fm_h50 : List fm_H := []
/-- Feederlight.heatFuses()I -/
def fm_c51 : List fm_En := [(0, .iconst 0, 1, []), (1, .istore_n 1, 1, []), (2, .iconst 1, 1, []), (3, .istore_n 2, 1, []), (4, .iload_n 2, 1, []), (5, .aload_n 0, 1, []), (6, .getfield 27, 3, [5, 2, 2, 4]), (9, .getfield 71, 3, [3, 8, 0, 13]), (12, .if_icmp .ge 63, 3, [75]), (15, .aload_n 0, 1, []), (16, .getfield 20, 3, [5, 1, 2, 2]), (19, .getfield 155, 3, [1, 1, 2, 22]), (22, .iload_n 2, 1, []), (23, .baload, 1, []), (24, .ifCond .eq 45, 3, [69]), (27, .aload_n 0, 1, []), (28, .getfield 20, 3, [5, 1, 2, 2]), (31, .getfield 267, 3, [1, 3, 2, 30]), (34, .iload_n 2, 1, []), (35, .iaload, 1, []), (36, .ifCond .le 33, 3, [69]), (39, .aload_n 0, 1, []), (40, .getfield 27, 3, [5, 2, 2, 4]), (43, .aload_n 0, 1, []), (44, .getfield 20, 3, [5, 1, 2, 2]), (47, .getfield 267, 3, [1, 3, 2, 30]), (50, .iload_n 2, 1, []), (51, .iaload, 1, []), (52, .aload_n 0, 1, []), (53, .getfield 10, 3, [5, 0, 2, 0]), (56, .iload_n 2, 1, []), (57, .invokevirtual 270, 3, [132, 1, 2, 108, 2]), (60, .invokevirtual 273, 3, [137, 1, 3, 109, 3]), (63, .ifCond .eq 6, 3, [69]), (66, .iinc 1 1, 3, []), (69, .iinc 2 1, 3, []), (72, .goto (-68), 3, [4]), (75, .iload_n 1, 1, []), (76, .ireturn, 1, [0])]
def fm_h51 : List fm_H := []
/-- Feederlight.voltageAlongWay(I)I -/
def fm_c52 : List fm_En := [(0, .aload_n 0, 1, []), (1, .getfield 49, 3, [5, 7, 0, 9]), (4, .istore_n 2, 1, []), (5, .iload_n 1, 1, []), (6, .istore_n 3, 1, []), (7, .iconst 0, 1, []), (8, .istore 4, 2, []), (10, .iload 4, 2, []), (12, .bipush 12, 2, []), (14, .if_icmp .ge 43, 3, [57]), (17, .iload_n 3, 1, []), (18, .ifCond .le 39, 3, [57]), (21, .iload_n 2, 1, []), (22, .aload_n 0, 1, []), (23, .getfield 20, 3, [5, 1, 2, 2]), (26, .getfield 276, 3, [1, 4, 2, 31]), (29, .iload_n 3, 1, []), (30, .iaload, 1, []), (31, .aload_n 0, 1, []), (32, .iload_n 3, 1, []), (33, .invokevirtual 279, 3, [53, 1, 2, 110, 5]), (36, .invokestatic 282, 3, [60, 1, 2, 111]), (39, .isub, 1, []), (40, .istore_n 2, 1, []), (41, .aload_n 0, 1, []), (42, .getfield 20, 3, [5, 1, 2, 2]), (45, .getfield 161, 3, [1, 2, 2, 23]), (48, .iload_n 3, 1, []), (49, .iaload, 1, []), (50, .istore_n 3, 1, []), (51, .iinc 4 1, 3, []), (54, .goto (-44), 3, [10]), (57, .iload_n 2, 1, []), (58, .ireturn, 1, [0])]
def fm_h52 : List fm_H := []
/-- Feederlight.flowFoundAlone(I)I -/
def fm_c53 : List fm_En := [(0, .iconst 0, 1, []), (1, .istore_n 2, 1, []), (2, .iconst 0, 1, []), (3, .istore_n 3, 1, []), (4, .iload_n 3, 1, []), (5, .aload_n 0, 1, []), (6, .getfield 27, 3, [5, 2, 2, 4]), (9, .getfield 71, 3, [3, 8, 0, 13]), (12, .if_icmp .ge 41, 3, [53]), (15, .aload_n 0, 1, []), (16, .getfield 20, 3, [5, 1, 2, 2]), (19, .getfield 155, 3, [1, 1, 2, 22]), (22, .iload_n 3, 1, []), (23, .baload, 1, []), (24, .ifCond .eq 23, 3, [47]), (27, .aload_n 0, 1, []), (28, .getfield 20, 3, [5, 1, 2, 2]), (31, .iload_n 3, 1, []), (32, .iload_n 1, 1, []), (33, .invokevirtual 286, 3, [129, 1, 3, 112, 1]), (36, .ifCond .eq 11, 3, [47]), (39, .iload_n 2, 1, []), (40, .aload_n 0, 1, []), (41, .iload_n 3, 1, []), (42, .invokevirtual 289, 3, [54, 1, 2, 113, 5]), (45, .iadd, 1, []), (46, .istore_n 2, 1, []), (47, .iinc 3 1, 3, []), (50, .goto (-46), 3, [4]), (53, .iload_n 2, 1, []), (54, .ireturn, 1, [0])]
def fm_h53 : List fm_H := []
/-- Feederlight.netCurrent(I)I -/
def fm_c54 : List fm_En := [(0, .aload_n 0, 1, []), (1, .getfield 42, 3, [5, 5, 2, 7]), (4, .iload_n 1, 1, []), (5, .iaload, 1, []), (6, .aload_n 0, 1, []), (7, .getfield 37, 3, [5, 4, 2, 6]), (10, .iload_n 1, 1, []), (11, .aaload, 1, []), (12, .aload_n 0, 1, []), (13, .getfield 53, 3, [5, 8, 0, 10]), (16, .invokevirtual 125, 3, [141, 1, 2, 84, 4]), (19, .isub, 1, []), (20, .istore_n 2, 1, []), (21, .aload_n 0, 1, []), (22, .iload_n 1, 1, []), (23, .invokevirtual 189, 3, [43, 1, 2, 93, 5]), (26, .ifCond .eq 17, 3, [43]), (29, .iload_n 2, 1, []), (30, .aload_n 0, 1, []), (31, .getfield 31, 3, [5, 3, 2, 5]), (34, .getfield 103, 3, [0, 0, 2, 15]), (37, .iload_n 1, 1, []), (38, .iaload, 1, []), (39, .iadd, 1, []), (40, .goto 4, 3, [44]), (43, .iload_n 2, 1, []), (44, .ireturn, 1, [0])]
def fm_h54 : List fm_H := []
/-- Feederlight.voltagesAgree()Z -/
def fm_c55 : List fm_En := [(0, .aload_n 0, 1, []), (1, .invokevirtual 172, 3, [45, 0, 1, 89, 5]), (4, .iconst 0, 1, []), (5, .istore_n 1, 1, []), (6, .iload_n 1, 1, []), (7, .aload_n 0, 1, []), (8, .getfield 27, 3, [5, 2, 2, 4]), (11, .getfield 71, 3, [3, 8, 0, 13]), (14, .if_icmp .ge 40, 3, [54]), (17, .aload_n 0, 1, []), (18, .getfield 20, 3, [5, 1, 2, 2]), (21, .getfield 155, 3, [1, 1, 2, 22]), (24, .iload_n 1, 1, []), (25, .baload, 1, []), (26, .ifCond .eq 22, 3, [48]), (29, .aload_n 0, 1, []), (30, .getfield 10, 3, [5, 0, 2, 0]), (33, .getfield 179, 3, [2, 2, 2, 26]), (36, .iload_n 1, 1, []), (37, .iaload, 1, []), (38, .aload_n 0, 1, []), (39, .iload_n 1, 1, []), (40, .invokevirtual 182, 3, [52, 1, 2, 91, 5]), (43, .if_icmp .eq 5, 3, [48]), (46, .iconst 0, 1, []), (47, .ireturn, 1, [1]), (48, .iinc 1 1, 3, []), (51, .goto (-45), 3, [6]), (54, .iconst 1, 1, []), (55, .ireturn, 1, [1])]
def fm_h55 : List fm_H := []
/-- Feederlight.chargersToServe()I -/
def fm_c56 : List fm_En := [(0, .aload_n 0, 1, []), (1, .getfield 31, 3, [5, 3, 2, 5]), (4, .aload_n 0, 1, []), (5, .getfield 27, 3, [5, 2, 2, 4]), (8, .getfield 71, 3, [3, 8, 0, 13]), (11, .invokevirtual 292, 3, [118, 1, 2, 114, 0]), (14, .aload_n 0, 1, []), (15, .getfield 20, 3, [5, 1, 2, 2]), (18, .invokevirtual 133, 3, [128, 1, 1, 86, 1]), (21, .iand, 1, []), (22, .ireturn, 1, [0])]
def fm_h56 : List fm_H := []
/-- Feederlight.mostFromLargerSets()I -/
def fm_c57 : List fm_En := [(0, .aload_n 0, 1, []), (1, .invokevirtual 246, 3, [44, 0, 1, 101, 5]), (4, .aload_n 0, 1, []), (5, .invokevirtual 295, 3, [56, 1, 1, 115, 5]), (8, .istore_n 1, 1, []), (9, .iconst 1, 1, []), (10, .aload_n 0, 1, []), (11, .getfield 27, 3, [5, 2, 2, 4]), (14, .getfield 71, 3, [3, 8, 0, 13]), (17, .ishl, 1, []), (18, .istore_n 2, 1, []), (19, .iload_n 1, 1, []), (20, .invokestatic 136, 3, [168, 1, 1, 87]), (23, .istore_n 3, 1, []), (24, .iload_n 3, 1, []), (25, .ifCond .lt 53, 3, [78]), (28, .iconst 0, 1, []), (29, .istore 4, 2, []), (31, .iload 4, 2, []), (33, .iload_n 2, 1, []), (34, .if_icmp .ge 38, 3, [72]), (37, .iload 4, 2, []), (39, .iload_n 1, 1, []), (40, .iconst (-1), 1, []), (41, .ixor, 1, []), (42, .iand, 1, []), (43, .ifCond .ne 23, 3, [66]), (46, .iload 4, 2, []), (48, .invokestatic 136, 3, [168, 1, 1, 87]), (51, .iload_n 3, 1, []), (52, .if_icmp .ne 14, 3, [66]), (55, .aload_n 0, 1, []), (56, .iload 4, 2, []), (58, .invokevirtual 264, 3, [47, 1, 2, 107, 5]), (61, .ifCond .eq 5, 3, [66]), (64, .iload_n 3, 1, []), (65, .ireturn, 1, [0]), (66, .iinc 4 1, 3, []), (69, .goto (-38), 3, [31]), (72, .iinc 3 (-1), 3, []), (75, .goto (-51), 3, [24]), (78, .iconst (-1), 1, []), (79, .ireturn, 1, [0])]
def fm_h57 : List fm_H := []
/-- Feederlight.mostOfAllSets()I -/
def fm_c58 : List fm_En := [(0, .aload_n 0, 1, []), (1, .invokevirtual 246, 3, [44, 0, 1, 101, 5]), (4, .aload_n 0, 1, []), (5, .invokevirtual 295, 3, [56, 1, 1, 115, 5]), (8, .istore_n 1, 1, []), (9, .iconst 1, 1, []), (10, .aload_n 0, 1, []), (11, .getfield 27, 3, [5, 2, 2, 4]), (14, .getfield 71, 3, [3, 8, 0, 13]), (17, .ishl, 1, []), (18, .istore_n 2, 1, []), (19, .iconst (-1), 1, []), (20, .istore_n 3, 1, []), (21, .iconst 0, 1, []), (22, .istore 4, 2, []), (24, .iload 4, 2, []), (26, .iload_n 2, 1, []), (27, .if_icmp .ge 37, 3, [64]), (30, .iload 4, 2, []), (32, .iload_n 1, 1, []), (33, .iconst (-1), 1, []), (34, .ixor, 1, []), (35, .iand, 1, []), (36, .ifCond .ne 22, 3, [58]), (39, .aload_n 0, 1, []), (40, .iload 4, 2, []), (42, .invokevirtual 264, 3, [47, 1, 2, 107, 5]), (45, .ifCond .eq 13, 3, [58]), (48, .iload_n 3, 1, []), (49, .iload 4, 2, []), (51, .invokestatic 136, 3, [168, 1, 1, 87]), (54, .invokestatic 298, 3, [170, 1, 2, 116]), (57, .istore_n 3, 1, []), (58, .iinc 4 1, 3, []), (61, .goto (-37), 3, [24]), (64, .iload_n 3, 1, []), (65, .ireturn, 1, [0])]
def fm_h58 : List fm_H := []
/-- Feederlight.isIn(II)Z -/
def fm_c59 : List fm_En := [(0, .iload_n 0, 1, []), (1, .iload_n 1, 1, []), (2, .ishr, 1, []), (3, .iconst 1, 1, []), (4, .iand, 1, []), (5, .iconst 1, 1, []), (6, .if_icmp .ne 7, 3, [13]), (9, .iconst 1, 1, []), (10, .goto 4, 3, [14]), (13, .iconst 0, 1, []), (14, .ireturn, 1, [1])]
def fm_h59 : List fm_H := []
/-- Feederlight.drop(II)I -/
def fm_c60 : List fm_En := [(0, .iload_n 0, 1, []), (1, .iload_n 1, 1, []), (2, .imul, 1, []), (3, .bipush 10, 2, []), (5, .idiv, 1, []), (6, .ireturn, 1, [0])]
def fm_h60 : List fm_H := []
/-- FeederlightModel.<init>()V -/
def fm_c61 : List fm_En := [(0, .aload_n 0, 1, []), (1, .invokespecial 1, 3, [1]), (4, .aload_n 0, 1, []), (5, .bipush 12, 2, []), (7, .newarray .int, 2, [10]), (9, .putfield 9, 3, [6, 0, 2, 32]), (12, .aload_n 0, 1, []), (13, .bipush 12, 2, []), (15, .newarray .int, 2, [10]), (17, .putfield 13, 3, [6, 1, 2, 33]), (20, .aload_n 0, 1, []), (21, .bipush 12, 2, []), (23, .newarray .int, 2, [10]), (25, .putfield 16, 3, [6, 2, 2, 34]), (28, .aload_n 0, 1, []), (29, .bipush 12, 2, []), (31, .newarray .int, 2, [10]), (33, .putfield 19, 3, [6, 3, 2, 35]), (36, .aload_n 0, 1, []), (37, .bipush 12, 2, []), (39, .newarray .int, 2, [10]), (41, .putfield 22, 3, [6, 4, 2, 36]), (44, .aload_n 0, 1, []), (45, .bipush 12, 2, []), (47, .newarray .int, 2, [10]), (49, .putfield 25, 3, [6, 5, 2, 37]), (52, .aload_n 0, 1, []), (53, .bipush 12, 2, []), (55, .newarray .int, 2, [10]), (57, .putfield 28, 3, [6, 6, 2, 38]), (60, .aload_n 0, 1, []), (61, .bipush 12, 2, []), (63, .newarray .boolean, 2, [11]), (65, .putfield 31, 3, [6, 7, 2, 39]), (68, .aload_n 0, 1, []), (69, .bipush 12, 2, []), (71, .newarray .boolean, 2, [11]), (73, .putfield 35, 3, [6, 8, 2, 40]), (76, .aload_n 0, 1, []), (77, .bipush 12, 2, []), (79, .newarray .boolean, 2, [11]), (81, .putfield 38, 3, [6, 9, 2, 41]), (84, .aload_n 0, 1, []), (85, .bipush 12, 2, []), (87, .newarray .boolean, 2, [11]), (89, .putfield 41, 3, [6, 10, 2, 42]), (92, .aload_n 0, 1, []), (93, .bipush 12, 2, []), (95, .newarray .int, 2, [10]), (97, .putfield 44, 3, [6, 11, 2, 43]), (100, .aload_n 0, 1, []), (101, .bipush 12, 2, []), (103, .newarray .int, 2, [10]), (105, .putfield 47, 3, [6, 12, 2, 44]), (108, .aload_n 0, 1, []), (109, .bipush 48, 2, []), (111, .newarray .int, 2, [10]), (113, .putfield 50, 3, [6, 13, 2, 45]), (116, .aload_n 0, 1, []), (117, .iconst 4, 1, []), (118, .newarray .int, 2, [10]), (120, .putfield 53, 3, [6, 14, 2, 46]), (123, .aload_n 0, 1, []), (124, .iconst 4, 1, []), (125, .newarray .int, 2, [10]), (127, .putfield 56, 3, [6, 15, 2, 47]), (130, .aload_n 0, 1, []), (131, .iconst 4, 1, []), (132, .newarray .int, 2, [10]), (134, .putfield 59, 3, [6, 16, 2, 48]), (137, .aload_n 0, 1, []), (138, .bipush 48, 2, []), (140, .newarray .boolean, 2, [11]), (142, .putfield 62, 3, [6, 17, 2, 49]), (145, .aload_n 0, 1, []), (146, .iconst 4, 1, []), (147, .newarray .boolean, 2, [11]), (149, .putfield 65, 3, [6, 18, 2, 50]), (152, .aload_n 0, 1, []), (153, .bipush 12, 2, []), (155, .newarray .int, 2, [10]), (157, .putfield 68, 3, [6, 19, 2, 51]), (160, .aload_n 0, 1, []), (161, .bipush 12, 2, []), (163, .newarray .int, 2, [10]), (165, .putfield 71, 3, [6, 20, 2, 52]), (168, .aload_n 0, 1, []), (169, .bipush 12, 2, []), (171, .newarray .int, 2, [10]), (173, .putfield 74, 3, [6, 21, 2, 53]), (176, .aload_n 0, 1, []), (177, .bipush 12, 2, []), (179, .newarray .int, 2, [10]), (181, .putfield 77, 3, [6, 22, 2, 54]), (184, .aload_n 0, 1, []), (185, .bipush 12, 2, []), (187, .newarray .int, 2, [10]), (189, .putfield 80, 3, [6, 23, 2, 55]), (192, .aload_n 0, 1, []), (193, .bipush 12, 2, []), (195, .newarray .int, 2, [10]), (197, .putfield 83, 3, [6, 24, 2, 56]), (200, .aload_n 0, 1, []), (201, .iconst 1, 1, []), (202, .putfield 86, 3, [6, 25, 0, 57]), (205, .aload_n 0, 1, []), (206, .sipush 2300, 3, []), (209, .putfield 90, 3, [6, 27, 0, 58]), (212, .return_, 1, [])]
def fm_h61 : List fm_H := []
/-- FeederlightModel.thrown()I -/
def fm_c62 : List fm_En := [(0, .aload_n 0, 1, []), (1, .getfield 93, 3, [6, 31, 0, 59]), (4, .ireturn, 1, [0])]
def fm_h62 : List fm_H := []
/-- FeederlightModel.isIn(III)Z -/
def fm_c63 : List fm_En := [(0, .iload_n 0, 1, []), (1, .iload_n 1, 1, []), (2, .if_icmp .lt 12, 3, [14]), (5, .iload_n 0, 1, []), (6, .iload_n 2, 1, []), (7, .if_icmp .gt 7, 3, [14]), (10, .iconst 1, 1, []), (11, .goto 4, 3, [15]), (14, .iconst 0, 1, []), (15, .ireturn, 1, [1])]
def fm_h63 : List fm_H := []
/-- FeederlightModel.isThrown(ZI)Z -/
def fm_c64 : List fm_En := [(0, .aload_n 0, 1, []), (1, .iload_n 1, 1, []), (2, .ifCond .eq 7, 3, [9]), (5, .iload_n 2, 1, []), (6, .goto 4, 3, [10]), (9, .iconst 0, 1, []), (10, .putfield 93, 3, [6, 31, 0, 59]), (13, .iload_n 1, 1, []), (14, .ireturn, 1, [1])]
def fm_h64 : List fm_H := []
/-- FeederlightModel.isNone(I)Z -/
def fm_c65 : List fm_En := [(0, .aload_n 0, 1, []), (1, .iload_n 1, 1, []), (2, .iconst 0, 1, []), (3, .aload_n 0, 1, []), (4, .getfield 86, 3, [6, 25, 0, 57]), (7, .iconst 1, 1, []), (8, .isub, 1, []), (9, .invokestatic 96, 3, [63, 1, 3, 117]), (12, .ifCond .ne 7, 3, [19]), (15, .iconst 1, 1, []), (16, .goto 4, 3, [20]), (19, .iconst 0, 1, []), (20, .iconst 1, 1, []), (21, .invokevirtual 100, 3, [64, 1, 3, 118, 6]), (24, .ireturn, 1, [1])]
def fm_h65 : List fm_H := []
/-- FeederlightModel.addNode(III)I -/
def fm_c66 : List fm_En := [(0, .aload_n 0, 1, []), (1, .iload_n 1, 1, []), (2, .invokevirtual 104, 3, [65, 1, 2, 119, 6]), (5, .ifCond .ne 59, 3, [64]), (8, .aload_n 0, 1, []), (9, .iload_n 2, 1, []), (10, .iconst 1, 1, []), (11, .bipush 20, 2, []), (13, .invokestatic 96, 3, [63, 1, 3, 117]), (16, .ifCond .eq 14, 3, [30]), (19, .iload_n 3, 1, []), (20, .iconst 1, 1, []), (21, .sipush 400, 3, []), (24, .invokestatic 96, 3, [63, 1, 3, 117]), (27, .ifCond .ne 7, 3, [34]), (30, .iconst 1, 1, []), (31, .goto 4, 3, [35]), (34, .iconst 0, 1, []), (35, .iconst 2, 1, []), (36, .invokevirtual 100, 3, [64, 1, 3, 118, 6]), (39, .ifCond .ne 25, 3, [64]), (42, .aload_n 0, 1, []), (43, .aload_n 0, 1, []), (44, .getfield 86, 3, [6, 25, 0, 57]), (47, .bipush 12, 2, []), (49, .if_icmp .ne 7, 3, [56]), (52, .iconst 1, 1, []), (53, .goto 4, 3, [57]), (56, .iconst 0, 1, []), (57, .iconst 3, 1, []), (58, .invokevirtual 100, 3, [64, 1, 3, 118, 6]), (61, .ifCond .eq 5, 3, [66]), (64, .iconst 0, 1, []), (65, .ireturn, 1, [0]), (66, .aload_n 0, 1, []), (67, .getfield 9, 3, [6, 0, 2, 32]), (70, .aload_n 0, 1, []), (71, .getfield 86, 3, [6, 25, 0, 57]), (74, .iload_n 1, 1, []), (75, .iastore, 1, []), (76, .aload_n 0, 1, []), (77, .getfield 13, 3, [6, 1, 2, 33]), (80, .aload_n 0, 1, []), (81, .getfield 86, 3, [6, 25, 0, 57]), (84, .iload_n 2, 1, []), (85, .iastore, 1, []), (86, .aload_n 0, 1, []), (87, .getfield 16, 3, [6, 2, 2, 34]), (90, .aload_n 0, 1, []), (91, .getfield 86, 3, [6, 25, 0, 57]), (94, .iload_n 3, 1, []), (95, .iastore, 1, []), (96, .aload_n 0, 1, []), (97, .dup, 1, []), (98, .getfield 86, 3, [6, 25, 0, 57]), (101, .iconst 1, 1, []), (102, .iadd, 1, []), (103, .putfield 86, 3, [6, 25, 0, 57]), (106, .aload_n 0, 1, []), (107, .getfield 86, 3, [6, 25, 0, 57]), (110, .iconst 1, 1, []), (111, .isub, 1, []), (112, .ireturn, 1, [0])]
def fm_h66 : List fm_H := []
/-- FeederlightModel.addTie(III)I -/
def fm_c67 : List fm_En := [(0, .aload_n 0, 1, []), (1, .iload_n 1, 1, []), (2, .iconst 0, 1, []), (3, .aload_n 0, 1, []), (4, .getfield 86, 3, [6, 25, 0, 57]), (7, .iconst 1, 1, []), (8, .isub, 1, []), (9, .invokestatic 96, 3, [63, 1, 3, 117]), (12, .ifCond .eq 17, 3, [29]), (15, .iload_n 2, 1, []), (16, .iconst 0, 1, []), (17, .aload_n 0, 1, []), (18, .getfield 86, 3, [6, 25, 0, 57]), (21, .iconst 1, 1, []), (22, .isub, 1, []), (23, .invokestatic 96, 3, [63, 1, 3, 117]), (26, .ifCond .ne 7, 3, [33]), (29, .iconst 1, 1, []), (30, .goto 4, 3, [34]), (33, .iconst 0, 1, []), (34, .iconst 1, 1, []), (35, .invokevirtual 100, 3, [64, 1, 3, 118, 6]), (38, .ifCond .ne 52, 3, [90]), (41, .aload_n 0, 1, []), (42, .iload_n 1, 1, []), (43, .iload_n 2, 1, []), (44, .if_icmp .eq 13, 3, [57]), (47, .iload_n 3, 1, []), (48, .iconst 1, 1, []), (49, .bipush 20, 2, []), (51, .invokestatic 96, 3, [63, 1, 3, 117]), (54, .ifCond .ne 7, 3, [61]), (57, .iconst 1, 1, []), (58, .goto 4, 3, [62]), (61, .iconst 0, 1, []), (62, .iconst 2, 1, []), (63, .invokevirtual 100, 3, [64, 1, 3, 118, 6]), (66, .ifCond .ne 24, 3, [90]), (69, .aload_n 0, 1, []), (70, .aload_n 0, 1, []), (71, .getfield 108, 3, [6, 26, 0, 60]), (74, .iconst 4, 1, []), (75, .if_icmp .ne 7, 3, [82]), (78, .iconst 1, 1, []), (79, .goto 4, 3, [83]), (82, .iconst 0, 1, []), (83, .iconst 3, 1, []), (84, .invokevirtual 100, 3, [64, 1, 3, 118, 6]), (87, .ifCond .eq 5, 3, [92]), (90, .iconst 0, 1, []), (91, .ireturn, 1, [0]), (92, .aload_n 0, 1, []), (93, .getfield 53, 3, [6, 14, 2, 46]), (96, .aload_n 0, 1, []), (97, .getfield 108, 3, [6, 26, 0, 60]), (100, .iload_n 1, 1, []), (101, .iastore, 1, []), (102, .aload_n 0, 1, []), (103, .getfield 56, 3, [6, 15, 2, 47]), (106, .aload_n 0, 1, []), (107, .getfield 108, 3, [6, 26, 0, 60]), (110, .iload_n 2, 1, []), (111, .iastore, 1, []), (112, .aload_n 0, 1, []), (113, .getfield 59, 3, [6, 16, 2, 48]), (116, .aload_n 0, 1, []), (117, .getfield 108, 3, [6, 26, 0, 60]), (120, .iload_n 3, 1, []), (121, .iastore, 1, []), (122, .aload_n 0, 1, []), (123, .dup, 1, []), (124, .getfield 108, 3, [6, 26, 0, 60]), (127, .iconst 1, 1, []), (128, .iadd, 1, []), (129, .putfield 108, 3, [6, 26, 0, 60]), (132, .aload_n 0, 1, []), (133, .getfield 108, 3, [6, 26, 0, 60]), (136, .iconst 1, 1, []), (137, .isub, 1, []), (138, .ireturn, 1, [0])]
def fm_h67 : List fm_H := []
/-- FeederlightModel.setBase(I)I -/
def fm_c68 : List fm_En := [(0, .aload_n 0, 1, []), (1, .iload_n 1, 1, []), (2, .sipush 2000, 3, []), (5, .sipush 2600, 3, []), (8, .invokestatic 96, 3, [63, 1, 3, 117]), (11, .ifCond .ne 7, 3, [18]), (14, .iconst 1, 1, []), (15, .goto 4, 3, [19]), (18, .iconst 0, 1, []), (19, .iconst 1, 1, []), (20, .invokevirtual 100, 3, [64, 1, 3, 118, 6]), (23, .ifCond .eq 5, 3, [28]), (26, .iconst 0, 1, []), (27, .ireturn, 1, [0]), (28, .aload_n 0, 1, []), (29, .getfield 90, 3, [6, 27, 0, 58]), (32, .istore_n 2, 1, []), (33, .aload_n 0, 1, []), (34, .iload_n 1, 1, []), (35, .putfield 90, 3, [6, 27, 0, 58]), (38, .iload_n 2, 1, []), (39, .ireturn, 1, [0])]
def fm_h68 : List fm_H := []
/-- FeederlightModel.setLoad(II)I -/
def fm_c69 : List fm_En := [(0, .aload_n 0, 1, []), (1, .iload_n 1, 1, []), (2, .invokevirtual 104, 3, [65, 1, 2, 119, 6]), (5, .ifCond .ne 27, 3, [32]), (8, .aload_n 0, 1, []), (9, .iload_n 2, 1, []), (10, .iconst 0, 1, []), (11, .sipush 200, 3, []), (14, .invokestatic 96, 3, [63, 1, 3, 117]), (17, .ifCond .ne 7, 3, [24]), (20, .iconst 1, 1, []), (21, .goto 4, 3, [25]), (24, .iconst 0, 1, []), (25, .iconst 2, 1, []), (26, .invokevirtual 100, 3, [64, 1, 3, 118, 6]), (29, .ifCond .eq 5, 3, [34]), (32, .iconst 0, 1, []), (33, .ireturn, 1, [0]), (34, .aload_n 0, 1, []), (35, .getfield 19, 3, [6, 3, 2, 35]), (38, .iload_n 1, 1, []), (39, .iaload, 1, []), (40, .istore_n 3, 1, []), (41, .aload_n 0, 1, []), (42, .getfield 19, 3, [6, 3, 2, 35]), (45, .iload_n 1, 1, []), (46, .iload_n 2, 1, []), (47, .iastore, 1, []), (48, .iload_n 3, 1, []), (49, .ireturn, 1, [0])]
def fm_h69 : List fm_H := []
/-- FeederlightModel.setCharger(II)I -/
def fm_c70 : List fm_En := [(0, .aload_n 0, 1, []), (1, .iload_n 1, 1, []), (2, .invokevirtual 104, 3, [65, 1, 2, 119, 6]), (5, .ifCond .ne 26, 3, [31]), (8, .aload_n 0, 1, []), (9, .iload_n 2, 1, []), (10, .iconst 0, 1, []), (11, .bipush 64, 2, []), (13, .invokestatic 96, 3, [63, 1, 3, 117]), (16, .ifCond .ne 7, 3, [23]), (19, .iconst 1, 1, []), (20, .goto 4, 3, [24]), (23, .iconst 0, 1, []), (24, .iconst 2, 1, []), (25, .invokevirtual 100, 3, [64, 1, 3, 118, 6]), (28, .ifCond .eq 5, 3, [33]), (31, .iconst 0, 1, []), (32, .ireturn, 1, [0]), (33, .aload_n 0, 1, []), (34, .getfield 22, 3, [6, 4, 2, 36]), (37, .iload_n 1, 1, []), (38, .iload_n 2, 1, []), (39, .iastore, 1, []), (40, .aload_n 0, 1, []), (41, .getfield 35, 3, [6, 8, 2, 40]), (44, .iload_n 1, 1, []), (45, .iconst 0, 1, []), (46, .bastore, 1, []), (47, .aload_n 0, 1, []), (48, .getfield 25, 3, [6, 5, 2, 37]), (51, .iload_n 1, 1, []), (52, .iaload, 1, []), (53, .ireturn, 1, [0])]
def fm_h70 : List fm_H := []
/-- FeederlightModel.setSun(I)I -/
def fm_c71 : List fm_En := [(0, .aload_n 0, 1, []), (1, .iload_n 1, 1, []), (2, .iconst 0, 1, []), (3, .bipush 100, 2, []), (5, .invokestatic 96, 3, [63, 1, 3, 117]), (8, .ifCond .ne 7, 3, [15]), (11, .iconst 1, 1, []), (12, .goto 4, 3, [16]), (15, .iconst 0, 1, []), (16, .iconst 1, 1, []), (17, .invokevirtual 100, 3, [64, 1, 3, 118, 6]), (20, .ifCond .eq 5, 3, [25]), (23, .iconst 0, 1, []), (24, .ireturn, 1, [0]), (25, .aload_n 0, 1, []), (26, .getfield 111, 3, [6, 28, 0, 61]), (29, .istore_n 2, 1, []), (30, .aload_n 0, 1, []), (31, .iload_n 1, 1, []), (32, .putfield 111, 3, [6, 28, 0, 61]), (35, .iload_n 2, 1, []), (36, .ireturn, 1, [0])]
def fm_h71 : List fm_H := []
/-- FeederlightModel.setRoof(II)I -/
def fm_c72 : List fm_En := [(0, .aload_n 0, 1, []), (1, .iload_n 1, 1, []), (2, .invokevirtual 104, 3, [65, 1, 2, 119, 6]), (5, .ifCond .ne 27, 3, [32]), (8, .aload_n 0, 1, []), (9, .iload_n 2, 1, []), (10, .iconst 0, 1, []), (11, .sipush 200, 3, []), (14, .invokestatic 96, 3, [63, 1, 3, 117]), (17, .ifCond .ne 7, 3, [24]), (20, .iconst 1, 1, []), (21, .goto 4, 3, [25]), (24, .iconst 0, 1, []), (25, .iconst 2, 1, []), (26, .invokevirtual 100, 3, [64, 1, 3, 118, 6]), (29, .ifCond .eq 5, 3, [34]), (32, .iconst 0, 1, []), (33, .ireturn, 1, [0]), (34, .aload_n 0, 1, []), (35, .getfield 47, 3, [6, 12, 2, 44]), (38, .iload_n 1, 1, []), (39, .iaload, 1, []), (40, .istore_n 3, 1, []), (41, .aload_n 0, 1, []), (42, .getfield 44, 3, [6, 11, 2, 43]), (45, .iload_n 1, 1, []), (46, .iload_n 2, 1, []), (47, .iastore, 1, []), (48, .aload_n 0, 1, []), (49, .getfield 47, 3, [6, 12, 2, 44]), (52, .iload_n 1, 1, []), (53, .iconst 0, 1, []), (54, .iastore, 1, []), (55, .iload_n 3, 1, []), (56, .iconst 1, 1, []), (57, .iadd, 1, []), (58, .ireturn, 1, [0])]
def fm_h72 : List fm_H := []
/-- FeederlightModel.adds(IZII)I -/
def fm_c73 : List fm_En := [(0, .aload_n 0, 1, []), (1, .iload_n 1, 1, []), (2, .invokevirtual 104, 3, [65, 1, 2, 119, 6]), (5, .ifCond .ne 49, 3, [54]), (8, .aload_n 0, 1, []), (9, .iload_n 3, 1, []), (10, .iconst 0, 1, []), (11, .iload 4, 2, []), (13, .invokestatic 96, 3, [63, 1, 3, 117]), (16, .ifCond .ne 7, 3, [23]), (19, .iconst 1, 1, []), (20, .goto 4, 3, [24]), (23, .iconst 0, 1, []), (24, .iconst 2, 1, []), (25, .invokevirtual 100, 3, [64, 1, 3, 118, 6]), (28, .ifCond .ne 26, 3, [54]), (31, .aload_n 0, 1, []), (32, .aload_n 0, 1, []), (33, .getfield 47, 3, [6, 12, 2, 44]), (36, .iload_n 1, 1, []), (37, .iaload, 1, []), (38, .iconst 4, 1, []), (39, .if_icmp .ne 7, 3, [46]), (42, .iconst 1, 1, []), (43, .goto 4, 3, [47]), (46, .iconst 0, 1, []), (47, .iconst 3, 1, []), (48, .invokevirtual 100, 3, [64, 1, 3, 118, 6]), (51, .ifCond .eq 5, 3, [56]), (54, .iconst 0, 1, []), (55, .ireturn, 1, [0]), (56, .aload_n 0, 1, []), (57, .getfield 50, 3, [6, 13, 2, 45]), (60, .iconst 4, 1, []), (61, .iload_n 1, 1, []), (62, .imul, 1, []), (63, .aload_n 0, 1, []), (64, .getfield 47, 3, [6, 12, 2, 44]), (67, .iload_n 1, 1, []), (68, .iaload, 1, []), (69, .iadd, 1, []), (70, .iload_n 3, 1, []), (71, .iastore, 1, []), (72, .aload_n 0, 1, []), (73, .getfield 62, 3, [6, 17, 2, 49]), (76, .iconst 4, 1, []), (77, .iload_n 1, 1, []), (78, .imul, 1, []), (79, .aload_n 0, 1, []), (80, .getfield 47, 3, [6, 12, 2, 44]), (83, .iload_n 1, 1, []), (84, .iaload, 1, []), (85, .iadd, 1, []), (86, .iload_n 2, 1, []), (87, .bastore, 1, []), (88, .aload_n 0, 1, []), (89, .getfield 47, 3, [6, 12, 2, 44]), (92, .iload_n 1, 1, []), (93, .dup2, 1, []), (94, .iaload, 1, []), (95, .iconst 1, 1, []), (96, .iadd, 1, []), (97, .iastore, 1, []), (98, .aload_n 0, 1, []), (99, .getfield 47, 3, [6, 12, 2, 44]), (102, .iload_n 1, 1, []), (103, .iaload, 1, []), (104, .iconst 1, 1, []), (105, .iadd, 1, []), (106, .ireturn, 1, [0])]
def fm_h73 : List fm_H := []
/-- FeederlightModel.capRoof(II)I -/
def fm_c74 : List fm_En := [(0, .aload_n 0, 1, []), (1, .iload_n 1, 1, []), (2, .iconst 1, 1, []), (3, .iload_n 2, 1, []), (4, .sipush 200, 3, []), (7, .invokevirtual 114, 3, [73, 1, 5, 120, 6]), (10, .ireturn, 1, [0])]
def fm_h74 : List fm_H := []
/-- FeederlightModel.shadeRoof(II)I -/
def fm_c75 : List fm_En := [(0, .aload_n 0, 1, []), (1, .iload_n 1, 1, []), (2, .iconst 0, 1, []), (3, .iload_n 2, 1, []), (4, .bipush 100, 2, []), (6, .invokevirtual 114, 3, [73, 1, 5, 120, 6]), (9, .ireturn, 1, [0])]
def fm_h75 : List fm_H := []
/-- FeederlightModel.curve(II)I -/
def fm_c76 : List fm_En := [(0, .sipush 200, 3, []), (3, .istore_n 3, 1, []), (4, .iload_n 2, 1, []), (5, .istore 4, 2, []), (7, .aload_n 0, 1, []), (8, .getfield 47, 3, [6, 12, 2, 44]), (11, .iload_n 1, 1, []), (12, .iaload, 1, []), (13, .iconst 1, 1, []), (14, .isub, 1, []), (15, .istore 5, 2, []), (17, .iload 5, 2, []), (19, .ifCond .lt 62, 3, [81]), (22, .aload_n 0, 1, []), (23, .getfield 50, 3, [6, 13, 2, 45]), (26, .iconst 4, 1, []), (27, .iload_n 1, 1, []), (28, .imul, 1, []), (29, .iload 5, 2, []), (31, .iadd, 1, []), (32, .iaload, 1, []), (33, .istore 6, 2, []), (35, .aload_n 0, 1, []), (36, .getfield 62, 3, [6, 17, 2, 49]), (39, .iconst 4, 1, []), (40, .iload_n 1, 1, []), (41, .imul, 1, []), (42, .iload 5, 2, []), (44, .iadd, 1, []), (45, .baload, 1, []), (46, .ifCond .eq 13, 3, [59]), (49, .iload_n 3, 1, []), (50, .iload 6, 2, []), (52, .invokestatic 118, 3, [171, 1, 2, 121]), (55, .istore_n 3, 1, []), (56, .goto 19, 3, [75]), (59, .iload 4, 2, []), (61, .iload 6, 2, []), (63, .if_icmp .ge 5, 3, [68]), (66, .iconst 0, 1, []), (67, .ireturn, 1, [0]), (68, .iload 4, 2, []), (70, .iload 6, 2, []), (72, .isub, 1, []), (73, .istore 4, 2, []), (75, .iinc 5 (-1), 3, []), (78, .goto (-61), 3, [17]), (81, .iload_n 3, 1, []), (82, .aload_n 0, 1, []), (83, .getfield 44, 3, [6, 11, 2, 43]), (86, .iload_n 1, 1, []), (87, .iaload, 1, []), (88, .iload 4, 2, []), (90, .imul, 1, []), (91, .bipush 100, 2, []), (93, .idiv, 1, []), (94, .invokestatic 118, 3, [171, 1, 2, 121]), (97, .ireturn, 1, [0])]
def fm_h76 : List fm_H := []
/-- FeederlightModel.roofAt(II)I -/
def fm_c77 : List fm_En := [(0, .aload_n 0, 1, []), (1, .iload_n 1, 1, []), (2, .invokevirtual 104, 3, [65, 1, 2, 119, 6]), (5, .ifCond .ne 26, 3, [31]), (8, .aload_n 0, 1, []), (9, .iload_n 2, 1, []), (10, .iconst 0, 1, []), (11, .bipush 100, 2, []), (13, .invokestatic 96, 3, [63, 1, 3, 117]), (16, .ifCond .ne 7, 3, [23]), (19, .iconst 1, 1, []), (20, .goto 4, 3, [24]), (23, .iconst 0, 1, []), (24, .iconst 2, 1, []), (25, .invokevirtual 100, 3, [64, 1, 3, 118, 6]), (28, .ifCond .eq 7, 3, [35]), (31, .iconst 0, 1, []), (32, .goto 9, 3, [41]), (35, .aload_n 0, 1, []), (36, .iload_n 1, 1, []), (37, .iload_n 2, 1, []), (38, .invokevirtual 124, 3, [76, 1, 3, 122, 6]), (41, .ireturn, 1, [0])]
def fm_h77 : List fm_H := []
/-- FeederlightModel.feeds(IIII)V -/
def fm_c78 : List fm_En := [(0, .aload_n 0, 1, []), (1, .getfield 41, 3, [6, 10, 2, 42]), (4, .iload_n 1, 1, []), (5, .iconst 1, 1, []), (6, .bastore, 1, []), (7, .aload_n 0, 1, []), (8, .getfield 68, 3, [6, 19, 2, 51]), (11, .iload_n 1, 1, []), (12, .iload_n 2, 1, []), (13, .iastore, 1, []), (14, .aload_n 0, 1, []), (15, .getfield 71, 3, [6, 20, 2, 52]), (18, .iload_n 1, 1, []), (19, .iload_n 3, 1, []), (20, .iastore, 1, []), (21, .aload_n 0, 1, []), (22, .getfield 74, 3, [6, 21, 2, 53]), (25, .iload_n 1, 1, []), (26, .iload 4, 2, []), (28, .iastore, 1, []), (29, .return_, 1, [])]
def fm_h78 : List fm_H := []
/-- FeederlightModel.spreads()V -/
def fm_c79 : List fm_En := [(0, .iconst 1, 1, []), (1, .istore_n 1, 1, []), (2, .iload_n 1, 1, []), (3, .ifCond .eq 96, 3, [99]), (6, .iconst 0, 1, []), (7, .istore_n 1, 1, []), (8, .iconst 1, 1, []), (9, .istore_n 2, 1, []), (10, .iload_n 2, 1, []), (11, .aload_n 0, 1, []), (12, .getfield 86, 3, [6, 25, 0, 57]), (15, .if_icmp .ge 81, 3, [96]), (18, .aload_n 0, 1, []), (19, .getfield 9, 3, [6, 0, 2, 32]), (22, .iload_n 2, 1, []), (23, .iaload, 1, []), (24, .istore_n 3, 1, []), (25, .aload_n 0, 1, []), (26, .getfield 31, 3, [6, 7, 2, 39]), (29, .iload_n 2, 1, []), (30, .baload, 1, []), (31, .ifCond .ne 59, 3, [90]), (34, .aload_n 0, 1, []), (35, .getfield 41, 3, [6, 10, 2, 42]), (38, .iload_n 2, 1, []), (39, .baload, 1, []), (40, .aload_n 0, 1, []), (41, .getfield 41, 3, [6, 10, 2, 42]), (44, .iload_n 3, 1, []), (45, .baload, 1, []), (46, .if_icmp .eq 44, 3, [90]), (49, .aload_n 0, 1, []), (50, .aload_n 0, 1, []), (51, .getfield 41, 3, [6, 10, 2, 42]), (54, .iload_n 2, 1, []), (55, .baload, 1, []), (56, .ifCond .eq 7, 3, [63]), (59, .iload_n 3, 1, []), (60, .goto 4, 3, [64]), (63, .iload_n 2, 1, []), (64, .aload_n 0, 1, []), (65, .getfield 41, 3, [6, 10, 2, 42]), (68, .iload_n 2, 1, []), (69, .baload, 1, []), (70, .ifCond .eq 7, 3, [77]), (73, .iload_n 2, 1, []), (74, .goto 4, 3, [78]), (77, .iload_n 3, 1, []), (78, .iload_n 2, 1, []), (79, .aload_n 0, 1, []), (80, .getfield 13, 3, [6, 1, 2, 33]), (83, .iload_n 2, 1, []), (84, .iaload, 1, []), (85, .invokevirtual 127, 3, [78, 0, 5, 123, 6]), (88, .iconst 1, 1, []), (89, .istore_n 1, 1, []), (90, .iinc 2 1, 3, []), (93, .goto (-83), 3, [10]), (96, .goto (-94), 3, [2]), (99, .return_, 1, [])]
def fm_h79 : List fm_H := []
/-- FeederlightModel.nets()V -/
def fm_c80 : List fm_En := [(0, .iconst 0, 1, []), (1, .istore_n 1, 1, []), (2, .iload_n 1, 1, []), (3, .aload_n 0, 1, []), (4, .getfield 86, 3, [6, 25, 0, 57]), (7, .if_icmp .ge 31, 3, [38]), (10, .aload_n 0, 1, []), (11, .getfield 41, 3, [6, 10, 2, 42]), (14, .iload_n 1, 1, []), (15, .iload_n 1, 1, []), (16, .ifCond .ne 7, 3, [23]), (19, .iconst 1, 1, []), (20, .goto 4, 3, [24]), (23, .iconst 0, 1, []), (24, .bastore, 1, []), (25, .aload_n 0, 1, []), (26, .getfield 71, 3, [6, 20, 2, 52]), (29, .iload_n 1, 1, []), (30, .iconst (-1), 1, []), (31, .iastore, 1, []), (32, .iinc 1 1, 3, []), (35, .goto (-33), 3, [2]), (38, .aload_n 0, 1, []), (39, .invokevirtual 131, 3, [79, 0, 1, 124, 6]), (42, .iconst 0, 1, []), (43, .istore_n 1, 1, []), (44, .iload_n 1, 1, []), (45, .aload_n 0, 1, []), (46, .getfield 108, 3, [6, 26, 0, 60]), (49, .if_icmp .ge 16, 3, [65]), (52, .aload_n 0, 1, []), (53, .getfield 65, 3, [6, 18, 2, 50]), (56, .iload_n 1, 1, []), (57, .iconst 0, 1, []), (58, .bastore, 1, []), (59, .iinc 1 1, 3, []), (62, .goto (-18), 3, [44]), (65, .iconst 0, 1, []), (66, .istore_n 1, 1, []), (67, .iload_n 1, 1, []), (68, .aload_n 0, 1, []), (69, .getfield 108, 3, [6, 26, 0, 60]), (72, .if_icmp .ge 111, 3, [183]), (75, .aload_n 0, 1, []), (76, .getfield 41, 3, [6, 10, 2, 42]), (79, .aload_n 0, 1, []), (80, .getfield 53, 3, [6, 14, 2, 46]), (83, .iload_n 1, 1, []), (84, .iaload, 1, []), (85, .baload, 1, []), (86, .aload_n 0, 1, []), (87, .getfield 41, 3, [6, 10, 2, 42]), (90, .aload_n 0, 1, []), (91, .getfield 56, 3, [6, 15, 2, 47]), (94, .iload_n 1, 1, []), (95, .iaload, 1, []), (96, .baload, 1, []), (97, .if_icmp .eq 80, 3, [177]), (100, .aload_n 0, 1, []), (101, .getfield 65, 3, [6, 18, 2, 50]), (104, .iload_n 1, 1, []), (105, .iconst 1, 1, []), (106, .bastore, 1, []), (107, .aload_n 0, 1, []), (108, .getfield 41, 3, [6, 10, 2, 42]), (111, .aload_n 0, 1, []), (112, .getfield 53, 3, [6, 14, 2, 46]), (115, .iload_n 1, 1, []), (116, .iaload, 1, []), (117, .baload, 1, []), (118, .istore_n 2, 1, []), (119, .aload_n 0, 1, []), (120, .iload_n 2, 1, []), (121, .ifCond .eq 12, 3, [133]), (124, .aload_n 0, 1, []), (125, .getfield 56, 3, [6, 15, 2, 47]), (128, .iload_n 1, 1, []), (129, .iaload, 1, []), (130, .goto 9, 3, [139]), (133, .aload_n 0, 1, []), (134, .getfield 53, 3, [6, 14, 2, 46]), (137, .iload_n 1, 1, []), (138, .iaload, 1, []), (139, .iload_n 2, 1, []), (140, .ifCond .eq 12, 3, [152]), (143, .aload_n 0, 1, []), (144, .getfield 53, 3, [6, 14, 2, 46]), (147, .iload_n 1, 1, []), (148, .iaload, 1, []), (149, .goto 9, 3, [158]), (152, .aload_n 0, 1, []), (153, .getfield 56, 3, [6, 15, 2, 47]), (156, .iload_n 1, 1, []), (157, .iaload, 1, []), (158, .iconst (-1), 1, []), (159, .aload_n 0, 1, []), (160, .getfield 59, 3, [6, 16, 2, 48]), (163, .iload_n 1, 1, []), (164, .iaload, 1, []), (165, .invokevirtual 127, 3, [78, 0, 5, 123, 6]), (168, .aload_n 0, 1, []), (169, .invokevirtual 131, 3, [79, 0, 1, 124, 6]), (172, .iconst 0, 1, []), (173, .istore_n 1, 1, []), (174, .goto (-107), 3, [67]), (177, .iinc 1 1, 3, []), (180, .goto (-113), 3, [67]), (183, .return_, 1, [])]
def fm_h80 : List fm_H := []
/-- FeederlightModel.flows()V -/
def fm_c81 : List fm_En := [(0, .iconst 0, 1, []), (1, .istore_n 1, 1, []), (2, .iload_n 1, 1, []), (3, .aload_n 0, 1, []), (4, .getfield 86, 3, [6, 25, 0, 57]), (7, .if_icmp .ge 16, 3, [23]), (10, .aload_n 0, 1, []), (11, .getfield 77, 3, [6, 22, 2, 54]), (14, .iload_n 1, 1, []), (15, .iconst 0, 1, []), (16, .iastore, 1, []), (17, .iinc 1 1, 3, []), (20, .goto (-18), 3, [2]), (23, .iconst 0, 1, []), (24, .istore_n 1, 1, []), (25, .iload_n 1, 1, []), (26, .aload_n 0, 1, []), (27, .getfield 86, 3, [6, 25, 0, 57]), (30, .if_icmp .ge 81, 3, [111]), (33, .aload_n 0, 1, []), (34, .getfield 19, 3, [6, 3, 2, 35]), (37, .iload_n 1, 1, []), (38, .iaload, 1, []), (39, .aload_n 0, 1, []), (40, .getfield 38, 3, [6, 9, 2, 41]), (43, .iload_n 1, 1, []), (44, .baload, 1, []), (45, .ifCond .eq 12, 3, [57]), (48, .aload_n 0, 1, []), (49, .getfield 22, 3, [6, 4, 2, 36]), (52, .iload_n 1, 1, []), (53, .iaload, 1, []), (54, .goto 4, 3, [58]), (57, .iconst 0, 1, []), (58, .iadd, 1, []), (59, .aload_n 0, 1, []), (60, .iload_n 1, 1, []), (61, .aload_n 0, 1, []), (62, .getfield 111, 3, [6, 28, 0, 61]), (65, .invokevirtual 124, 3, [76, 1, 3, 122, 6]), (68, .isub, 1, []), (69, .istore_n 2, 1, []), (70, .iload_n 1, 1, []), (71, .istore_n 3, 1, []), (72, .aload_n 0, 1, []), (73, .getfield 41, 3, [6, 10, 2, 42]), (76, .iload_n 1, 1, []), (77, .baload, 1, []), (78, .ifCond .eq 27, 3, [105]), (81, .iload_n 3, 1, []), (82, .ifCond .eq 23, 3, [105]), (85, .aload_n 0, 1, []), (86, .getfield 77, 3, [6, 22, 2, 54]), (89, .iload_n 3, 1, []), (90, .dup2, 1, []), (91, .iaload, 1, []), (92, .iload_n 2, 1, []), (93, .iadd, 1, []), (94, .iastore, 1, []), (95, .aload_n 0, 1, []), (96, .getfield 68, 3, [6, 19, 2, 51]), (99, .iload_n 3, 1, []), (100, .iaload, 1, []), (101, .istore_n 3, 1, []), (102, .goto (-30), 3, [72]), (105, .iinc 1 1, 3, []), (108, .goto (-83), 3, [25]), (111, .iconst 0, 1, []), (112, .istore_n 1, 1, []), (113, .iload_n 1, 1, []), (114, .aload_n 0, 1, []), (115, .getfield 86, 3, [6, 25, 0, 57]), (118, .if_icmp .ge 69, 3, [187]), (121, .aload_n 0, 1, []), (122, .getfield 80, 3, [6, 23, 2, 55]), (125, .iload_n 1, 1, []), (126, .aload_n 0, 1, []), (127, .getfield 90, 3, [6, 27, 0, 58]), (130, .iastore, 1, []), (131, .iload_n 1, 1, []), (132, .istore_n 2, 1, []), (133, .aload_n 0, 1, []), (134, .getfield 41, 3, [6, 10, 2, 42]), (137, .iload_n 1, 1, []), (138, .baload, 1, []), (139, .ifCond .eq 42, 3, [181]), (142, .iload_n 2, 1, []), (143, .ifCond .eq 38, 3, [181]), (146, .aload_n 0, 1, []), (147, .getfield 80, 3, [6, 23, 2, 55]), (150, .iload_n 1, 1, []), (151, .dup2, 1, []), (152, .iaload, 1, []), (153, .aload_n 0, 1, []), (154, .getfield 74, 3, [6, 21, 2, 53]), (157, .iload_n 2, 1, []), (158, .iaload, 1, []), (159, .aload_n 0, 1, []), (160, .getfield 77, 3, [6, 22, 2, 54]), (163, .iload_n 2, 1, []), (164, .iaload, 1, []), (165, .imul, 1, []), (166, .bipush 10, 2, []), (168, .idiv, 1, []), (169, .isub, 1, []), (170, .iastore, 1, []), (171, .aload_n 0, 1, []), (172, .getfield 68, 3, [6, 19, 2, 51]), (175, .iload_n 2, 1, []), (176, .iaload, 1, []), (177, .istore_n 2, 1, []), (178, .goto (-45), 3, [133]), (181, .iinc 1 1, 3, []), (184, .goto (-71), 3, [113]), (187, .return_, 1, [])]
def fm_h81 : List fm_H := []
/-- FeederlightModel.keeps()Z -/
def fm_c82 : List fm_En := [(0, .aload_n 0, 1, []), (1, .invokevirtual 134, 3, [81, 0, 1, 125, 6]), (4, .iconst 1, 1, []), (5, .istore_n 1, 1, []), (6, .iconst 0, 1, []), (7, .istore_n 2, 1, []), (8, .iload_n 2, 1, []), (9, .aload_n 0, 1, []), (10, .getfield 86, 3, [6, 25, 0, 57]), (13, .if_icmp .ge 87, 3, [100]), (16, .iload_n 1, 1, []), (17, .aload_n 0, 1, []), (18, .getfield 41, 3, [6, 10, 2, 42]), (21, .iload_n 2, 1, []), (22, .baload, 1, []), (23, .ifCond .eq 15, 3, [38]), (26, .aload_n 0, 1, []), (27, .getfield 80, 3, [6, 23, 2, 55]), (30, .iload_n 2, 1, []), (31, .iaload, 1, []), (32, .sipush 2070, 3, []), (35, .if_icmp .lt 7, 3, [42]), (38, .iconst 1, 1, []), (39, .goto 4, 3, [43]), (42, .iconst 0, 1, []), (43, .iand, 1, []), (44, .istore_n 1, 1, []), (45, .iload_n 1, 1, []), (46, .aload_n 0, 1, []), (47, .getfield 41, 3, [6, 10, 2, 42]), (50, .iload_n 2, 1, []), (51, .baload, 1, []), (52, .ifCond .eq 35, 3, [87]), (55, .aload_n 0, 1, []), (56, .getfield 71, 3, [6, 20, 2, 52]), (59, .iload_n 2, 1, []), (60, .iaload, 1, []), (61, .ifCond .lt 26, 3, [87]), (64, .aload_n 0, 1, []), (65, .getfield 77, 3, [6, 22, 2, 54]), (68, .iload_n 2, 1, []), (69, .iaload, 1, []), (70, .invokestatic 137, 3, [169, 1, 1, 126]), (73, .aload_n 0, 1, []), (74, .getfield 16, 3, [6, 2, 2, 34]), (77, .aload_n 0, 1, []), (78, .getfield 71, 3, [6, 20, 2, 52]), (81, .iload_n 2, 1, []), (82, .iaload, 1, []), (83, .iaload, 1, []), (84, .if_icmp .gt 7, 3, [91]), (87, .iconst 1, 1, []), (88, .goto 4, 3, [92]), (91, .iconst 0, 1, []), (92, .iand, 1, []), (93, .istore_n 1, 1, []), (94, .iinc 2 1, 3, []), (97, .goto (-89), 3, [8]), (100, .iload_n 1, 1, []), (101, .ireturn, 1, [1])]
def fm_h82 : List fm_H := []
/-- FeederlightModel.lays()V -/
def fm_c83 : List fm_En := [(0, .aload_n 0, 1, []), (1, .invokevirtual 141, 3, [80, 0, 1, 127, 6]), (4, .iconst 0, 1, []), (5, .istore_n 1, 1, []), (6, .iload_n 1, 1, []), (7, .aload_n 0, 1, []), (8, .getfield 86, 3, [6, 25, 0, 57]), (11, .if_icmp .ge 38, 3, [49]), (14, .aload_n 0, 1, []), (15, .getfield 38, 3, [6, 9, 2, 41]), (18, .iload_n 1, 1, []), (19, .aload_n 0, 1, []), (20, .getfield 35, 3, [6, 8, 2, 40]), (23, .iload_n 1, 1, []), (24, .baload, 1, []), (25, .ifCond .eq 16, 3, [41]), (28, .aload_n 0, 1, []), (29, .getfield 41, 3, [6, 10, 2, 42]), (32, .iload_n 1, 1, []), (33, .baload, 1, []), (34, .ifCond .eq 7, 3, [41]), (37, .iconst 1, 1, []), (38, .goto 4, 3, [42]), (41, .iconst 0, 1, []), (42, .bastore, 1, []), (43, .iinc 1 1, 3, []), (46, .goto (-40), 3, [6]), (49, .aload_n 0, 1, []), (50, .invokevirtual 134, 3, [81, 0, 1, 125, 6]), (53, .return_, 1, [])]
def fm_h83 : List fm_H := []
/-- FeederlightModel.turns()I -/
def fm_c84 : List fm_En := [(0, .iconst 0, 1, []), (1, .istore_n 1, 1, []), (2, .iconst 0, 1, []), (3, .istore_n 2, 1, []), (4, .iload_n 2, 1, []), (5, .aload_n 0, 1, []), (6, .getfield 86, 3, [6, 25, 0, 57]), (9, .if_icmp .ge 76, 3, [85]), (12, .aload_n 0, 1, []), (13, .getfield 22, 3, [6, 4, 2, 36]), (16, .iload_n 2, 1, []), (17, .iaload, 1, []), (18, .ifCond .le 61, 3, [79]), (21, .iload_n 1, 1, []), (22, .istore_n 3, 1, []), (23, .iload_n 3, 1, []), (24, .ifCond .le 45, 3, [69]), (27, .aload_n 0, 1, []), (28, .getfield 25, 3, [6, 5, 2, 37]), (31, .aload_n 0, 1, []), (32, .getfield 83, 3, [6, 24, 2, 56]), (35, .iload_n 3, 1, []), (36, .iconst 1, 1, []), (37, .isub, 1, []), (38, .iaload, 1, []), (39, .iaload, 1, []), (40, .aload_n 0, 1, []), (41, .getfield 25, 3, [6, 5, 2, 37]), (44, .iload_n 2, 1, []), (45, .iaload, 1, []), (46, .if_icmp .ge 23, 3, [69]), (49, .aload_n 0, 1, []), (50, .getfield 83, 3, [6, 24, 2, 56]), (53, .iload_n 3, 1, []), (54, .aload_n 0, 1, []), (55, .getfield 83, 3, [6, 24, 2, 56]), (58, .iload_n 3, 1, []), (59, .iconst 1, 1, []), (60, .isub, 1, []), (61, .iaload, 1, []), (62, .iastore, 1, []), (63, .iinc 3 (-1), 3, []), (66, .goto (-43), 3, [23]), (69, .aload_n 0, 1, []), (70, .getfield 83, 3, [6, 24, 2, 56]), (73, .iload_n 3, 1, []), (74, .iload_n 2, 1, []), (75, .iastore, 1, []), (76, .iinc 1 1, 3, []), (79, .iinc 2 1, 3, []), (82, .goto (-78), 3, [4]), (85, .iload_n 1, 1, []), (86, .ireturn, 1, [0])]
def fm_h84 : List fm_H := []
/-- FeederlightModel.passes()I -/
def fm_c85 : List fm_En := [(0, .aload_n 0, 1, []), (1, .invokevirtual 141, 3, [80, 0, 1, 127, 6]), (4, .aload_n 0, 1, []), (5, .invokevirtual 144, 3, [84, 1, 1, 128, 6]), (8, .istore_n 1, 1, []), (9, .iconst 0, 1, []), (10, .istore_n 2, 1, []), (11, .iconst 0, 1, []), (12, .istore_n 3, 1, []), (13, .iload_n 3, 1, []), (14, .aload_n 0, 1, []), (15, .getfield 86, 3, [6, 25, 0, 57]), (18, .if_icmp .ge 16, 3, [34]), (21, .aload_n 0, 1, []), (22, .getfield 38, 3, [6, 9, 2, 41]), (25, .iload_n 3, 1, []), (26, .iconst 0, 1, []), (27, .bastore, 1, []), (28, .iinc 3 1, 3, []), (31, .goto (-18), 3, [13]), (34, .iconst 0, 1, []), (35, .istore_n 3, 1, []), (36, .iload_n 3, 1, []), (37, .iload_n 1, 1, []), (38, .if_icmp .ge 60, 3, [98]), (41, .aload_n 0, 1, []), (42, .getfield 83, 3, [6, 24, 2, 56]), (45, .iload_n 3, 1, []), (46, .iaload, 1, []), (47, .istore 4, 2, []), (49, .aload_n 0, 1, []), (50, .getfield 38, 3, [6, 9, 2, 41]), (53, .iload 4, 2, []), (55, .aload_n 0, 1, []), (56, .getfield 41, 3, [6, 10, 2, 42]), (59, .iload 4, 2, []), (61, .baload, 1, []), (62, .bastore, 1, []), (63, .aload_n 0, 1, []), (64, .getfield 38, 3, [6, 9, 2, 41]), (67, .iload 4, 2, []), (69, .aload_n 0, 1, []), (70, .getfield 41, 3, [6, 10, 2, 42]), (73, .iload 4, 2, []), (75, .baload, 1, []), (76, .ifCond .eq 14, 3, [90]), (79, .aload_n 0, 1, []), (80, .invokevirtual 148, 3, [82, 1, 1, 129, 6]), (83, .ifCond .eq 7, 3, [90]), (86, .iconst 1, 1, []), (87, .goto 4, 3, [91]), (90, .iconst 0, 1, []), (91, .bastore, 1, []), (92, .iinc 3 1, 3, []), (95, .goto (-59), 3, [36]), (98, .iconst 0, 1, []), (99, .istore_n 3, 1, []), (100, .iload_n 3, 1, []), (101, .aload_n 0, 1, []), (102, .getfield 86, 3, [6, 25, 0, 57]), (105, .if_icmp .ge 99, 3, [204]), (108, .aload_n 0, 1, []), (109, .getfield 35, 3, [6, 8, 2, 40]), (112, .iload_n 3, 1, []), (113, .aload_n 0, 1, []), (114, .getfield 38, 3, [6, 9, 2, 41]), (117, .iload_n 3, 1, []), (118, .baload, 1, []), (119, .bastore, 1, []), (120, .aload_n 0, 1, []), (121, .dup, 1, []), (122, .getfield 152, 3, [6, 32, 1, 62]), (125, .aload_n 0, 1, []), (126, .getfield 38, 3, [6, 9, 2, 41]), (129, .iload_n 3, 1, []), (130, .baload, 1, []), (131, .ifCond .eq 13, 3, [144]), (134, .aload_n 0, 1, []), (135, .getfield 22, 3, [6, 4, 2, 36]), (138, .iload_n 3, 1, []), (139, .iaload, 1, []), (140, .i2l, 1, []), (141, .goto 4, 3, [145]), (144, .lconst 0, 1, []), (145, .ladd, 1, []), (146, .putfield 152, 3, [6, 32, 1, 62]), (149, .iload_n 2, 1, []), (150, .aload_n 0, 1, []), (151, .getfield 38, 3, [6, 9, 2, 41]), (154, .iload_n 3, 1, []), (155, .baload, 1, []), (156, .ifCond .eq 7, 3, [163]), (159, .iconst 1, 1, []), (160, .goto 4, 3, [164]), (163, .iconst 0, 1, []), (164, .iadd, 1, []), (165, .istore_n 2, 1, []), (166, .aload_n 0, 1, []), (167, .getfield 25, 3, [6, 5, 2, 37]), (170, .iload_n 3, 1, []), (171, .dup2, 1, []), (172, .iaload, 1, []), (173, .aload_n 0, 1, []), (174, .getfield 22, 3, [6, 4, 2, 36]), (177, .iload_n 3, 1, []), (178, .iaload, 1, []), (179, .ifCond .le 16, 3, [195]), (182, .aload_n 0, 1, []), (183, .getfield 38, 3, [6, 9, 2, 41]), (186, .iload_n 3, 1, []), (187, .baload, 1, []), (188, .ifCond .ne 7, 3, [195]), (191, .iconst 1, 1, []), (192, .goto 4, 3, [196]), (195, .iconst 0, 1, []), (196, .iadd, 1, []), (197, .iastore, 1, []), (198, .iinc 3 1, 3, []), (201, .goto (-101), 3, [100]), (204, .aload_n 0, 1, []), (205, .invokevirtual 134, 3, [81, 0, 1, 125, 6]), (208, .iconst 0, 1, []), (209, .istore_n 3, 1, []), (210, .iload_n 3, 1, []), (211, .aload_n 0, 1, []), (212, .getfield 86, 3, [6, 25, 0, 57]), (215, .if_icmp .ge 88, 3, [303]), (218, .aload_n 0, 1, []), (219, .getfield 71, 3, [6, 20, 2, 52]), (222, .iload_n 3, 1, []), (223, .iaload, 1, []), (224, .istore 4, 2, []), (226, .aload_n 0, 1, []), (227, .getfield 41, 3, [6, 10, 2, 42]), (230, .iload_n 3, 1, []), (231, .baload, 1, []), (232, .ifCond .eq 65, 3, [297]), (235, .iload 4, 2, []), (237, .ifCond .lt 60, 3, [297]), (240, .aload_n 0, 1, []), (241, .getfield 77, 3, [6, 22, 2, 54]), (244, .iload_n 3, 1, []), (245, .iaload, 1, []), (246, .invokestatic 137, 3, [169, 1, 1, 126]), (249, .aload_n 0, 1, []), (250, .getfield 16, 3, [6, 2, 2, 34]), (253, .iload 4, 2, []), (255, .iaload, 1, []), (256, .isub, 1, []), (257, .istore 5, 2, []), (259, .aload_n 0, 1, []), (260, .getfield 28, 3, [6, 6, 2, 38]), (263, .iload 4, 2, []), (265, .iload 5, 2, []), (267, .ifCond .le 16, 3, [283]), (270, .aload_n 0, 1, []), (271, .getfield 28, 3, [6, 6, 2, 38]), (274, .iload 4, 2, []), (276, .iaload, 1, []), (277, .iload 5, 2, []), (279, .iadd, 1, []), (280, .goto 16, 3, [296]), (283, .iconst 0, 1, []), (284, .aload_n 0, 1, []), (285, .getfield 28, 3, [6, 6, 2, 38]), (288, .iload 4, 2, []), (290, .iaload, 1, []), (291, .iconst 5, 1, []), (292, .isub, 1, []), (293, .invokestatic 156, 3, [170, 1, 2, 130]), (296, .iastore, 1, []), (297, .iinc 3 1, 3, []), (300, .goto (-90), 3, [210]), (303, .iconst 1, 1, []), (304, .istore_n 3, 1, []), (305, .iload_n 3, 1, []), (306, .aload_n 0, 1, []), (307, .getfield 86, 3, [6, 25, 0, 57]), (310, .if_icmp .ge 68, 3, [378]), (313, .aload_n 0, 1, []), (314, .dup, 1, []), (315, .getfield 159, 3, [6, 30, 0, 63]), (318, .aload_n 0, 1, []), (319, .getfield 31, 3, [6, 7, 2, 39]), (322, .iload_n 3, 1, []), (323, .baload, 1, []), (324, .ifCond .ne 18, 3, [342]), (327, .aload_n 0, 1, []), (328, .getfield 28, 3, [6, 6, 2, 38]), (331, .iload_n 3, 1, []), (332, .iaload, 1, []), (333, .bipush 100, 2, []), (335, .if_icmp .lt 7, 3, [342]), (338, .iconst 1, 1, []), (339, .goto 4, 3, [343]), (342, .iconst 0, 1, []), (343, .iadd, 1, []), (344, .putfield 159, 3, [6, 30, 0, 63]), (347, .aload_n 0, 1, []), (348, .getfield 31, 3, [6, 7, 2, 39]), (351, .iload_n 3, 1, []), (352, .dup2, 1, []), (353, .baload, 1, []), (354, .aload_n 0, 1, []), (355, .getfield 28, 3, [6, 6, 2, 38]), (358, .iload_n 3, 1, []), (359, .iaload, 1, []), (360, .bipush 100, 2, []), (362, .if_icmp .lt 7, 3, [369]), (365, .iconst 1, 1, []), (366, .goto 4, 3, [370]), (369, .iconst 0, 1, []), (370, .ior, 1, []), (371, .bastore, 1, []), (372, .iinc 3 1, 3, []), (375, .goto (-70), 3, [305]), (378, .aload_n 0, 1, []), (379, .dup, 1, []), (380, .getfield 162, 3, [6, 29, 0, 64]), (383, .iconst 1, 1, []), (384, .iadd, 1, []), (385, .putfield 162, 3, [6, 29, 0, 64]), (388, .iload_n 2, 1, []), (389, .ireturn, 1, [0])]
def fm_h85 : List fm_H := []
/-- FeederlightModel.minute()I -/
def fm_c86 : List fm_En := [(0, .aload_n 0, 1, []), (1, .iconst 0, 1, []), (2, .putfield 93, 3, [6, 31, 0, 59]), (5, .aload_n 0, 1, []), (6, .invokevirtual 165, 3, [85, 1, 1, 131, 6]), (9, .ireturn, 1, [0])]
def fm_h86 : List fm_H := []
/-- FeederlightModel.pass(I)I -/
def fm_c87 : List fm_En := [(0, .aload_n 0, 1, []), (1, .iload_n 1, 1, []), (2, .iconst 1, 1, []), (3, .bipush 100, 2, []), (5, .invokestatic 96, 3, [63, 1, 3, 117]), (8, .ifCond .ne 7, 3, [15]), (11, .iconst 1, 1, []), (12, .goto 4, 3, [16]), (15, .iconst 0, 1, []), (16, .iconst 1, 1, []), (17, .invokevirtual 100, 3, [64, 1, 3, 118, 6]), (20, .ifCond .eq 5, 3, [25]), (23, .iconst 0, 1, []), (24, .ireturn, 1, [0]), (25, .aload_n 0, 1, []), (26, .iconst 0, 1, []), (27, .putfield 159, 3, [6, 30, 0, 63]), (30, .iconst 0, 1, []), (31, .istore_n 2, 1, []), (32, .iconst 0, 1, []), (33, .istore_n 3, 1, []), (34, .iload_n 3, 1, []), (35, .iload_n 1, 1, []), (36, .if_icmp .ge 16, 3, [52]), (39, .iload_n 2, 1, []), (40, .aload_n 0, 1, []), (41, .invokevirtual 165, 3, [85, 1, 1, 131, 6]), (44, .iadd, 1, []), (45, .istore_n 2, 1, []), (46, .iinc 3 1, 3, []), (49, .goto (-15), 3, [34]), (52, .aload_n 0, 1, []), (53, .getfield 159, 3, [6, 30, 0, 63]), (56, .ireturn, 1, [0])]
def fm_h87 : List fm_H := []
/-- FeederlightModel.replaceFuse(I)I -/
def fm_c88 : List fm_En := [(0, .aload_n 0, 1, []), (1, .iload_n 1, 1, []), (2, .invokevirtual 104, 3, [65, 1, 2, 119, 6]), (5, .ifCond .ne 29, 3, [34]), (8, .aload_n 0, 1, []), (9, .iload_n 1, 1, []), (10, .ifCond .eq 12, 3, [22]), (13, .aload_n 0, 1, []), (14, .getfield 31, 3, [6, 7, 2, 39]), (17, .iload_n 1, 1, []), (18, .baload, 1, []), (19, .ifCond .ne 7, 3, [26]), (22, .iconst 1, 1, []), (23, .goto 4, 3, [27]), (26, .iconst 0, 1, []), (27, .iconst 2, 1, []), (28, .invokevirtual 100, 3, [64, 1, 3, 118, 6]), (31, .ifCond .eq 5, 3, [36]), (34, .iconst 0, 1, []), (35, .ireturn, 1, [0]), (36, .aload_n 0, 1, []), (37, .getfield 31, 3, [6, 7, 2, 39]), (40, .iload_n 1, 1, []), (41, .iconst 0, 1, []), (42, .bastore, 1, []), (43, .aload_n 0, 1, []), (44, .getfield 28, 3, [6, 6, 2, 38]), (47, .iload_n 1, 1, []), (48, .iconst 0, 1, []), (49, .iastore, 1, []), (50, .aload_n 0, 1, []), (51, .invokevirtual 168, 3, [89, 1, 1, 132, 6]), (54, .ireturn, 1, [0])]
def fm_h88 : List fm_H := []
/-- FeederlightModel.fed()I -/
def fm_c89 : List fm_En := [(0, .aload_n 0, 1, []), (1, .invokevirtual 141, 3, [80, 0, 1, 127, 6]), (4, .iconst 0, 1, []), (5, .istore_n 1, 1, []), (6, .iconst 0, 1, []), (7, .istore_n 2, 1, []), (8, .iload_n 2, 1, []), (9, .aload_n 0, 1, []), (10, .getfield 86, 3, [6, 25, 0, 57]), (13, .if_icmp .ge 26, 3, [39]), (16, .iload_n 1, 1, []), (17, .aload_n 0, 1, []), (18, .getfield 41, 3, [6, 10, 2, 42]), (21, .iload_n 2, 1, []), (22, .baload, 1, []), (23, .ifCond .eq 7, 3, [30]), (26, .iconst 1, 1, []), (27, .goto 4, 3, [31]), (30, .iconst 0, 1, []), (31, .iadd, 1, []), (32, .istore_n 1, 1, []), (33, .iinc 2 1, 3, []), (36, .goto (-28), 3, [8]), (39, .iload_n 1, 1, []), (40, .ireturn, 1, [0])]
def fm_h89 : List fm_H := []
/-- FeederlightModel.nodes()I -/
def fm_c90 : List fm_En := [(0, .aload_n 0, 1, []), (1, .iconst 0, 1, []), (2, .putfield 93, 3, [6, 31, 0, 59]), (5, .aload_n 0, 1, []), (6, .getfield 86, 3, [6, 25, 0, 57]), (9, .ireturn, 1, [0])]
def fm_h90 : List fm_H := []
/-- FeederlightModel.isFed(I)Z -/
def fm_c91 : List fm_En := [(0, .aload_n 0, 1, []), (1, .invokevirtual 141, 3, [80, 0, 1, 127, 6]), (4, .aload_n 0, 1, []), (5, .iload_n 1, 1, []), (6, .invokevirtual 104, 3, [65, 1, 2, 119, 6]), (9, .ifCond .ne 16, 3, [25]), (12, .aload_n 0, 1, []), (13, .getfield 41, 3, [6, 10, 2, 42]), (16, .iload_n 1, 1, []), (17, .baload, 1, []), (18, .ifCond .eq 7, 3, [25]), (21, .iconst 1, 1, []), (22, .goto 4, 3, [26]), (25, .iconst 0, 1, []), (26, .ireturn, 1, [1])]
def fm_h91 : List fm_H := []
/-- FeederlightModel.isNotFed(IZ)Z -/
def fm_c92 : List fm_En := [(0, .aload_n 0, 1, []), (1, .invokevirtual 171, 3, [83, 0, 1, 133, 6]), (4, .aload_n 0, 1, []), (5, .iload_n 1, 1, []), (6, .invokevirtual 104, 3, [65, 1, 2, 119, 6]), (9, .ifCond .ne 33, 3, [42]), (12, .aload_n 0, 1, []), (13, .iload_n 2, 1, []), (14, .ifCond .eq 7, 3, [21]), (17, .iload_n 1, 1, []), (18, .ifCond .eq 12, 3, [30]), (21, .aload_n 0, 1, []), (22, .getfield 41, 3, [6, 10, 2, 42]), (25, .iload_n 1, 1, []), (26, .baload, 1, []), (27, .ifCond .ne 7, 3, [34]), (30, .iconst 1, 1, []), (31, .goto 4, 3, [35]), (34, .iconst 0, 1, []), (35, .iconst 2, 1, []), (36, .invokevirtual 100, 3, [64, 1, 3, 118, 6]), (39, .ifCond .eq 7, 3, [46]), (42, .iconst 1, 1, []), (43, .goto 4, 3, [47]), (46, .iconst 0, 1, []), (47, .ireturn, 1, [1])]
def fm_h92 : List fm_H := []
/-- FeederlightModel.feeder(I)I -/
def fm_c93 : List fm_En := [(0, .aload_n 0, 1, []), (1, .iload_n 1, 1, []), (2, .iconst 1, 1, []), (3, .invokevirtual 174, 3, [92, 1, 3, 134, 6]), (6, .ifCond .eq 7, 3, [13]), (9, .iconst 0, 1, []), (10, .goto 9, 3, [19]), (13, .aload_n 0, 1, []), (14, .getfield 68, 3, [6, 19, 2, 51]), (17, .iload_n 1, 1, []), (18, .iaload, 1, []), (19, .ireturn, 1, [0])]
def fm_h93 : List fm_H := []
/-- FeederlightModel.isClosed(I)Z -/
def fm_c94 : List fm_En := [(0, .aload_n 0, 1, []), (1, .invokevirtual 141, 3, [80, 0, 1, 127, 6]), (4, .aload_n 0, 1, []), (5, .iload_n 1, 1, []), (6, .iconst 0, 1, []), (7, .aload_n 0, 1, []), (8, .getfield 108, 3, [6, 26, 0, 60]), (11, .iconst 1, 1, []), (12, .isub, 1, []), (13, .invokestatic 96, 3, [63, 1, 3, 117]), (16, .ifCond .ne 7, 3, [23]), (19, .iconst 1, 1, []), (20, .goto 4, 3, [24]), (23, .iconst 0, 1, []), (24, .iconst 1, 1, []), (25, .invokevirtual 100, 3, [64, 1, 3, 118, 6]), (28, .ifCond .ne 16, 3, [44]), (31, .aload_n 0, 1, []), (32, .getfield 65, 3, [6, 18, 2, 50]), (35, .iload_n 1, 1, []), (36, .baload, 1, []), (37, .ifCond .eq 7, 3, [44]), (40, .iconst 1, 1, []), (41, .goto 4, 3, [45]), (44, .iconst 0, 1, []), (45, .ireturn, 1, [1])]
def fm_h94 : List fm_H := []
/-- FeederlightModel.flow(I)I -/
def fm_c95 : List fm_En := [(0, .aload_n 0, 1, []), (1, .iload_n 1, 1, []), (2, .iconst 1, 1, []), (3, .invokevirtual 174, 3, [92, 1, 3, 134, 6]), (6, .ifCond .eq 7, 3, [13]), (9, .iconst 0, 1, []), (10, .goto 9, 3, [19]), (13, .aload_n 0, 1, []), (14, .getfield 77, 3, [6, 22, 2, 54]), (17, .iload_n 1, 1, []), (18, .iaload, 1, []), (19, .ireturn, 1, [0])]
def fm_h95 : List fm_H := []
/-- FeederlightModel.voltage(I)I -/
def fm_c96 : List fm_En := [(0, .aload_n 0, 1, []), (1, .iload_n 1, 1, []), (2, .iconst 0, 1, []), (3, .invokevirtual 174, 3, [92, 1, 3, 134, 6]), (6, .ifCond .eq 7, 3, [13]), (9, .iconst 0, 1, []), (10, .goto 9, 3, [19]), (13, .aload_n 0, 1, []), (14, .getfield 80, 3, [6, 23, 2, 55]), (17, .iload_n 1, 1, []), (18, .iaload, 1, []), (19, .ireturn, 1, [0])]
def fm_h96 : List fm_H := []
/-- FeederlightModel.voltageByWay(I)I -/
def fm_c97 : List fm_En := [(0, .aload_n 0, 1, []), (1, .iload_n 1, 1, []), (2, .invokevirtual 178, 3, [96, 1, 2, 135, 6]), (5, .ireturn, 1, [0])]
def fm_h97 : List fm_H := []
/-- FeederlightModel.lowest()I -/
def fm_c98 : List fm_En := [(0, .aload_n 0, 1, []), (1, .iconst 0, 1, []), (2, .putfield 93, 3, [6, 31, 0, 59]), (5, .aload_n 0, 1, []), (6, .invokevirtual 171, 3, [83, 0, 1, 133, 6]), (9, .iconst 0, 1, []), (10, .istore_n 1, 1, []), (11, .iconst 1, 1, []), (12, .istore_n 2, 1, []), (13, .iload_n 2, 1, []), (14, .aload_n 0, 1, []), (15, .getfield 86, 3, [6, 25, 0, 57]), (18, .if_icmp .ge 39, 3, [57]), (21, .aload_n 0, 1, []), (22, .getfield 41, 3, [6, 10, 2, 42]), (25, .iload_n 2, 1, []), (26, .baload, 1, []), (27, .ifCond .eq 22, 3, [49]), (30, .aload_n 0, 1, []), (31, .getfield 80, 3, [6, 23, 2, 55]), (34, .iload_n 2, 1, []), (35, .iaload, 1, []), (36, .aload_n 0, 1, []), (37, .getfield 80, 3, [6, 23, 2, 55]), (40, .iload_n 1, 1, []), (41, .iaload, 1, []), (42, .if_icmp .ge 7, 3, [49]), (45, .iload_n 2, 1, []), (46, .goto 4, 3, [50]), (49, .iload_n 1, 1, []), (50, .istore_n 1, 1, []), (51, .iinc 2 1, 3, []), (54, .goto (-41), 3, [13]), (57, .iload_n 1, 1, []), (58, .ireturn, 1, [0])]
def fm_h98 : List fm_H := []
/-- FeederlightModel.keepsLimits()Z -/
def fm_c99 : List fm_En := [(0, .aload_n 0, 1, []), (1, .iconst 0, 1, []), (2, .putfield 93, 3, [6, 31, 0, 59]), (5, .aload_n 0, 1, []), (6, .invokevirtual 171, 3, [83, 0, 1, 133, 6]), (9, .aload_n 0, 1, []), (10, .invokevirtual 148, 3, [82, 1, 1, 129, 6]), (13, .ireturn, 1, [1])]
def fm_h99 : List fm_H := []
/-- FeederlightModel.isServed(I)Z -/
def fm_c100 : List fm_En := [(0, .aload_n 0, 1, []), (1, .invokevirtual 171, 3, [83, 0, 1, 133, 6]), (4, .aload_n 0, 1, []), (5, .iload_n 1, 1, []), (6, .invokevirtual 104, 3, [65, 1, 2, 119, 6]), (9, .ifCond .ne 16, 3, [25]), (12, .aload_n 0, 1, []), (13, .getfield 38, 3, [6, 9, 2, 41]), (16, .iload_n 1, 1, []), (17, .baload, 1, []), (18, .ifCond .eq 7, 3, [25]), (21, .iconst 1, 1, []), (22, .goto 4, 3, [26]), (25, .iconst 0, 1, []), (26, .ireturn, 1, [1])]
def fm_h100 : List fm_H := []
/-- FeederlightModel.leftOut(I)I -/
def fm_c101 : List fm_En := [(0, .aload_n 0, 1, []), (1, .iload_n 1, 1, []), (2, .invokevirtual 104, 3, [65, 1, 2, 119, 6]), (5, .ifCond .eq 7, 3, [12]), (8, .iconst 0, 1, []), (9, .goto 9, 3, [18]), (12, .aload_n 0, 1, []), (13, .getfield 25, 3, [6, 5, 2, 37]), (16, .iload_n 1, 1, []), (17, .iaload, 1, []), (18, .ireturn, 1, [0])]
def fm_h101 : List fm_H := []
/-- FeederlightModel.turn(I)I -/
def fm_c102 : List fm_En := [(0, .aload_n 0, 1, []), (1, .invokevirtual 144, 3, [84, 1, 1, 128, 6]), (4, .istore_n 2, 1, []), (5, .aload_n 0, 1, []), (6, .iload_n 1, 1, []), (7, .iconst 0, 1, []), (8, .iload_n 2, 1, []), (9, .iconst 1, 1, []), (10, .isub, 1, []), (11, .invokestatic 96, 3, [63, 1, 3, 117]), (14, .ifCond .ne 7, 3, [21]), (17, .iconst 1, 1, []), (18, .goto 4, 3, [22]), (21, .iconst 0, 1, []), (22, .iconst 1, 1, []), (23, .invokevirtual 100, 3, [64, 1, 3, 118, 6]), (26, .ifCond .eq 7, 3, [33]), (29, .iconst 0, 1, []), (30, .goto 9, 3, [39]), (33, .aload_n 0, 1, []), (34, .getfield 83, 3, [6, 24, 2, 56]), (37, .iload_n 1, 1, []), (38, .iaload, 1, []), (39, .ireturn, 1, [0])]
def fm_h102 : List fm_H := []
/-- FeederlightModel.most()I -/
def fm_c103 : List fm_En := [(0, .aload_n 0, 1, []), (1, .invokevirtual 141, 3, [80, 0, 1, 127, 6]), (4, .iconst (-1), 1, []), (5, .istore_n 1, 1, []), (6, .iconst 0, 1, []), (7, .istore_n 2, 1, []), (8, .iconst 0, 1, []), (9, .istore_n 3, 1, []), (10, .iload_n 3, 1, []), (11, .aload_n 0, 1, []), (12, .getfield 86, 3, [6, 25, 0, 57]), (15, .if_icmp .ge 37, 3, [52]), (18, .iload_n 2, 1, []), (19, .aload_n 0, 1, []), (20, .getfield 41, 3, [6, 10, 2, 42]), (23, .iload_n 3, 1, []), (24, .baload, 1, []), (25, .ifCond .eq 18, 3, [43]), (28, .aload_n 0, 1, []), (29, .getfield 22, 3, [6, 4, 2, 36]), (32, .iload_n 3, 1, []), (33, .iaload, 1, []), (34, .ifCond .le 9, 3, [43]), (37, .iconst 1, 1, []), (38, .iload_n 3, 1, []), (39, .ishl, 1, []), (40, .goto 4, 3, [44]), (43, .iconst 0, 1, []), (44, .ior, 1, []), (45, .istore_n 2, 1, []), (46, .iinc 3 1, 3, []), (49, .goto (-39), 3, [10]), (52, .iconst 0, 1, []), (53, .istore_n 3, 1, []), (54, .iload_n 3, 1, []), (55, .iconst 1, 1, []), (56, .aload_n 0, 1, []), (57, .getfield 86, 3, [6, 25, 0, 57]), (60, .ishl, 1, []), (61, .if_icmp .ge 81, 3, [142]), (64, .iload_n 3, 1, []), (65, .iload_n 2, 1, []), (66, .iconst (-1), 1, []), (67, .ixor, 1, []), (68, .iand, 1, []), (69, .ifCond .ne 67, 3, [136]), (72, .iload_n 3, 1, []), (73, .invokestatic 180, 3, [168, 1, 1, 136]), (76, .iload_n 1, 1, []), (77, .if_icmp .le 59, 3, [136]), (80, .iconst 0, 1, []), (81, .istore 4, 2, []), (83, .iload 4, 2, []), (85, .aload_n 0, 1, []), (86, .getfield 86, 3, [6, 25, 0, 57]), (89, .if_icmp .ge 31, 3, [120]), (92, .aload_n 0, 1, []), (93, .getfield 38, 3, [6, 9, 2, 41]), (96, .iload 4, 2, []), (98, .iload_n 3, 1, []), (99, .iload 4, 2, []), (101, .ishr, 1, []), (102, .iconst 1, 1, []), (103, .iand, 1, []), (104, .iconst 1, 1, []), (105, .if_icmp .ne 7, 3, [112]), (108, .iconst 1, 1, []), (109, .goto 4, 3, [113]), (112, .iconst 0, 1, []), (113, .bastore, 1, []), (114, .iinc 4 1, 3, []), (117, .goto (-34), 3, [83]), (120, .aload_n 0, 1, []), (121, .invokevirtual 148, 3, [82, 1, 1, 129, 6]), (124, .ifCond .eq 10, 3, [134]), (127, .iload_n 3, 1, []), (128, .invokestatic 180, 3, [168, 1, 1, 136]), (131, .goto 4, 3, [135]), (134, .iload_n 1, 1, []), (135, .istore_n 1, 1, []), (136, .iinc 3 1, 3, []), (139, .goto (-85), 3, [54]), (142, .iload_n 1, 1, []), (143, .ireturn, 1, [0])]
def fm_h103 : List fm_H := []
/-- FeederlightModel.mostServed()I -/
def fm_c104 : List fm_En := [(0, .aload_n 0, 1, []), (1, .invokevirtual 185, 3, [103, 1, 1, 137, 6]), (4, .istore_n 1, 1, []), (5, .aload_n 0, 1, []), (6, .iload_n 1, 1, []), (7, .ifCond .ge 7, 3, [14]), (10, .iconst 1, 1, []), (11, .goto 4, 3, [15]), (14, .iconst 0, 1, []), (15, .iconst 1, 1, []), (16, .invokevirtual 100, 3, [64, 1, 3, 118, 6]), (19, .ifCond .eq 7, 3, [26]), (22, .iconst 0, 1, []), (23, .goto 4, 3, [27]), (26, .iload_n 1, 1, []), (27, .ireturn, 1, [0])]
def fm_h104 : List fm_H := []
/-- FeederlightModel.mostByAll()I -/
def fm_c105 : List fm_En := [(0, .aload_n 0, 1, []), (1, .invokevirtual 188, 3, [104, 1, 1, 138, 6]), (4, .ireturn, 1, [0])]
def fm_h105 : List fm_H := []
/-- FeederlightModel.isNoFuse(I)Z -/
def fm_c106 : List fm_En := [(0, .aload_n 0, 1, []), (1, .iload_n 1, 1, []), (2, .invokevirtual 104, 3, [65, 1, 2, 119, 6]), (5, .ifCond .ne 20, 3, [25]), (8, .aload_n 0, 1, []), (9, .iload_n 1, 1, []), (10, .ifCond .ne 7, 3, [17]), (13, .iconst 1, 1, []), (14, .goto 4, 3, [18]), (17, .iconst 0, 1, []), (18, .iconst 2, 1, []), (19, .invokevirtual 100, 3, [64, 1, 3, 118, 6]), (22, .ifCond .eq 7, 3, [29]), (25, .iconst 1, 1, []), (26, .goto 4, 3, [30]), (29, .iconst 0, 1, []), (30, .ireturn, 1, [1])]
def fm_h106 : List fm_H := []
/-- FeederlightModel.heat(I)I -/
def fm_c107 : List fm_En := [(0, .aload_n 0, 1, []), (1, .iload_n 1, 1, []), (2, .invokevirtual 191, 3, [106, 1, 2, 139, 6]), (5, .ifCond .eq 7, 3, [12]), (8, .iconst 0, 1, []), (9, .goto 9, 3, [18]), (12, .aload_n 0, 1, []), (13, .getfield 28, 3, [6, 6, 2, 38]), (16, .iload_n 1, 1, []), (17, .iaload, 1, []), (18, .ireturn, 1, [0])]
def fm_h107 : List fm_H := []
/-- FeederlightModel.isBlown(I)Z -/
def fm_c108 : List fm_En := [(0, .aload_n 0, 1, []), (1, .iload_n 1, 1, []), (2, .invokevirtual 191, 3, [106, 1, 2, 139, 6]), (5, .ifCond .ne 16, 3, [21]), (8, .aload_n 0, 1, []), (9, .getfield 31, 3, [6, 7, 2, 39]), (12, .iload_n 1, 1, []), (13, .baload, 1, []), (14, .ifCond .eq 7, 3, [21]), (17, .iconst 1, 1, []), (18, .goto 4, 3, [22]), (21, .iconst 0, 1, []), (22, .ireturn, 1, [1])]
def fm_h108 : List fm_H := []
/-- FeederlightModel.minutes()I -/
def fm_c109 : List fm_En := [(0, .aload_n 0, 1, []), (1, .iconst 0, 1, []), (2, .putfield 93, 3, [6, 31, 0, 59]), (5, .aload_n 0, 1, []), (6, .getfield 162, 3, [6, 29, 0, 64]), (9, .ireturn, 1, [0])]
def fm_h109 : List fm_H := []
/-- FeederlightModel.charged()J -/
def fm_c110 : List fm_En := [(0, .aload_n 0, 1, []), (1, .iconst 0, 1, []), (2, .putfield 93, 3, [6, 31, 0, 59]), (5, .aload_n 0, 1, []), (6, .getfield 152, 3, [6, 32, 1, 62]), (9, .lreturn, 1, [])]
def fm_h110 : List fm_H := []
/-- FeederlightModel.fedShare()F -/
def fm_c111 : List fm_En := [(0, .aload_n 0, 1, []), (1, .iconst 0, 1, []), (2, .putfield 93, 3, [6, 31, 0, 59]), (5, .aload_n 0, 1, []), (6, .invokevirtual 168, 3, [89, 1, 1, 132, 6]), (9, .i2f, 1, []), (10, .aload_n 0, 1, []), (11, .getfield 86, 3, [6, 25, 0, 57]), (14, .i2f, 1, []), (15, .fdiv, 1, []), (16, .freturn, 1, [])]
def fm_h111 : List fm_H := []
/-- FeederlightModel.meanVoltage()D -/
def fm_c112 : List fm_En := [(0, .aload_n 0, 1, []), (1, .iconst 0, 1, []), (2, .putfield 93, 3, [6, 31, 0, 59]), (5, .aload_n 0, 1, []), (6, .invokevirtual 171, 3, [83, 0, 1, 133, 6]), (9, .iconst 0, 1, []), (10, .istore_n 1, 1, []), (11, .iconst 0, 1, []), (12, .istore_n 2, 1, []), (13, .iconst 0, 1, []), (14, .istore_n 3, 1, []), (15, .iload_n 3, 1, []), (16, .aload_n 0, 1, []), (17, .getfield 86, 3, [6, 25, 0, 57]), (20, .if_icmp .ge 48, 3, [68]), (23, .iload_n 1, 1, []), (24, .aload_n 0, 1, []), (25, .getfield 41, 3, [6, 10, 2, 42]), (28, .iload_n 3, 1, []), (29, .baload, 1, []), (30, .ifCond .eq 12, 3, [42]), (33, .aload_n 0, 1, []), (34, .getfield 80, 3, [6, 23, 2, 55]), (37, .iload_n 3, 1, []), (38, .iaload, 1, []), (39, .goto 4, 3, [43]), (42, .iconst 0, 1, []), (43, .iadd, 1, []), (44, .istore_n 1, 1, []), (45, .iload_n 2, 1, []), (46, .aload_n 0, 1, []), (47, .getfield 41, 3, [6, 10, 2, 42]), (50, .iload_n 3, 1, []), (51, .baload, 1, []), (52, .ifCond .eq 7, 3, [59]), (55, .iconst 1, 1, []), (56, .goto 4, 3, [60]), (59, .iconst 0, 1, []), (60, .iadd, 1, []), (61, .istore_n 2, 1, []), (62, .iinc 3 1, 3, []), (65, .goto (-50), 3, [15]), (68, .iload_n 1, 1, []), (69, .i2d, 1, []), (70, .iload_n 2, 1, []), (71, .i2d, 1, []), (72, .ddiv, 1, []), (73, .dreturn, 1, [])]
def fm_h112 : List fm_H := []
/-- FeederlightModel.meanLeftOut()D -/
def fm_c113 : List fm_En := [(0, .iconst 0, 1, []), (1, .istore_n 1, 1, []), (2, .iconst 0, 1, []), (3, .istore_n 2, 1, []), (4, .iconst 0, 1, []), (5, .istore_n 3, 1, []), (6, .iload_n 3, 1, []), (7, .aload_n 0, 1, []), (8, .getfield 86, 3, [6, 25, 0, 57]), (11, .if_icmp .ge 48, 3, [59]), (14, .iload_n 1, 1, []), (15, .aload_n 0, 1, []), (16, .getfield 22, 3, [6, 4, 2, 36]), (19, .iload_n 3, 1, []), (20, .iaload, 1, []), (21, .ifCond .le 12, 3, [33]), (24, .aload_n 0, 1, []), (25, .getfield 25, 3, [6, 5, 2, 37]), (28, .iload_n 3, 1, []), (29, .iaload, 1, []), (30, .goto 4, 3, [34]), (33, .iconst 0, 1, []), (34, .iadd, 1, []), (35, .istore_n 1, 1, []), (36, .iload_n 2, 1, []), (37, .aload_n 0, 1, []), (38, .getfield 22, 3, [6, 4, 2, 36]), (41, .iload_n 3, 1, []), (42, .iaload, 1, []), (43, .ifCond .le 7, 3, [50]), (46, .iconst 1, 1, []), (47, .goto 4, 3, [51]), (50, .iconst 0, 1, []), (51, .iadd, 1, []), (52, .istore_n 2, 1, []), (53, .iinc 3 1, 3, []), (56, .goto (-50), 3, [6]), (59, .aload_n 0, 1, []), (60, .iload_n 2, 1, []), (61, .ifCond .ne 7, 3, [68]), (64, .iconst 1, 1, []), (65, .goto 4, 3, [69]), (68, .iconst 0, 1, []), (69, .iconst 1, 1, []), (70, .invokevirtual 100, 3, [64, 1, 3, 118, 6]), (73, .ifCond .eq 7, 3, [80]), (76, .dconst 0, 1, []), (77, .goto 8, 3, [85]), (80, .iload_n 1, 1, []), (81, .i2d, 1, []), (82, .iload_n 2, 1, []), (83, .i2d, 1, []), (84, .ddiv, 1, []), (85, .dreturn, 1, [])]
def fm_h113 : List fm_H := []
/-- FeederlightModel.isSound()Z -/
def fm_c114 : List fm_En := [(0, .aload_n 0, 1, []), (1, .iconst 0, 1, []), (2, .putfield 93, 3, [6, 31, 0, 59]), (5, .iconst 1, 1, []), (6, .ireturn, 1, [1])]
def fm_h114 : List fm_H := []
/-- Feederlight$Chargers.<init>()V -/
def fm_c115 : List fm_En := [(0, .aload_n 0, 1, []), (1, .invokespecial 3, 3, [2]), (4, .aload_n 0, 1, []), (5, .bipush 12, 2, []), (7, .newarray .int, 2, [10]), (9, .putfield 9, 3, [0, 0, 2, 65]), (12, .aload_n 0, 1, []), (13, .bipush 12, 2, []), (15, .newarray .int, 2, [10]), (17, .putfield 15, 3, [0, 1, 2, 66]), (20, .aload_n 0, 1, []), (21, .bipush 12, 2, []), (23, .newarray .int, 2, [10]), (25, .putfield 18, 3, [0, 2, 2, 67]), (28, .aload_n 0, 1, []), (29, .iconst 0, 1, []), (30, .putfield 21, 3, [0, 3, 0, 68]), (33, .aload_n 0, 1, []), (34, .iconst 0, 1, []), (35, .putfield 25, 3, [0, 4, 0, 69]), (38, .return_, 1, [])]
def fm_h115 : List fm_H := []
/-- Feederlight$Chargers.lineUp(I)V -/
def fm_c116 : List fm_En := [(0, .aload_n 0, 1, []), (1, .iconst 0, 1, []), (2, .putfield 21, 3, [0, 3, 0, 68]), (5, .iconst 0, 1, []), (6, .istore_n 2, 1, []), (7, .iload_n 2, 1, []), (8, .iload_n 1, 1, []), (9, .if_icmp .ge 23, 3, [32]), (12, .aload_n 0, 1, []), (13, .getfield 9, 3, [0, 0, 2, 65]), (16, .iload_n 2, 1, []), (17, .iaload, 1, []), (18, .ifCond .le 8, 3, [26]), (21, .aload_n 0, 1, []), (22, .iload_n 2, 1, []), (23, .invokevirtual 28, 3, [117, 0, 2, 140, 0]), (26, .iinc 2 1, 3, []), (29, .goto (-22), 3, [7]), (32, .return_, 1, [])]
def fm_h116 : List fm_H := []
/-- Feederlight$Chargers.enterLine(I)V -/
def fm_c117 : List fm_En := [(0, .aload_n 0, 1, []), (1, .getfield 21, 3, [0, 3, 0, 68]), (4, .istore_n 2, 1, []), (5, .iload_n 2, 1, []), (6, .ifCond .le 45, 3, [51]), (9, .aload_n 0, 1, []), (10, .getfield 15, 3, [0, 1, 2, 66]), (13, .aload_n 0, 1, []), (14, .getfield 18, 3, [0, 2, 2, 67]), (17, .iload_n 2, 1, []), (18, .iconst 1, 1, []), (19, .isub, 1, []), (20, .iaload, 1, []), (21, .iaload, 1, []), (22, .aload_n 0, 1, []), (23, .getfield 15, 3, [0, 1, 2, 66]), (26, .iload_n 1, 1, []), (27, .iaload, 1, []), (28, .if_icmp .ge 23, 3, [51]), (31, .aload_n 0, 1, []), (32, .getfield 18, 3, [0, 2, 2, 67]), (35, .iload_n 2, 1, []), (36, .aload_n 0, 1, []), (37, .getfield 18, 3, [0, 2, 2, 67]), (40, .iload_n 2, 1, []), (41, .iconst 1, 1, []), (42, .isub, 1, []), (43, .iaload, 1, []), (44, .iastore, 1, []), (45, .iinc 2 (-1), 3, []), (48, .goto (-43), 3, [5]), (51, .aload_n 0, 1, []), (52, .getfield 18, 3, [0, 2, 2, 67]), (55, .iload_n 2, 1, []), (56, .iload_n 1, 1, []), (57, .iastore, 1, []), (58, .aload_n 0, 1, []), (59, .dup, 1, []), (60, .getfield 21, 3, [0, 3, 0, 68]), (63, .iconst 1, 1, []), (64, .iadd, 1, []), (65, .putfield 21, 3, [0, 3, 0, 68]), (68, .return_, 1, [])]
def fm_h117 : List fm_H := []
/-- Feederlight$Chargers.setAbove0(I)I -/
def fm_c118 : List fm_En := [(0, .iconst 0, 1, []), (1, .istore_n 2, 1, []), (2, .iconst 0, 1, []), (3, .istore_n 3, 1, []), (4, .iload_n 3, 1, []), (5, .iload_n 1, 1, []), (6, .if_icmp .ge 24, 3, [30]), (9, .aload_n 0, 1, []), (10, .getfield 9, 3, [0, 0, 2, 65]), (13, .iload_n 3, 1, []), (14, .iaload, 1, []), (15, .ifCond .le 9, 3, [24]), (18, .iload_n 2, 1, []), (19, .iconst 1, 1, []), (20, .iload_n 3, 1, []), (21, .ishl, 1, []), (22, .ior, 1, []), (23, .istore_n 2, 1, []), (24, .iinc 3 1, 3, []), (27, .goto (-23), 3, [4]), (30, .iload_n 2, 1, []), (31, .ireturn, 1, [0])]
def fm_h118 : List fm_H := []
/-- Feederlight$Feeding.<init>()V -/
def fm_c119 : List fm_En := [(0, .aload_n 0, 1, []), (1, .invokespecial 3, 3, [3]), (4, .aload_n 0, 1, []), (5, .new 9, 3, [0, 3, 10, 5]), (8, .dup, 1, []), (9, .invokespecial 11, 3, [134, 0, 1, 141]), (12, .putfield 12, 3, [1, 0, 2, 70]), (15, .aload_n 0, 1, []), (16, .bipush 12, 2, []), (18, .newarray .boolean, 2, [11]), (20, .putfield 18, 3, [1, 1, 2, 71]), (23, .aload_n 0, 1, []), (24, .bipush 12, 2, []), (26, .newarray .int, 2, [10]), (28, .putfield 22, 3, [1, 2, 2, 72]), (31, .aload_n 0, 1, []), (32, .bipush 12, 2, []), (34, .newarray .int, 2, [10]), (36, .putfield 26, 3, [1, 3, 2, 73]), (39, .aload_n 0, 1, []), (40, .bipush 12, 2, []), (42, .newarray .int, 2, [10]), (44, .putfield 29, 3, [1, 4, 2, 74]), (47, .aload_n 0, 1, []), (48, .bipush 12, 2, []), (50, .newarray .int, 2, [10]), (52, .putfield 32, 3, [1, 5, 2, 75]), (55, .aload_n 0, 1, []), (56, .iconst 4, 1, []), (57, .newarray .boolean, 2, [11]), (59, .putfield 35, 3, [1, 6, 2, 76]), (62, .aload_n 0, 1, []), (63, .iconst 1, 1, []), (64, .putfield 38, 3, [1, 7, 0, 77]), (67, .aload_n 0, 1, []), (68, .getfield 18, 3, [1, 1, 2, 71]), (71, .iconst 0, 1, []), (72, .iconst 1, 1, []), (73, .bastore, 1, []), (74, .return_, 1, [])]
def fm_h119 : List fm_H := []
/-- Feederlight$Feeding.workOut()V -/
def fm_c120 : List fm_En := [(0, .aload_n 0, 1, []), (1, .invokevirtual 42, 3, [121, 0, 1, 142, 1]), (4, .aload_n 0, 1, []), (5, .iconst 0, 1, []), (6, .invokevirtual 45, 3, [122, 0, 2, 143, 1]), (9, .iconst 0, 1, []), (10, .istore_n 1, 1, []), (11, .iload_n 1, 1, []), (12, .aload_n 0, 1, []), (13, .getfield 12, 3, [1, 0, 2, 70]), (16, .getfield 49, 3, [3, 9, 0, 78]), (19, .if_icmp .ge 35, 3, [54]), (22, .aload_n 0, 1, []), (23, .invokevirtual 52, 3, [125, 1, 1, 144, 1]), (26, .istore_n 2, 1, []), (27, .iload_n 2, 1, []), (28, .iconst (-1), 1, []), (29, .if_icmp .ne 4, 3, [33]), (32, .return_, 1, []), (33, .aload_n 0, 1, []), (34, .getfield 38, 3, [1, 7, 0, 77]), (37, .istore_n 3, 1, []), (38, .aload_n 0, 1, []), (39, .iload_n 2, 1, []), (40, .invokevirtual 56, 3, [126, 0, 2, 145, 1]), (43, .aload_n 0, 1, []), (44, .iload_n 3, 1, []), (45, .invokevirtual 45, 3, [122, 0, 2, 143, 1]), (48, .iinc 1 1, 3, []), (51, .goto (-40), 3, [11]), (54, .return_, 1, [])]
def fm_h120 : List fm_H := []
/-- Feederlight$Feeding.startAtTransformer()V -/
def fm_c121 : List fm_En := [(0, .iconst 1, 1, []), (1, .istore_n 1, 1, []), (2, .iload_n 1, 1, []), (3, .bipush 12, 2, []), (5, .if_icmp .ge 37, 3, [42]), (8, .aload_n 0, 1, []), (9, .getfield 18, 3, [1, 1, 2, 71]), (12, .iload_n 1, 1, []), (13, .iconst 0, 1, []), (14, .bastore, 1, []), (15, .aload_n 0, 1, []), (16, .getfield 22, 3, [1, 2, 2, 72]), (19, .iload_n 1, 1, []), (20, .iconst 0, 1, []), (21, .iastore, 1, []), (22, .aload_n 0, 1, []), (23, .getfield 26, 3, [1, 3, 2, 73]), (26, .iload_n 1, 1, []), (27, .iconst 0, 1, []), (28, .iastore, 1, []), (29, .aload_n 0, 1, []), (30, .getfield 29, 3, [1, 4, 2, 74]), (33, .iload_n 1, 1, []), (34, .iconst 0, 1, []), (35, .iastore, 1, []), (36, .iinc 1 1, 3, []), (39, .goto (-37), 3, [2]), (42, .iconst 0, 1, []), (43, .istore_n 1, 1, []), (44, .iload_n 1, 1, []), (45, .iconst 4, 1, []), (46, .if_icmp .ge 16, 3, [62]), (49, .aload_n 0, 1, []), (50, .getfield 35, 3, [1, 6, 2, 76]), (53, .iload_n 1, 1, []), (54, .iconst 0, 1, []), (55, .bastore, 1, []), (56, .iinc 1 1, 3, []), (59, .goto (-15), 3, [44]), (62, .aload_n 0, 1, []), (63, .iconst 1, 1, []), (64, .putfield 38, 3, [1, 7, 0, 77]), (67, .return_, 1, [])]
def fm_h121 : List fm_H := []
/-- Feederlight$Feeding.spreadOverCables(I)V -/
def fm_c122 : List fm_En := [(0, .iload_n 1, 1, []), (1, .istore_n 2, 1, []), (2, .iload_n 2, 1, []), (3, .aload_n 0, 1, []), (4, .getfield 12, 3, [1, 0, 2, 70]), (7, .getfield 59, 3, [3, 8, 0, 79]), (10, .if_icmp .ge 27, 3, [37]), (13, .iload_n 2, 1, []), (14, .aload_n 0, 1, []), (15, .getfield 38, 3, [1, 7, 0, 77]), (18, .if_icmp .ge 19, 3, [37]), (21, .aload_n 0, 1, []), (22, .aload_n 0, 1, []), (23, .getfield 32, 3, [1, 5, 2, 75]), (26, .iload_n 2, 1, []), (27, .iaload, 1, []), (28, .invokevirtual 62, 3, [123, 0, 2, 146, 1]), (31, .iinc 2 1, 3, []), (34, .goto (-32), 3, [2]), (37, .return_, 1, [])]
def fm_h122 : List fm_H := []
/-- Feederlight$Feeding.spreadFrom(I)V -/
def fm_c123 : List fm_En := [(0, .iload_n 1, 1, []), (1, .ifCond .le 18, 3, [19]), (4, .aload_n 0, 1, []), (5, .aload_n 0, 1, []), (6, .getfield 12, 3, [1, 0, 2, 70]), (9, .getfield 65, 3, [3, 0, 2, 80]), (12, .iload_n 1, 1, []), (13, .iaload, 1, []), (14, .iload_n 1, 1, []), (15, .iload_n 1, 1, []), (16, .invokevirtual 68, 3, [124, 0, 4, 147, 1]), (19, .iload_n 1, 1, []), (20, .iconst 1, 1, []), (21, .iadd, 1, []), (22, .istore_n 2, 1, []), (23, .iload_n 2, 1, []), (24, .aload_n 0, 1, []), (25, .getfield 12, 3, [1, 0, 2, 70]), (28, .getfield 59, 3, [3, 8, 0, 79]), (31, .if_icmp .ge 29, 3, [60]), (34, .aload_n 0, 1, []), (35, .getfield 12, 3, [1, 0, 2, 70]), (38, .getfield 65, 3, [3, 0, 2, 80]), (41, .iload_n 2, 1, []), (42, .iaload, 1, []), (43, .iload_n 1, 1, []), (44, .if_icmp .ne 10, 3, [54]), (47, .aload_n 0, 1, []), (48, .iload_n 2, 1, []), (49, .iload_n 1, 1, []), (50, .iload_n 2, 1, []), (51, .invokevirtual 68, 3, [124, 0, 4, 147, 1]), (54, .iinc 2 1, 3, []), (57, .goto (-34), 3, [23]), (60, .return_, 1, [])]
def fm_h123 : List fm_H := []
/-- Feederlight$Feeding.feedOverCable(III)V -/
def fm_c124 : List fm_En := [(0, .aload_n 0, 1, []), (1, .getfield 12, 3, [1, 0, 2, 70]), (4, .getfield 72, 3, [3, 4, 2, 81]), (7, .iload_n 3, 1, []), (8, .baload, 1, []), (9, .ifCond .ne 34, 3, [43]), (12, .aload_n 0, 1, []), (13, .getfield 18, 3, [1, 1, 2, 71]), (16, .iload_n 1, 1, []), (17, .baload, 1, []), (18, .ifCond .ne 25, 3, [43]), (21, .aload_n 0, 1, []), (22, .iload_n 1, 1, []), (23, .iload_n 2, 1, []), (24, .aload_n 0, 1, []), (25, .getfield 12, 3, [1, 0, 2, 70]), (28, .getfield 75, 3, [3, 1, 2, 82]), (31, .iload_n 3, 1, []), (32, .iaload, 1, []), (33, .invokevirtual 76, 3, [127, 0, 4, 148, 1]), (36, .aload_n 0, 1, []), (37, .getfield 26, 3, [1, 3, 2, 73]), (40, .iload_n 1, 1, []), (41, .iload_n 3, 1, []), (42, .iastore, 1, []), (43, .return_, 1, [])]
def fm_h124 : List fm_H := []
/-- Feederlight$Feeding.tieThatCanFeed()I -/
def fm_c125 : List fm_En := [(0, .iconst 0, 1, []), (1, .istore_n 1, 1, []), (2, .iload_n 1, 1, []), (3, .aload_n 0, 1, []), (4, .getfield 12, 3, [1, 0, 2, 70]), (7, .getfield 49, 3, [3, 9, 0, 78]), (10, .if_icmp .ge 42, 3, [52]), (13, .aload_n 0, 1, []), (14, .getfield 18, 3, [1, 1, 2, 71]), (17, .aload_n 0, 1, []), (18, .getfield 12, 3, [1, 0, 2, 70]), (21, .getfield 79, 3, [3, 5, 2, 83]), (24, .iload_n 1, 1, []), (25, .iaload, 1, []), (26, .baload, 1, []), (27, .aload_n 0, 1, []), (28, .getfield 18, 3, [1, 1, 2, 71]), (31, .aload_n 0, 1, []), (32, .getfield 12, 3, [1, 0, 2, 70]), (35, .getfield 82, 3, [3, 6, 2, 84]), (38, .iload_n 1, 1, []), (39, .iaload, 1, []), (40, .baload, 1, []), (41, .if_icmp .eq 5, 3, [46]), (44, .iload_n 1, 1, []), (45, .ireturn, 1, [0]), (46, .iinc 1 1, 3, []), (49, .goto (-47), 3, [2]), (52, .iconst (-1), 1, []), (53, .ireturn, 1, [0])]
def fm_h125 : List fm_H := []
/-- Feederlight$Feeding.close(I)V -/
def fm_c126 : List fm_En := [(0, .aload_n 0, 1, []), (1, .getfield 12, 3, [1, 0, 2, 70]), (4, .getfield 79, 3, [3, 5, 2, 83]), (7, .iload_n 1, 1, []), (8, .iaload, 1, []), (9, .istore_n 2, 1, []), (10, .aload_n 0, 1, []), (11, .getfield 12, 3, [1, 0, 2, 70]), (14, .getfield 82, 3, [3, 6, 2, 84]), (17, .iload_n 1, 1, []), (18, .iaload, 1, []), (19, .istore_n 3, 1, []), (20, .aload_n 0, 1, []), (21, .getfield 35, 3, [1, 6, 2, 76]), (24, .iload_n 1, 1, []), (25, .iconst 1, 1, []), (26, .bastore, 1, []), (27, .aload_n 0, 1, []), (28, .getfield 18, 3, [1, 1, 2, 71]), (31, .iload_n 2, 1, []), (32, .baload, 1, []), (33, .ifCond .eq 21, 3, [54]), (36, .aload_n 0, 1, []), (37, .iload_n 3, 1, []), (38, .iload_n 2, 1, []), (39, .aload_n 0, 1, []), (40, .getfield 12, 3, [1, 0, 2, 70]), (43, .getfield 85, 3, [3, 7, 2, 85]), (46, .iload_n 1, 1, []), (47, .iaload, 1, []), (48, .invokevirtual 76, 3, [127, 0, 4, 148, 1]), (51, .goto 18, 3, [69]), (54, .aload_n 0, 1, []), (55, .iload_n 2, 1, []), (56, .iload_n 3, 1, []), (57, .aload_n 0, 1, []), (58, .getfield 12, 3, [1, 0, 2, 70]), (61, .getfield 85, 3, [3, 7, 2, 85]), (64, .iload_n 1, 1, []), (65, .iaload, 1, []), (66, .invokevirtual 76, 3, [127, 0, 4, 148, 1]), (69, .return_, 1, [])]
def fm_h126 : List fm_H := []
/-- Feederlight$Feeding.feed(III)V -/
def fm_c127 : List fm_En := [(0, .aload_n 0, 1, []), (1, .getfield 38, 3, [1, 7, 0, 77]), (4, .bipush 12, 2, []), (6, .if_icmp .ge 44, 3, [50]), (9, .aload_n 0, 1, []), (10, .getfield 18, 3, [1, 1, 2, 71]), (13, .iload_n 1, 1, []), (14, .iconst 1, 1, []), (15, .bastore, 1, []), (16, .aload_n 0, 1, []), (17, .getfield 22, 3, [1, 2, 2, 72]), (20, .iload_n 1, 1, []), (21, .iload_n 2, 1, []), (22, .iastore, 1, []), (23, .aload_n 0, 1, []), (24, .getfield 29, 3, [1, 4, 2, 74]), (27, .iload_n 1, 1, []), (28, .iload_n 3, 1, []), (29, .iastore, 1, []), (30, .aload_n 0, 1, []), (31, .getfield 32, 3, [1, 5, 2, 75]), (34, .aload_n 0, 1, []), (35, .getfield 38, 3, [1, 7, 0, 77]), (38, .iload_n 1, 1, []), (39, .iastore, 1, []), (40, .aload_n 0, 1, []), (41, .dup, 1, []), (42, .getfield 38, 3, [1, 7, 0, 77]), (45, .iconst 1, 1, []), (46, .iadd, 1, []), (47, .putfield 38, 3, [1, 7, 0, 77]), (50, .return_, 1, [])]
def fm_h127 : List fm_H := []
/-- Feederlight$Feeding.fedSet()I -/
def fm_c128 : List fm_En := [(0, .iconst 0, 1, []), (1, .istore_n 1, 1, []), (2, .iconst 0, 1, []), (3, .istore_n 2, 1, []), (4, .iload_n 2, 1, []), (5, .aload_n 0, 1, []), (6, .getfield 38, 3, [1, 7, 0, 77]), (9, .if_icmp .ge 20, 3, [29]), (12, .iload_n 1, 1, []), (13, .iconst 1, 1, []), (14, .aload_n 0, 1, []), (15, .getfield 32, 3, [1, 5, 2, 75]), (18, .iload_n 2, 1, []), (19, .iaload, 1, []), (20, .ishl, 1, []), (21, .ior, 1, []), (22, .istore_n 1, 1, []), (23, .iinc 2 1, 3, []), (26, .goto (-22), 3, [4]), (29, .iload_n 1, 1, []), (30, .ireturn, 1, [0])]
def fm_h128 : List fm_H := []
/-- Feederlight$Feeding.hasOnWay(II)Z -/
def fm_c129 : List fm_En := [(0, .iload_n 1, 1, []), (1, .istore_n 3, 1, []), (2, .iconst 0, 1, []), (3, .istore 4, 2, []), (5, .iload 4, 2, []), (7, .bipush 12, 2, []), (9, .if_icmp .ge 27, 3, [36]), (12, .iload_n 3, 1, []), (13, .ifCond .le 23, 3, [36]), (16, .iload_n 3, 1, []), (17, .iload_n 2, 1, []), (18, .if_icmp .ne 5, 3, [23]), (21, .iconst 1, 1, []), (22, .ireturn, 1, [1]), (23, .aload_n 0, 1, []), (24, .getfield 22, 3, [1, 2, 2, 72]), (27, .iload_n 3, 1, []), (28, .iaload, 1, []), (29, .istore_n 3, 1, []), (30, .iinc 4 1, 3, []), (33, .goto (-28), 3, [5]), (36, .iload_n 3, 1, []), (37, .iload_n 2, 1, []), (38, .if_icmp .ne 7, 3, [45]), (41, .iconst 1, 1, []), (42, .goto 4, 3, [46]), (45, .iconst 0, 1, []), (46, .ireturn, 1, [1])]
def fm_h129 : List fm_H := []
/-- Feederlight$Flows.<init>()V -/
def fm_c130 : List fm_En := [(0, .aload_n 0, 1, []), (1, .invokespecial 3, 3, [4]), (4, .aload_n 0, 1, []), (5, .new 9, 3, [0, 1, 8, 6]), (8, .dup, 1, []), (9, .invokespecial 11, 3, [119, 0, 1, 149]), (12, .putfield 12, 3, [2, 0, 2, 86]), (15, .aload_n 0, 1, []), (16, .bipush 12, 2, []), (18, .newarray .int, 2, [10]), (20, .putfield 18, 3, [2, 1, 2, 87]), (23, .aload_n 0, 1, []), (24, .bipush 12, 2, []), (26, .newarray .int, 2, [10]), (28, .putfield 22, 3, [2, 2, 2, 88]), (31, .return_, 1, [])]
def fm_h130 : List fm_H := []
/-- Feederlight$Flows.workOut([I[III)V -/
def fm_c131 : List fm_En := [(0, .iconst 0, 1, []), (1, .istore 5, 2, []), (3, .iload 5, 2, []), (5, .bipush 12, 2, []), (7, .if_icmp .ge 41, 3, [48]), (10, .aload_n 0, 1, []), (11, .getfield 18, 3, [2, 1, 2, 87]), (14, .iload 5, 2, []), (16, .iload_n 3, 1, []), (17, .iload 5, 2, []), (19, .invokestatic 25, 3, [59, 1, 2, 150]), (22, .ifCond .eq 15, 3, [37]), (25, .aload_n 1, 1, []), (26, .iload 5, 2, []), (28, .iaload, 1, []), (29, .aload_n 2, 1, []), (30, .iload 5, 2, []), (32, .iaload, 1, []), (33, .iadd, 1, []), (34, .goto 7, 3, [41]), (37, .aload_n 1, 1, []), (38, .iload 5, 2, []), (40, .iaload, 1, []), (41, .iastore, 1, []), (42, .iinc 5 1, 3, []), (45, .goto (-42), 3, [3]), (48, .aload_n 0, 1, []), (49, .getfield 12, 3, [2, 0, 2, 86]), (52, .getfield 29, 3, [1, 7, 0, 89]), (55, .iconst 1, 1, []), (56, .isub, 1, []), (57, .istore 5, 2, []), (59, .iload 5, 2, []), (61, .ifCond .le 46, 3, [107]), (64, .aload_n 0, 1, []), (65, .getfield 12, 3, [2, 0, 2, 86]), (68, .getfield 33, 3, [1, 5, 2, 90]), (71, .iload 5, 2, []), (73, .iaload, 1, []), (74, .istore 6, 2, []), (76, .aload_n 0, 1, []), (77, .getfield 18, 3, [2, 1, 2, 87]), (80, .aload_n 0, 1, []), (81, .getfield 12, 3, [2, 0, 2, 86]), (84, .getfield 36, 3, [1, 2, 2, 91]), (87, .iload 6, 2, []), (89, .iaload, 1, []), (90, .dup2, 1, []), (91, .iaload, 1, []), (92, .aload_n 0, 1, []), (93, .getfield 18, 3, [2, 1, 2, 87]), (96, .iload 6, 2, []), (98, .iaload, 1, []), (99, .iadd, 1, []), (100, .iastore, 1, []), (101, .iinc 5 (-1), 3, []), (104, .goto (-45), 3, [59]), (107, .aload_n 0, 1, []), (108, .getfield 22, 3, [2, 2, 2, 88]), (111, .iconst 0, 1, []), (112, .iload 4, 2, []), (114, .iastore, 1, []), (115, .iconst 1, 1, []), (116, .istore 5, 2, []), (118, .iload 5, 2, []), (120, .aload_n 0, 1, []), (121, .getfield 12, 3, [2, 0, 2, 86]), (124, .getfield 29, 3, [1, 7, 0, 89]), (127, .if_icmp .ge 64, 3, [191]), (130, .aload_n 0, 1, []), (131, .getfield 12, 3, [2, 0, 2, 86]), (134, .getfield 33, 3, [1, 5, 2, 90]), (137, .iload 5, 2, []), (139, .iaload, 1, []), (140, .istore 6, 2, []), (142, .aload_n 0, 1, []), (143, .getfield 22, 3, [2, 2, 2, 88]), (146, .iload 6, 2, []), (148, .aload_n 0, 1, []), (149, .getfield 22, 3, [2, 2, 2, 88]), (152, .aload_n 0, 1, []), (153, .getfield 12, 3, [2, 0, 2, 86]), (156, .getfield 36, 3, [1, 2, 2, 91]), (159, .iload 6, 2, []), (161, .iaload, 1, []), (162, .iaload, 1, []), (163, .aload_n 0, 1, []), (164, .getfield 12, 3, [2, 0, 2, 86]), (167, .getfield 39, 3, [1, 4, 2, 92]), (170, .iload 6, 2, []), (172, .iaload, 1, []), (173, .aload_n 0, 1, []), (174, .getfield 18, 3, [2, 1, 2, 87]), (177, .iload 6, 2, []), (179, .iaload, 1, []), (180, .invokestatic 42, 3, [60, 1, 2, 151]), (183, .isub, 1, []), (184, .iastore, 1, []), (185, .iinc 5 1, 3, []), (188, .goto (-70), 3, [118]), (191, .return_, 1, [])]
def fm_h131 : List fm_H := []
/-- Feederlight$Flows.carriedTo(I)I -/
def fm_c132 : List fm_En := [(0, .aload_n 0, 1, []), (1, .getfield 18, 3, [2, 1, 2, 87]), (4, .iload_n 1, 1, []), (5, .iaload, 1, []), (6, .invokestatic 46, 3, [169, 1, 1, 152]), (9, .ireturn, 1, [0])]
def fm_h132 : List fm_H := []
/-- Feederlight$Flows.areWithinLimits()Z -/
def fm_c133 : List fm_En := [(0, .iconst 0, 1, []), (1, .istore_n 1, 1, []), (2, .iload_n 1, 1, []), (3, .aload_n 0, 1, []), (4, .getfield 12, 3, [2, 0, 2, 86]), (7, .getfield 29, 3, [1, 7, 0, 89]), (10, .if_icmp .ge 67, 3, [77]), (13, .aload_n 0, 1, []), (14, .getfield 12, 3, [2, 0, 2, 86]), (17, .getfield 33, 3, [1, 5, 2, 90]), (20, .iload_n 1, 1, []), (21, .iaload, 1, []), (22, .istore_n 2, 1, []), (23, .aload_n 0, 1, []), (24, .getfield 12, 3, [2, 0, 2, 86]), (27, .getfield 52, 3, [1, 3, 2, 93]), (30, .iload_n 2, 1, []), (31, .iaload, 1, []), (32, .istore_n 3, 1, []), (33, .aload_n 0, 1, []), (34, .getfield 22, 3, [2, 2, 2, 88]), (37, .iload_n 2, 1, []), (38, .iaload, 1, []), (39, .sipush 2070, 3, []), (42, .if_icmp .lt 27, 3, [69]), (45, .iload_n 3, 1, []), (46, .ifCond .le 25, 3, [71]), (49, .aload_n 0, 1, []), (50, .iload_n 2, 1, []), (51, .invokevirtual 55, 3, [132, 1, 2, 153, 2]), (54, .aload_n 0, 1, []), (55, .getfield 12, 3, [2, 0, 2, 86]), (58, .getfield 58, 3, [1, 0, 2, 94]), (61, .getfield 62, 3, [3, 2, 2, 95]), (64, .iload_n 3, 1, []), (65, .iaload, 1, []), (66, .if_icmp .le 5, 3, [71]), (69, .iconst 0, 1, []), (70, .ireturn, 1, [1]), (71, .iinc 1 1, 3, []), (74, .goto (-72), 3, [2]), (77, .iconst 1, 1, []), (78, .ireturn, 1, [1])]
def fm_h133 : List fm_H := []
/-- Feederlight$Grid.<init>()V -/
def fm_c134 : List fm_En := [(0, .aload_n 0, 1, []), (1, .invokespecial 3, 3, [5]), (4, .aload_n 0, 1, []), (5, .bipush 12, 2, []), (7, .newarray .int, 2, [10]), (9, .putfield 9, 3, [3, 0, 2, 96]), (12, .aload_n 0, 1, []), (13, .bipush 12, 2, []), (15, .newarray .int, 2, [10]), (17, .putfield 15, 3, [3, 1, 2, 97]), (20, .aload_n 0, 1, []), (21, .bipush 12, 2, []), (23, .newarray .int, 2, [10]), (25, .putfield 18, 3, [3, 2, 2, 98]), (28, .aload_n 0, 1, []), (29, .bipush 12, 2, []), (31, .newarray .int, 2, [10]), (33, .putfield 21, 3, [3, 3, 2, 99]), (36, .aload_n 0, 1, []), (37, .bipush 12, 2, []), (39, .newarray .boolean, 2, [11]), (41, .putfield 24, 3, [3, 4, 2, 100]), (44, .aload_n 0, 1, []), (45, .iconst 4, 1, []), (46, .newarray .int, 2, [10]), (48, .putfield 28, 3, [3, 5, 2, 101]), (51, .aload_n 0, 1, []), (52, .iconst 4, 1, []), (53, .newarray .int, 2, [10]), (55, .putfield 31, 3, [3, 6, 2, 102]), (58, .aload_n 0, 1, []), (59, .iconst 4, 1, []), (60, .newarray .int, 2, [10]), (62, .putfield 34, 3, [3, 7, 2, 103]), (65, .aload_n 0, 1, []), (66, .iconst 1, 1, []), (67, .putfield 37, 3, [3, 8, 0, 104]), (70, .aload_n 0, 1, []), (71, .iconst 0, 1, []), (72, .putfield 41, 3, [3, 9, 0, 105]), (75, .return_, 1, [])]
def fm_h134 : List fm_H := []
/-- Feederlight$Grid.putNode(III)I -/
def fm_c135 : List fm_En := [(0, .aload_n 0, 1, []), (1, .getfield 37, 3, [3, 8, 0, 104]), (4, .istore 4, 2, []), (6, .aload_n 0, 1, []), (7, .getfield 9, 3, [3, 0, 2, 96]), (10, .iload 4, 2, []), (12, .iload_n 1, 1, []), (13, .iastore, 1, []), (14, .aload_n 0, 1, []), (15, .getfield 15, 3, [3, 1, 2, 97]), (18, .iload 4, 2, []), (20, .iload_n 2, 1, []), (21, .iastore, 1, []), (22, .aload_n 0, 1, []), (23, .getfield 18, 3, [3, 2, 2, 98]), (26, .iload 4, 2, []), (28, .iload_n 3, 1, []), (29, .iastore, 1, []), (30, .aload_n 0, 1, []), (31, .dup, 1, []), (32, .getfield 37, 3, [3, 8, 0, 104]), (35, .iconst 1, 1, []), (36, .iadd, 1, []), (37, .putfield 37, 3, [3, 8, 0, 104]), (40, .iload 4, 2, []), (42, .ireturn, 1, [0])]
def fm_h135 : List fm_H := []
/-- Feederlight$Grid.putTie(III)I -/
def fm_c136 : List fm_En := [(0, .aload_n 0, 1, []), (1, .getfield 41, 3, [3, 9, 0, 105]), (4, .istore 4, 2, []), (6, .aload_n 0, 1, []), (7, .getfield 28, 3, [3, 5, 2, 101]), (10, .iload 4, 2, []), (12, .iload_n 1, 1, []), (13, .iastore, 1, []), (14, .aload_n 0, 1, []), (15, .getfield 31, 3, [3, 6, 2, 102]), (18, .iload 4, 2, []), (20, .iload_n 2, 1, []), (21, .iastore, 1, []), (22, .aload_n 0, 1, []), (23, .getfield 34, 3, [3, 7, 2, 103]), (26, .iload 4, 2, []), (28, .iload_n 3, 1, []), (29, .iastore, 1, []), (30, .aload_n 0, 1, []), (31, .dup, 1, []), (32, .getfield 41, 3, [3, 9, 0, 105]), (35, .iconst 1, 1, []), (36, .iadd, 1, []), (37, .putfield 41, 3, [3, 9, 0, 105]), (40, .iload 4, 2, []), (42, .ireturn, 1, [0])]
def fm_h136 : List fm_H := []
/-- Feederlight$Grid.heatFuse(II)Z -/
def fm_c137 : List fm_En := [(0, .iload_n 2, 1, []), (1, .aload_n 0, 1, []), (2, .getfield 18, 3, [3, 2, 2, 98]), (5, .iload_n 1, 1, []), (6, .iaload, 1, []), (7, .if_icmp .le 23, 3, [30]), (10, .aload_n 0, 1, []), (11, .getfield 21, 3, [3, 3, 2, 99]), (14, .iload_n 1, 1, []), (15, .dup2, 1, []), (16, .iaload, 1, []), (17, .iload_n 2, 1, []), (18, .aload_n 0, 1, []), (19, .getfield 18, 3, [3, 2, 2, 98]), (22, .iload_n 1, 1, []), (23, .iaload, 1, []), (24, .isub, 1, []), (25, .iadd, 1, []), (26, .iastore, 1, []), (27, .goto 21, 3, [48]), (30, .aload_n 0, 1, []), (31, .getfield 21, 3, [3, 3, 2, 99]), (34, .iload_n 1, 1, []), (35, .iconst 0, 1, []), (36, .aload_n 0, 1, []), (37, .getfield 21, 3, [3, 3, 2, 99]), (40, .iload_n 1, 1, []), (41, .iaload, 1, []), (42, .iconst 5, 1, []), (43, .isub, 1, []), (44, .invokestatic 44, 3, [170, 1, 2, 154]), (47, .iastore, 1, []), (48, .aload_n 0, 1, []), (49, .getfield 24, 3, [3, 4, 2, 100]), (52, .iload_n 1, 1, []), (53, .aload_n 0, 1, []), (54, .getfield 21, 3, [3, 3, 2, 99]), (57, .iload_n 1, 1, []), (58, .iaload, 1, []), (59, .bipush 100, 2, []), (61, .if_icmp .lt 7, 3, [68]), (64, .iconst 1, 1, []), (65, .goto 4, 3, [69]), (68, .iconst 0, 1, []), (69, .bastore, 1, []), (70, .aload_n 0, 1, []), (71, .getfield 24, 3, [3, 4, 2, 100]), (74, .iload_n 1, 1, []), (75, .baload, 1, []), (76, .ireturn, 1, [1])]
def fm_h137 : List fm_H := []
/-- Feederlight$Roof.<init>()V -/
def fm_c138 : List fm_En := [(0, .aload_n 0, 1, []), (1, .invokespecial 3, 3, [6]), (4, .aload_n 0, 1, []), (5, .iconst 5, 1, []), (6, .newarray .boolean, 2, [11]), (8, .putfield 9, 3, [4, 0, 2, 106]), (11, .aload_n 0, 1, []), (12, .iconst 5, 1, []), (13, .newarray .int, 2, [10]), (15, .putfield 15, 3, [4, 1, 2, 107]), (18, .aload_n 0, 1, []), (19, .iconst 1, 1, []), (20, .putfield 19, 3, [4, 2, 0, 108]), (23, .return_, 1, [])]
def fm_h138 : List fm_H := []
/-- Feederlight$Roof.startWith(I)V -/
def fm_c139 : List fm_En := [(0, .aload_n 0, 1, []), (1, .getfield 15, 3, [4, 1, 2, 107]), (4, .iconst 0, 1, []), (5, .iload_n 1, 1, []), (6, .iastore, 1, []), (7, .aload_n 0, 1, []), (8, .iconst 1, 1, []), (9, .putfield 19, 3, [4, 2, 0, 108]), (12, .return_, 1, [])]
def fm_h139 : List fm_H := []
/-- Feederlight$Roof.putLayer(ZI)I -/
def fm_c140 : List fm_En := [(0, .aload_n 0, 1, []), (1, .getfield 9, 3, [4, 0, 2, 106]), (4, .aload_n 0, 1, []), (5, .getfield 19, 3, [4, 2, 0, 108]), (8, .iload_n 1, 1, []), (9, .bastore, 1, []), (10, .aload_n 0, 1, []), (11, .getfield 15, 3, [4, 1, 2, 107]), (14, .aload_n 0, 1, []), (15, .getfield 19, 3, [4, 2, 0, 108]), (18, .iload_n 2, 1, []), (19, .iastore, 1, []), (20, .aload_n 0, 1, []), (21, .dup, 1, []), (22, .getfield 19, 3, [4, 2, 0, 108]), (25, .iconst 1, 1, []), (26, .iadd, 1, []), (27, .putfield 19, 3, [4, 2, 0, 108]), (30, .aload_n 0, 1, []), (31, .getfield 19, 3, [4, 2, 0, 108]), (34, .ireturn, 1, [0])]
def fm_h140 : List fm_H := []
/-- Feederlight$Roof.currentFor(I)I -/
def fm_c141 : List fm_En := [(0, .iload_n 1, 1, []), (1, .istore_n 2, 1, []), (2, .sipush 200, 3, []), (5, .istore_n 3, 1, []), (6, .aload_n 0, 1, []), (7, .getfield 19, 3, [4, 2, 0, 108]), (10, .iconst 1, 1, []), (11, .isub, 1, []), (12, .istore 4, 2, []), (14, .iload 4, 2, []), (16, .ifCond .le 57, 3, [73]), (19, .aload_n 0, 1, []), (20, .getfield 9, 3, [4, 0, 2, 106]), (23, .iload 4, 2, []), (25, .baload, 1, []), (26, .ifCond .ne 18, 3, [44]), (29, .iload_n 3, 1, []), (30, .aload_n 0, 1, []), (31, .getfield 15, 3, [4, 1, 2, 107]), (34, .iload 4, 2, []), (36, .iaload, 1, []), (37, .invokestatic 23, 3, [171, 1, 2, 155]), (40, .istore_n 3, 1, []), (41, .goto 26, 3, [67]), (44, .iload_n 2, 1, []), (45, .aload_n 0, 1, []), (46, .getfield 15, 3, [4, 1, 2, 107]), (49, .iload 4, 2, []), (51, .iaload, 1, []), (52, .if_icmp .ge 5, 3, [57]), (55, .iconst 0, 1, []), (56, .ireturn, 1, [0]), (57, .iload_n 2, 1, []), (58, .aload_n 0, 1, []), (59, .getfield 15, 3, [4, 1, 2, 107]), (62, .iload 4, 2, []), (64, .iaload, 1, []), (65, .isub, 1, []), (66, .istore_n 2, 1, []), (67, .iinc 4 (-1), 3, []), (70, .goto (-56), 3, [14]), (73, .iload_n 3, 1, []), (74, .aload_n 0, 1, []), (75, .getfield 15, 3, [4, 1, 2, 107]), (78, .iconst 0, 1, []), (79, .iaload, 1, []), (80, .iload_n 2, 1, []), (81, .imul, 1, []), (82, .bipush 100, 2, []), (84, .idiv, 1, []), (85, .invokestatic 23, 3, [171, 1, 2, 155]), (88, .ireturn, 1, [0])]
def fm_h141 : List fm_H := []
/-- FeederlightLaw.addNode(LFeederlight;III[J)I -/
def fm_c142 : List fm_En := [(0, .aload 4, 2, []), (2, .iconst 0, 1, []), (3, .aload_n 0, 1, []), (4, .iload_n 1, 1, []), (5, .iload_n 2, 1, []), (6, .iload_n 3, 1, []), (7, .invokevirtual 7, 3, [2, 1, 4, 156, 5]), (10, .i2l, 1, []), (11, .lastore, 1, []), (12, .goto 15, 3, [27]), (15, .astore 5, 2, []), (17, .iconst 1, 1, []), (18, .ireturn, 1, [0]), (19, .astore 5, 2, []), (21, .iconst 2, 1, []), (22, .ireturn, 1, [0]), (23, .astore 5, 2, []), (25, .iconst 3, 1, []), (26, .ireturn, 1, [0]), (27, .iconst 0, 1, []), (28, .ireturn, 1, [0])]
def fm_h142 : List fm_H := [(0, 12, 15, 0, 17, 5), (0, 12, 19, 1, 21, 5), (0, 12, 23, 2, 25, 5)]
/-- FeederlightLaw.addTie(LFeederlight;III[J)I -/
def fm_c143 : List fm_En := [(0, .aload 4, 2, []), (2, .iconst 0, 1, []), (3, .aload_n 0, 1, []), (4, .iload_n 1, 1, []), (5, .iload_n 2, 1, []), (6, .iload_n 3, 1, []), (7, .invokevirtual 19, 3, [3, 1, 4, 157, 5]), (10, .i2l, 1, []), (11, .lastore, 1, []), (12, .goto 15, 3, [27]), (15, .astore 5, 2, []), (17, .iconst 1, 1, []), (18, .ireturn, 1, [0]), (19, .astore 5, 2, []), (21, .iconst 2, 1, []), (22, .ireturn, 1, [0]), (23, .astore 5, 2, []), (25, .iconst 3, 1, []), (26, .ireturn, 1, [0]), (27, .iconst 0, 1, []), (28, .ireturn, 1, [0])]
def fm_h143 : List fm_H := [(0, 12, 15, 0, 17, 5), (0, 12, 19, 1, 21, 5), (0, 12, 23, 2, 25, 5)]
/-- FeederlightLaw.setBase(LFeederlight;I[J)I -/
def fm_c144 : List fm_En := [(0, .aload_n 2, 1, []), (1, .iconst 0, 1, []), (2, .aload_n 0, 1, []), (3, .iload_n 1, 1, []), (4, .invokevirtual 22, 3, [4, 1, 2, 158, 5]), (7, .i2l, 1, []), (8, .lastore, 1, []), (9, .goto 6, 3, [15]), (12, .astore_n 3, 1, []), (13, .iconst 1, 1, []), (14, .ireturn, 1, [0]), (15, .iconst 0, 1, []), (16, .ireturn, 1, [0])]
def fm_h144 : List fm_H := [(0, 9, 12, 1, 13, 3)]
/-- FeederlightLaw.setLoad(LFeederlight;II[J)I -/
def fm_c145 : List fm_En := [(0, .aload_n 3, 1, []), (1, .iconst 0, 1, []), (2, .aload_n 0, 1, []), (3, .iload_n 1, 1, []), (4, .iload_n 2, 1, []), (5, .invokevirtual 26, 3, [5, 1, 3, 159, 5]), (8, .i2l, 1, []), (9, .lastore, 1, []), (10, .goto 11, 3, [21]), (13, .astore 4, 2, []), (15, .iconst 1, 1, []), (16, .ireturn, 1, [0]), (17, .astore 4, 2, []), (19, .iconst 2, 1, []), (20, .ireturn, 1, [0]), (21, .iconst 0, 1, []), (22, .ireturn, 1, [0])]
def fm_h145 : List fm_H := [(0, 10, 13, 0, 15, 4), (0, 10, 17, 1, 19, 4)]
/-- FeederlightLaw.setCharger(LFeederlight;II[J)I -/
def fm_c146 : List fm_En := [(0, .aload_n 3, 1, []), (1, .iconst 0, 1, []), (2, .aload_n 0, 1, []), (3, .iload_n 1, 1, []), (4, .iload_n 2, 1, []), (5, .invokevirtual 30, 3, [6, 1, 3, 160, 5]), (8, .i2l, 1, []), (9, .lastore, 1, []), (10, .goto 11, 3, [21]), (13, .astore 4, 2, []), (15, .iconst 1, 1, []), (16, .ireturn, 1, [0]), (17, .astore 4, 2, []), (19, .iconst 2, 1, []), (20, .ireturn, 1, [0]), (21, .iconst 0, 1, []), (22, .ireturn, 1, [0])]
def fm_h146 : List fm_H := [(0, 10, 13, 0, 15, 4), (0, 10, 17, 1, 19, 4)]
/-- FeederlightLaw.setSun(LFeederlight;I[J)I -/
def fm_c147 : List fm_En := [(0, .aload_n 2, 1, []), (1, .iconst 0, 1, []), (2, .aload_n 0, 1, []), (3, .iload_n 1, 1, []), (4, .invokevirtual 33, 3, [7, 1, 2, 161, 5]), (7, .i2l, 1, []), (8, .lastore, 1, []), (9, .goto 6, 3, [15]), (12, .astore_n 3, 1, []), (13, .iconst 1, 1, []), (14, .ireturn, 1, [0]), (15, .iconst 0, 1, []), (16, .ireturn, 1, [0])]
def fm_h147 : List fm_H := [(0, 9, 12, 1, 13, 3)]
/-- FeederlightLaw.setRoof(LFeederlight;II[J)I -/
def fm_c148 : List fm_En := [(0, .aload_n 3, 1, []), (1, .iconst 0, 1, []), (2, .aload_n 0, 1, []), (3, .iload_n 1, 1, []), (4, .iload_n 2, 1, []), (5, .invokevirtual 36, 3, [8, 1, 3, 162, 5]), (8, .i2l, 1, []), (9, .lastore, 1, []), (10, .goto 11, 3, [21]), (13, .astore 4, 2, []), (15, .iconst 1, 1, []), (16, .ireturn, 1, [0]), (17, .astore 4, 2, []), (19, .iconst 2, 1, []), (20, .ireturn, 1, [0]), (21, .iconst 0, 1, []), (22, .ireturn, 1, [0])]
def fm_h148 : List fm_H := [(0, 10, 13, 0, 15, 4), (0, 10, 17, 1, 19, 4)]
/-- FeederlightLaw.capRoof(LFeederlight;II[J)I -/
def fm_c149 : List fm_En := [(0, .aload_n 3, 1, []), (1, .iconst 0, 1, []), (2, .aload_n 0, 1, []), (3, .iload_n 1, 1, []), (4, .iload_n 2, 1, []), (5, .invokevirtual 39, 3, [9, 1, 3, 163, 5]), (8, .i2l, 1, []), (9, .lastore, 1, []), (10, .goto 15, 3, [25]), (13, .astore 4, 2, []), (15, .iconst 1, 1, []), (16, .ireturn, 1, [0]), (17, .astore 4, 2, []), (19, .iconst 2, 1, []), (20, .ireturn, 1, [0]), (21, .astore 4, 2, []), (23, .iconst 3, 1, []), (24, .ireturn, 1, [0]), (25, .iconst 0, 1, []), (26, .ireturn, 1, [0])]
def fm_h149 : List fm_H := [(0, 10, 13, 0, 15, 4), (0, 10, 17, 1, 19, 4), (0, 10, 21, 2, 23, 4)]
/-- FeederlightLaw.shadeRoof(LFeederlight;II[J)I -/
def fm_c150 : List fm_En := [(0, .aload_n 3, 1, []), (1, .iconst 0, 1, []), (2, .aload_n 0, 1, []), (3, .iload_n 1, 1, []), (4, .iload_n 2, 1, []), (5, .invokevirtual 42, 3, [10, 1, 3, 164, 5]), (8, .i2l, 1, []), (9, .lastore, 1, []), (10, .goto 15, 3, [25]), (13, .astore 4, 2, []), (15, .iconst 1, 1, []), (16, .ireturn, 1, [0]), (17, .astore 4, 2, []), (19, .iconst 2, 1, []), (20, .ireturn, 1, [0]), (21, .astore 4, 2, []), (23, .iconst 3, 1, []), (24, .ireturn, 1, [0]), (25, .iconst 0, 1, []), (26, .ireturn, 1, [0])]
def fm_h150 : List fm_H := [(0, 10, 13, 0, 15, 4), (0, 10, 17, 1, 19, 4), (0, 10, 21, 2, 23, 4)]
/-- FeederlightLaw.roofAt(LFeederlight;II[J)I -/
def fm_c151 : List fm_En := [(0, .aload_n 3, 1, []), (1, .iconst 0, 1, []), (2, .aload_n 0, 1, []), (3, .iload_n 1, 1, []), (4, .iload_n 2, 1, []), (5, .invokevirtual 45, 3, [11, 1, 3, 165, 5]), (8, .i2l, 1, []), (9, .lastore, 1, []), (10, .goto 11, 3, [21]), (13, .astore 4, 2, []), (15, .iconst 1, 1, []), (16, .ireturn, 1, [0]), (17, .astore 4, 2, []), (19, .iconst 2, 1, []), (20, .ireturn, 1, [0]), (21, .iconst 0, 1, []), (22, .ireturn, 1, [0])]
def fm_h151 : List fm_H := [(0, 10, 13, 0, 15, 4), (0, 10, 17, 1, 19, 4)]
/-- FeederlightLaw.pass(LFeederlight;I[J)I -/
def fm_c152 : List fm_En := [(0, .aload_n 2, 1, []), (1, .iconst 0, 1, []), (2, .aload_n 0, 1, []), (3, .iload_n 1, 1, []), (4, .invokevirtual 48, 3, [13, 1, 2, 166, 5]), (7, .i2l, 1, []), (8, .lastore, 1, []), (9, .goto 6, 3, [15]), (12, .astore_n 3, 1, []), (13, .iconst 1, 1, []), (14, .ireturn, 1, [0]), (15, .iconst 0, 1, []), (16, .ireturn, 1, [0])]
def fm_h152 : List fm_H := [(0, 9, 12, 1, 13, 3)]
/-- FeederlightLaw.replaceFuse(LFeederlight;I[J)I -/
def fm_c153 : List fm_En := [(0, .aload_n 2, 1, []), (1, .iconst 0, 1, []), (2, .aload_n 0, 1, []), (3, .iload_n 1, 1, []), (4, .invokevirtual 51, 3, [14, 1, 2, 167, 5]), (7, .i2l, 1, []), (8, .lastore, 1, []), (9, .goto 9, 3, [18]), (12, .astore_n 3, 1, []), (13, .iconst 1, 1, []), (14, .ireturn, 1, [0]), (15, .astore_n 3, 1, []), (16, .iconst 2, 1, []), (17, .ireturn, 1, [0]), (18, .iconst 0, 1, []), (19, .ireturn, 1, [0])]
def fm_h153 : List fm_H := [(0, 9, 12, 0, 13, 3), (0, 9, 15, 2, 16, 3)]
/-- FeederlightLaw.isFed(LFeederlight;I[J)I -/
def fm_c154 : List fm_En := [(0, .aload_n 2, 1, []), (1, .iconst 0, 1, []), (2, .aload_n 0, 1, []), (3, .iload_n 1, 1, []), (4, .invokevirtual 54, 3, [16, 1, 2, 168, 5]), (7, .ifCond .eq 7, 3, [14]), (10, .lconst 1, 1, []), (11, .goto 4, 3, [15]), (14, .lconst 0, 1, []), (15, .lastore, 1, []), (16, .goto 6, 3, [22]), (19, .astore_n 3, 1, []), (20, .iconst 1, 1, []), (21, .ireturn, 1, [0]), (22, .iconst 0, 1, []), (23, .ireturn, 1, [0])]
def fm_h154 : List fm_H := [(0, 16, 19, 0, 20, 3)]
/-- FeederlightLaw.feeder(LFeederlight;I[J)I -/
def fm_c155 : List fm_En := [(0, .aload_n 2, 1, []), (1, .iconst 0, 1, []), (2, .aload_n 0, 1, []), (3, .iload_n 1, 1, []), (4, .invokevirtual 58, 3, [17, 1, 2, 169, 5]), (7, .i2l, 1, []), (8, .lastore, 1, []), (9, .goto 9, 3, [18]), (12, .astore_n 3, 1, []), (13, .iconst 1, 1, []), (14, .ireturn, 1, [0]), (15, .astore_n 3, 1, []), (16, .iconst 2, 1, []), (17, .ireturn, 1, [0]), (18, .iconst 0, 1, []), (19, .ireturn, 1, [0])]
def fm_h155 : List fm_H := [(0, 9, 12, 0, 13, 3), (0, 9, 15, 3, 16, 3)]
/-- FeederlightLaw.isClosed(LFeederlight;I[J)I -/
def fm_c156 : List fm_En := [(0, .aload_n 2, 1, []), (1, .iconst 0, 1, []), (2, .aload_n 0, 1, []), (3, .iload_n 1, 1, []), (4, .invokevirtual 63, 3, [18, 1, 2, 170, 5]), (7, .ifCond .eq 7, 3, [14]), (10, .lconst 1, 1, []), (11, .goto 4, 3, [15]), (14, .lconst 0, 1, []), (15, .lastore, 1, []), (16, .goto 6, 3, [22]), (19, .astore_n 3, 1, []), (20, .iconst 1, 1, []), (21, .ireturn, 1, [0]), (22, .iconst 0, 1, []), (23, .ireturn, 1, [0])]
def fm_h156 : List fm_H := [(0, 16, 19, 3, 20, 3)]
/-- FeederlightLaw.flow(LFeederlight;I[J)I -/
def fm_c157 : List fm_En := [(0, .aload_n 2, 1, []), (1, .iconst 0, 1, []), (2, .aload_n 0, 1, []), (3, .iload_n 1, 1, []), (4, .invokevirtual 66, 3, [19, 1, 2, 171, 5]), (7, .i2l, 1, []), (8, .lastore, 1, []), (9, .goto 9, 3, [18]), (12, .astore_n 3, 1, []), (13, .iconst 1, 1, []), (14, .ireturn, 1, [0]), (15, .astore_n 3, 1, []), (16, .iconst 2, 1, []), (17, .ireturn, 1, [0]), (18, .iconst 0, 1, []), (19, .ireturn, 1, [0])]
def fm_h157 : List fm_H := [(0, 9, 12, 0, 13, 3), (0, 9, 15, 3, 16, 3)]
/-- FeederlightLaw.voltage(LFeederlight;I[J)I -/
def fm_c158 : List fm_En := [(0, .aload_n 2, 1, []), (1, .iconst 0, 1, []), (2, .aload_n 0, 1, []), (3, .iload_n 1, 1, []), (4, .invokevirtual 69, 3, [20, 1, 2, 172, 5]), (7, .i2l, 1, []), (8, .lastore, 1, []), (9, .goto 9, 3, [18]), (12, .astore_n 3, 1, []), (13, .iconst 1, 1, []), (14, .ireturn, 1, [0]), (15, .astore_n 3, 1, []), (16, .iconst 2, 1, []), (17, .ireturn, 1, [0]), (18, .iconst 0, 1, []), (19, .ireturn, 1, [0])]
def fm_h158 : List fm_H := [(0, 9, 12, 0, 13, 3), (0, 9, 15, 3, 16, 3)]
/-- FeederlightLaw.voltageByWay(LFeederlight;I[J)I -/
def fm_c159 : List fm_En := [(0, .aload_n 2, 1, []), (1, .iconst 0, 1, []), (2, .aload_n 0, 1, []), (3, .iload_n 1, 1, []), (4, .invokevirtual 72, 3, [21, 1, 2, 173, 5]), (7, .i2l, 1, []), (8, .lastore, 1, []), (9, .goto 9, 3, [18]), (12, .astore_n 3, 1, []), (13, .iconst 1, 1, []), (14, .ireturn, 1, [0]), (15, .astore_n 3, 1, []), (16, .iconst 2, 1, []), (17, .ireturn, 1, [0]), (18, .iconst 0, 1, []), (19, .ireturn, 1, [0])]
def fm_h159 : List fm_H := [(0, 9, 12, 0, 13, 3), (0, 9, 15, 3, 16, 3)]
/-- FeederlightLaw.isServed(LFeederlight;I[J)I -/
def fm_c160 : List fm_En := [(0, .aload_n 2, 1, []), (1, .iconst 0, 1, []), (2, .aload_n 0, 1, []), (3, .iload_n 1, 1, []), (4, .invokevirtual 75, 3, [24, 1, 2, 174, 5]), (7, .ifCond .eq 7, 3, [14]), (10, .lconst 1, 1, []), (11, .goto 4, 3, [15]), (14, .lconst 0, 1, []), (15, .lastore, 1, []), (16, .goto 6, 3, [22]), (19, .astore_n 3, 1, []), (20, .iconst 1, 1, []), (21, .ireturn, 1, [0]), (22, .iconst 0, 1, []), (23, .ireturn, 1, [0])]
def fm_h160 : List fm_H := [(0, 16, 19, 0, 20, 3)]
/-- FeederlightLaw.leftOut(LFeederlight;I[J)I -/
def fm_c161 : List fm_En := [(0, .aload_n 2, 1, []), (1, .iconst 0, 1, []), (2, .aload_n 0, 1, []), (3, .iload_n 1, 1, []), (4, .invokevirtual 78, 3, [25, 1, 2, 175, 5]), (7, .i2l, 1, []), (8, .lastore, 1, []), (9, .goto 6, 3, [15]), (12, .astore_n 3, 1, []), (13, .iconst 1, 1, []), (14, .ireturn, 1, [0]), (15, .iconst 0, 1, []), (16, .ireturn, 1, [0])]
def fm_h161 : List fm_H := [(0, 9, 12, 0, 13, 3)]
/-- FeederlightLaw.turn(LFeederlight;I[J)I -/
def fm_c162 : List fm_En := [(0, .aload_n 2, 1, []), (1, .iconst 0, 1, []), (2, .aload_n 0, 1, []), (3, .iload_n 1, 1, []), (4, .invokevirtual 81, 3, [26, 1, 2, 176, 5]), (7, .i2l, 1, []), (8, .lastore, 1, []), (9, .goto 6, 3, [15]), (12, .astore_n 3, 1, []), (13, .iconst 1, 1, []), (14, .ireturn, 1, [0]), (15, .iconst 0, 1, []), (16, .ireturn, 1, [0])]
def fm_h162 : List fm_H := [(0, 9, 12, 3, 13, 3)]
/-- FeederlightLaw.mostServed(LFeederlight;[J)I -/
def fm_c163 : List fm_En := [(0, .aload_n 1, 1, []), (1, .iconst 0, 1, []), (2, .aload_n 0, 1, []), (3, .invokevirtual 84, 3, [27, 1, 1, 177, 5]), (6, .i2l, 1, []), (7, .lastore, 1, []), (8, .goto 6, 3, [14]), (11, .astore_n 2, 1, []), (12, .iconst 1, 1, []), (13, .ireturn, 1, [0]), (14, .iconst 0, 1, []), (15, .ireturn, 1, [0])]
def fm_h163 : List fm_H := [(0, 8, 11, 3, 12, 2)]
/-- FeederlightLaw.mostByAll(LFeederlight;[J)I -/
def fm_c164 : List fm_En := [(0, .aload_n 1, 1, []), (1, .iconst 0, 1, []), (2, .aload_n 0, 1, []), (3, .invokevirtual 88, 3, [28, 1, 1, 178, 5]), (6, .i2l, 1, []), (7, .lastore, 1, []), (8, .goto 6, 3, [14]), (11, .astore_n 2, 1, []), (12, .iconst 1, 1, []), (13, .ireturn, 1, [0]), (14, .iconst 0, 1, []), (15, .ireturn, 1, [0])]
def fm_h164 : List fm_H := [(0, 8, 11, 3, 12, 2)]
/-- FeederlightLaw.heat(LFeederlight;I[J)I -/
def fm_c165 : List fm_En := [(0, .aload_n 2, 1, []), (1, .iconst 0, 1, []), (2, .aload_n 0, 1, []), (3, .iload_n 1, 1, []), (4, .invokevirtual 91, 3, [29, 1, 2, 179, 5]), (7, .i2l, 1, []), (8, .lastore, 1, []), (9, .goto 9, 3, [18]), (12, .astore_n 3, 1, []), (13, .iconst 1, 1, []), (14, .ireturn, 1, [0]), (15, .astore_n 3, 1, []), (16, .iconst 2, 1, []), (17, .ireturn, 1, [0]), (18, .iconst 0, 1, []), (19, .ireturn, 1, [0])]
def fm_h165 : List fm_H := [(0, 9, 12, 0, 13, 3), (0, 9, 15, 3, 16, 3)]
/-- FeederlightLaw.isBlown(LFeederlight;I[J)I -/
def fm_c166 : List fm_En := [(0, .aload_n 2, 1, []), (1, .iconst 0, 1, []), (2, .aload_n 0, 1, []), (3, .iload_n 1, 1, []), (4, .invokevirtual 94, 3, [30, 1, 2, 180, 5]), (7, .ifCond .eq 7, 3, [14]), (10, .lconst 1, 1, []), (11, .goto 4, 3, [15]), (14, .lconst 0, 1, []), (15, .lastore, 1, []), (16, .goto 9, 3, [25]), (19, .astore_n 3, 1, []), (20, .iconst 1, 1, []), (21, .ireturn, 1, [0]), (22, .astore_n 3, 1, []), (23, .iconst 2, 1, []), (24, .ireturn, 1, [0]), (25, .iconst 0, 1, []), (26, .ireturn, 1, [0])]
def fm_h166 : List fm_H := [(0, 16, 19, 0, 20, 3), (0, 16, 22, 3, 23, 3)]
/-- FeederlightLaw.meanLeftOut(LFeederlight;[D)I -/
def fm_c167 : List fm_En := [(0, .aload_n 1, 1, []), (1, .iconst 0, 1, []), (2, .aload_n 0, 1, []), (3, .invokevirtual 97, 3, [35, 4, 1, 181, 5]), (6, .dastore, 1, []), (7, .goto 6, 3, [13]), (10, .astore_n 2, 1, []), (11, .iconst 1, 1, []), (12, .ireturn, 1, [0]), (13, .iconst 0, 1, []), (14, .ireturn, 1, [0])]
def fm_h167 : List fm_H := [(0, 7, 10, 4, 11, 2)]
/-- java/lang/Integer.bitCount(I)I -/
def fm_c168 : List fm_En := [(0, .iload_n 0, 1, []), (1, .iload_n 0, 1, []), (2, .iconst 1, 1, []), (3, .iushr, 1, []), (4, .ldc_w 265, 3, [1431655765]), (7, .iand, 1, []), (8, .isub, 1, []), (9, .istore_n 0, 1, []), (10, .iload_n 0, 1, []), (11, .ldc_w 266, 3, [858993459]), (14, .iand, 1, []), (15, .iload_n 0, 1, []), (16, .iconst 2, 1, []), (17, .iushr, 1, []), (18, .ldc_w 266, 3, [858993459]), (21, .iand, 1, []), (22, .iadd, 1, []), (23, .istore_n 0, 1, []), (24, .iload_n 0, 1, []), (25, .iload_n 0, 1, []), (26, .iconst 4, 1, []), (27, .iushr, 1, []), (28, .iadd, 1, []), (29, .ldc_w 267, 3, [252645135]), (32, .iand, 1, []), (33, .istore_n 0, 1, []), (34, .iload_n 0, 1, []), (35, .iload_n 0, 1, []), (36, .bipush 8, 2, []), (38, .iushr, 1, []), (39, .iadd, 1, []), (40, .istore_n 0, 1, []), (41, .iload_n 0, 1, []), (42, .iload_n 0, 1, []), (43, .bipush 16, 2, []), (45, .iushr, 1, []), (46, .iadd, 1, []), (47, .istore_n 0, 1, []), (48, .iload_n 0, 1, []), (49, .bipush 63, 2, []), (51, .iand, 1, []), (52, .ireturn, 1, [0])]
def fm_h168 : List fm_H := []
/-- java/lang/Math.abs(I)I -/
def fm_c169 : List fm_En := [(0, .iload_n 0, 1, []), (1, .ifCond .ge 8, 3, [9]), (4, .iload_n 0, 1, []), (5, .ineg, 1, []), (6, .goto 4, 3, [10]), (9, .iload_n 0, 1, []), (10, .ireturn, 1, [0])]
def fm_h169 : List fm_H := []
/-- java/lang/Math.max(II)I -/
def fm_c170 : List fm_En := [(0, .iload_n 0, 1, []), (1, .iload_n 1, 1, []), (2, .if_icmp .lt 7, 3, [9]), (5, .iload_n 0, 1, []), (6, .goto 4, 3, [10]), (9, .iload_n 1, 1, []), (10, .ireturn, 1, [0])]
def fm_h170 : List fm_H := []
/-- java/lang/Math.min(II)I -/
def fm_c171 : List fm_En := [(0, .iload_n 0, 1, []), (1, .iload_n 1, 1, []), (2, .if_icmp .gt 7, 3, [9]), (5, .iload_n 0, 1, []), (6, .goto 4, 3, [10]), (9, .iload_n 1, 1, []), (10, .ireturn, 1, [0])]
def fm_h171 : List fm_H := []
def fm_codes : List (List fm_En) := [fm_c0, fm_c1, fm_c2, fm_c3, fm_c4, fm_c5, fm_c6, fm_c7, fm_c8, fm_c9, fm_c10, fm_c11, fm_c12, fm_c13, fm_c14, fm_c15, fm_c16, fm_c17, fm_c18, fm_c19, fm_c20, fm_c21, fm_c22, fm_c23, fm_c24, fm_c25, fm_c26, fm_c27, fm_c28, fm_c29, fm_c30, fm_c31, fm_c32, fm_c33, fm_c34, fm_c35, fm_c36, fm_c37, fm_c38, fm_c39, fm_c40, fm_c41, fm_c42, fm_c43, fm_c44, fm_c45, fm_c46, fm_c47, fm_c48, fm_c49, fm_c50, fm_c51, fm_c52, fm_c53, fm_c54, fm_c55, fm_c56, fm_c57, fm_c58, fm_c59, fm_c60, fm_c61, fm_c62, fm_c63, fm_c64, fm_c65, fm_c66, fm_c67, fm_c68, fm_c69, fm_c70, fm_c71, fm_c72, fm_c73, fm_c74, fm_c75, fm_c76, fm_c77, fm_c78, fm_c79, fm_c80, fm_c81, fm_c82, fm_c83, fm_c84, fm_c85, fm_c86, fm_c87, fm_c88, fm_c89, fm_c90, fm_c91, fm_c92, fm_c93, fm_c94, fm_c95, fm_c96, fm_c97, fm_c98, fm_c99, fm_c100, fm_c101, fm_c102, fm_c103, fm_c104, fm_c105, fm_c106, fm_c107, fm_c108, fm_c109, fm_c110, fm_c111, fm_c112, fm_c113, fm_c114, fm_c115, fm_c116, fm_c117, fm_c118, fm_c119, fm_c120, fm_c121, fm_c122, fm_c123, fm_c124, fm_c125, fm_c126, fm_c127, fm_c128, fm_c129, fm_c130, fm_c131, fm_c132, fm_c133, fm_c134, fm_c135, fm_c136, fm_c137, fm_c138, fm_c139, fm_c140, fm_c141, fm_c142, fm_c143, fm_c144, fm_c145, fm_c146, fm_c147, fm_c148, fm_c149, fm_c150, fm_c151, fm_c152, fm_c153, fm_c154, fm_c155, fm_c156, fm_c157, fm_c158, fm_c159, fm_c160, fm_c161, fm_c162, fm_c163, fm_c164, fm_c165, fm_c166, fm_c167, fm_c168, fm_c169, fm_c170, fm_c171]
def fm_hnds : List (List fm_H) := [fm_h0, fm_h1, fm_h2, fm_h3, fm_h4, fm_h5, fm_h6, fm_h7, fm_h8, fm_h9, fm_h10, fm_h11, fm_h12, fm_h13, fm_h14, fm_h15, fm_h16, fm_h17, fm_h18, fm_h19, fm_h20, fm_h21, fm_h22, fm_h23, fm_h24, fm_h25, fm_h26, fm_h27, fm_h28, fm_h29, fm_h30, fm_h31, fm_h32, fm_h33, fm_h34, fm_h35, fm_h36, fm_h37, fm_h38, fm_h39, fm_h40, fm_h41, fm_h42, fm_h43, fm_h44, fm_h45, fm_h46, fm_h47, fm_h48, fm_h49, fm_h50, fm_h51, fm_h52, fm_h53, fm_h54, fm_h55, fm_h56, fm_h57, fm_h58, fm_h59, fm_h60, fm_h61, fm_h62, fm_h63, fm_h64, fm_h65, fm_h66, fm_h67, fm_h68, fm_h69, fm_h70, fm_h71, fm_h72, fm_h73, fm_h74, fm_h75, fm_h76, fm_h77, fm_h78, fm_h79, fm_h80, fm_h81, fm_h82, fm_h83, fm_h84, fm_h85, fm_h86, fm_h87, fm_h88, fm_h89, fm_h90, fm_h91, fm_h92, fm_h93, fm_h94, fm_h95, fm_h96, fm_h97, fm_h98, fm_h99, fm_h100, fm_h101, fm_h102, fm_h103, fm_h104, fm_h105, fm_h106, fm_h107, fm_h108, fm_h109, fm_h110, fm_h111, fm_h112, fm_h113, fm_h114, fm_h115, fm_h116, fm_h117, fm_h118, fm_h119, fm_h120, fm_h121, fm_h122, fm_h123, fm_h124, fm_h125, fm_h126, fm_h127, fm_h128, fm_h129, fm_h130, fm_h131, fm_h132, fm_h133, fm_h134, fm_h135, fm_h136, fm_h137, fm_h138, fm_h139, fm_h140, fm_h141, fm_h142, fm_h143, fm_h144, fm_h145, fm_h146, fm_h147, fm_h148, fm_h149, fm_h150, fm_h151, fm_h152, fm_h153, fm_h154, fm_h155, fm_h156, fm_h157, fm_h158, fm_h159, fm_h160, fm_h161, fm_h162, fm_h163, fm_h164, fm_h165, fm_h166, fm_h167, fm_h168, fm_h169, fm_h170, fm_h171]
def fm_maxL : List Nat := [10, 2, 5, 5, 3, 4, 3, 3, 4, 3, 3, 3, 1, 4, 2, 1, 2, 2, 2, 2, 2, 2, 3, 1, 2, 2, 2, 2, 2, 2, 2, 1, 1, 1, 3, 4, 1, 2, 4, 2, 2, 2, 2, 2, 2, 1, 2, 2, 2, 5, 3, 3, 5, 4, 3, 2, 1, 5, 5, 2, 2, 1, 1, 3, 3, 2, 4, 4, 3, 4, 3, 3, 4, 5, 3, 3, 7, 3, 5, 4, 3, 4, 3, 2, 4, 6, 1, 4, 2, 3, 1, 2, 3, 2, 2, 2, 2, 2, 3, 1, 2, 2, 3, 5, 2, 1, 2, 2, 2, 1, 1, 1, 4, 4, 1, 1, 3, 3, 4, 1, 4, 2, 3, 3, 4, 2, 4, 4, 3, 5, 1, 7, 2, 4, 1, 5, 5, 3, 1, 2, 3, 5, 6, 6, 4, 5, 5, 4, 5, 5, 5, 5, 4, 4, 4, 4, 4, 4, 4, 4, 4, 4, 4, 3, 3, 4, 4, 3, 1, 1, 2, 2]
def fm_PP (X : Nat × (Nat → Int32)) : fm_Pr := (fun i => fm_codes.getD i [], fun i => fm_hnds.getD i [], fun i => fm_maxL.getD i 0, X)
def fm_SH : List fm_Sc := [(5, 11, [some 1, some 2, some 3, some 20, some 24, some 61, some 62, none, none, none, none]), (2, 3, [some 2, some 18, some 19]), (1, 8, [some 3, some 12, some 13, some 14, some 15, some 16, some 17, none]), (3, 10, [some 4, some 5, some 6, some 7, some 8, some 9, some 10, some 11, none, none]), (10, 12, []), (10, 12, []), (10, 12, []), (10, 12, []), (11, 12, []), (10, 4, []), (10, 4, []), (10, 4, []), (11, 12, []), (10, 12, []), (10, 12, []), (10, 12, []), (10, 12, []), (11, 4, []), (10, 12, []), (10, 12, []), (0, 5, [some 21, some 22, some 23, none, none]), (10, 12, []), (10, 12, []), (10, 12, []), (14, 12, [some 25, some 28, some 31, some 34, some 37, some 40, some 43, some 46, some 49, some 52, some 55, some 58]), (4, 3, [some 26, some 27, none]), (11, 5, []), (10, 5, []), (4, 3, [some 29, some 30, none]), (11, 5, []), (10, 5, []), (4, 3, [some 32, some 33, none]), (11, 5, []), (10, 5, []), (4, 3, [some 35, some 36, none]), (11, 5, []), (10, 5, []), (4, 3, [some 38, some 39, none]), (11, 5, []), (10, 5, []), (4, 3, [some 41, some 42, none]), (11, 5, []), (10, 5, []), (4, 3, [some 44, some 45, none]), (11, 5, []), (10, 5, []), (4, 3, [some 47, some 48, none]), (11, 5, []), (10, 5, []), (4, 3, [some 50, some 51, none]), (11, 5, []), (10, 5, []), (4, 3, [some 53, some 54, none]), (11, 5, []), (10, 5, []), (4, 3, [some 56, some 57, none]), (11, 5, []), (10, 5, []), (4, 3, [some 59, some 60, none]), (11, 5, []), (10, 5, []), (10, 12, []), (10, 12, []), (6, 33, [some 64, some 65, some 66, some 67, some 68, some 69, some 70, some 71, some 72, some 73, some 74, some 75, some 76, some 77, some 78, some 79, some 80, some 81, some 82, some 83, some 84, some 85, some 86, some 87, some 88, none, none, none, none, none, none, none, none]), (10, 12, []), (10, 12, []), (10, 12, []), (10, 12, []), (10, 12, []), (10, 12, []), (10, 12, []), (11, 12, []), (11, 12, []), (11, 12, []), (11, 12, []), (10, 12, []), (10, 12, []), (10, 48, []), (10, 4, []), (10, 4, []), (10, 4, []), (11, 48, []), (11, 4, []), (10, 12, []), (10, 12, []), (10, 12, []), (10, 12, []), (10, 12, []), (10, 12, []), (12, 1, []), (13, 1, [])]
abbrev fm_Qv (S : List fm_Sc) (K : fm_N → Prop) (X : Nat → fm_N → Prop) : fm_O → fm_M → Prop := fun o M' => match o with
  | .inl none => M'.2 = S ∧ K M'.1
  | .inr x => M'.2 = S ∧ X x M'.1
  | _ => False
abbrev fm_Qi (S : List fm_Sc) (K : Int32 → fm_N → Prop) (X : Nat → fm_N → Prop) : fm_O → fm_M → Prop := fun o M' => match o with
  | .inl (some (.inl (.int r))) => M'.2 = S ∧ K r M'.1
  | .inr x => M'.2 = S ∧ X x M'.1
  | _ => False
abbrev fm_Ql (S : List fm_Sc) (K : Int64 → fm_N → Prop) (X : Nat → fm_N → Prop) : fm_O → fm_M → Prop := fun o M' => match o with
  | .inl (some (.inl (.long r))) => M'.2 = S ∧ K r M'.1
  | .inr x => M'.2 = S ∧ X x M'.1
  | _ => False
abbrev fm_Qf (S : List fm_Sc) (K : UInt32 → fm_N → Prop) (X : Nat → fm_N → Prop) : fm_O → fm_M → Prop := fun o M' => match o with
  | .inl (some (.inl (.float r))) => M'.2 = S ∧ K r M'.1
  | .inr x => M'.2 = S ∧ X x M'.1
  | _ => False
abbrev fm_Qd (S : List fm_Sc) (K : UInt64 → fm_N → Prop) (X : Nat → fm_N → Prop) : fm_O → fm_M → Prop := fun o M' => match o with
  | .inl (some (.inl (.double r))) => M'.2 = S ∧ K r M'.1
  | .inr x => M'.2 = S ∧ X x M'.1
  | _ => False
end
section
/-! The small machine's cells in the machine's heap. B: where the first one lies; b: the script. -/
def RX0 : String := "Feederlight$Chargers"
def TX0 : u_T := fun k => match k with
  | 0 => ("Feederlight$Chargers", "amperes", "[I", true)
  | 1 => ("Feederlight$Chargers", "timesLeftOut", "[I", true)
  | 2 => ("Feederlight$Chargers", "line", "[I", true)
  | 3 => ("Feederlight$Chargers", "lineLength", "I", false)
  | _ => ("Feederlight$Chargers", "served", "I", false)
def tyX0 : Nat → FieldType := fun k => match k with
  | 0 => .array .int
  | 1 => .array .int
  | 2 => .array .int
  | 3 => .int
  | _ => .int
abbrev wsX00 : List Cond := u_ws RX0 TX0 5
theorem nmX0 : ∀ a, a < 5 → ∀ b, b < 5 → a ≠ b → (TX0 a).2.1 ≠ (TX0 b).2.1 := by decide +kernel
theorem tyX0_ok : ∀ k, k < 5 → parseFieldDescriptor (TX0 k).2.2.1 = some (tyX0 k) := by decide +kernel
def RX1 : String := "Feederlight$Feeding"
def TX1 : u_T := fun k => match k with
  | 0 => ("Feederlight$Feeding", "grid", "LFeederlight$Grid;", true)
  | 1 => ("Feederlight$Feeding", "fed", "[Z", true)
  | 2 => ("Feederlight$Feeding", "feeders", "[I", true)
  | 3 => ("Feederlight$Feeding", "cables", "[I", true)
  | 4 => ("Feederlight$Feeding", "resistances", "[I", true)
  | 5 => ("Feederlight$Feeding", "order", "[I", true)
  | 6 => ("Feederlight$Feeding", "closed", "[Z", true)
  | _ => ("Feederlight$Feeding", "fedCount", "I", false)
def tyX1 : Nat → FieldType := fun k => match k with
  | 0 => .object "Feederlight$Grid"
  | 1 => .array .boolean
  | 2 => .array .int
  | 3 => .array .int
  | 4 => .array .int
  | 5 => .array .int
  | 6 => .array .boolean
  | _ => .int
abbrev wsX10 : List Cond := u_ws RX1 TX1 8
theorem nmX1 : ∀ a, a < 8 → ∀ b, b < 8 → a ≠ b → (TX1 a).2.1 ≠ (TX1 b).2.1 := by decide +kernel
theorem tyX1_ok : ∀ k, k < 8 → parseFieldDescriptor (TX1 k).2.2.1 = some (tyX1 k) := by decide +kernel
def RX2 : String := "Feederlight$Flows"
def TX2 : u_T := fun k => match k with
  | 0 => ("Feederlight$Flows", "feeding", "LFeederlight$Feeding;", true)
  | 1 => ("Feederlight$Flows", "amperes", "[I", true)
  | _ => ("Feederlight$Flows", "voltages", "[I", true)
def tyX2 : Nat → FieldType := fun k => match k with
  | 0 => .object "Feederlight$Feeding"
  | 1 => .array .int
  | _ => .array .int
abbrev wsX20 : List Cond := u_ws RX2 TX2 3
theorem nmX2 : ∀ a, a < 3 → ∀ b, b < 3 → a ≠ b → (TX2 a).2.1 ≠ (TX2 b).2.1 := by decide +kernel
theorem tyX2_ok : ∀ k, k < 3 → parseFieldDescriptor (TX2 k).2.2.1 = some (tyX2 k) := by decide +kernel
def RX3 : String := "Feederlight$Grid"
def TX3 : u_T := fun k => match k with
  | 0 => ("Feederlight$Grid", "parents", "[I", true)
  | 1 => ("Feederlight$Grid", "resistances", "[I", true)
  | 2 => ("Feederlight$Grid", "ratings", "[I", true)
  | 3 => ("Feederlight$Grid", "heats", "[I", true)
  | 4 => ("Feederlight$Grid", "blown", "[Z", true)
  | 5 => ("Feederlight$Grid", "tieNodes", "[I", true)
  | 6 => ("Feederlight$Grid", "tieOthers", "[I", true)
  | 7 => ("Feederlight$Grid", "tieResistances", "[I", true)
  | 8 => ("Feederlight$Grid", "nodeCount", "I", false)
  | _ => ("Feederlight$Grid", "tieCount", "I", false)
def tyX3 : Nat → FieldType := fun k => match k with
  | 0 => .array .int
  | 1 => .array .int
  | 2 => .array .int
  | 3 => .array .int
  | 4 => .array .boolean
  | 5 => .array .int
  | 6 => .array .int
  | 7 => .array .int
  | 8 => .int
  | _ => .int
abbrev wsX30 : List Cond := u_ws RX3 TX3 10
theorem nmX3 : ∀ a, a < 10 → ∀ b, b < 10 → a ≠ b → (TX3 a).2.1 ≠ (TX3 b).2.1 := by decide +kernel
theorem tyX3_ok : ∀ k, k < 10 → parseFieldDescriptor (TX3 k).2.2.1 = some (tyX3 k) := by decide +kernel
def RX4 : String := "Feederlight$Roof"
def TX4 : u_T := fun k => match k with
  | 0 => ("Feederlight$Roof", "shades", "[Z", true)
  | 1 => ("Feederlight$Roof", "numbers", "[I", true)
  | _ => ("Feederlight$Roof", "layers", "I", false)
def tyX4 : Nat → FieldType := fun k => match k with
  | 0 => .array .boolean
  | 1 => .array .int
  | _ => .int
abbrev wsX40 : List Cond := u_ws RX4 TX4 3
theorem nmX4 : ∀ a, a < 3 → ∀ b, b < 3 → a ≠ b → (TX4 a).2.1 ≠ (TX4 b).2.1 := by decide +kernel
theorem tyX4_ok : ∀ k, k < 3 → parseFieldDescriptor (TX4 k).2.2.1 = some (tyX4 k) := by decide +kernel
def RX5 : String := "Feederlight"
def TX5 : u_T := fun k => match k with
  | 0 => ("Feederlight", "flows", "LFeederlight$Flows;", true)
  | 1 => ("Feederlight", "feeding", "LFeederlight$Feeding;", true)
  | 2 => ("Feederlight", "grid", "LFeederlight$Grid;", true)
  | 3 => ("Feederlight", "chargers", "LFeederlight$Chargers;", true)
  | 4 => ("Feederlight", "roofs", "[LFeederlight$Roof;", true)
  | 5 => ("Feederlight", "loads", "[I", true)
  | 6 => ("Feederlight", "ownCurrents", "[I", true)
  | 7 => ("Feederlight", "base", "I", false)
  | 8 => ("Feederlight", "sun", "I", false)
  | 9 => ("Feederlight", "minutesPassed", "I", false)
  | _ => ("Feederlight", "chargedSum", "J", false)
def tyX5 : Nat → FieldType := fun k => match k with
  | 0 => .object "Feederlight$Flows"
  | 1 => .object "Feederlight$Feeding"
  | 2 => .object "Feederlight$Grid"
  | 3 => .object "Feederlight$Chargers"
  | 4 => .array (.object "Feederlight$Roof")
  | 5 => .array .int
  | 6 => .array .int
  | 7 => .int
  | 8 => .int
  | 9 => .int
  | _ => .long
abbrev wsX50 : List Cond := u_ws RX5 TX5 11
theorem nmX5 : ∀ a, a < 11 → ∀ b, b < 11 → a ≠ b → (TX5 a).2.1 ≠ (TX5 b).2.1 := by decide +kernel
theorem tyX5_ok : ∀ k, k < 11 → parseFieldDescriptor (TX5 k).2.2.1 = some (tyX5 k) := by decide +kernel
def RX6 : String := "FeederlightModel"
def TX6 : u_T := fun k => match k with
  | 0 => ("FeederlightModel", "parent", "[I", true)
  | 1 => ("FeederlightModel", "resistance", "[I", true)
  | 2 => ("FeederlightModel", "rating", "[I", true)
  | 3 => ("FeederlightModel", "load", "[I", true)
  | 4 => ("FeederlightModel", "charger", "[I", true)
  | 5 => ("FeederlightModel", "out", "[I", true)
  | 6 => ("FeederlightModel", "heat", "[I", true)
  | 7 => ("FeederlightModel", "isBlown", "[Z", true)
  | 8 => ("FeederlightModel", "wasServed", "[Z", true)
  | 9 => ("FeederlightModel", "isOn", "[Z", true)
  | 10 => ("FeederlightModel", "isFed", "[Z", true)
  | 11 => ("FeederlightModel", "roof", "[I", true)
  | 12 => ("FeederlightModel", "layers", "[I", true)
  | 13 => ("FeederlightModel", "layer", "[I", true)
  | 14 => ("FeederlightModel", "one", "[I", true)
  | 15 => ("FeederlightModel", "other", "[I", true)
  | 16 => ("FeederlightModel", "tieResistance", "[I", true)
  | 17 => ("FeederlightModel", "isCap", "[Z", true)
  | 18 => ("FeederlightModel", "isClosed", "[Z", true)
  | 19 => ("FeederlightModel", "feeder", "[I", true)
  | 20 => ("FeederlightModel", "cable", "[I", true)
  | 21 => ("FeederlightModel", "drop", "[I", true)
  | 22 => ("FeederlightModel", "flow", "[I", true)
  | 23 => ("FeederlightModel", "voltage", "[I", true)
  | 24 => ("FeederlightModel", "order", "[I", true)
  | 25 => ("FeederlightModel", "nodes", "I", false)
  | 26 => ("FeederlightModel", "ties", "I", false)
  | 27 => ("FeederlightModel", "base", "I", false)
  | 28 => ("FeederlightModel", "sun", "I", false)
  | 29 => ("FeederlightModel", "minutes", "I", false)
  | 30 => ("FeederlightModel", "blown", "I", false)
  | 31 => ("FeederlightModel", "thrown", "I", false)
  | _ => ("FeederlightModel", "charged", "J", false)
def tyX6 : Nat → FieldType := fun k => match k with
  | 0 => .array .int
  | 1 => .array .int
  | 2 => .array .int
  | 3 => .array .int
  | 4 => .array .int
  | 5 => .array .int
  | 6 => .array .int
  | 7 => .array .boolean
  | 8 => .array .boolean
  | 9 => .array .boolean
  | 10 => .array .boolean
  | 11 => .array .int
  | 12 => .array .int
  | 13 => .array .int
  | 14 => .array .int
  | 15 => .array .int
  | 16 => .array .int
  | 17 => .array .boolean
  | 18 => .array .boolean
  | 19 => .array .int
  | 20 => .array .int
  | 21 => .array .int
  | 22 => .array .int
  | 23 => .array .int
  | 24 => .array .int
  | 25 => .int
  | 26 => .int
  | 27 => .int
  | 28 => .int
  | 29 => .int
  | 30 => .int
  | 31 => .int
  | _ => .long
abbrev wsX60 : List Cond := u_ws RX6 TX6 33
theorem nmX6 : ∀ a, a < 33 → ∀ b, b < 33 → a ≠ b → (TX6 a).2.1 ≠ (TX6 b).2.1 := by decide +kernel
theorem tyX6_ok : ∀ k, k < 33 → parseFieldDescriptor (TX6 k).2.2.1 = some (tyX6 k) := by decide +kernel
abbrev fm_cls : List vw_C := [(RX0, TX0, 5), (RX1, TX1, 8), (RX2, TX2, 3), (RX3, TX3, 10), (RX4, TX4, 3), (RX5, TX5, 11), (RX6, TX6, 33)]
def fm_fks : List (List Nat) := [[2, 2, 2, 0, 0], [2, 2, 2, 2, 2, 2, 2, 0], [2, 2, 2], [2, 2, 2, 2, 2, 2, 2, 2, 0, 0], [2, 2, 0], [2, 2, 2, 2, 2, 2, 2, 0, 0, 0, 1], [2, 2, 2, 2, 2, 2, 2, 2, 2, 2, 2, 2, 2, 2, 2, 2, 2, 2, 2, 2, 2, 2, 2, 2, 2, 0, 0, 0, 0, 0, 0, 0, 1]]
def fm_fN : List Nat := [5, 8, 3, 10, 3, 11, 33]
def fm_kid (o : Option Nat) : Nat := o.getD 0
abbrev fm_A (B : Nat) : Nat → Prop := fun q => B ≤ q
def fm_ren (B b : Nat) (v : fm_V) : Value := match v with
  | .inl (.ref k) => .ref (if k = fm_scr then b else B + k)
  | .inl w => w
  | .inr q => .ref (B + fm_pc q.1 q.2)
def fm_fv (B : Nat) (N : fm_N) (c fk k : Nat) (rs : List (Option Nat)) : Value := match fk with
  | 0 => .int (N.1 c k)
  | 1 => .long (N.2.1 c k)
  | _ => va_rf ((rs.getD k none).map (fun j => B + j))
def fm_fields (B : Nat) (N : fm_N) (c : Nat) (q : fm_Sc) : List Value := (List.range q.2.1).map fun k => fm_fv B N c ((fm_fks.getD q.1 []).getD k 9) k q.2.2
def fm_ent (B : Nat) (aC : Nat → ClassId) (N : fm_N) (c : Nat) (q : fm_Sc) : va_E :=
  if q.1 < 7 then .inr (q.1, fm_fields B N c q)
  else if q.1 = 10 then .inl (aC 0, q.2.1, .inl (N.1 c))
  else if q.1 = 11 then .inl (aC 1, q.2.1, .inl (N.1 c))
  else if q.1 = 12 then .inl (aC 2, q.2.1, .inr (.inl (N.2.1 c)))
  else if q.1 = 13 then .inl (aC 3, q.2.1, .inr (.inr (.inr (.inl (N.2.2.1 c)))))
  else .inl (aC 4, q.2.1, .inr (.inr (.inr (.inr (fun i => (q.2.2.getD i none).map (fun j => B + j))))))
def fm_ws (B : Nat) (aC : Nat → ClassId) (M : fm_M) : va_W := (List.range M.2.length).map fun c => (B + c, fm_ent B aC M.1 c (M.2.getD c (99, 0, [])))
theorem fm_ws_get {B : Nat} {aC : Nat → ClassId} {M : fm_M} {c : Nat} {q : fm_Sc} (h : M.2[c]? = some q) : (fm_ws B aC M)[c]? = some (B + c, fm_ent B aC M.1 c q) := by
  have hc : c < M.2.length := (List.getElem?_eq_some_iff.mp h).1
  unfold fm_ws
  rw [List.getElem?_map, List.getElem?_range hc]
  simp [List.getD, h]
theorem fm_ws_at {B : Nat} {aC : Nat → ClassId} {M : fm_M} {k : Nat} {x : Nat × va_E} (h : (fm_ws B aC M)[k]? = some x) : k < M.2.length ∧ x.1 = B + k := by
  unfold fm_ws at h
  rw [List.getElem?_map] at h
  by_cases hk : k < M.2.length
  · rw [List.getElem?_range hk] at h
    cases h
    exact ⟨hk, rfl⟩
  · rw [List.getElem?_eq_none (by simpa using hk)] at h
    cases h
theorem fm_ws_D (B : Nat) (aC : Nat → ClassId) (M : fm_M) : va_D (fm_A B) (fm_ws B aC M) := by
  refine ⟨fun i j p q hi hj hpq => ?_, fun k q hk => ?_⟩
  · have h1 := (fm_ws_at hi).2
    have h2 := (fm_ws_at hj).2
    omega
  · have h1 := (fm_ws_at hk).2
    show B ≤ q.1
    omega
theorem fm_ws_set {B : Nat} {aC : Nat → ClassId} {M M' : fm_M} {c : Nat} {q : fm_Sc} (hc : c < M.2.length) (hS : M'.2 = M.2.set c q) (hN : ∀ d, d ≠ c → M'.1.1 d = M.1.1 d ∧ M'.1.2.1 d = M.1.2.1 d ∧ M'.1.2.2.1 d = M.1.2.2.1 d) : (fm_ws B aC M).set c (B + c, fm_ent B aC M'.1 c q) = fm_ws B aC M' := by
  have hl : M'.2.length = M.2.length := by rw [hS, List.length_set]
  apply List.ext_getElem?
  intro k
  rw [List.getElem?_set]
  have hlen : (fm_ws B aC M).length = M.2.length := by simp [fm_ws]
  by_cases hk : k < M.2.length
  · by_cases hkc : c = k
    · subst hkc
      rw [if_pos rfl, if_pos (by rw [hlen]; exact hc)]
      have h1 : M'.2[c]? = some q := by rw [hS, List.getElem?_set_self hc]
      rw [fm_ws_get h1]
    · rw [if_neg hkc]
      obtain ⟨q2, hq2⟩ : ∃ q2, M.2[k]? = some q2 := ⟨_, List.getElem?_eq_getElem hk⟩
      have h1 : M'.2[k]? = some q2 := by rw [hS, List.getElem?_set_ne hkc]; exact hq2
      rw [fm_ws_get hq2, fm_ws_get h1]
      obtain ⟨e1, e2, e3⟩ := hN k (fun h => hkc h.symm)
      have : fm_ent B aC M.1 k q2 = fm_ent B aC M'.1 k q2 := by
        unfold fm_ent fm_fields fm_fv
        rw [e1, e2, e3]
      rw [this]
  · have hkc : ¬ c = k := by omega
    rw [if_neg hkc]
    have n1 : (fm_ws B aC M)[k]? = none := List.getElem?_eq_none (by rw [hlen]; omega)
    have n2 : (fm_ws B aC M')[k]? = none := List.getElem?_eq_none (by simp [fm_ws]; omega)
    rw [n1, n2]
theorem fm_ws_same {B : Nat} {aC : Nat → ClassId} {M M' : fm_M} {c : Nat} {q : fm_Sc} (h : M.2[c]? = some q) (hS : M'.2 = M.2) (hN : ∀ d, d ≠ c → M'.1.1 d = M.1.1 d ∧ M'.1.2.1 d = M.1.2.1 d ∧ M'.1.2.2.1 d = M.1.2.2.1 d) : (fm_ws B aC M).set c (B + c, fm_ent B aC M'.1 c q) = fm_ws B aC M' := by
  have hc : c < M.2.length := (List.getElem?_eq_some_iff.mp h).1
  refine fm_ws_set hc ?_ hN
  rw [hS]
  apply List.ext_getElem?
  intro k
  by_cases hk : c = k
  · subst hk; rw [List.getElem?_set_self hc, h]
  · rw [List.getElem?_set_ne hk]
theorem fm_ws_app {B : Nat} {aC : Nat → ClassId} {M : fm_M} {q : fm_Sc} : fm_ws B aC (M.1, M.2 ++ [q]) = fm_ws B aC M ++ [(B + M.2.length, fm_ent B aC M.1 M.2.length q)] := by
  unfold fm_ws
  simp only [List.length_append, List.length_cons, List.length_nil, Nat.zero_add, List.range_succ, List.map_append, List.map_cons, List.map_nil]
  congr 1
  · apply List.map_congr_left
    intro c hc
    have hc' : c < M.2.length := List.mem_range.mp hc
    simp [List.getD, List.getElem?_append_left hc']
  · simp [List.getD]
/-- a cell's shape is one of the kinds -/
def fm_okq (q : fm_Sc) : Prop := (q.1 < 7 ∧ fm_fN[q.1]? = some q.2.1) ∨ (9 < q.1 ∧ q.1 < 15)
def fm_tys (aC : Nat → ClassId) : List (ClassId × FieldType) := [(aC 0, .int), (aC 1, .boolean), (aC 2, .long), (aC 3, .double), (aC 4, .object RX4)]
/-- the cells lie in the heap -/
def fm_Wd (B : Nat) (aC : Nat → ClassId) (D : va_G) (M : fm_M) (H : Heap) : Prop :=
  va_P D fm_cls (fm_ws B aC M) H ∧ M.2.length ≤ 1000 ∧ B + M.2.length ≤ H.size ∧ (M.1.2.2.2 = 0 → H.size = B + M.2.length) ∧ (∀ (c : Nat) (q : fm_Sc), M.2[c]? = some q → fm_okq q) ∧ (∀ (c : Nat) (q : fm_Sc), M.2[c]? = some q → ∀ k j : Nat, q.2.2[k]? = some (some j) → j < M.2.length) ∧ ∀ c : Nat, M.2.length ≤ c → ∀ i : Nat, M.1.1 c i = 0 ∧ M.1.2.1 c i = 0 ∧ M.1.2.2.1 c i = 0
/-- what stays over a whole run: the tables' facts, the script, where the cells begin -/
def fm_mv (w : Cond) : Bool := match w with
  | .castable .. => true
  | .fieldLinkNest .. => true
  | .methodLinkNest .. => true
  | .declares .. => true
  | _ => false
theorem fm_mv_warm {w : Cond} (h : fm_mv w = true) {s U : State} (hW : s.WarmedH U.vm) (hZ : va_Nw w s) : va_Nw w U := by
  cases w <;> first | exact va_Nw.warmC hW hZ | exact va_Nw.warmF hW hZ | exact va_Nw.warmM hW hZ | exact va_Nw.warmD hW hZ | cases h
theorem fm_mv_same {w : Cond} (h : fm_mv w = true) {s U : State} (hv : s.vm = U.vm) (hZ : va_Nw w s) : va_Nw w U := by
  cases w <;> first | exact va_Nw.same rfl hv hZ | cases h
abbrev fm_TG : List Cond := lw_tbl.filter goodWord
/-- the texts of the exceptions: class, entry, text -/
abbrev fm_St : Type := List (String × Nat × String)
/-- which class is no subclass of which -/
abbrev fm_Nc : Type := List (String × String)
def fm_Ps (sts : fm_St) (ncs : fm_Nc) (X : Nat × (Nat → Int32)) (B b : Nat) (aC : Nat → ClassId) (D : va_G) (U : State) : Prop :=
  va_K D fm_cls (fm_tys aC) U ∧ (∀ w ∈ lw_tbl, fm_mv w = true → va_Nw w U) ∧ (∀ q ∈ sts, ∃ sa : Nat, vk_R q.1 q.2.1 q.2.2 sa U) ∧ (∀ q ∈ ncs, va_Nc q.1 q.2 U) ∧ va_AO RX4 U ∧
  vx_Zq Bundle.tN "UNASSIGNED_STACK" Bundle.steD (fm_A B) U U.heap ∧ vx_Zq Bundle.tN "SUPPRESSED_SENTINEL" Bundle.listD (fm_A B) U U.heap ∧ va_X b X.1 X.2 U U.heap ∧ b < B ∧ B ≤ U.heap.size
theorem fm_Ps.go {sts : fm_St} {ncs : fm_Nc} {X : Nat × (Nat → Int32)} {B b : Nat} {aC : Nat → ClassId} {D : va_G} {s U : State} (h : fm_Ps sts ncs X B b aC D s) (hW : s.WarmedH U.vm) (hz : s.heap.size ≤ U.heap.size) (hk : ∀ q : Nat, q < s.heap.size → ¬ B ≤ q → U.heap[q]? = s.heap[q]?) : fm_Ps sts ncs X B b aC D U := by
  obtain ⟨h1, h2, h3, h4, h5, h6, h7, h8, h9, h10⟩ := h
  refine ⟨va_K.moved hW.alike h1, fun w hw hm => fm_mv_warm hm hW (h2 w hw hm), fun q hq => ?_, fun q hq => (h4 q hq).moved hW.alike, va_AO.moved hW.alike h5, vx_Zq.moved hW.alike (h6.kept hk), vx_Zq.moved hW.alike (h7.kept hk), (h8.moved hW.alike).kept (hk b (by omega) (by omega)), h9, by omega⟩
  obtain ⟨sa, hs⟩ := h3 q hq
  exact ⟨sa, vk_R.warm hW hs⟩
theorem fm_Ps.eqv {sts : fm_St} {ncs : fm_Nc} {X : Nat × (Nat → Int32)} {B b : Nat} {aC : Nat → ClassId} {D : va_G} {s U : State} (h : fm_Ps sts ncs X B b aC D s) (hv : s.vm = U.vm) (hh : U.heap = s.heap) : fm_Ps sts ncs X B b aC D U := by
  have hW : s.WarmedH U.vm := by rw [← hv]; exact State.WarmedH.refl s
  exact h.go hW (by rw [hh]; exact Nat.le_refl _) (fun q _ _ => by rw [hh])
theorem fm_ws_P0 {B : Nat} {aC : Nat → ClassId} {D : va_G} {M : fm_M} {H : Heap} {c : Nat} {q : fm_Sc} (hW : fm_Wd B aC D M H) (h : M.2[c]? = some q) : va_at D fm_cls (B + c, fm_ent B aC M.1 c q) H := hW.1 c _ (fm_ws_get h)
section FMR
variable {p : Program} {l : Launch} {e : Env} {R : Room} {s : State} {m : MethodId} {args : Array Value} {below : List Frame} {meth : Method} {c : Code} {H : Heap} {locs : List Loc} {cells slots : Nat} {Q : State → Prop}
variable {cc : ByteArray} {pc : Nat} {ls : Array Slot} {rest : List Value} {D : va_G} {cl : List vw_C} {A : Nat → Prop} {a : Nat} {tys : List (ClassId × FieldType)} {ws : va_W} {H0 : Heap}
/-! the kit's rows of writes (va_iast, va_zast, va_last, va_dast, va_astq, va_put, va_putN, va_putF) and makings, with the heap's size told -/
theorem fr_iast (hexec : p.tables.exec = Jvm.exec) (hb : c.code = cc) (hK : va_K D cl tys s) (hP : va_P D cl ws H) (hD : va_D A ws) (hS : va_S A H0 H locs) (q0 t0 : Nat) {cA : ClassId} {n : Nat} {f : Nat → Int32} (ha : ws[q0]? = some (a, .inl (cA, n, .inl f))) (ht : tys[t0]? = some (cA, .int)) {i : Int32} {x : Int32} (hin : vp_in i n) (hdg : decode cc pc = .ok (.iastore, 1))
    (kk : ∀ (H1 : Heap) (locs1 : List Loc), va_P D cl (ws.set q0 (a, .inl (cA, n, .inl (upd f i.toNatClampNeg x)))) H1 → H1.size = H.size → va_S A H0 H1 locs1 → W p l e R s m args below meth c H1 locs1 cells slots Q (F0 m (pc + 1) ls rest)) : W p l e R s m args below meth c H locs cells slots Q (F0 m pc ls (.int x :: .int i :: .ref a :: rest)) := by
  refine W.iast hexec hb (hP q0 _ ha) ((hK.2 t0 _ ht).1 n (fun j => .int (f j))) (fun q => by cases q) (by show ¬ (i < 0 ∨ (arrV _ _ _).slots.size ≤ _); rw [arrV_size]; exact hin) rfl rfl hdg fun H1 e z oq => ?_
  refine kk H1 _ (hP.set hD ha ?_ oq) z (hS.put z oq (hD.2 q0 _ ha))
  show H1[a]? = some (vp_cell _ _)
  rw [e]
  rw [vp_cell_i, vp_cell_i, arrV_store]
  congr 2
  funext q
  by_cases hq : q = i.toNatClampNeg
  · subst hq
    simp [updV, upd]
  · simp [updV, upd, hq]
theorem fr_zast (hexec : p.tables.exec = Jvm.exec) (hb : c.code = cc) (hK : va_K D cl tys s) (hP : va_P D cl ws H) (hD : va_D A ws) (hS : va_S A H0 H locs) (q0 t0 : Nat) {cA : ClassId} {n : Nat} {f : Nat → Int32} (ha : ws[q0]? = some (a, .inl (cA, n, .inl f))) (ht : tys[t0]? = some (cA, .boolean)) {i : Int32} {x : Int32} (hin : vp_in i n) (hdg : decode cc pc = .ok (.bastore, 1))
    (kk : ∀ (H1 : Heap) (locs1 : List Loc), va_P D cl (ws.set q0 (a, .inl (cA, n, .inl (upd f i.toNatClampNeg (vp_nar .boolean x))))) H1 → H1.size = H.size → va_S A H0 H1 locs1 → W p l e R s m args below meth c H1 locs1 cells slots Q (F0 m (pc + 1) ls rest)) : W p l e R s m args below meth c H locs cells slots Q (F0 m pc ls (.int x :: .int i :: .ref a :: rest)) := by
  refine W.zast hexec hb (hP q0 _ ha) ((hK.2 t0 _ ht).1 n (fun j => .int (f j))) (fun q => by cases q) (by show ¬ (i < 0 ∨ (arrV _ _ _).slots.size ≤ _); rw [arrV_size]; exact hin) rfl rfl hdg fun H1 e z oq => ?_
  refine kk H1 _ (hP.set hD ha ?_ oq) z (hS.put z oq (hD.2 q0 _ ha))
  show H1[a]? = some (vp_cell _ _)
  rw [e]
  rw [vp_cell_i, vp_cell_i, arrV_store]
  congr 2
  funext q
  by_cases hq : q = i.toNatClampNeg
  · subst hq
    simp [updV, upd, vp_nar]
    try rfl
  · simp [updV, upd, hq]
theorem fr_last (hexec : p.tables.exec = Jvm.exec) (hb : c.code = cc) (hK : va_K D cl tys s) (hP : va_P D cl ws H) (hD : va_D A ws) (hS : va_S A H0 H locs) (q0 t0 : Nat) {cA : ClassId} {n : Nat} {f : Nat → Int64} (ha : ws[q0]? = some (a, .inl (cA, n, .inr (.inl f)))) (ht : tys[t0]? = some (cA, .long)) {i : Int32} {x : Int64} (hin : vp_in i n) (hdg : decode cc pc = .ok (.lastore, 1))
    (kk : ∀ (H1 : Heap) (locs1 : List Loc), va_P D cl (ws.set q0 (a, .inl (cA, n, .inr (.inl (vp_updL f i.toNatClampNeg x))))) H1 → H1.size = H.size → va_S A H0 H1 locs1 → W p l e R s m args below meth c H1 locs1 cells slots Q (F0 m (pc + 1) ls rest)) : W p l e R s m args below meth c H locs cells slots Q (F0 m pc ls (.long x :: .int i :: .ref a :: rest)) := by
  refine W.last hexec hb (hP q0 _ ha) ((hK.2 t0 _ ht).1 n (fun j => .long (f j))) (fun q => by cases q) (by show ¬ (i < 0 ∨ (arrV _ _ _).slots.size ≤ _); rw [arrV_size]; exact hin) rfl rfl hdg fun H1 e z oq => ?_
  refine kk H1 _ (hP.set hD ha ?_ oq) z (hS.put z oq (hD.2 q0 _ ha))
  show H1[a]? = some (vp_cell _ _)
  rw [e]
  rw [vp_cell_l, vp_cell_l, arrV_store]
  congr 2
  funext q
  by_cases hq : q = i.toNatClampNeg
  · subst hq
    simp [updV, vp_updL]
  · simp [updV, vp_updL, hq]
theorem fr_dast (hexec : p.tables.exec = Jvm.exec) (hb : c.code = cc) (hK : va_K D cl tys s) (hP : va_P D cl ws H) (hD : va_D A ws) (hS : va_S A H0 H locs) (q0 t0 : Nat) {cA : ClassId} {n : Nat} {f : Nat → UInt64} (ha : ws[q0]? = some (a, .inl (cA, n, .inr (.inr (.inr (.inl f)))))) (ht : tys[t0]? = some (cA, .double)) {i : Int32} {x : UInt64} (hin : vp_in i n) (hdg : decode cc pc = .ok (.dastore, 1))
    (kk : ∀ (H1 : Heap) (locs1 : List Loc), va_P D cl (ws.set q0 (a, .inl (cA, n, .inr (.inr (.inr (.inl (vf_upd f i.toNatClampNeg x))))))) H1 → H1.size = H.size → va_S A H0 H1 locs1 → W p l e R s m args below meth c H1 locs1 cells slots Q (F0 m (pc + 1) ls rest)) : W p l e R s m args below meth c H locs cells slots Q (F0 m pc ls (.double x :: .int i :: .ref a :: rest)) := by
  refine W.dast hexec hb (hP q0 _ ha) ((hK.2 t0 _ ht).1 n (fun j => .double (f j))) (fun q => by cases q) (by show ¬ (i < 0 ∨ (arrV _ _ _).slots.size ≤ _); rw [arrV_size]; exact hin) rfl rfl hdg fun H1 e z oq => ?_
  refine kk H1 _ (hP.set hD ha ?_ oq) z (hS.put z oq (hD.2 q0 _ ha))
  show H1[a]? = some (vp_cell _ _)
  rw [e]
  rw [vp_cell_d, vp_cell_d, arrV_store]
  congr 2
  funext q
  by_cases hq : q = i.toNatClampNeg
  · subst hq
    simp [updV, vf_upd]
  · simp [updV, vf_upd, hq]
theorem fr_astq (hexec : p.tables.exec = Jvm.exec) (hb : c.code = cc) (hK : va_K D cl tys s) (hP : va_P D cl ws H) (hD : va_D A ws) (hS : va_S A H0 H locs) (q0 t0 qk ci : Nat) {cA : ClassId} {r : vw_C} {n v : Nat} {vs : List Value} {f : Nat → Option Nat} (ha : ws[q0]? = some (a, .inl (cA, n, .inr (.inr (.inr (.inr f)))))) (ht : tys[t0]? = some (cA, .object r.1)) (hv : ws[qk]? = some (v, .inr (ci, vs))) (hc : cl[ci]? = some r) {i : Int32} (hin : vp_in i n) (hdg : decode cc pc = .ok (.aastore, 1))
    (kk : ∀ (H1 : Heap) (locs1 : List Loc), va_P D cl (ws.set q0 (a, .inl (cA, n, .inr (.inr (.inr (.inr (va_up f i.toNatClampNeg (some v)))))))) H1 → H1.size = H.size → va_S A H0 H1 locs1 → W p l e R s m args below meth c H1 locs1 cells slots Q (F0 m (pc + 1) ls rest)) : W p l e R s m args below meth c H locs cells slots Q (F0 m pc ls (.ref v :: .int i :: .ref a :: rest)) := by
  have hlt : i.toNatClampNeg < n := Nat.not_le.mp fun q => hin (Or.inr q)
  have h0 : ¬ i < 0 := fun q => hin (Or.inl q)
  obtain ⟨r', hr', cellV, g1, g2, g3, -⟩ := hP qk _ hv
  have hcls := (hK.1 ci r hc).2
  obtain ⟨kA, comp, k1, k2, k3, -⟩ := (hK.2 t0 _ ht).2
  have hcomp : comp = D.1 ci := Option.some.inj (k3.symm.trans hcls.1)
  subst hcomp
  obtain ⟨kC, hkC, -⟩ := hcls.2
  refine W.aast hexec hb (hP q0 _ ha) (fun q h => by cases h) (fun h => by cases h) k1 k2 rfl hkC ⟨h0, by show _ < (arrV _ _ _).slots.size; rw [arrV_size]; exact hlt⟩ g1 (fun q h => by rw [g3] at h; cases h) (by rw [g2]; exact hkC) (by rw [g2]; exact va_assign hcls) rfl rfl hdg fun H1 e z oq => ?_
  refine kk H1 _ (hP.set hD ha ?_ oq) z (hS.put z oq (hD.2 q0 _ ha))
  show H1[a]? = some (vp_cell _ _)
  rw [e]
  rw [vp_cell_q, vp_cell_q, arrV_store]
  congr 2
  funext q
  by_cases hq : q = i.toNatClampNeg
  · subst hq
    simp [updV, va_up, va_rf]
  · simp [updV, va_up, hq]
theorem fr_put (hexec : p.tables.exec = Jvm.exec) (hb : c.code = cc) {own ref C : String} {T : u_T} {N ci index : Nat} {Ts : List Cond} (hts : ∀ w ∈ Ts, w.before args s = true) (hin : ∀ w ∈ u_ws C T N, w ∈ Ts) (ty0 : Nat → FieldType) (hty : ∀ k, k < N → parseFieldDescriptor (T k).2.2.1 = some (ty0 k)) (hnm : ∀ a, a < N → ∀ b, b < N → a ≠ b → (T a).2.1 ≠ (T b).2.1) (hown : s.vm.findClass own = some m.cls) (hK : va_K D cl tys s) (hP : va_P D cl ws H) (hD : va_D A ws) (hS0 : va_S A H0 H locs) (q0 : Nat) {fs : List Value} (he : ws[q0]? = some (a, .inr (ci, fs))) (hc : cl[ci]? = some (C, T, N)) (k : Nat) (hk : k < N) (hlink : (Cond.fieldLink own index ref (T k).2.1 (T k).2.2.1).before args s = true ∨ ∃ host, (Cond.fieldLinkNest own index ref (T k).2.1 (T k).2.2.1 host).before args s = true) (hsame : ∀ x, s.fieldFound? (T k).1 (T k).2.1 (T k).2.2.1 = some x → s.fieldFound? ref (T k).2.1 (T k).2.2.1 = some x) (hfin : (T k).2.2.2 = false) {ty : FieldType} {v : Value} (hd : parseFieldDescriptor (T k).2.2.1 = some ty) (hn : narrow ty v = v) (hfit : fits ty v = true) (hl : k < fs.length)
    (hdg : decode cc pc = .ok (.putfield index, 3)) (kk : ∀ (H1 : Heap) (locs1 : List Loc), va_P D cl (ws.set q0 (a, .inr (ci, fs.set k v))) H1 → H1.size = H.size → va_S A H0 H1 locs1 → W p l e R s m args below meth c H1 locs1 cells slots Q (F0 m (pc + 3) ls rest)) : W p l e R s m args below meth c H locs cells slots Q (F0 m pc ls (v :: .ref a :: rest)) := by
  have hap := va_apart (own := own) hts hin ty0 hty hnm hK hc
  obtain ⟨r, h1, cell, q1, q2, q3, q4⟩ := hP q0 _ he
  have hr : r = (C, T, N) := Option.some.inj (h1.symm.trans hc)
  subst hr
  obtain ⟨hS, hfc, kC, hkC, hkind⟩ := hK.1 ci _ hc
  obtain ⟨cf, kf, fi, f, hi, hsl⟩ := hS k hk
  have hlay := hts _ (hin _ (u_in_lay hk))
  unfold u_lay at hlay
  rw [if_neg (by rw [hfin]; decide)] at hlay
  have hst := (u_facts hfc hkC (u_lays hts hin hk) hi).1
  have h6 := u_store hfc hkC hkind hlay hi hd hn hfit
  rcases hlink with hlink | ⟨host, hlink⟩
  · refine W.putK hexec hb (f := f) ⟨hown, hlink, ⟨_, _, _, hsame _ hi⟩, hst⟩ (by rw [q2]; exact h6) q1 q3 (by rw [hsl]; exact k2_hasslot (q4 k hk)) rfl rfl hdg fun H' e1 e2 e3 => ?_
    rw [hsl] at e1 ⊢
    exact kk H' _ (hP.set hD he ⟨_, hc, t_OB.to (V := updV (vp_V fs) k v) ⟨_, e1, q2, q3, t_set q4 hap hk v⟩ (fun j _ => vp_updV_set hl v j)⟩ e3) e2 (hS0.put e2 e3 (hD.2 q0 _ he))
  · refine va_WputK hexec hb (f := f) hown hlink (hsame _ hi) hst (by rw [q2]; exact h6) q1 q3 (by rw [hsl]; exact k2_hasslot (q4 k hk)) rfl rfl hdg fun H' e1 e2 e3 => ?_
    rw [hsl] at e1 ⊢
    exact kk H' _ (hP.set hD he ⟨_, hc, t_OB.to (V := updV (vp_V fs) k v) ⟨_, e1, q2, q3, t_set q4 hap hk v⟩ (fun j _ => vp_updV_set hl v j)⟩ e3) e2 (hS0.put e2 e3 (hD.2 q0 _ he))
theorem fr_putF (hexec : p.tables.exec = Jvm.exec) (hb : c.code = cc) {own ref C : String} {T : u_T} {N ci index : Nat} {Ts : List Cond} (hts : ∀ w ∈ Ts, w.before args s = true) (hin : ∀ w ∈ u_ws C T N, w ∈ Ts) (ty0 : Nat → FieldType) (hty : ∀ k, k < N → parseFieldDescriptor (T k).2.2.1 = some (ty0 k)) (hnm : ∀ a, a < N → ∀ b, b < N → a ≠ b → (T a).2.1 ≠ (T b).2.1) (hown : s.vm.findClass own = some m.cls) (hK : va_K D cl tys s) (hP : va_P D cl ws H) (hD : va_D A ws) (hS0 : va_S A H0 H locs) (q0 : Nat) {fs : List Value} (he : ws[q0]? = some (a, .inr (ci, fs))) (hc : cl[ci]? = some (C, T, N)) (k : Nat) (hk : k < N) (hlink : (Cond.fieldLink own index ref (T k).2.1 (T k).2.2.1).before args s = true) (hsame : ∀ x, s.fieldFound? (T k).1 (T k).2.1 (T k).2.2.1 = some x → s.fieldFound? ref (T k).2.1 (T k).2.2.1 = some x) (hfin : (T k).2.2.2 = true) (hin2 : meth.name = "<init>") (hdecl : (T k).1 = own) {ty : FieldType} {v : Value} (hd : parseFieldDescriptor (T k).2.2.1 = some ty) (hn : narrow ty v = v) (hfit : fits ty v = true) (hl : k < fs.length)
    (hdg : decode cc pc = .ok (.putfield index, 3)) (kk : ∀ (H1 : Heap) (locs1 : List Loc), va_P D cl (ws.set q0 (a, .inr (ci, fs.set k v))) H1 → H1.size = H.size → va_S A H0 H1 locs1 → W p l e R s m args below meth c H1 locs1 cells slots Q (F0 m (pc + 3) ls rest)) : W p l e R s m args below meth c H locs cells slots Q (F0 m pc ls (v :: .ref a :: rest)) := by
  have hap := va_apart (own := own) hts hin ty0 hty hnm hK hc
  obtain ⟨r, h1, cell, q1, q2, q3, q4⟩ := hP q0 _ he
  have hr : r = (C, T, N) := Option.some.inj (h1.symm.trans hc)
  subst hr
  obtain ⟨hS, hfc, kC, hkC, hkind⟩ := hK.1 ci _ hc
  obtain ⟨cf, kf, fi, f, hi, hsl⟩ := hS k hk
  have hlay := hts _ (hin _ (u_in_lay hk))
  unfold u_lay at hlay
  rw [if_pos hfin] at hlay
  have hst := (u_facts hfc hkC (u_lays hts hin hk) hi).1
  have hcf : m.cls = cf := by
    obtain ⟨_, _, c', _, _, _, -, -, hf', -, -, -, hown2, -⟩ := Cond.laysFinal_spec hlay
    have e1 : c' = cf := by have := hi.symm.trans hf'; simp at this; exact this.1.symm
    rw [hdecl] at hown2
    rw [← e1]; exact Option.some.inj (hown.symm.trans hown2)
  have h6 := u_fits hfc hkC hkind (Or.inr hlay) hi hd hn hfit
  refine W.putFinK hexec hb hown hlink (hsame _ hi) hst hcf hin2 (by rw [q2]; exact h6) q1 q3 (by rw [hsl]; exact k2_hasslot (q4 k hk)) rfl rfl hdg fun H' e1 e2 e3 => ?_
  rw [hsl] at e1 ⊢
  exact kk H' _ (hP.set hD he ⟨_, hc, t_OB.to (V := updV (vp_V fs) k v) ⟨_, e1, q2, q3, t_set q4 hap hk v⟩ (fun j _ => vp_updV_set hl v j)⟩ e3) e2 (hS0.put e2 e3 (hD.2 q0 _ he))
theorem fr_new {c0 : Code} (hexec : p.tables.exec = Jvm.exec) (hb : c0.code = cc) {own C : String} {T : u_T} {N ci index : Nat} {Ts : List Cond} (hts : ∀ w ∈ Ts, w.before args s = true) (hin : ∀ w ∈ u_ws C T N, w ∈ Ts) (ty : Nat → FieldType) (hty : ∀ k, k < N → parseFieldDescriptor (T k).2.2.1 = some (ty k)) (hown : s.vm.findClass own = some m.cls) (hcl : (Cond.classLink own index C).before args s = true) (hinst : (Cond.instantiable C N).before args s = true) (hini : (Cond.initialized C).before args s = true)
    (hK : va_K D cl tys s) (hP : va_P D cl ws H) (hS : va_S A H0 H locs) (hc : cl[ci]? = some (C, T, N)) {fs : List Value} (hfs : ∀ j, j < N → defaultValue (ty j) = vp_V fs j) (hcells : cells + 1 ≤ R.cells) (hslots : slots + N ≤ R.slots) (hdg : decode cc pc = .ok (.new index, 3))
    (kk : ∀ (H1 : Heap), va_P D cl (ws ++ [(H.size, .inr (ci, fs))]) H1 → H1.size = H.size + 1 → va_S A H0 H1 locs →
      W p l e R s m args below meth c0 H1 locs (cells + 1) (slots + N) Q (F0 m (pc + 3) ls (.ref H.size :: rest))) : W p l e R s m args below meth c0 H locs cells slots Q (F0 m pc ls rest) := by
  have hKn := hK.1 ci _ hc
  refine W.newcK hexec hb hown hcl hinst hini rfl hdg hcells hslots hKn.2.1 rfl fun H1 kC hkC e1 z1 o1 => ?_
  have hk : ∀ (k : Nat) (x : Nat × va_E), ws[k]? = some x → H1[x.1]? = H[x.1]? := fun k x hx => o1 x.1 ((hP k x hx).lt)
  refine kk H1 ((hP.kept hk).app (fun k x hx => ?_)) z1 ⟨Nat.le_trans hS.1 (by omega), fun x h1 h2 => (o1 x (Nat.lt_of_lt_of_le h1 hS.1)).trans (hS.2.1 x h1 h2), hS.2.2⟩
  have hz : k < 1 := (List.getElem?_eq_some_iff.mp hx).1
  rw [show k = 0 by omega] at hx
  cases hx
  exact ⟨_, hc, (u_born ty hts hin hKn hkC e1 hty).to hfs⟩
theorem fr_newa (hexec : p.tables.exec = Jvm.exec) (hb : c.code = cc) {atype : ArrayType} (harr : (Cond.arrayClass (newarray.typeOf atype)).before args s = true) {ty : FieldType} (hty : newarray.typeOf atype = ty) (hP : va_P D cl ws H) (hS : va_S A H0 H locs)
    {cA0 : ClassId} (hcA : s.vm.findClass ("[" ++ ty.toString) = some cA0) {n : Int32} {N' : Nat} {a0 : vp_A} (ha : ∀ cA : ClassId, vp_cell cA a0 = arrV cA N' (fun _ => defaultValue ty)) (hn : ¬ n < 0) (hN : n.toNatClampNeg = N') (hbytes : N' * componentBytes ty ≤ 536870912) (hcells : cells + 1 ≤ R.cells) (hslots : slots + N' ≤ R.slots) (hdg : decode cc pc = .ok (.newarray atype, 2))
    (kk : ∀ (H1 : Heap), va_P D cl (ws ++ [(H.size, .inl (cA0, a0))]) H1 → H1.size = H.size + 1 → va_S A H0 H1 locs →
      W p l e R s m args below meth c H1 locs (cells + 1) (slots + N') Q (F0 m (pc + 2) ls (.ref H.size :: rest))) : W p l e R s m args below meth c H locs cells slots Q (F0 m pc ls (.int n :: rest)) := by
  subst hty
  refine va_newaK hexec hb harr rfl hdg rfl hn hN hbytes hcells hslots rfl fun H1 cA e1 z1 o1 hAr hNm => ?_
  have hcc : cA = cA0 := Option.some.inj (hNm.symm.trans hcA)
  subst hcc
  have hk : ∀ (k : Nat) (x : Nat × va_E), ws[k]? = some x → H1[x.1]? = H[x.1]? := fun k x hx => o1 x.1 ((hP k x hx).lt)
  refine kk H1 ((hP.kept hk).app (fun k x hx => ?_)) z1 ⟨Nat.le_trans hS.1 (by omega), fun x h1 h2 => (o1 x (Nat.lt_of_lt_of_le h1 hS.1)).trans (hS.2.1 x h1 h2), hS.2.2⟩
  have hz : k < 1 := (List.getElem?_eq_some_iff.mp hx).1
  rw [show k = 0 by omega] at hx
  cases hx
  show H1[H.size]? = some (vp_cell _ _)
  rw [ha]
  exact e1
theorem fr_newq (hexec : p.tables.exec = Jvm.exec) (hb : c.code = cc) {own C : String} {index : Nat} (hown : s.vm.findClass own = some m.cls) (hclink : (Cond.classLink own index C).before args s = true) (hover : va_AO C s) (hP : va_P D cl ws H) (hS : va_S A H0 H locs) {cA0 : ClassId} (hcA : s.vm.findClass ("[" ++ (FieldType.object C).toString) = some cA0)
    {n : Int32} {N' : Nat} (hn : ¬ n < 0) (hN : n.toNatClampNeg = N') (hbytes : N' * 4 ≤ 536870912) (hcells : cells + 1 ≤ R.cells) (hslots : slots + N' ≤ R.slots) (hdg : decode cc pc = .ok (.anewarray index, 3)) {f : Nat → Option Nat} (hf : ∀ i, f i = none)
    (kk : ∀ (H1 : Heap), va_P D cl (ws ++ [(H.size, .inl (cA0, N', .inr (.inr (.inr (.inr f)))))]) H1 → H1.size = H.size + 1 → va_S A H0 H1 locs →
      W p l e R s m args below meth c H1 locs (cells + 1) (slots + N') Q (F0 m (pc + 3) ls (.ref H.size :: rest))) : W p l e R s m args below meth c H locs cells slots Q (F0 m pc ls (.int n :: rest)) := by
  subst hN
  have hf' : f = fun _ => none := funext hf
  subst hf'
  refine W.anew hexec hb hown hclink (va_AO.use hover) rfl hdg rfl hn hbytes hcells hslots fun cA kA comp f1 f2 f3 f4 => ?_
  have hcc : cA = cA0 := Option.some.inj (f1.symm.trans hcA)
  subst hcc
  generalize hH1 : H.push ({ cls := cA, slots := Array.replicate n.toNatClampNeg .null, vm := .none } : Cell) = H1
  have z1 : H1.size = H.size + 1 := by rw [← hH1, Array.size_push]
  have e1 : H1[H.size]? = some (arrV cA n.toNatClampNeg (fun _ => .null)) := by rw [← hH1, Array.getElem?_push_size, ← arrV_new]
  have o1 : ∀ q : Nat, q < H.size → H1[q]? = H[q]? := fun q hq => by rw [← hH1, Array.getElem?_push, if_neg (Nat.ne_of_lt hq)]
  have hk : ∀ (k : Nat) (x : Nat × va_E), ws[k]? = some x → H1[x.1]? = H[x.1]? := fun k x hx => o1 x.1 ((hP k x hx).lt)
  refine kk H1 ((hP.kept hk).app (fun k x hx => ?_)) z1 ⟨Nat.le_trans hS.1 (by omega), fun x h1 h2 => (o1 x (Nat.lt_of_lt_of_le h1 hS.1)).trans (hS.2.1 x h1 h2), hS.2.2⟩
  have hz : k < 1 := (List.getElem?_eq_some_iff.mp hx).1
  rw [show k = 0 by omega] at hx
  cases hx
  show H1[H.size]? = some (vp_cell _ _)
  rw [vp_cell_q]
  exact e1
end FMR
end
section
/-! Each step of the small machine is one of the machine's. -/
def fm_C (ci : Nat) : String := match ci with
  | 0 => RX0 | 1 => RX1 | 2 => RX2 | 3 => RX3 | 4 => RX4 | 5 => RX5 | _ => RX6
def fm_T (ci : Nat) : u_T := match ci with
  | 0 => TX0 | 1 => TX1 | 2 => TX2 | 3 => TX3 | 4 => TX4 | 5 => TX5 | _ => TX6
def fm_ty (ci : Nat) : Nat → FieldType := match ci with
  | 0 => tyX0 | 1 => tyX1 | 2 => tyX2 | 3 => tyX3 | 4 => tyX4 | 5 => tyX5 | _ => tyX6
def fm_n (ci : Nat) : Nat := fm_fN.getD ci 0
theorem fm_cls_at {ci : Nat} (h : ci < 7) : fm_cls[ci]? = some (fm_C ci, fm_T ci, fm_n ci) := by
  match ci, h with
  | 0, _ => rfl
  | 1, _ => rfl
  | 2, _ => rfl
  | 3, _ => rfl
  | 4, _ => rfl
  | 5, _ => rfl
  | 6, _ => rfl
  | k + 7, h => omega
set_option maxRecDepth 100000 in
theorem fm_in {ci : Nat} (h : ci < 7) : ∀ w ∈ u_ws (fm_C ci) (fm_T ci) (fm_n ci), w ∈ fm_TG := by
  match ci, h with
  | 0, _ => show ∀ w ∈ u_ws RX0 TX0 5, w ∈ fm_TG; decide +kernel
  | 1, _ => show ∀ w ∈ u_ws RX1 TX1 8, w ∈ fm_TG; decide +kernel
  | 2, _ => show ∀ w ∈ u_ws RX2 TX2 3, w ∈ fm_TG; decide +kernel
  | 3, _ => show ∀ w ∈ u_ws RX3 TX3 10, w ∈ fm_TG; decide +kernel
  | 4, _ => show ∀ w ∈ u_ws RX4 TX4 3, w ∈ fm_TG; decide +kernel
  | 5, _ => show ∀ w ∈ u_ws RX5 TX5 11, w ∈ fm_TG; decide +kernel
  | 6, _ => show ∀ w ∈ u_ws RX6 TX6 33, w ∈ fm_TG; decide +kernel
  | k + 7, h => omega
theorem fm_tyk {ci : Nat} (h : ci < 7) : ∀ k, k < fm_n ci → parseFieldDescriptor (fm_T ci k).2.2.1 = some (fm_ty ci k) := by
  match ci, h with
  | 0, _ => exact tyX0_ok
  | 1, _ => exact tyX1_ok
  | 2, _ => exact tyX2_ok
  | 3, _ => exact tyX3_ok
  | 4, _ => exact tyX4_ok
  | 5, _ => exact tyX5_ok
  | 6, _ => exact tyX6_ok
  | k + 7, h => omega
theorem fm_nmk {ci : Nat} (h : ci < 7) : ∀ a, a < fm_n ci → ∀ b, b < fm_n ci → a ≠ b → (fm_T ci a).2.1 ≠ (fm_T ci b).2.1 := by
  match ci, h with
  | 0, _ => exact nmX0
  | 1, _ => exact nmX1
  | 2, _ => exact nmX2
  | 3, _ => exact nmX3
  | 4, _ => exact nmX4
  | 5, _ => exact nmX5
  | 6, _ => exact nmX6
  | k + 7, h => omega
theorem fm_fN_n {ci n : Nat} (h : fm_fN[ci]? = some n) : fm_n ci = n := by
  unfold fm_n
  rw [List.getD, h]
  rfl
def fm_cn (M : fm_M) : Nat := M.2.length + M.1.2.2.2
def fm_sn (M : fm_M) : Nat := (M.2.map (fun q => q.2.1)).sum + 6 * M.1.2.2.2
/-- a value is one of the machine's -/
def fm_vok (S : List fm_Sc) (v : fm_V) : Prop := match v with
  | .inr q => q.1 < 3 ∧ q.2 < 12 ∧ fm_pool S = true
  | _ => True
def fm_ok (S : List fm_Sc) (lo : List (Option fm_V)) (st : List fm_V) : Prop := (∀ (i : Nat) (v : fm_V), lo[i]? = some (some v) → fm_vok S v) ∧ ∀ v ∈ st, fm_vok S v
def fm_LH (B b nL : Nat) (wd : Bool) (ls : Array Slot) (lo : List (Option fm_V)) : Prop := ls.size = nL ∧ lo.length = nL ∧ lv_wf ls ∧ (∀ (i : Nat) (v : fm_V), lo[i]? = some (some v) → ls[i]? = some (.val (fm_ren B b v))) ∧ (wd = false → ∀ (i : Nat) (v : fm_V), lo[i]? = some (some v) → fm_cat v = 1)
theorem fm_cat_ren (B b : Nat) (v : fm_V) : (fm_ren B b v).category = fm_cat v := by
  rcases v with v | q
  · cases v <;> rfl
  · rfl
theorem fm_csum_ren (B b : Nat) (st : List fm_V) : ((st.map (fm_ren B b)).map fun v => v.category).sum = fm_csum st := by
  induction st with
  | nil => rfl
  | cons v r ih =>
    simp only [List.map_cons, List.sum_cons, fm_csum, fm_cat_ren]
    rw [← ih]
theorem fm_k_const (n : Int) : Int32.ofInt n = fm_k n := by
  cases n with
  | ofNat k => rfl
  | negSucc k => rfl
theorem fm_ld_some {lo : List (Option fm_V)} {i : Nat} {v : fm_V} (h : fm_ld lo i = some v) : lo[i]? = some (some v) := by
  unfold fm_ld at h
  split at h
  · rename_i w hw; cases h; exact hw
  · cases h
/-- the locals as a list of places -/
def fm_pl (B b : Nat) (lo : List (Option fm_V)) : List (Nat × Value) := (List.range lo.length).filterMap fun i => match lo[i]? with
  | some (some v) => some (i, fm_ren B b v)
  | _ => none
theorem fm_pl_in {B b : Nat} {lo : List (Option fm_V)} {i : Nat} {v : fm_V} (h : lo[i]? = some (some v)) : (i, fm_ren B b v) ∈ fm_pl B b lo := by
  have hi : i < lo.length := (List.getElem?_eq_some_iff.mp h).1
  unfold fm_pl
  refine List.mem_filterMap.mpr ⟨i, List.mem_range.mpr hi, ?_⟩
  rw [h]
theorem fm_pl_of {B b : Nat} {lo : List (Option fm_V)} {q : Nat × Value} (h : q ∈ fm_pl B b lo) : ∃ v, lo[q.1]? = some (some v) ∧ q.2 = fm_ren B b v := by
  unfold fm_pl at h
  obtain ⟨i, -, hi⟩ := List.mem_filterMap.mp h
  split at hi
  · rename_i v hv; cases hi; exact ⟨v, hv, rfl⟩
  · cases hi
theorem fm_LH.has {B b nL : Nat} {wd : Bool} {ls : Array Slot} {lo : List (Option fm_V)} (h : fm_LH B b nL wd ls lo) : lv_has ls nL (fm_pl B b lo) := by
  refine ⟨h.1, h.2.2.1, fun q hq => ?_⟩
  obtain ⟨v, h1, h2⟩ := fm_pl_of hq
  rw [h2]
  exact h.2.2.2.1 _ _ h1
/-- a narrow store, where the locals are narrow -/
theorem fm_LH.set1 {B b nL : Nat} {ls ls' : Array Slot} {lo : List (Option fm_V)} {i : Nat} {v : fm_V} (h : fm_LH B b nL false ls lo) (hv : fm_cat v = 1) (hi : i < nL) (h' : lv_has ls' nL ((i, fm_ren B b v) :: (fm_pl B b lo).filter (fun q => !(q.1 == i) && !(q.1 + 1 == i && q.2.category == 2)))) : fm_LH B b nL false ls' (lo.set i (some v)) := by
  obtain ⟨h1, h2, h3, h4, h5⟩ := h
  refine ⟨h'.1, by rw [List.length_set]; exact h2, h'.2.1, fun j w hj => ?_, fun _ j w hj => ?_⟩
  · by_cases hij : i = j
    · subst hij
      rw [List.getElem?_set_self (by omega)] at hj
      cases hj
      exact h'.2.2 _ List.mem_cons_self
    · rw [List.getElem?_set_ne hij] at hj
      refine h'.2.2 (j, fm_ren B b w) (List.mem_cons_of_mem _ (List.mem_filter.mpr ⟨fm_pl_in hj, ?_⟩))
      have hc := h5 rfl j w hj
      have : ¬ j = i := fun e => hij e.symm
      simp [this, fm_cat_ren, hc]
  · by_cases hij : i = j
    · subst hij
      rw [List.getElem?_set_self (by omega)] at hj
      cases hj
      exact hv
    · rw [List.getElem?_set_ne hij] at hj
      exact h5 rfl j w hj
theorem fm_cat12 (v : fm_V) : fm_cat v = 1 ∨ fm_cat v = 2 := by
  unfold fm_cat
  split <;> simp
theorem fm_cl_at {lo : List (Option fm_V)} {i j : Nat} {w : fm_V} (h : (fm_cl lo i)[j]? = some (some w)) : lo[j]? = some (some w) ∧ (j + 1 = i → fm_cat w = 1) := by
  cases i with
  | zero => exact ⟨h, fun e => by omega⟩
  | succ k =>
    unfold fm_cl at h
    dsimp only at h
    split at h
    · rename_i v hv
      cases hb : Nat.beq (fm_cat v) 2
      · rw [hb, cond_false] at h
        refine ⟨h, fun e => ?_⟩
        have hjk : j = k := by omega
        subst hjk
        rw [hv] at h
        have hvw : v = w := Option.some.inj (Option.some.inj h)
        subst hvw
        rcases fm_cat12 v with h1 | h2
        · exact h1
        · rw [h2] at hb; cases hb
      · rw [hb, cond_true] at h
        by_cases hjk : k = j
        · subst hjk
          have hk : k < lo.length := (List.getElem?_eq_some_iff.mp hv).1
          rw [List.getElem?_set_self hk] at h
          cases h
        · rw [List.getElem?_set_ne hjk] at h
          exact ⟨h, fun e => by omega⟩
    · rename_i hv
      refine ⟨h, fun e => ?_⟩
      have hjk : j = k := by omega
      subst hjk
      exact absurd h (hv w)
theorem fm_cl_len (lo : List (Option fm_V)) (i : Nat) : (fm_cl lo i).length = lo.length := by
  unfold fm_cl
  split
  · rfl
  · split
    · rename_i v _
      cases Nat.beq (fm_cat v) 2 <;> simp
    · rfl
theorem fm_LH.set2 {B b nL : Nat} {ls ls' : Array Slot} {lo : List (Option fm_V)} {i : Nat} {v : fm_V} (h : fm_LH B b nL true ls lo) (hi : i + (fm_cat v - 1) < nL)
    (h' : (fm_cat v = 1 ∧ lv_has ls' nL ((i, fm_ren B b v) :: (fm_pl B b lo).filter (fun q => !(q.1 == i) && !(q.1 + 1 == i && q.2.category == 2)))) ∨ (fm_cat v = 2 ∧ lv_has ls' nL ((i, fm_ren B b v) :: (fm_pl B b lo).filter (fun q => !(q.1 == i) && (!(q.1 == i + 1) && !(q.1 + 1 == i && q.2.category == 2)))))) : fm_LH B b nL true ls' (fm_sto lo i v) := by
  obtain ⟨h1, h2, h3, h4, h5⟩ := h
  have hcl : ((fm_cl lo i).set i (some v)).length = nL := by rw [List.length_set, fm_cl_len, h2]
  rcases h' with ⟨hv, h'⟩ | ⟨hv, h'⟩
  · have hs : fm_sto lo i v = (fm_cl lo i).set i (some v) := by unfold fm_sto; rw [hv]; rfl
    rw [hs]
    refine ⟨h'.1, hcl, h'.2.1, fun j w hj => ?_, fun e => by cases e⟩
    by_cases hij : i = j
    · subst hij
      rw [List.getElem?_set_self (by rw [fm_cl_len]; omega)] at hj
      cases hj
      exact h'.2.2 _ List.mem_cons_self
    · rw [List.getElem?_set_ne hij] at hj
      obtain ⟨g1, g2⟩ := fm_cl_at hj
      refine h'.2.2 (j, fm_ren B b w) (List.mem_cons_of_mem _ (List.mem_filter.mpr ⟨fm_pl_in g1, ?_⟩))
      have : ¬ j = i := fun e => hij e.symm
      by_cases hji : j + 1 = i
      · simp [this, fm_cat_ren, g2 hji]
      · simp [this, hji]
  · have hs : fm_sto lo i v = ((fm_cl lo i).set i (some v)).set (i + 1) none := by unfold fm_sto; rw [hv]; rfl
    rw [hs]
    refine ⟨h'.1, by rw [List.length_set]; exact hcl, h'.2.1, fun j w hj => ?_, fun e => by cases e⟩
    rw [hv] at hi
    by_cases hij1 : i + 1 = j
    · subst hij1
      rw [List.getElem?_set_self (by omega)] at hj
      cases hj
    · rw [List.getElem?_set_ne hij1] at hj
      by_cases hij : i = j
      · subst hij
        rw [List.getElem?_set_self (by rw [fm_cl_len]; omega)] at hj
        cases hj
        exact h'.2.2 _ List.mem_cons_self
      · rw [List.getElem?_set_ne hij] at hj
        obtain ⟨g1, g2⟩ := fm_cl_at hj
        refine h'.2.2 (j, fm_ren B b w) (List.mem_cons_of_mem _ (List.mem_filter.mpr ⟨fm_pl_in g1, ?_⟩))
        have n1 : ¬ j = i := fun e => hij e.symm
        have n2 : ¬ j = i + 1 := fun e => hij1 e.symm
        by_cases hji : j + 1 = i
        · simp [n1, n2, fm_cat_ren, g2 hji]
        · simp [n1, n2, hji]
theorem fm_ok.push {S : List fm_Sc} {lo : List (Option fm_V)} {st : List fm_V} {v : fm_V} (h : fm_ok S lo st) (hv : fm_vok S v) : fm_ok S lo (v :: st) := ⟨h.1, fun w hw => (List.mem_cons.mp hw).elim (fun e => by rw [e]; exact hv) (h.2 w)⟩
theorem fm_ok.tail {S : List fm_Sc} {lo : List (Option fm_V)} {st : List fm_V} {v : fm_V} (h : fm_ok S lo (v :: st)) : fm_ok S lo st := ⟨h.1, fun w hw => h.2 w (List.mem_cons_of_mem _ hw)⟩
theorem fm_ok.hd {S : List fm_Sc} {lo : List (Option fm_V)} {st : List fm_V} {v : fm_V} (h : fm_ok S lo (v :: st)) : fm_vok S v := h.2 v List.mem_cons_self
theorem fm_ok.set {S : List fm_Sc} {lo : List (Option fm_V)} {st : List fm_V} {i : Nat} {v : fm_V} (h : fm_ok S lo st) (hv : fm_vok S v) : fm_ok S (lo.set i (some v)) st := by
  refine ⟨fun j w hj => ?_, h.2⟩
  by_cases hij : i = j
  · subst hij
    by_cases hl : i < lo.length
    · rw [List.getElem?_set_self hl] at hj; cases hj; exact hv
    · rw [List.getElem?_eq_none (by rw [List.length_set]; omega)] at hj; cases hj
  · rw [List.getElem?_set_ne hij] at hj
    exact h.1 j w hj
theorem fm_ok.setN {S : List fm_Sc} {lo : List (Option fm_V)} {st : List fm_V} {i : Nat} (h : fm_ok S lo st) : fm_ok S (lo.set i none) st := by
  refine ⟨fun j w hj => ?_, h.2⟩
  by_cases hij : i = j
  · subst hij
    by_cases hl : i < lo.length
    · rw [List.getElem?_set_self hl] at hj; cases hj
    · rw [List.getElem?_eq_none (by rw [List.length_set]; omega)] at hj; cases hj
  · rw [List.getElem?_set_ne hij] at hj
    exact h.1 j w hj
theorem fm_ok.sto {S : List fm_Sc} {lo : List (Option fm_V)} {st : List fm_V} {i : Nat} {v : fm_V} (h : fm_ok S lo st) (hv : fm_vok S v) : fm_ok S (fm_sto lo i v) st := by
  have hc : fm_ok S (fm_cl lo i) st := ⟨fun j w hj => h.1 j w (fm_cl_at hj).1, h.2⟩
  unfold fm_sto
  cases Nat.beq (fm_cat v) 2
  · exact hc.set hv
  · exact (hc.set hv).setN
theorem fm_ok.mono {S S' : List fm_Sc} {lo : List (Option fm_V)} {st : List fm_V} (h : fm_ok S lo st) (hp : fm_pool S = true → fm_pool S' = true) : fm_ok S' lo st := by
  have hv : ∀ v, fm_vok S v → fm_vok S' v := by
    intro v hv
    rcases v with v | q
    · trivial
    · exact ⟨hv.1, hv.2.1, hp hv.2.2⟩
  exact ⟨fun i v hi => hv v (h.1 i v hi), fun v hm => hv v (h.2 v hm)⟩
theorem fm_pool_at {S : List fm_Sc} (h : fm_pool S = true) {j : Nat} (hj : j < 12) : S[fm_pc 0 j]? = some (4, 3, [some (fm_pc 1 j), some (fm_pc 2 j), none]) ∧ S[fm_pc 1 j]? = some (11, 5, []) ∧ S[fm_pc 2 j]? = some (10, 5, []) := by
  unfold fm_pool at h
  have h1 := List.all_eq_true.mp h j (List.mem_range.mpr hj)
  unfold fm_poolRow at h1
  simp only [Bool.and_eq_true, beq_iff_eq] at h1
  exact ⟨h1.1.1, h1.1.2, h1.2⟩
/-- an array's cell -/
theorem fm_arr_at {S : List fm_Sc} {v : fm_V} {q : Nat × Nat × Nat} (h : fm_arr v S = some q) (hv : fm_vok S v) (hl : S.length ≤ 1000) (B b : Nat) : ∃ rs, S[q.1]? = some (q.2.1, q.2.2, rs) ∧ fm_ren B b v = .ref (B + q.1) := by
  unfold fm_arr at h
  split at h
  · rename_i c
    split at h
    · rename_i x hx
      cases h
      have hc : c < S.length := (List.getElem?_eq_some_iff.mp hx).1
      have hcs : ¬ c = fm_scr := fun e => by
        have h1 : (999999 : Nat) < S.length := by rw [e] at hc; exact hc
        omega
      refine ⟨x.2.2, hx, ?_⟩
      show Value.ref (if c = fm_scr then b else B + c) = _
      rw [if_neg hcs]
    · cases h
  · rename_i t j
    split at h
    · cases hp : fm_pool S
      · rw [hp, cond_false] at h; cases h
      · rw [hp, cond_true] at h; cases h
        exact ⟨[], (fm_pool_at hp hv.2.1).2.1, rfl⟩
    · cases hp : fm_pool S
      · rw [hp, cond_false] at h; cases h
      · rw [hp, cond_true] at h; cases h
        exact ⟨[], (fm_pool_at hp hv.2.1).2.2, rfl⟩
    · cases h
  · cases h
end
section
section FMS
variable {p : Program} {l : Launch} {e : Env} {R : Room} {s : State} {m : MethodId} {args : Array Value} {below : List Frame} {meth : Method} {c : Code}
/-- what is fixed in a frame -/
def fm_Cx (p : Program) (s : State) (m : MethodId) (args : Array Value) (meth : Method) (c : Code) (sts : fm_St) (ncs : fm_Nc) (X : Nat × (Nat → Int32)) (B b nL : Nat) (aC : Nat → ClassId) (D : va_G) (cc : ByteArray) (own : String) : Prop :=
  p.tables.exec = Jvm.exec ∧ c.code = cc ∧ c.maxLocals = nL ∧ s.vm.findClass own = some m.cls ∧ (∀ w ∈ fm_TG, w.before args s = true) ∧ fm_Ps sts ncs X B b aC D s ∧ meth.locks = false
/-- from every state of the machine that is the frame f, Q is reached -/
def fm_WW (p : Program) (l : Launch) (e : Env) (R : Room) (s : State) (m : MethodId) (args : Array Value) (below : List Frame) (meth : Method) (c : Code) (B b nL : Nat) (wd : Bool) (aC : Nat → ClassId) (D : va_G) (M0 : fm_M) (Q : State → Prop) (f : fm_F) : Prop :=
  ∀ (H : Heap) (locs : List Loc) (ls : Array Slot), fm_LH B b nL wd ls f.2.1 → fm_ok f.2.2.2.2 f.2.1 f.2.2.1 → fm_Wd B aC D f.2.2.2 H → va_S (fm_A B) s.heap H locs →
    W p l e R s m args below meth c H locs (fm_cn f.2.2.2 - fm_cn M0) (fm_sn f.2.2.2 - fm_sn M0) Q (F0 m f.1 ls (f.2.2.1.map (fm_ren B b)))
variable {sts : fm_St} {ncs : fm_Nc} {X : Nat × (Nat → Int32)} {B b nL : Nat} {wd : Bool} {aC : Nat → ClassId} {D : va_G} {M0 : fm_M} {Q : State → Prop} {cc : ByteArray} {own : String}
variable {pc : Nat} {lo : List (Option fm_V)} {st : List fm_V} {M : fm_M} {g : fm_F}
theorem sm_push {i : Instr} {n : Nat} {v : fm_V} {nx : Nat} (C : fm_Cx p s m args meth c sts ncs X B b nL aC D cc own) (hv : fm_vok M.2 v)
    (row : ∀ (H : Heap) (locs : List Loc) (cells slots : Nat) (ls : Array Slot) (rest : List Value), W p l e R s m args below meth c H locs cells slots Q (F0 m nx ls (fm_ren B b v :: rest)) → W p l e R s m args below meth c H locs cells slots Q (F0 m pc ls rest))
    (k : fm_WW p l e R s m args below meth c B b nL wd aC D M0 Q (nx, lo, v :: st, M)) : fm_WW p l e R s m args below meth c B b nL wd aC D M0 Q (pc, lo, st, M) := by
  intro H locs ls hl ho hw hS
  exact row _ _ _ _ _ _ (k H locs ls hl (ho.push hv) hw hS)
theorem sm_iconst {n : Int} (C : fm_Cx p s m args meth c sts ncs X B b nL aC D cc own) (hd : decode cc pc = .ok (.iconst n, 1)) (k : fm_WW p l e R s m args below meth c B b nL wd aC D M0 Q (pc + 1, lo, .inl (.int (fm_k n)) :: st, M)) : fm_WW p l e R s m args below meth c B b nL wd aC D M0 Q (pc, lo, st, M) := by
  intro H locs ls hl ho hw hS
  exact lv_iconst C.1 C.2.1 hd (fm_k_const n) (k H locs ls hl (ho.push trivial) hw hS)
theorem sm_bipush {n : Int} (C : fm_Cx p s m args meth c sts ncs X B b nL aC D cc own) (hd : decode cc pc = .ok (.bipush n, 2)) (hn : (Int8.ofInt n).toInt32 = fm_k n) (k : fm_WW p l e R s m args below meth c B b nL wd aC D M0 Q (pc + 2, lo, .inl (.int (fm_k n)) :: st, M)) : fm_WW p l e R s m args below meth c B b nL wd aC D M0 Q (pc, lo, st, M) := by
  intro H locs ls hl ho hw hS
  exact lv_bipush C.1 C.2.1 hd hn (k H locs ls hl (ho.push trivial) hw hS)
theorem sm_sipush {n : Int} (C : fm_Cx p s m args meth c sts ncs X B b nL aC D cc own) (hd : decode cc pc = .ok (.sipush n, 3)) (hn : (Int16.ofInt n).toInt32 = fm_k n) (k : fm_WW p l e R s m args below meth c B b nL wd aC D M0 Q (pc + 3, lo, .inl (.int (fm_k n)) :: st, M)) : fm_WW p l e R s m args below meth c B b nL wd aC D M0 Q (pc, lo, st, M) := by
  intro H locs ls hl ho hw hS
  exact lv_sipush C.1 C.2.1 hd hn (k H locs ls hl (ho.push trivial) hw hS)
theorem sm_lconst {n : Fin 2} (C : fm_Cx p s m args meth c sts ncs X B b nL aC D cc own) (hd : decode cc pc = .ok (.lconst n, 1)) (k : fm_WW p l e R s m args below meth c B b nL wd aC D M0 Q (pc + 1, lo, .inl (.long (Int64.ofNat n)) :: st, M)) : fm_WW p l e R s m args below meth c B b nL wd aC D M0 Q (pc, lo, st, M) := by
  intro H locs ls hl ho hw hS
  exact lv_lconst C.1 C.2.1 hd rfl (k H locs ls hl (ho.push trivial) hw hS)
theorem sm_dconst (C : fm_Cx p s m args meth c sts ncs X B b nL aC D cc own) (hd : decode cc pc = .ok (.dconst 0, 1)) (k : fm_WW p l e R s m args below meth c B b nL wd aC D M0 Q (pc + 1, lo, .inl (.double FP.dconst0) :: st, M)) : fm_WW p l e R s m args below meth c B b nL wd aC D M0 Q (pc, lo, st, M) := by
  intro H locs ls hl ho hw hS
  exact lv_dconst0 C.1 C.2.1 hd (k H locs ls hl (ho.push trivial) hw hS)
theorem sm_load_inv {ok : Option fm_V → Bool} {nx i : Nat} (h : fm_load ok nx lo i st M = .inl g) : ∃ v, lo[i]? = some (some v) ∧ ok (some v) = true ∧ g = (nx, lo, v :: st, M) := by
  unfold fm_load at h
  split at h
  · rename_i v hv
    cases hk : ok (some v)
    · rw [hk, cond_false] at h; cases h
    · rw [hk, cond_true] at h; cases h; exact ⟨v, fm_ld_some hv, hk, rfl⟩
  · cases h
theorem sm_isI {v : fm_V} (h : fm_isI (some v) = true) : ∃ x, v = .inl (.int x) := by
  unfold fm_isI at h
  split at h
  · rename_i x hx; exact ⟨x, Option.some.inj hx⟩
  · cases h
theorem sm_isD {v : fm_V} (h : fm_isD (some v) = true) : ∃ x, v = .inl (.double x) := by
  unfold fm_isD at h
  split at h
  · rename_i x hx; exact ⟨x, Option.some.inj hx⟩
  · cases h
theorem sm_isA {v : fm_V} (h : fm_isA (some v) = true) : fm_cat v = 1 ∧ ∃ a, fm_ren B b v = .ref a := by
  unfold fm_isA at h
  split at h
  · rename_i x hx; cases hx; exact ⟨rfl, _, rfl⟩
  · rename_i x hx; cases hx; exact ⟨rfl, _, rfl⟩
  · cases h
theorem sm_iload_n {j : Fin 4} (C : fm_Cx p s m args meth c sts ncs X B b nL aC D cc own) (hd : decode cc pc = .ok (.iload_n j, 1)) (h : fm_load fm_isI (pc + 1) lo j st M = .inl g) (k : fm_WW p l e R s m args below meth c B b nL wd aC D M0 Q g) : fm_WW p l e R s m args below meth c B b nL wd aC D M0 Q (pc, lo, st, M) := by
  obtain ⟨v, h1, h2, rfl⟩ := sm_load_inv h
  obtain ⟨x, rfl⟩ := sm_isI h2
  intro H locs ls hl ho hw hS
  exact lv_iload_n C.1 C.2.1 hd rfl (hl.2.2.2.1 _ _ h1) (k H locs ls hl (ho.push trivial) hw hS)
theorem sm_iload {j : Nat} (C : fm_Cx p s m args meth c sts ncs X B b nL aC D cc own) (hd : decode cc pc = .ok (.iload j, 2)) (h : fm_load fm_isI (pc + 2) lo j st M = .inl g) (k : fm_WW p l e R s m args below meth c B b nL wd aC D M0 Q g) : fm_WW p l e R s m args below meth c B b nL wd aC D M0 Q (pc, lo, st, M) := by
  obtain ⟨v, h1, h2, rfl⟩ := sm_load_inv h
  obtain ⟨x, rfl⟩ := sm_isI h2
  intro H locs ls hl ho hw hS
  exact lv_iload C.1 C.2.1 hd (hl.2.2.2.1 _ _ h1) (k H locs ls hl (ho.push trivial) hw hS)
theorem sm_dload {j : Nat} (C : fm_Cx p s m args meth c sts ncs X B b nL aC D cc own) (hd : decode cc pc = .ok (.dload j, 2)) (h : fm_load fm_isD (pc + 2) lo j st M = .inl g) (k : fm_WW p l e R s m args below meth c B b nL wd aC D M0 Q g) : fm_WW p l e R s m args below meth c B b nL wd aC D M0 Q (pc, lo, st, M) := by
  obtain ⟨v, h1, h2, rfl⟩ := sm_load_inv h
  obtain ⟨x, rfl⟩ := sm_isD h2
  intro H locs ls hl ho hw hS
  exact lv_dload C.1 C.2.1 hd (hl.2.2.2.1 _ _ h1) (k H locs ls hl (ho.push trivial) hw hS)
theorem sm_aload_n {j : Fin 4} (C : fm_Cx p s m args meth c sts ncs X B b nL aC D cc own) (hd : decode cc pc = .ok (.aload_n j, 1)) (h : fm_load fm_isA (pc + 1) lo j st M = .inl g) (k : fm_WW p l e R s m args below meth c B b nL wd aC D M0 Q g) : fm_WW p l e R s m args below meth c B b nL wd aC D M0 Q (pc, lo, st, M) := by
  obtain ⟨v, h1, h2, rfl⟩ := sm_load_inv h
  obtain ⟨-, a, ha⟩ := sm_isA (B := B) (b := b) h2
  intro H locs ls hl ho hw hS
  have hg := k H locs ls hl (ho.push (ho.1 _ _ h1)) hw hS
  have hv := hl.2.2.2.1 _ _ h1
  simp only [List.map_cons] at hg
  rw [ha] at hg hv
  exact lv_aload_n C.1 C.2.1 hd rfl hv hg
theorem sm_aload {j : Nat} (C : fm_Cx p s m args meth c sts ncs X B b nL aC D cc own) (hd : decode cc pc = .ok (.aload j, 2)) (h : fm_load fm_isA (pc + 2) lo j st M = .inl g) (k : fm_WW p l e R s m args below meth c B b nL wd aC D M0 Q g) : fm_WW p l e R s m args below meth c B b nL wd aC D M0 Q (pc, lo, st, M) := by
  obtain ⟨v, h1, h2, rfl⟩ := sm_load_inv h
  obtain ⟨-, a, ha⟩ := sm_isA (B := B) (b := b) h2
  intro H locs ls hl ho hw hS
  have hg := k H locs ls hl (ho.push (ho.1 _ _ h1)) hw hS
  have hv := hl.2.2.2.1 _ _ h1
  simp only [List.map_cons] at hg
  rw [ha] at hg hv
  exact lv_aload C.1 C.2.1 hd hv hg
theorem sm_st_inv {w : List Nat} {nx i : Nat} {v : fm_V} {r : List fm_V} (h : fm_st w nx lo i v r M = .inl g) : (w = [] ∧ i < lo.length ∧ fm_cat v = 1 ∧ g = (nx, lo.set i (some v), r, M)) ∨ (w ≠ [] ∧ i + (fm_cat v - 1) < lo.length ∧ g = (nx, fm_sto lo i v, r, M)) := by
  unfold fm_st at h
  split at h
  · cases hc : (Nat.blt i lo.length && Nat.beq (fm_cat v) 1)
    · rw [hc, cond_false] at h; cases h
    · rw [hc, cond_true] at h; cases h
      simp only [Bool.and_eq_true] at hc
      exact Or.inl ⟨rfl, by simpa using hc.1, Nat.eq_of_beq_eq_true hc.2, rfl⟩
  · rename_i hw
    cases hc : Nat.blt (i + (fm_cat v - 1)) lo.length
    · rw [hc, cond_false] at h; cases h
    · rw [hc, cond_true] at h; cases h
      exact Or.inr ⟨fun e => hw e, by simpa using hc, rfl⟩
/-- a store of a narrow value -/
theorem sm_store1 {w : List Nat} {nx i : Nat} {v : fm_V} {st0 : List fm_V} (hwd : (w = [] → wd = false) ∧ (w ≠ [] → wd = true)) (h : fm_st w nx lo i v st M = .inl g) (hv : fm_cat v = 1)
    (hst : ∀ S, fm_ok S lo st0 → S = M.2 → fm_ok S lo st ∧ fm_vok S v)
    (row : ∀ (H : Heap) (locs : List Loc) (cells slots : Nat) (ls : Array Slot) (lv : List (Nat × Value)), lv_has ls nL lv → i < nL → fm_LH B b nL wd ls lo →
      (∀ ls' : Array Slot, lv_has ls' nL ((i, fm_ren B b v) :: lv.filter (fun q => !(q.1 == i) && !(q.1 + 1 == i && q.2.category == 2))) → W p l e R s m args below meth c H locs cells slots Q (F0 m nx ls' (st.map (fm_ren B b)))) →
      W p l e R s m args below meth c H locs cells slots Q (F0 m pc ls (st0.map (fm_ren B b))))
    (k : fm_WW p l e R s m args below meth c B b nL wd aC D M0 Q g) : fm_WW p l e R s m args below meth c B b nL wd aC D M0 Q (pc, lo, st0, M) := by
  intro H locs ls hl ho hw hS
  obtain ⟨ho1, ho2⟩ := hst _ ho rfl
  rcases sm_st_inv h with ⟨hw0, hi, -, rfl⟩ | ⟨hw0, hi, rfl⟩
  · have e := hwd.1 hw0
    subst e
    refine row H locs _ _ ls _ hl.has (by rw [← hl.2.1]; exact hi) hl fun ls' h' => ?_
    exact k H locs ls' (hl.set1 hv (by rw [← hl.2.1]; exact hi) h') (ho1.set ho2) hw hS
  · have e := hwd.2 hw0
    subst e
    rw [hv] at hi
    have hi' : i < lo.length := by omega
    refine row H locs _ _ ls _ hl.has (by rw [← hl.2.1]; exact hi') hl fun ls' h' => ?_
    exact k H locs ls' (hl.set2 (by rw [hv, ← hl.2.1]; omega) (Or.inl ⟨hv, h'⟩)) (ho1.sto ho2) hw hS
theorem sm_istore_n {j : Fin 4} {w : List Nat} {x : Int32} (C : fm_Cx p s m args meth c sts ncs X B b nL aC D cc own) (hd : decode cc pc = .ok (.istore_n j, 1)) (hwd : (w = [] → wd = false) ∧ (w ≠ [] → wd = true)) (h : fm_st w (pc + 1) lo j (.inl (.int x)) st M = .inl g) (k : fm_WW p l e R s m args below meth c B b nL wd aC D M0 Q g) : fm_WW p l e R s m args below meth c B b nL wd aC D M0 Q (pc, lo, .inl (.int x) :: st, M) :=
  sm_store1 hwd h rfl (fun S ho _ => ⟨ho.tail, trivial⟩) (fun H locs cells slots ls lv h1 h2 _ kk => lv_istore_n C.1 C.2.1 hd rfl h1 h2 rfl kk) k
theorem sm_istore {j : Nat} {w : List Nat} {x : Int32} (C : fm_Cx p s m args meth c sts ncs X B b nL aC D cc own) (hd : decode cc pc = .ok (.istore j, 2)) (hwd : (w = [] → wd = false) ∧ (w ≠ [] → wd = true)) (h : fm_st w (pc + 2) lo j (.inl (.int x)) st M = .inl g) (k : fm_WW p l e R s m args below meth c B b nL wd aC D M0 Q g) : fm_WW p l e R s m args below meth c B b nL wd aC D M0 Q (pc, lo, .inl (.int x) :: st, M) :=
  sm_store1 hwd h rfl (fun S ho _ => ⟨ho.tail, trivial⟩) (fun H locs cells slots ls lv h1 h2 _ kk => lv_istore C.1 C.2.1 hd h1 h2 rfl kk) k
theorem sm_astore_n {j : Fin 4} {w : List Nat} {v : fm_V} (C : fm_Cx p s m args meth c sts ncs X B b nL aC D cc own) (hd : decode cc pc = .ok (.astore_n j, 1)) (hwd : (w = [] → wd = false) ∧ (w ≠ [] → wd = true)) (hv : fm_isA (some v) = true) (h : fm_st w (pc + 1) lo j v st M = .inl g) (k : fm_WW p l e R s m args below meth c B b nL wd aC D M0 Q g) : fm_WW p l e R s m args below meth c B b nL wd aC D M0 Q (pc, lo, v :: st, M) := by
  obtain ⟨h1, a, ha⟩ := sm_isA (B := B) (b := b) hv
  refine sm_store1 hwd h h1 (fun S ho _ => ⟨ho.tail, ho.hd⟩) (fun H locs cells slots ls lv g1 g2 _ kk => ?_) k
  rw [ha] at kk
  simp only [List.map_cons]
  rw [ha]
  exact lv_astore_n C.1 C.2.1 hd rfl g1 g2 rfl kk
theorem sm_astore {j : Nat} {w : List Nat} {v : fm_V} (C : fm_Cx p s m args meth c sts ncs X B b nL aC D cc own) (hd : decode cc pc = .ok (.astore j, 2)) (hwd : (w = [] → wd = false) ∧ (w ≠ [] → wd = true)) (hv : fm_isA (some v) = true) (h : fm_st w (pc + 2) lo j v st M = .inl g) (k : fm_WW p l e R s m args below meth c B b nL wd aC D M0 Q g) : fm_WW p l e R s m args below meth c B b nL wd aC D M0 Q (pc, lo, v :: st, M) := by
  obtain ⟨h1, a, ha⟩ := sm_isA (B := B) (b := b) hv
  refine sm_store1 hwd h h1 (fun S ho _ => ⟨ho.tail, ho.hd⟩) (fun H locs cells slots ls lv g1 g2 _ kk => ?_) k
  rw [ha] at kk
  simp only [List.map_cons]
  rw [ha]
  exact lv_astore C.1 C.2.1 hd g1 g2 rfl kk
theorem sm_iinc {j : Nat} {n : Int} {w : List Nat} {x : Int32} (C : fm_Cx p s m args meth c sts ncs X B b nL aC D cc own) (hd : decode cc pc = .ok (.iinc j n, 3)) (hwd : (w = [] → wd = false) ∧ (w ≠ [] → wd = true)) (hx : fm_ld lo j = some (.inl (.int x))) (h : fm_st w (pc + 3) lo j (.inl (.int (x + fm_k n))) st M = .inl g) (k : fm_WW p l e R s m args below meth c B b nL wd aC D M0 Q g) : fm_WW p l e R s m args below meth c B b nL wd aC D M0 Q (pc, lo, st, M) := by
  refine sm_store1 hwd h rfl (fun S ho _ => ⟨ho, trivial⟩) (fun H locs cells slots ls lv g1 g2 hl kk => ?_) k
  have hh := hl.has
  obtain ⟨q, hq⟩ := List.getElem?_of_mem (fm_pl_in (B := B) (b := b) (fm_ld_some hx))
  have h0 : lv_has ls nL ((j, Value.int x) :: lv) := ⟨g1.1, g1.2.1, fun y hy => (List.mem_cons.mp hy).elim (fun e => by rw [e]; exact lv_at hh q hq) (g1.2.2 y)⟩
  refine lv_iinc C.1 C.2.1 hd h0 (k := 0) rfl (by rw [fm_k_const]) g2 rfl fun ls' h' => kk ls' ?_
  simp only [List.filter_cons, beq_self_eq_true, Bool.not_true, Bool.false_and] at h'
  exact h'
theorem sm_dstore {j : Nat} {w : Nat} {x : UInt64} (C : fm_Cx p s m args meth c sts ncs X B b nL aC D cc own) (hd : decode cc pc = .ok (.dstore j, 2)) (hwd : wd = true) (h : fm_st [w] (pc + 2) lo j (.inl (.double x)) st M = .inl g) (k : fm_WW p l e R s m args below meth c B b nL wd aC D M0 Q g) : fm_WW p l e R s m args below meth c B b nL wd aC D M0 Q (pc, lo, .inl (.double x) :: st, M) := by
  subst hwd
  rcases sm_st_inv h with ⟨hw0, -⟩ | ⟨-, hi, rfl⟩
  · cases hw0
  · intro H locs ls hl ho hw hS
    have hi' : j + 1 < lo.length := hi
    have hi2 : j + 1 < nL := by rw [← hl.2.1]; exact hi'
    refine lv_dstore C.1 C.2.1 hd hl.has hi2 rfl fun ls' h' => ?_
    have hl2 : fm_LH B b nL true ls' (fm_sto lo j (.inl (.double x))) := fm_LH.set2 (lo := lo) (i := j) (v := .inl (.double x)) hl hi2 (Or.inr ⟨rfl, h'⟩)
    have ho2 : fm_ok M.2 (fm_sto lo j (.inl (.double x))) st := fm_ok.sto (v := .inl (.double x)) (fm_ok.tail ho) trivial
    exact k H locs ls' hl2 ho2 hw hS
end FMS
end
section
section FMS3
variable {p : Program} {l : Launch} {e : Env} {R : Room} {s : State} {m : MethodId} {args : Array Value} {below : List Frame} {meth : Method} {c : Code}
variable {sts : fm_St} {ncs : fm_Nc} {X : Nat × (Nat → Int32)} {B b nL : Nat} {wd : Bool} {aC : Nat → ClassId} {D : va_G} {M0 : fm_M} {Q : State → Prop} {cc : ByteArray} {own : String}
variable {pc : Nat} {lo : List (Option fm_V)} {st : List fm_V} {M : fm_M} {g : fm_F}
/-- a step that touches the stack alone -/
theorem sm_stack {nx : Nat} {s0 s1 : List fm_V} (hok : ∀ S, fm_ok S lo s0 → fm_ok S lo s1)
    (row : ∀ (H : Heap) (locs : List Loc) (cells slots : Nat) (ls : Array Slot), W p l e R s m args below meth c H locs cells slots Q (F0 m nx ls (s1.map (fm_ren B b))) → W p l e R s m args below meth c H locs cells slots Q (F0 m pc ls (s0.map (fm_ren B b))))
    (k : fm_WW p l e R s m args below meth c B b nL wd aC D M0 Q (nx, lo, s1, M)) : fm_WW p l e R s m args below meth c B b nL wd aC D M0 Q (pc, lo, s0, M) := by
  intro H locs ls hl ho hw hS
  exact row _ _ _ _ _ (k H locs ls hl (hok _ ho) hw hS)
theorem sm_bin_inv {nx : Nat} {op : Int32 → Int32 → Int32} (h : fm_bin nx lo st M op = .inl g) : ∃ x y r, st = .inl (.int y) :: .inl (.int x) :: r ∧ g = (nx, lo, .inl (.int (op x y)) :: r, M) := by
  unfold fm_bin at h
  split at h
  · rename_i y x r; cases h; exact ⟨x, y, r, rfl, rfl⟩
  · cases h
theorem sm_bin {nx : Nat} {op : Int32 → Int32 → Int32} (h : fm_bin nx lo st M op = .inl g)
    (row : ∀ (H : Heap) (locs : List Loc) (cells slots : Nat) (ls : Array Slot) (x y : Int32) (rest : List Value), W p l e R s m args below meth c H locs cells slots Q (F0 m nx ls (.int (op x y) :: rest)) → W p l e R s m args below meth c H locs cells slots Q (F0 m pc ls (.int y :: .int x :: rest)))
    (k : fm_WW p l e R s m args below meth c B b nL wd aC D M0 Q g) : fm_WW p l e R s m args below meth c B b nL wd aC D M0 Q (pc, lo, st, M) := by
  obtain ⟨x, y, r, rfl, rfl⟩ := sm_bin_inv h
  exact sm_stack (fun S ho => fm_ok.push (v := .inl (.int (op x y))) ho.tail.tail trivial) (fun H locs cells slots ls kk => row H locs cells slots ls x y _ kk) k
theorem sm_un {nx : Nat} {op : Int32 → fm_V} (h : fm_un nx lo st M op = .inl g) (hv : ∀ S x, fm_vok S (op x))
    (row : ∀ (H : Heap) (locs : List Loc) (cells slots : Nat) (ls : Array Slot) (x : Int32) (rest : List Value), W p l e R s m args below meth c H locs cells slots Q (F0 m nx ls (fm_ren B b (op x) :: rest)) → W p l e R s m args below meth c H locs cells slots Q (F0 m pc ls (.int x :: rest)))
    (k : fm_WW p l e R s m args below meth c B b nL wd aC D M0 Q g) : fm_WW p l e R s m args below meth c B b nL wd aC D M0 Q (pc, lo, st, M) := by
  unfold fm_un at h
  split at h
  · rename_i x r
    cases h
    exact sm_stack (fun S ho => ho.tail.push (hv _ _)) (fun H locs cells slots ls kk => row H locs cells slots ls x _ kk) k
  · cases h
/-- a branch on one int -/
theorem sm_if {tg nx : Nat} {cnd : Int32 → Prop} {d : ∀ x, Decidable (cnd x)} {q : fm_P} {g2 : fm_F} (h : fm_if tg nx lo st M cnd d = .inr (.inr (.inl (q, g, g2))))
    (row : ∀ (H : Heap) (locs : List Loc) (cells slots : Nat) (ls : Array Slot) (x : Int32) (rest : List Value), (cnd x → W p l e R s m args below meth c H locs cells slots Q (F0 m tg ls rest)) → (¬ cnd x → W p l e R s m args below meth c H locs cells slots Q (F0 m nx ls rest)) → W p l e R s m args below meth c H locs cells slots Q (F0 m pc ls (.int x :: rest)))
    (k1 : q.1 → fm_WW p l e R s m args below meth c B b nL wd aC D M0 Q g) (k2 : ¬ q.1 → fm_WW p l e R s m args below meth c B b nL wd aC D M0 Q g2) : fm_WW p l e R s m args below meth c B b nL wd aC D M0 Q (pc, lo, st, M) := by
  unfold fm_if at h
  split at h
  · rename_i x r
    cases h
    intro H locs ls hl ho hw hS
    exact row H locs _ _ ls x _ (fun hc => k1 hc H locs ls hl ho.tail hw hS) (fun hc => k2 hc H locs ls hl ho.tail hw hS)
  · cases h
theorem sm_icmp {tg nx : Nat} {cnd : Int32 → Int32 → Prop} {d : ∀ x y, Decidable (cnd x y)} {q : fm_P} {g2 : fm_F} (h : fm_icmp tg nx lo st M cnd d = .inr (.inr (.inl (q, g, g2))))
    (row : ∀ (H : Heap) (locs : List Loc) (cells slots : Nat) (ls : Array Slot) (x y : Int32) (rest : List Value), (cnd x y → W p l e R s m args below meth c H locs cells slots Q (F0 m tg ls rest)) → (¬ cnd x y → W p l e R s m args below meth c H locs cells slots Q (F0 m nx ls rest)) → W p l e R s m args below meth c H locs cells slots Q (F0 m pc ls (.int y :: .int x :: rest)))
    (k1 : q.1 → fm_WW p l e R s m args below meth c B b nL wd aC D M0 Q g) (k2 : ¬ q.1 → fm_WW p l e R s m args below meth c B b nL wd aC D M0 Q g2) : fm_WW p l e R s m args below meth c B b nL wd aC D M0 Q (pc, lo, st, M) := by
  unfold fm_icmp at h
  split at h
  · rename_i y x r
    cases h
    intro H locs ls hl ho hw hS
    exact row H locs _ _ ls x y _ (fun hc => k1 hc H locs ls hl ho.tail.tail hw hS) (fun hc => k2 hc H locs ls hl ho.tail.tail hw hS)
  · cases h
theorem sm_ifCond {cd : ClassFile.Cond} {off : Int} {tg : Nat} {q : fm_P} {g2 : fm_F} (C : fm_Cx p s m args meth c sts ncs X B b nL aC D cc own) (hd : decode cc pc = .ok (.ifCond cd off, 3)) (ht : (pc : Int) + off = (tg : Int))
    (h : fm_step X (pc, .ifCond cd off, 3, [tg]) lo st M = .inr (.inr (.inl (q, g, g2)))) (k1 : q.1 → fm_WW p l e R s m args below meth c B b nL wd aC D M0 Q g) (k2 : ¬ q.1 → fm_WW p l e R s m args below meth c B b nL wd aC D M0 Q g2) : fm_WW p l e R s m args below meth c B b nL wd aC D M0 Q (pc, lo, st, M) := by
  cases cd with
  | eq => exact sm_if (g2 := g2) h (fun H locs cells slots ls x rest a1 a2 => lv_if_eq C.1 C.2.1 hd ht a1 a2) k1 k2
  | ne => exact sm_if (g2 := g2) h (fun H locs cells slots ls x rest a1 a2 => lv_if_ne C.1 C.2.1 hd ht (fun hn => a2 hn) (fun hn => a1 hn)) k1 k2
  | lt => exact sm_if (g2 := g2) h (fun H locs cells slots ls x rest a1 a2 => lv_if_lt C.1 C.2.1 hd ht a1 a2) k1 k2
  | ge => exact sm_if (g2 := g2) h (fun H locs cells slots ls x rest a1 a2 => lv_if_ge C.1 C.2.1 hd ht a1 a2) k1 k2
  | gt => exact sm_if (g2 := g2) h (fun H locs cells slots ls x rest a1 a2 => lv_if_gt C.1 C.2.1 hd ht a1 a2) k1 k2
  | le => exact sm_if (g2 := g2) h (fun H locs cells slots ls x rest a1 a2 => lv_if_le C.1 C.2.1 hd ht a1 a2) k1 k2
theorem sm_ifIcmp {cd : ClassFile.Cond} {off : Int} {tg : Nat} {q : fm_P} {g2 : fm_F} (C : fm_Cx p s m args meth c sts ncs X B b nL aC D cc own) (hd : decode cc pc = .ok (.if_icmp cd off, 3)) (ht : (pc : Int) + off = (tg : Int))
    (h : fm_step X (pc, .if_icmp cd off, 3, [tg]) lo st M = .inr (.inr (.inl (q, g, g2)))) (k1 : q.1 → fm_WW p l e R s m args below meth c B b nL wd aC D M0 Q g) (k2 : ¬ q.1 → fm_WW p l e R s m args below meth c B b nL wd aC D M0 Q g2) : fm_WW p l e R s m args below meth c B b nL wd aC D M0 Q (pc, lo, st, M) := by
  cases cd with
  | eq => exact sm_icmp (g2 := g2) h (fun H locs cells slots ls x y rest a1 a2 => lv_icmp_eq C.1 C.2.1 hd ht a1 a2) k1 k2
  | ne => exact sm_icmp (g2 := g2) h (fun H locs cells slots ls x y rest a1 a2 => lv_icmp_ne C.1 C.2.1 hd ht (fun hn => a2 hn) (fun hn => a1 hn)) k1 k2
  | lt => exact sm_icmp (g2 := g2) h (fun H locs cells slots ls x y rest a1 a2 => lv_icmp_lt C.1 C.2.1 hd ht a1 a2) k1 k2
  | ge => exact sm_icmp (g2 := g2) h (fun H locs cells slots ls x y rest a1 a2 => lv_icmp_ge C.1 C.2.1 hd ht a1 a2) k1 k2
  | gt => exact sm_icmp (g2 := g2) h (fun H locs cells slots ls x y rest a1 a2 => lv_icmp_gt C.1 C.2.1 hd ht a1 a2) k1 k2
  | le => exact sm_icmp (g2 := g2) h (fun H locs cells slots ls x y rest a1 a2 => lv_icmp_le C.1 C.2.1 hd ht a1 a2) k1 k2
/-- an object's cell -/
theorem fm_obj_at {H : Heap} {cI : Nat} {q : fm_Sc} (hw : fm_Wd B aC D M H) (h : M.2[cI]? = some q) (hq : q.1 < 7) : (fm_ws B aC M)[cI]? = some (B + cI, .inr (q.1, fm_fields B M.1 cI q)) ∧ fm_fN[q.1]? = some q.2.1 := by
  refine ⟨?_, ?_⟩
  · rw [fm_ws_get h]
    unfold fm_ent
    rw [if_pos hq]
  · rcases hw.2.2.2.2.1 cI q h with h1 | h1
    · exact h1.2
    · omega
theorem fm_fields_at {N : fm_N} {cI k : Nat} {q : fm_Sc} (h : k < q.2.1) : (fm_fields B N cI q)[k]? = some (fm_fv B N cI ((fm_fks.getD q.1 []).getD k 9) k q.2.2) := by
  unfold fm_fields
  rw [List.getElem?_map, List.getElem?_range h]
  rfl
theorem fm_fields_len {N : fm_N} {cI : Nat} {q : fm_Sc} : (fm_fields B N cI q).length = q.2.1 := by
  simp [fm_fields]
theorem fm_scr_ne {S : List fm_Sc} {cI : Nat} {q : fm_Sc} (h : S[cI]? = some q) (hl : S.length ≤ 1000) : ¬ cI = fm_scr := fun e => by
  have hc : cI < S.length := (List.getElem?_eq_some_iff.mp h).1
  have h1 : (999999 : Nat) < S.length := by rw [e] at hc; exact hc
  omega
theorem fm_ren_ref {cI : Nat} (h : ¬ cI = fm_scr) : fm_ren B b (.inl (.ref cI)) = .ref (B + cI) := by
  show Value.ref (if cI = fm_scr then b else B + cI) = _
  rw [if_neg h]
theorem fm_len_of {S : List fm_Sc} {cI : Nat} {q : fm_Sc} (h : S[cI]? = some q) : cI < S.length := (List.getElem?_eq_some_iff.mp h).1
/-- what getfield reads -/
theorem fm_getf_at {H : Heap} {ci k fk : Nat} {v w : fm_V} (hw : fm_Wd B aC D M H) (hv : fm_vok M.2 v) (h : fm_getf ci k fk v M = some w) (hfk : (fm_fks.getD ci []).getD k 9 = fk) (hci : ci < 7) (hk : k < fm_n ci) : ∃ cI fs, fm_ren B b v = .ref (B + cI) ∧ (fm_ws B aC M)[cI]? = some (B + cI, .inr (ci, fs)) ∧ fs[k]? = some (fm_ren B b w) ∧ fm_vok M.2 w := by
  unfold fm_getf at h
  split at h
  · rename_i cI
    split at h
    · rename_i q hq
      cases hb : Nat.beq q.1 ci
      · rw [hb, cond_false] at h; cases h
      · rw [hb, cond_true] at h
        have hqc := Nat.eq_of_beq_eq_true hb
        subst hqc
        obtain ⟨o1, o2⟩ := fm_obj_at hw hq hci
        have hk2 : k < q.2.1 := by rw [← fm_fN_n o2]; exact hk
        have hsc := fm_scr_ne hq hw.2.1
        refine ⟨cI, _, fm_ren_ref hsc, o1, ?_, ?_⟩
        · rw [fm_fields_at hk2, hfk]
          congr 1
          unfold fm_fv
          match fk, h with
          | 0, h => cases h; rfl
          | 1, h => cases h; rfl
          | f + 2, h =>
            (try dsimp only at h)
            (try dsimp only)
            cases hr : q.2.2[k]? with
            | none => rw [hr] at h; cases h
            | some r =>
              rw [hr] at h
              cases h
              rw [List.getD, hr]
              cases r with
              | none => rfl
              | some j =>
                have hj : j < M.2.length := hw.2.2.2.2.2.1 cI q hq k j hr
                have hjs : ¬ j = fm_scr := fun e => by
                  have h1 : (999999 : Nat) < M.2.length := by rw [e] at hj; exact hj
                  have := hw.2.1
                  omega
                show va_rf (some (B + j)) = fm_ren B b (.inl (.ref j))
                rw [fm_ren_ref hjs]
                rfl
        · match fk, h with
          | 0, h => cases h; trivial
          | 1, h => cases h; trivial
          | f + 2, h =>
            (try dsimp only at h)
            cases hr : q.2.2[k]? with
            | none => rw [hr] at h; cases h
            | some r =>
              rw [hr] at h
              cases h
              cases r <;> trivial
    · cases h
  · rename_i t j
    cases hb : (Nat.beq t 0 && Nat.beq ci 4 && fm_pool M.2)
    · rw [hb, cond_false] at h; cases h
    · rw [hb, cond_true] at h
      simp only [Bool.and_eq_true] at hb
      have ht := Nat.eq_of_beq_eq_true hb.1.1
      have hc4 := Nat.eq_of_beq_eq_true hb.1.2
      subst ht
      subst hc4
      obtain ⟨p0, p1, p2⟩ := fm_pool_at hb.2 hv.2.1
      obtain ⟨o1, o2⟩ := fm_obj_at hw p0 (show 4 < 7 by decide)
      have hfk4 : fm_fks.getD 4 [] = [2, 2, 0] := rfl
      refine ⟨fm_pc 0 j, _, rfl, o1, ?_, ?_⟩
      · match k, h with
        | 0, h => cases h; rw [fm_fields_at (show 0 < 3 by decide)]; rfl
        | 1, h => cases h; rw [fm_fields_at (show 1 < 3 by decide)]; rfl
        | 2, h => cases h; rw [fm_fields_at (show 2 < 3 by decide)]; rfl
        | k + 3, h => cases h
      · match k, h with
        | 0, h => cases h; exact ⟨show 1 < 3 by decide, hv.2.1, hb.2⟩
        | 1, h => cases h; exact ⟨show 2 < 3 by decide, hv.2.1, hb.2⟩
        | 2, h => cases h; trivial
        | k + 3, h => cases h
  · cases h
end FMS3
end
section
section FMS4
variable {p : Program} {l : Launch} {e : Env} {R : Room} {s : State} {m : MethodId} {args : Array Value} {below : List Frame} {meth : Method} {c : Code}
variable {sts : fm_St} {ncs : fm_Nc} {X : Nat × (Nat → Int32)} {B b nL : Nat} {wd : Bool} {aC : Nat → ClassId} {D : va_G} {M0 : fm_M} {Q : State → Prop} {cc : ByteArray} {own : String}
variable {pc : Nat} {lo : List (Option fm_V)} {st : List fm_V} {M : fm_M} {g : fm_F}
theorem fm_word {w : Cond} (C : fm_Cx p s m args meth c sts ncs X B b nL aC D cc own) (hw : w ∈ lw_tbl) (hg : goodWord w = true) : w.before args s = true := C.2.2.2.2.1 w (List.mem_filter.mpr ⟨hw, hg⟩)
theorem fm_wordN {w : Cond} (C : fm_Cx p s m args meth c sts ncs X B b nL aC D cc own) (hw : w ∈ lw_tbl) (hg : fm_mv w = true) (ho : w.onTables = true) : w.before args s = true := va_Nw.use ho (C.2.2.2.2.2.1.2.1 w hw hg)
theorem sm_ald_inv {kd nx : Nat} {G : Nat → Int32 → fm_V} {q : fm_P} (h : fm_ald kd G nx lo st M = .inr (.inl (q, g))) : ∃ i a r x, st = .inl (.int i) :: a :: r ∧ fm_arr a M.2 = some x ∧ x.2.1 = kd ∧ (q.1 → vp_in i x.2.2) ∧ g = (nx, lo, G x.1 i :: r, M) := by
  unfold fm_ald at h
  split at h
  · rename_i i a r
    split at h
    · rename_i x hx
      cases hb : Nat.beq x.2.1 kd
      · rw [hb, cond_false] at h; cases h
      · rw [hb, cond_true] at h
        cases h
        exact ⟨i, a, r, x, rfl, hx, Nat.eq_of_beq_eq_true hb, fun hq => hq, rfl⟩
    · cases h
  · cases h
theorem fm_arrE {H : Heap} {a : fm_V} {x : Nat × Nat × Nat} (hw : fm_Wd B aC D M H) (h : fm_arr a M.2 = some x) (hv : fm_vok M.2 a) (b : Nat) : ∃ rs, M.2[x.1]? = some (x.2.1, x.2.2, rs) ∧ fm_ren B b a = .ref (B + x.1) ∧ (fm_ws B aC M)[x.1]? = some (B + x.1, fm_ent B aC M.1 x.1 (x.2.1, x.2.2, rs)) := by
  obtain ⟨rs, h1, h2⟩ := fm_arr_at h hv hw.2.1 B b
  exact ⟨rs, h1, h2, fm_ws_get h1⟩
theorem sm_ald {kd nx : Nat} {G : Nat → Int32 → fm_V} {q : fm_P} (h : fm_ald kd G nx lo st M = .inr (.inl (q, g))) (hq : q.1) (hG : ∀ c i, fm_vok M.2 (G c i))
    (row : ∀ (H : Heap) (locs : List Loc) (cells slots : Nat) (ls : Array Slot) (i : Int32) (c0 n : Nat) (rs : List (Option Nat)) (rest : List Value), va_P D fm_cls (fm_ws B aC M) H → (fm_ws B aC M)[c0]? = some (B + c0, fm_ent B aC M.1 c0 (kd, n, rs)) → vp_in i n → W p l e R s m args below meth c H locs cells slots Q (F0 m nx ls (fm_ren B b (G c0 i) :: rest)) → W p l e R s m args below meth c H locs cells slots Q (F0 m pc ls (.int i :: .ref (B + c0) :: rest)))
    (k : fm_WW p l e R s m args below meth c B b nL wd aC D M0 Q g) : fm_WW p l e R s m args below meth c B b nL wd aC D M0 Q (pc, lo, st, M) := by
  obtain ⟨i, a, r, x, rfl, hx, hk, hin, rfl⟩ := sm_ald_inv h
  intro H locs ls hl ho hw hS
  obtain ⟨rs, h1, h2, h3⟩ := fm_arrE hw hx ho.tail.hd b
  rw [hk] at h3
  have hg := k H locs ls hl (ho.tail.tail.push (hG _ _)) hw hS
  simp only [List.map_cons]
  rw [h2]
  exact row H locs _ _ ls i x.1 x.2.2 rs _ hw.1 h3 (hin hq) hg
theorem sm_iaload {q : fm_P} (C : fm_Cx p s m args meth c sts ncs X B b nL aC D cc own) (hd : decode cc pc = .ok (.iaload, 1)) (h : fm_ald 10 (fun c i => .inl (.int (M.1.1 c i.toNatClampNeg))) (pc + 1) lo st M = .inr (.inl (q, g))) (hq : q.1) (k : fm_WW p l e R s m args below meth c B b nL wd aC D M0 Q g) : fm_WW p l e R s m args below meth c B b nL wd aC D M0 Q (pc, lo, st, M) :=
  sm_ald h hq (fun _ _ => trivial) (fun H locs cells slots ls i c0 n rs rest hP ha hin kk => va_iald C.1 C.2.1 C.2.2.2.2.2.1.1 hP c0 0 ha rfl hin hd kk) k
theorem sm_baload {q : fm_P} (C : fm_Cx p s m args meth c sts ncs X B b nL aC D cc own) (hd : decode cc pc = .ok (.baload, 1)) (h : fm_ald 11 (fun c i => .inl (.int (M.1.1 c i.toNatClampNeg))) (pc + 1) lo st M = .inr (.inl (q, g))) (hq : q.1) (k : fm_WW p l e R s m args below meth c B b nL wd aC D M0 Q g) : fm_WW p l e R s m args below meth c B b nL wd aC D M0 Q (pc, lo, st, M) :=
  sm_ald h hq (fun _ _ => trivial) (fun H locs cells slots ls i c0 n rs rest hP ha hin kk => va_zald C.1 C.2.1 C.2.2.2.2.2.1.1 hP c0 1 ha rfl hin hd kk) k
theorem sm_laload {q : fm_P} (C : fm_Cx p s m args meth c sts ncs X B b nL aC D cc own) (hd : decode cc pc = .ok (.laload, 1)) (h : fm_ald 12 (fun c i => .inl (.long (M.1.2.1 c i.toNatClampNeg))) (pc + 1) lo st M = .inr (.inl (q, g))) (hq : q.1) (k : fm_WW p l e R s m args below meth c B b nL wd aC D M0 Q g) : fm_WW p l e R s m args below meth c B b nL wd aC D M0 Q (pc, lo, st, M) :=
  sm_ald h hq (fun _ _ => trivial) (fun H locs cells slots ls i c0 n rs rest hP ha hin kk => va_lald C.1 C.2.1 C.2.2.2.2.2.1.1 hP c0 2 ha rfl hin hd kk) k
theorem sm_daload {q : fm_P} (C : fm_Cx p s m args meth c sts ncs X B b nL aC D cc own) (hd : decode cc pc = .ok (.daload, 1)) (h : fm_ald 13 (fun c i => .inl (.double (M.1.2.2.1 c i.toNatClampNeg))) (pc + 1) lo st M = .inr (.inl (q, g))) (hq : q.1) (k : fm_WW p l e R s m args below meth c B b nL wd aC D M0 Q g) : fm_WW p l e R s m args below meth c B b nL wd aC D M0 Q (pc, lo, st, M) :=
  sm_ald h hq (fun _ _ => trivial) (fun H locs cells slots ls i c0 n rs rest hP ha hin kk => va_dald C.1 C.2.1 C.2.2.2.2.2.1.1 hP c0 3 ha rfl hin hd kk) k
theorem fm_ren_scr : fm_ren B b (.inl (.ref fm_scr)) = .ref b := by
  show Value.ref (if fm_scr = fm_scr then b else B + fm_scr) = _
  rw [if_pos rfl]
/-- the script's ints and length -/
theorem sm_sload {i : Int32} (C : fm_Cx p s m args meth c sts ncs X B b nL aC D cc own) (hd : decode cc pc = .ok (.iaload, 1)) (hin : vp_in i X.1) (k : fm_WW p l e R s m args below meth c B b nL wd aC D M0 Q (pc + 1, lo, .inl (.int (X.2 i.toNatClampNeg)) :: st, M)) : fm_WW p l e R s m args below meth c B b nL wd aC D M0 Q (pc, lo, .inl (.int i) :: .inl (.ref fm_scr) :: st, M) := by
  intro H locs ls hl ho hw hS
  obtain ⟨h1, h2, h3, h4, h5, h6, h7, h8, h9, h10⟩ := C.2.2.2.2.2.1
  have hb1 : b < s.heap.size := by omega
  have hb2 : ¬ B ≤ b := by omega
  simp only [List.map_cons]
  rw [fm_ren_scr]
  exact va_sld C.1 C.2.1 h8 hb1 hb2 hS hin hd (k H locs ls hl (fm_ok.push (v := .inl (.int (X.2 i.toNatClampNeg))) ho.tail.tail trivial) hw hS)
theorem sm_slen (C : fm_Cx p s m args meth c sts ncs X B b nL aC D cc own) (hd : decode cc pc = .ok (.arraylength, 1)) (k : fm_WW p l e R s m args below meth c B b nL wd aC D M0 Q (pc + 1, lo, .inl (.int (nI X.1)) :: st, M)) : fm_WW p l e R s m args below meth c B b nL wd aC D M0 Q (pc, lo, .inl (.ref fm_scr) :: st, M) := by
  intro H locs ls hl ho hw hS
  obtain ⟨h1, h2, h3, h4, h5, h6, h7, h8, h9, h10⟩ := C.2.2.2.2.2.1
  have hb1 : b < s.heap.size := by omega
  have hb2 : ¬ B ≤ b := by omega
  simp only [List.map_cons]
  rw [fm_ren_scr]
  exact va_slen C.1 C.2.1 h8 hb1 hb2 hS hd (k H locs ls hl (fm_ok.push (v := .inl (.int (nI X.1))) ho.tail trivial) hw hS)
theorem fm_refs_at {i : Nat} (h : i < 12) : fm_poolRefs.getD i none = some (fm_pc 0 i) := by
  unfold fm_poolRefs
  rw [List.getD, List.getElem?_map, List.getElem?_range h]
  rfl
theorem sm_aaload {i : Int32} {c0 : Nat} (C : fm_Cx p s m args meth c sts ncs X B b nL aC D cc own) (hd : decode cc pc = .ok (.aaload, 1)) (hp : fm_pool M.2 = true) (hc : M.2[c0]? = some (14, 12, fm_poolRefs)) (hin : vp_in i 12) (k : fm_WW p l e R s m args below meth c B b nL wd aC D M0 Q (pc + 1, lo, .inr (0, i.toNatClampNeg) :: st, M)) : fm_WW p l e R s m args below meth c B b nL wd aC D M0 Q (pc, lo, .inl (.int i) :: .inl (.ref c0) :: st, M) := by
  intro H locs ls hl ho hw hS
  have hlt : i.toNatClampNeg < 12 := Nat.not_le.mp fun q => hin (Or.inr q)
  have hg := k H locs ls hl (fm_ok.push (v := .inr (0, i.toNatClampNeg)) ho.tail.tail ⟨show 0 < 3 by decide, hlt, hp⟩) hw hS
  simp only [List.map_cons]
  rw [fm_ren_ref (fm_scr_ne hc hw.2.1)]
  refine va_aldq C.1 C.2.1 C.2.2.2.2.2.1.1 hw.1 c0 4 (fm_ws_get hc) rfl hin hd ?_
  dsimp only
  rw [fm_refs_at hlt]
  exact hg
/-- a world with one cell's numbers changed -/
theorem fm_Wd.upd {H H1 : Heap} {M' : fm_M} {cI : Nat} {q : fm_Sc} (hw : fm_Wd B aC D M H) (h : M.2[cI]? = some q) (hS : M'.2 = M.2) (hG : M'.1.2.2.2 = M.1.2.2.2) (hN : ∀ d, d ≠ cI → M'.1.1 d = M.1.1 d ∧ M'.1.2.1 d = M.1.2.1 d ∧ M'.1.2.2.1 d = M.1.2.2.1 d)
    (hP : va_P D fm_cls ((fm_ws B aC M).set cI (B + cI, fm_ent B aC M'.1 cI q)) H1) (hz : H1.size = H.size) : fm_Wd B aC D M' H1 := by
  obtain ⟨w1, w2, w3, w4, w5, w6, w7⟩ := hw
  rw [fm_ws_same h hS hN] at hP
  have hl := fm_len_of h
  refine ⟨hP, by rw [hS]; exact w2, by rw [hS, hz]; exact w3, by rw [hS, hG, hz]; exact w4, by rw [hS]; exact w5, by rw [hS]; exact w6, fun d hd i => ?_⟩
  rw [hS] at hd
  obtain ⟨e1, e2, e3⟩ := hN d (by omega)
  rw [e1, e2, e3]
  exact w7 d hd i
theorem fm_uI_self {α : Type} (f : Nat → Nat → α) (cI i : Nat) (v : α) : fm_uI f cI i v cI = fun j => if j = i then v else f cI j := by
  funext j
  simp [fm_uI]
theorem fm_uI_ne {α : Type} (f : Nat → Nat → α) {cI d : Nat} (i : Nat) (v : α) (h : d ≠ cI) : fm_uI f cI i v d = f d := by
  funext j
  simp [fm_uI, h]
theorem sm_iastore {i x : Int32} {a : fm_V} {y : Nat × Nat × Nat} (C : fm_Cx p s m args meth c sts ncs X B b nL aC D cc own) (hd : decode cc pc = .ok (.iastore, 1)) (hy : fm_arr a M.2 = some y) (hk : y.2.1 = 10) (hin : vp_in i y.2.2) (k : fm_WW p l e R s m args below meth c B b nL wd aC D M0 Q (pc + 1, lo, st, ((fm_uI M.1.1 y.1 i.toNatClampNeg x, M.1.2), M.2))) : fm_WW p l e R s m args below meth c B b nL wd aC D M0 Q (pc, lo, .inl (.int x) :: .inl (.int i) :: a :: st, M) := by
  intro H locs ls hl ho hw hS
  obtain ⟨rs, h1, h2, h3⟩ := fm_arrE hw hy ho.tail.tail.hd b
  rw [hk] at h1 h3
  simp only [List.map_cons]
  rw [h2]
  refine fr_iast C.1 C.2.1 C.2.2.2.2.2.1.1 hw.1 (fm_ws_D B aC M) hS y.1 0 h3 rfl hin hd fun H1 locs1 hP1 hz1 hS1 => ?_
  refine k H1 locs1 ls hl ho.tail.tail.tail (hw.upd (M' := ((fm_uI M.1.1 y.1 i.toNatClampNeg x, M.1.2), M.2)) h1 rfl rfl (fun d hdn => ⟨fm_uI_ne _ _ _ hdn, rfl, rfl⟩) ?_ hz1) hS1
  have e1 : fm_ent B aC ((fm_uI M.1.1 y.1 i.toNatClampNeg x, M.1.2), M.2).1 y.1 (10, y.2.2, rs) = .inl (aC 0, y.2.2, .inl (upd (M.1.1 y.1) i.toNatClampNeg x)) := by
    show (Sum.inl (aC 0, y.2.2, Sum.inl (fm_uI M.1.1 y.1 i.toNatClampNeg x y.1)) : va_E) = _
    rw [fm_uI_self]
    rfl
  rw [e1]
  exact hP1
theorem sm_bastore {i x : Int32} {a : fm_V} {y : Nat × Nat × Nat} (C : fm_Cx p s m args meth c sts ncs X B b nL aC D cc own) (hd : decode cc pc = .ok (.bastore, 1)) (hy : fm_arr a M.2 = some y) (hk : y.2.1 = 11) (hin : vp_in i y.2.2) (k : fm_WW p l e R s m args below meth c B b nL wd aC D M0 Q (pc + 1, lo, st, ((fm_uI M.1.1 y.1 i.toNatClampNeg (fm_nb x), M.1.2), M.2))) : fm_WW p l e R s m args below meth c B b nL wd aC D M0 Q (pc, lo, .inl (.int x) :: .inl (.int i) :: a :: st, M) := by
  intro H locs ls hl ho hw hS
  obtain ⟨rs, h1, h2, h3⟩ := fm_arrE hw hy ho.tail.tail.hd b
  rw [hk] at h1 h3
  simp only [List.map_cons]
  rw [h2]
  refine fr_zast C.1 C.2.1 C.2.2.2.2.2.1.1 hw.1 (fm_ws_D B aC M) hS y.1 1 h3 rfl hin hd fun H1 locs1 hP1 hz1 hS1 => ?_
  refine k H1 locs1 ls hl ho.tail.tail.tail (hw.upd (M' := ((fm_uI M.1.1 y.1 i.toNatClampNeg (fm_nb x), M.1.2), M.2)) h1 rfl rfl (fun d hdn => ⟨fm_uI_ne _ _ _ hdn, rfl, rfl⟩) ?_ hz1) hS1
  have e1 : fm_ent B aC ((fm_uI M.1.1 y.1 i.toNatClampNeg (fm_nb x), M.1.2), M.2).1 y.1 (11, y.2.2, rs) = .inl (aC 1, y.2.2, .inl (upd (M.1.1 y.1) i.toNatClampNeg (vp_nar .boolean x))) := by
    show (Sum.inl (aC 1, y.2.2, Sum.inl (fm_uI M.1.1 y.1 i.toNatClampNeg (fm_nb x) y.1)) : va_E) = _
    rw [fm_uI_self]
    rfl
  rw [e1]
  exact hP1
theorem sm_lastore {i : Int32} {x : Int64} {a : fm_V} {y : Nat × Nat × Nat} (C : fm_Cx p s m args meth c sts ncs X B b nL aC D cc own) (hd : decode cc pc = .ok (.lastore, 1)) (hy : fm_arr a M.2 = some y) (hk : y.2.1 = 12) (hin : vp_in i y.2.2) (k : fm_WW p l e R s m args below meth c B b nL wd aC D M0 Q (pc + 1, lo, st, ((M.1.1, fm_uI M.1.2.1 y.1 i.toNatClampNeg x, M.1.2.2), M.2))) : fm_WW p l e R s m args below meth c B b nL wd aC D M0 Q (pc, lo, .inl (.long x) :: .inl (.int i) :: a :: st, M) := by
  intro H locs ls hl ho hw hS
  obtain ⟨rs, h1, h2, h3⟩ := fm_arrE hw hy ho.tail.tail.hd b
  rw [hk] at h1 h3
  simp only [List.map_cons]
  rw [h2]
  refine fr_last C.1 C.2.1 C.2.2.2.2.2.1.1 hw.1 (fm_ws_D B aC M) hS y.1 2 h3 rfl hin hd fun H1 locs1 hP1 hz1 hS1 => ?_
  refine k H1 locs1 ls hl ho.tail.tail.tail (hw.upd (M' := ((M.1.1, fm_uI M.1.2.1 y.1 i.toNatClampNeg x, M.1.2.2), M.2)) h1 rfl rfl (fun d hdn => ⟨rfl, fm_uI_ne _ _ _ hdn, rfl⟩) ?_ hz1) hS1
  have e1 : fm_ent B aC ((M.1.1, fm_uI M.1.2.1 y.1 i.toNatClampNeg x, M.1.2.2), M.2).1 y.1 (12, y.2.2, rs) = .inl (aC 2, y.2.2, .inr (.inl (vp_updL (M.1.2.1 y.1) i.toNatClampNeg x))) := by
    show (Sum.inl (aC 2, y.2.2, Sum.inr (Sum.inl (fm_uI M.1.2.1 y.1 i.toNatClampNeg x y.1))) : va_E) = _
    rw [fm_uI_self]
    rfl
  rw [e1]
  exact hP1
theorem sm_dastore {i : Int32} {x : UInt64} {a : fm_V} {y : Nat × Nat × Nat} (C : fm_Cx p s m args meth c sts ncs X B b nL aC D cc own) (hd : decode cc pc = .ok (.dastore, 1)) (hy : fm_arr a M.2 = some y) (hk : y.2.1 = 13) (hin : vp_in i y.2.2) (k : fm_WW p l e R s m args below meth c B b nL wd aC D M0 Q (pc + 1, lo, st, ((M.1.1, M.1.2.1, fm_uI M.1.2.2.1 y.1 i.toNatClampNeg x, M.1.2.2.2), M.2))) : fm_WW p l e R s m args below meth c B b nL wd aC D M0 Q (pc, lo, .inl (.double x) :: .inl (.int i) :: a :: st, M) := by
  intro H locs ls hl ho hw hS
  obtain ⟨rs, h1, h2, h3⟩ := fm_arrE hw hy ho.tail.tail.hd b
  rw [hk] at h1 h3
  simp only [List.map_cons]
  rw [h2]
  refine fr_dast C.1 C.2.1 C.2.2.2.2.2.1.1 hw.1 (fm_ws_D B aC M) hS y.1 3 h3 rfl hin hd fun H1 locs1 hP1 hz1 hS1 => ?_
  refine k H1 locs1 ls hl ho.tail.tail.tail (hw.upd (M' := ((M.1.1, M.1.2.1, fm_uI M.1.2.2.1 y.1 i.toNatClampNeg x, M.1.2.2.2), M.2)) h1 rfl rfl (fun d hdn => ⟨rfl, rfl, fm_uI_ne _ _ _ hdn⟩) ?_ hz1) hS1
  have e1 : fm_ent B aC ((M.1.1, M.1.2.1, fm_uI M.1.2.2.1 y.1 i.toNatClampNeg x, M.1.2.2.2), M.2).1 y.1 (13, y.2.2, rs) = .inl (aC 3, y.2.2, .inr (.inr (.inr (.inl (vf_upd (M.1.2.2.1 y.1) i.toNatClampNeg x))))) := by
    show (Sum.inl (aC 3, y.2.2, Sum.inr (Sum.inr (Sum.inr (Sum.inl (fm_uI M.1.2.2.1 y.1 i.toNatClampNeg x y.1))))) : va_E) = _
    rw [fm_uI_self]
    rfl
  rw [e1]
  exact hP1
/-- the words of a field's entry -/
def fm_fl (own : String) (cp ci k : Nat) (args : Array Value) (s : State) : Prop := (Cond.fieldLink own cp (fm_T ci k).1 (fm_T ci k).2.1 (fm_T ci k).2.2.1).before args s = true ∨ ∃ host, (Cond.fieldLinkNest own cp (fm_T ci k).1 (fm_T ci k).2.1 (fm_T ci k).2.2.1 host).before args s = true
theorem sm_getfield {ci k fk cp : Nat} {v w : fm_V} (C : fm_Cx p s m args meth c sts ncs X B b nL aC D cc own) (hd : decode cc pc = .ok (.getfield cp, 3)) (hfk : (fm_fks.getD ci []).getD k 9 = fk) (hci : ci < 7) (hk : k < fm_n ci) (hf : fm_fl own cp ci k args s) (h : fm_getf ci k fk v M = some w) (kk : fm_WW p l e R s m args below meth c B b nL wd aC D M0 Q (pc + 3, lo, w :: st, M)) : fm_WW p l e R s m args below meth c B b nL wd aC D M0 Q (pc, lo, v :: st, M) := by
  intro H locs ls hl ho hw hS
  obtain ⟨cI, fs, h1, h2, h3, h4⟩ := fm_getf_at (b := b) hw ho.hd h hfk hci hk
  have hg := kk H locs ls hl (ho.tail.push h4) hw hS
  simp only [List.map_cons]
  rw [h1]
  rcases hf with hf | ⟨host, hf⟩
  · exact va_get C.1 C.2.1 C.2.2.2.2.1 (fm_in hci) C.2.2.2.1 C.2.2.2.2.2.1.1 hw.1 cI h2 (fm_cls_at hci) k hk hf (fun _ hh => hh) h3 hd hg
  · exact va_getN C.1 C.2.1 C.2.2.2.2.1 (fm_in hci) C.2.2.2.1 C.2.2.2.2.2.1.1 hw.1 cI h2 (fm_cls_at hci) k hk hf (fun _ hh => hh) h3 hd hg
end FMS4
end
section
section FMS5
variable {p : Program} {l : Launch} {e : Env} {R : Room} {s : State} {m : MethodId} {args : Array Value} {below : List Frame} {meth : Method} {c : Code}
variable {sts : fm_St} {ncs : fm_Nc} {X : Nat × (Nat → Int32)} {B b nL : Nat} {wd : Bool} {aC : Nat → ClassId} {D : va_G} {M0 : fm_M} {Q : State → Prop} {cc : ByteArray} {own : String}
variable {pc : Nat} {lo : List (Option fm_V)} {st : List fm_V} {M : fm_M} {g : fm_F}
theorem fm_fields_set {N N' : fm_N} {cI k : Nat} {q q' : fm_Sc} {v : Value} (h1 : q'.1 = q.1) (h2 : q'.2.1 = q.2.1) (hk : k < q.2.1)
    (hv : fm_fv B N' cI ((fm_fks.getD q.1 []).getD k 9) k q'.2.2 = v) (hn : ∀ j, j ≠ k → ∀ fk, fm_fv B N' cI fk j q'.2.2 = fm_fv B N cI fk j q.2.2) : (fm_fields B N cI q).set k v = fm_fields B N' cI q' := by
  apply List.ext_getElem?
  intro j
  have l1 : (fm_fields B N cI q).length = q.2.1 := fm_fields_len
  have l2 : (fm_fields B N' cI q').length = q.2.1 := by rw [fm_fields_len, h2]
  by_cases hj : j < q.2.1
  · have r2 : (fm_fields B N' cI q')[j]? = some (fm_fv B N' cI ((fm_fks.getD q.1 []).getD j 9) j q'.2.2) := by
      rw [fm_fields_at (by rw [h2]; exact hj), h1]
    by_cases hjk : k = j
    · subst hjk
      rw [List.getElem?_set_self (by rw [l1]; exact hj), r2, hv]
    · rw [List.getElem?_set_ne hjk, fm_fields_at hj, r2, hn j (fun e => hjk e.symm)]
  · rw [List.getElem?_eq_none (by rw [List.length_set, l1]; omega), List.getElem?_eq_none (by rw [l2]; omega)]
/-- may this field be written here: the table's words, and for a final one that this is its class's constructor -/
def fm_fp (own : String) (cp ci k : Nat) (args : Array Value) (s : State) (meth : Method) : Prop :=
  ((fm_T ci k).2.2.2 = false ∧ fm_fl own cp ci k args s) ∨ ((fm_T ci k).2.2.2 = true ∧ (Cond.fieldLink own cp (fm_T ci k).1 (fm_T ci k).2.1 (fm_T ci k).2.2.1).before args s = true ∧ meth.name = "<init>" ∧ (fm_T ci k).1 = own)
/-- a value of a field's kind -/
def fm_fit (ty : FieldType) (fk : Nat) : Prop := match fk with
  | 0 => ty = .int
  | 1 => ty = .long
  | _ => (∃ n, ty = .object n) ∨ ∃ t, ty = .array t
theorem fm_fit_ref {ty : FieldType} {fk : Nat} (h : fm_fit ty (fk + 2)) (a : Nat) : narrow ty (.ref a) = .ref a ∧ fits ty (.ref a) = true := by
  rcases h with ⟨n, rfl⟩ | ⟨t, rfl⟩ <;> exact ⟨rfl, rfl⟩
/-- the row of putfield, for a field of a cell -/
theorem sm_putrow {ci k cp cI : Nat} {fs : List Value} {H : Heap} {locs : List Loc} {cells slots : Nat} {ls : Array Slot} {rest : List Value} {v : Value} (C : fm_Cx p s m args meth c sts ncs X B b nL aC D cc own) (hd : decode cc pc = .ok (.putfield cp, 3)) (hci : ci < 7) (hk : k < fm_n ci) (hf : fm_fp own cp ci k args s meth) (hw : fm_Wd B aC D M H) (hS : va_S (fm_A B) s.heap H locs)
    (he : (fm_ws B aC M)[cI]? = some (B + cI, .inr (ci, fs))) (hn : narrow (fm_ty ci k) v = v) (hfit : fits (fm_ty ci k) v = true) (hl : k < fs.length)
    (kk : ∀ (H1 : Heap) (locs1 : List Loc), va_P D fm_cls ((fm_ws B aC M).set cI (B + cI, .inr (ci, fs.set k v))) H1 → H1.size = H.size → va_S (fm_A B) s.heap H1 locs1 → W p l e R s m args below meth c H1 locs1 cells slots Q (F0 m (pc + 3) ls rest)) : W p l e R s m args below meth c H locs cells slots Q (F0 m pc ls (v :: .ref (B + cI) :: rest)) := by
  rcases hf with ⟨h1, h2⟩ | ⟨h1, h2, h3, h4⟩
  · exact fr_put C.1 C.2.1 C.2.2.2.2.1 (fm_in hci) (fm_ty ci) (fm_tyk hci) (fm_nmk hci) C.2.2.2.1 C.2.2.2.2.2.1.1 hw.1 (fm_ws_D B aC M) hS cI he (fm_cls_at hci) k hk h2 (fun _ hh => hh) h1 (fm_tyk hci k hk) hn hfit hl hd kk
  · exact fr_putF C.1 C.2.1 C.2.2.2.2.1 (fm_in hci) (fm_ty ci) (fm_tyk hci) (fm_nmk hci) C.2.2.2.1 C.2.2.2.2.2.1.1 hw.1 (fm_ws_D B aC M) hS cI he (fm_cls_at hci) k hk h2 (fun _ hh => hh) h1 h3 h4 (fm_tyk hci k hk) hn hfit hl hd kk
theorem fm_entO {N : fm_N} {cI : Nat} {q : fm_Sc} (hq : q.1 < 7) : fm_ent B aC N cI q = .inr (q.1, fm_fields B N cI q) := by
  unfold fm_ent
  rw [if_pos hq]
theorem sm_putfield {ci k fk cp : Nat} {v x : fm_V} {M' : fm_M} (C : fm_Cx p s m args meth c sts ncs X B b nL aC D cc own) (hd : decode cc pc = .ok (.putfield cp, 3)) (hfk : (fm_fks.getD ci []).getD k 9 = fk) (hci : ci < 7) (hk : k < fm_n ci) (hf : fm_fp own cp ci k args s meth) (hft : fm_fit (fm_ty ci k) fk) (h : fm_putf ci k fk v x M = some M') (kk : fm_WW p l e R s m args below meth c B b nL wd aC D M0 Q (pc + 3, lo, st, M')) : fm_WW p l e R s m args below meth c B b nL wd aC D M0 Q (pc, lo, x :: v :: st, M) := by
  intro H locs ls hl ho hw hS
  unfold fm_putf at h
  split at h
  · rename_i cI
    split at h
    · rename_i q hq
      cases hb : (Nat.beq q.1 ci && Nat.blt k q.2.1)
      · rw [hb, cond_false] at h; cases h
      · rw [hb, cond_true] at h
        simp only [Bool.and_eq_true] at hb
        have hqc := Nat.eq_of_beq_eq_true hb.1
        subst hqc
        have hk2 : k < q.2.1 := by simpa using hb.2
        obtain ⟨o1, o2⟩ := fm_obj_at hw hq hci
        have hsc := fm_scr_ne hq hw.2.1
        have hlen : k < (fm_fields B M.1 cI q).length := by rw [fm_fields_len]; exact hk2
        simp only [List.map_cons]
        rw [fm_ren_ref hsc]
        split at h
        · rename_i y
          cases h
          have hty : fm_ty q.1 k = .int := hft
          refine sm_putrow C hd hci hk hf hw hS o1 (v := .int y) (by rw [hty]; rfl) (by rw [hty]; rfl) hlen fun H1 locs1 hP1 hz1 hS1 => ?_
          refine kk H1 locs1 ls hl ho.tail.tail (hw.upd (M' := ((fm_uI M.1.1 cI k y, M.1.2), M.2)) hq rfl rfl (fun d hdn => ⟨fm_uI_ne _ _ _ hdn, rfl, rfl⟩) ?_ hz1) hS1
          rw [fm_entO hci, ← fm_fields_set (N := M.1) (N' := ((fm_uI M.1.1 cI k y, M.1.2), M.2).1) (q := q) (q' := q) (v := .int y) rfl rfl hk2 (by rw [hfk]; simp [fm_fv, fm_uI]) (fun j hj f9 => by unfold fm_fv; split <;> simp [fm_uI, hj])]
          exact hP1
        · rename_i y
          cases h
          have hty : fm_ty q.1 k = .long := hft
          refine sm_putrow C hd hci hk hf hw hS o1 (v := .long y) (by rw [hty]; rfl) (by rw [hty]; rfl) hlen fun H1 locs1 hP1 hz1 hS1 => ?_
          refine kk H1 locs1 ls hl ho.tail.tail (hw.upd (M' := ((M.1.1, fm_uI M.1.2.1 cI k y, M.1.2.2), M.2)) hq rfl rfl (fun d hdn => ⟨rfl, fm_uI_ne _ _ _ hdn, rfl⟩) ?_ hz1) hS1
          rw [fm_entO hci, ← fm_fields_set (N := M.1) (N' := ((M.1.1, fm_uI M.1.2.1 cI k y, M.1.2.2), M.2).1) (q := q) (q' := q) (v := .long y) rfl rfl hk2 (by rw [hfk]; simp [fm_fv, fm_uI]) (fun j hj f9 => by unfold fm_fv; split <;> simp [fm_uI, hj])]
          exact hP1
        · rename_i j
          cases hb2 : (Nat.blt j M.2.length && Nat.blt k q.2.2.length && (!(fm_pool M.2) || fm_pool (M.2.set cI (q.1, q.2.1, q.2.2.set k (some j)))))
          · rw [hb2, cond_false] at h; cases h
          · rw [hb2, cond_true] at h
            cases h
            simp only [Bool.and_eq_true] at hb2
            have hj : j < M.2.length := by simpa using hb2.1.1
            have hkr : k < q.2.2.length := by simpa using hb2.1.2
            have hpp : fm_pool M.2 = true → fm_pool (M.2.set cI (q.1, q.2.1, q.2.2.set k (some j))) = true := fun hp => by
              have h3 := hb2.2
              rw [hp] at h3
              simpa using h3
            have hjs : ¬ j = fm_scr := fun e9 => by
              have h1 : (999999 : Nat) < M.2.length := by rw [e9] at hj; exact hj
              have h2 : M.2.length ≤ 1000 := hw.2.1
              omega
            rw [fm_ren_ref hjs]
            obtain ⟨t1, t2⟩ := fm_fit_ref hft (B + j)
            refine sm_putrow C hd hci hk hf hw hS o1 (v := .ref (B + j)) t1 t2 hlen fun H1 locs1 hP1 hz1 hS1 => ?_
            obtain ⟨w1, w2, w3, w4, w5, w6, w7⟩ := hw
            have hcl := fm_len_of hq
            have hl2 : (M.2.set cI (q.1, q.2.1, q.2.2.set k (some j))).length = M.2.length := List.length_set
            have hsum : fm_sn (M.1, M.2.set cI (q.1, q.2.1, q.2.2.set k (some j))) = fm_sn M := by
              unfold fm_sn
              have : (M.2.set cI (q.1, q.2.1, q.2.2.set k (some j))).map (fun z => z.2.1) = M.2.map (fun z => z.2.1) := by
                rw [List.map_set]
                apply List.ext_getElem?
                intro i
                by_cases hi : cI = i
                · subst hi
                  rw [List.getElem?_set_self (by simpa using hcl), List.getElem?_map, hq]
                  rfl
                · rw [List.getElem?_set_ne hi]
              rw [this]
            have hcn : fm_cn (M.1, M.2.set cI (q.1, q.2.1, q.2.2.set k (some j))) = fm_cn M := by
              unfold fm_cn
              rw [hl2]
            have hgo := kk H1 locs1 ls hl (ho.tail.tail.mono hpp) ⟨?_, by rw [hl2]; exact w2, by rw [hl2, hz1]; exact w3, by rw [hl2, hz1]; exact w4, ?_, ?_, by rw [hl2]; exact w7⟩ hS1
            · rw [hsum, hcn] at hgo
              exact hgo
            · have e0 := fm_ws_set (B := B) (aC := aC) (M := M) (M' := (M.1, M.2.set cI (q.1, q.2.1, q.2.2.set k (some j)))) hcl rfl (fun d _ => ⟨rfl, rfl, rfl⟩)
              rw [← e0, fm_entO (q := (q.1, q.2.1, q.2.2.set k (some j))) hci, ← fm_fields_set (N := M.1) (N' := M.1) (q := q) (q' := (q.1, q.2.1, q.2.2.set k (some j))) (v := .ref (B + j)) rfl rfl hk2 (by rw [hfk]; simp [fm_fv, List.getD, List.getElem?_set_self hkr, va_rf]) (fun i hi f9 => by
                have hne : ¬ k = i := fun e9 => hi e9.symm
                unfold fm_fv
                split <;> simp [List.getD, List.getElem?_set_ne hne])]
              exact hP1
            · intro c9 q9 h9
              by_cases hc9 : cI = c9
              · subst hc9
                dsimp only at h9
                rw [List.getElem?_set_self hcl] at h9
                cases h9
                exact w5 cI q hq
              · dsimp only at h9
                rw [List.getElem?_set_ne hc9] at h9
                exact w5 c9 q9 h9
            · intro c9 q9 h9 k9 j9 hkj
              show j9 < (M.2.set cI (q.1, q.2.1, q.2.2.set k (some j))).length
              rw [hl2]
              by_cases hc9 : cI = c9
              · subst hc9
                dsimp only at h9
                rw [List.getElem?_set_self hcl] at h9
                cases h9
                dsimp only at hkj
                by_cases hk9 : k = k9
                · subst hk9
                  rw [List.getElem?_set_self hkr] at hkj
                  cases hkj
                  exact hj
                · rw [List.getElem?_set_ne hk9] at hkj
                  exact w6 cI q hq k9 j9 hkj
              · dsimp only at h9
                rw [List.getElem?_set_ne hc9] at h9
                exact w6 c9 q9 h9 k9 j9 hkj
        · cases h
    · cases h
  · rename_i t j
    cases hb : (Nat.beq t 0 && Nat.beq ci 4 && Nat.beq k 2 && fm_pool M.2)
    · rw [hb, cond_false] at h; cases h
    · rw [hb, cond_true] at h
      simp only [Bool.and_eq_true] at hb
      have ht := Nat.eq_of_beq_eq_true hb.1.1.1
      have hc4 := Nat.eq_of_beq_eq_true hb.1.1.2
      have hk2 := Nat.eq_of_beq_eq_true hb.1.2
      subst ht
      subst hc4
      subst hk2
      split at h
      · rename_i y
        cases h
        obtain ⟨p0, p1, p2⟩ := fm_pool_at hb.2 ho.tail.hd.2.1
        obtain ⟨o1, o2⟩ := fm_obj_at hw p0 (show 4 < 7 by decide)
        have hfk0 : fk = 0 := by rw [← hfk]; rfl
        subst hfk0
        have hty : fm_ty 4 2 = .int := hft
        refine sm_putrow C hd hci hk hf hw hS o1 (v := .int y) (by rw [hty]; rfl) (by rw [hty]; rfl) (by rw [fm_fields_len]; exact (show 2 < 3 by decide)) fun H1 locs1 hP1 hz1 hS1 => ?_
        refine kk H1 locs1 ls hl ho.tail.tail (hw.upd (M' := ((fm_uI M.1.1 (fm_pc 0 j) 2 y, M.1.2), M.2)) p0 rfl rfl (fun d hdn => ⟨fm_uI_ne _ _ _ hdn, rfl, rfl⟩) ?_ hz1) hS1
        rw [fm_entO (q := (4, 3, [some (fm_pc 1 j), some (fm_pc 2 j), none])) (show 4 < 7 by decide), ← fm_fields_set (N := M.1) (N' := ((fm_uI M.1.1 (fm_pc 0 j) 2 y, M.1.2), M.2).1) (q := (4, 3, [some (fm_pc 1 j), some (fm_pc 2 j), none])) (q' := (4, 3, [some (fm_pc 1 j), some (fm_pc 2 j), none])) (k := 2) (v := .int y) rfl rfl (show 2 < 3 by decide) (by show fm_fv B _ _ 0 2 _ = _; simp [fm_fv, fm_uI]) (fun i hi f9 => by unfold fm_fv; split <;> simp [fm_uI, hi])]
        exact hP1
      · cases h
  · cases h
end FMS5
end
section
section FMS6
variable {p : Program} {l : Launch} {e : Env} {R : Room} {s : State} {m : MethodId} {args : Array Value} {below : List Frame} {meth : Method} {c : Code}
variable {sts : fm_St} {ncs : fm_Nc} {X : Nat × (Nat → Int32)} {B b nL : Nat} {wd : Bool} {aC : Nat → ClassId} {D : va_G} {M0 : fm_M} {Q : State → Prop} {cc : ByteArray} {own : String}
variable {pc : Nat} {lo : List (Option fm_V)} {st : List fm_V} {M : fm_M} {g : fm_F}
/-- a world with one more cell -/
theorem fm_Wd.app {H H1 : Heap} {q : fm_Sc} (hw : fm_Wd B aC D M H) (h0 : M.1.2.2.2 = 0) (hlt : M.2.length < 1000) (hq : fm_okq q) (hr : ∀ k j : Nat, q.2.2[k]? ≠ some (some j))
    (hP : va_P D fm_cls (fm_ws B aC M ++ [(H.size, fm_ent B aC M.1 M.2.length q)]) H1) (hz : H1.size = H.size + 1) : fm_Wd B aC D (M.1, M.2 ++ [q]) H1 := by
  obtain ⟨w1, w2, w3, w4, w5, w6, w7⟩ := hw
  have hs := w4 h0
  rw [hs] at hP
  rw [← fm_ws_app] at hP
  have hl : (M.2 ++ [q]).length = M.2.length + 1 := by simp
  refine ⟨hP, by rw [hl]; omega, by rw [hl, hz]; omega, fun _ => by rw [hl, hz, hs]; omega, fun c9 q9 h9 => ?_, fun c9 q9 h9 k9 j9 hk => ?_, fun c9 h9 i => w7 c9 (by rw [hl] at h9; omega) i⟩
  · dsimp only at h9
    by_cases hc : c9 < M.2.length
    · rw [List.getElem?_append_left hc] at h9
      exact w5 c9 q9 h9
    · rw [List.getElem?_append_right (by omega)] at h9
      have : c9 - M.2.length < 1 := (List.getElem?_eq_some_iff.mp h9).1
      rw [show c9 - M.2.length = 0 by omega] at h9
      cases h9
      exact hq
  · show j9 < (M.2 ++ [q]).length
    rw [hl]
    dsimp only at h9
    by_cases hc : c9 < M.2.length
    · rw [List.getElem?_append_left hc] at h9
      have := w6 c9 q9 h9 k9 j9 hk
      omega
    · rw [List.getElem?_append_right (by omega)] at h9
      have : c9 - M.2.length < 1 := (List.getElem?_eq_some_iff.mp h9).1
      rw [show c9 - M.2.length = 0 by omega] at h9
      cases h9
      exact absurd hk (hr k9 j9)
theorem fm_pool_app {S : List fm_Sc} {q : fm_Sc} (h : fm_pool S = true) : fm_pool (S ++ [q]) = true := by
  unfold fm_pool at h ⊢
  refine List.all_eq_true.mpr fun j hj => ?_
  have h1 := List.all_eq_true.mp h j hj
  unfold fm_poolRow at h1 ⊢
  simp only [Bool.and_eq_true, beq_iff_eq] at h1 ⊢
  have ap : ∀ (i : Nat) (z : fm_Sc), S[i]? = some z → (S ++ [q])[i]? = some z := fun i z hz => by
    rw [List.getElem?_append_left (fm_len_of hz)]; exact hz
  exact ⟨⟨ap _ _ h1.1.1, ap _ _ h1.1.2⟩, ap _ _ h1.2⟩
theorem fm_cn_app {q : fm_Sc} : fm_cn (M.1, M.2 ++ [q]) = fm_cn M + 1 := by
  unfold fm_cn
  simp only [List.length_append, List.length_cons, List.length_nil]
  omega
theorem fm_sn_app {q : fm_Sc} : fm_sn (M.1, M.2 ++ [q]) = fm_sn M + q.2.1 := by
  unfold fm_sn
  simp only [List.map_append, List.map_cons, List.map_nil, List.sum_append, List.sum_cons, List.sum_nil]
  omega
theorem fm_newc_inv {q : fm_Sc} {y : Nat × fm_M} (h : fm_newc q M = some y) : M.1.2.2.2 = 0 ∧ M.2.length < 1000 ∧ y = (M.2.length, M.1, M.2 ++ [q]) := by
  unfold fm_newc at h
  cases hb : (Nat.beq M.1.2.2.2 0 && Nat.blt M.2.length 1000)
  · rw [hb, cond_false] at h; cases h
  · rw [hb, cond_true] at h
    cases h
    simp only [Bool.and_eq_true] at hb
    exact ⟨Nat.eq_of_beq_eq_true hb.1, by simpa using hb.2, rfl⟩
theorem fm_zero_fields {ci : Nat} {N : fm_N} {cI : Nat} (hci : ci < 7) (hz : ∀ i, N.1 cI i = 0 ∧ N.2.1 cI i = 0) (hft : ∀ k, k < fm_n ci → fm_fit (fm_ty ci k) ((fm_fks.getD ci []).getD k 9)) : ∀ j, j < fm_n ci → defaultValue (fm_ty ci j) = vp_V (fm_fields B N cI (ci, fm_n ci, List.replicate (fm_n ci) none)) j := by
  intro j hj
  unfold vp_V
  have hk := hft j hj
  rw [List.getD, fm_fields_at (q := (ci, fm_n ci, List.replicate (fm_n ci) none)) hj]
  dsimp only [Option.getD]
  unfold fm_fv
  generalize (fm_fks.getD ci []).getD j 9 = fk at hk
  match fk, hk with
  | 0, hk => rw [show fm_ty ci j = .int from hk, (hz j).1]; rfl
  | 1, hk => rw [show fm_ty ci j = .long from hk, (hz j).2]; rfl
  | f + 2, hk =>
    have hr : (List.replicate (fm_n ci) (none : Option Nat)).getD j none = none := by
      rw [List.getD, List.getElem?_replicate]
      split <;> rfl
    rw [hr]
    rcases hk with ⟨n, hn⟩ | ⟨t, ht⟩
    · rw [hn]; rfl
    · rw [ht]; rfl
theorem sm_new {ci n cp : Nat} {y : Nat × fm_M} (C : fm_Cx p s m args meth c sts ncs X B b nL aC D cc own) (hd : decode cc pc = .ok (.new cp, 3)) (hci : ci < 7) (hn : n = fm_n ci) (hw1 : (Cond.classLink own cp (fm_C ci)).before args s = true) (hw2 : (Cond.instantiable (fm_C ci) (fm_n ci)).before args s = true) (hw3 : (Cond.initialized (fm_C ci)).before args s = true) (hft : ∀ k, k < fm_n ci → fm_fit (fm_ty ci k) ((fm_fks.getD ci []).getD k 9))
    (h : fm_newc (ci, n, List.replicate n none) M = some y) (hc : fm_cn M + 1 - fm_cn M0 ≤ R.cells) (hs : fm_sn M + n - fm_sn M0 ≤ R.slots) (hm1 : fm_cn M0 ≤ fm_cn M) (hm2 : fm_sn M0 ≤ fm_sn M)
    (kk : fm_WW p l e R s m args below meth c B b nL wd aC D M0 Q (pc + 3, lo, .inl (.ref y.1) :: st, y.2)) : fm_WW p l e R s m args below meth c B b nL wd aC D M0 Q (pc, lo, st, M) := by
  subst hn
  obtain ⟨h0, h1, rfl⟩ := fm_newc_inv h
  intro H locs ls hl ho hw hS
  have hz7 := hw.2.2.2.2.2.2 M.2.length (Nat.le_refl _)
  have hsz := hw.2.2.2.1 h0
  have hok : fm_okq (ci, fm_n ci, List.replicate (fm_n ci) none) := Or.inl ⟨hci, by
    show fm_fN[ci]? = some (fm_n ci)
    match ci, hci with
    | 0, _ => rfl
    | 1, _ => rfl
    | 2, _ => rfl
    | 3, _ => rfl
    | 4, _ => rfl
    | 5, _ => rfl
    | 6, _ => rfl
    | k + 7, h => omega⟩
  have hnr : ∀ k j : Nat, (List.replicate (fm_n ci) (none : Option Nat))[k]? ≠ some (some j) := fun k j hk => by
    rw [List.getElem?_replicate] at hk
    split at hk <;> cases hk
  have hcA : fm_cn M - fm_cn M0 + 1 ≤ R.cells := by omega
  have hsA : fm_sn M - fm_sn M0 + fm_n ci ≤ R.slots := by omega
  refine fr_new (C := fm_C ci) (T := fm_T ci) (N := fm_n ci) (ci := ci) C.1 C.2.1 C.2.2.2.2.1 (fm_in hci) (fm_ty ci) (fm_tyk hci) C.2.2.2.1 hw1 hw2 hw3 C.2.2.2.2.2.1.1 hw.1 hS (fm_cls_at hci) (fm_zero_fields (B := B) (cI := M.2.length) hci (fun i => ⟨(hz7 i).1, (hz7 i).2.1⟩) hft) hcA hsA hd fun H1 hP1 hz1 hS1 => ?_
  have hw' := hw.app (q := (ci, fm_n ci, List.replicate (fm_n ci) none)) h0 h1 hok hnr (by rw [fm_entO (q := (ci, fm_n ci, List.replicate (fm_n ci) none)) hci]; exact hP1) hz1
  have hg := kk H1 locs ls hl ((ho.mono fm_pool_app).push (v := .inl (.ref M.2.length)) trivial) hw' hS1
  have e1 : fm_cn M - fm_cn M0 + 1 = fm_cn M + 1 - fm_cn M0 := by omega
  have e2 : fm_sn M - fm_sn M0 + fm_n ci = fm_sn M + fm_n ci - fm_sn M0 := by omega
  have hsc : ¬ M.2.length = fm_scr := fun e9 => by
    have h2 : (999999 : Nat) < 1000 := by rw [e9] at h1; exact h1
    omega
  rw [e1, e2, hsz, ← fm_ren_ref (b := b) hsc]
  dsimp only [List.map_cons] at hg
  rw [fm_cn_app, fm_sn_app] at hg
  exact hg
theorem fm_aC_at {k : Nat} {ty : FieldType} {U : State} (hK : va_K D fm_cls (fm_tys aC) U) (h : (fm_tys aC)[k]? = some (aC k, ty)) (hty : ∀ n, ty ≠ .object n) : U.vm.findClass ("[" ++ ty.toString) = some (aC k) := by
  have h1 := (hK.2 k _ h).2
  cases ty with
  | object n => exact absurd rfl (hty n)
  | _ => exact h1
theorem sm_newarr {q : fm_Sc} {y : Nat × fm_M} {nx : Nat} {n : Int32} (hq : q.2.1 = n.toNatClampNeg) (hok : fm_okq q) (hnr : ∀ k j : Nat, q.2.2[k]? ≠ some (some j)) (h : fm_newc q M = some y)
    (row : ∀ (H : Heap) (locs : List Loc) (ls : Array Slot) (rest : List Value), va_P D fm_cls (fm_ws B aC M) H → va_S (fm_A B) s.heap H locs → (∀ i, M.1.1 M.2.length i = 0 ∧ M.1.2.1 M.2.length i = 0 ∧ M.1.2.2.1 M.2.length i = 0) →
      (∀ H1 : Heap, va_P D fm_cls (fm_ws B aC M ++ [(H.size, fm_ent B aC M.1 M.2.length q)]) H1 → H1.size = H.size + 1 → va_S (fm_A B) s.heap H1 locs → W p l e R s m args below meth c H1 locs (fm_cn M - fm_cn M0 + 1) (fm_sn M - fm_sn M0 + n.toNatClampNeg) Q (F0 m nx ls (.ref H.size :: rest))) →
      W p l e R s m args below meth c H locs (fm_cn M - fm_cn M0) (fm_sn M - fm_sn M0) Q (F0 m pc ls (.int n :: rest)))
    (hm1 : fm_cn M0 ≤ fm_cn M) (hm2 : fm_sn M0 ≤ fm_sn M)
    (kk : fm_WW p l e R s m args below meth c B b nL wd aC D M0 Q (nx, lo, .inl (.ref y.1) :: st, y.2)) : fm_WW p l e R s m args below meth c B b nL wd aC D M0 Q (pc, lo, .inl (.int n) :: st, M) := by
  obtain ⟨h0, h1, rfl⟩ := fm_newc_inv h
  intro H locs ls hl ho hw hS
  have hsz := hw.2.2.2.1 h0
  refine row H locs ls _ hw.1 hS (hw.2.2.2.2.2.2 M.2.length (Nat.le_refl _)) fun H1 hP1 hz1 hS1 => ?_
  have hw' := hw.app h0 h1 hok hnr hP1 hz1
  have hg := kk H1 locs ls hl ((ho.tail.mono fm_pool_app).push (v := .inl (.ref M.2.length)) trivial) hw' hS1
  have e1 : fm_cn M - fm_cn M0 + 1 = fm_cn M + 1 - fm_cn M0 := by omega
  have e2 : fm_sn M - fm_sn M0 + n.toNatClampNeg = fm_sn M + q.2.1 - fm_sn M0 := by omega
  have hsc : ¬ M.2.length = fm_scr := fun e9 => by
    have h2 : (999999 : Nat) < 1000 := by rw [e9] at h1; exact h1
    omega
  rw [e1, e2, hsz, ← fm_ren_ref (b := b) hsc]
  dsimp only [List.map_cons] at hg
  rw [fm_cn_app, fm_sn_app] at hg
  exact hg
theorem fm_blank {α : Type} {f : Nat → α} {z : α} (h : ∀ i, f i = z) : f = fun _ => z := funext h
theorem sm_newarray {at9 : ArrayType} {kd : Nat} {n : Int32} {y : Nat × fm_M} (C : fm_Cx p s m args meth c sts ncs X B b nL aC D cc own) (hd : decode cc pc = .ok (.newarray at9, 2)) (hk : (at9 = .int ∧ kd = 10) ∨ (at9 = .boolean ∧ kd = 11) ∨ (at9 = .long ∧ kd = 12) ∨ (at9 = .double ∧ kd = 13)) (hwa : (Cond.arrayClass (newarray.typeOf at9)).before args s = true)
    (hn : ¬ n < 0) (hb : n.toNatClampNeg ≤ 1000) (h : fm_newc (kd, n.toNatClampNeg, []) M = some y) (hc : fm_cn M + 1 - fm_cn M0 ≤ R.cells) (hs : fm_sn M + n.toNatClampNeg - fm_sn M0 ≤ R.slots) (hm1 : fm_cn M0 ≤ fm_cn M) (hm2 : fm_sn M0 ≤ fm_sn M)
    (kk : fm_WW p l e R s m args below meth c B b nL wd aC D M0 Q (pc + 2, lo, .inl (.ref y.1) :: st, y.2)) : fm_WW p l e R s m args below meth c B b nL wd aC D M0 Q (pc, lo, .inl (.int n) :: st, M) := by
  have hK := C.2.2.2.2.2.1.1
  rcases hk with ⟨rfl, rfl⟩ | ⟨rfl, rfl⟩ | ⟨rfl, rfl⟩ | ⟨rfl, rfl⟩
  · refine sm_newarr rfl (Or.inr ⟨by show 9 < 10; decide, by show 10 < 15; decide⟩) (fun k j hk => by cases hk) h (fun H locs ls rest hP hS hz k1 => ?_) hm1 hm2 kk
    refine fr_newa (ty := .int) (a0 := (n.toNatClampNeg, .inl (M.1.1 M.2.length))) (N' := n.toNatClampNeg) C.1 C.2.1 hwa rfl hP hS (fm_aC_at (k := 0) hK rfl (fun n h => by cases h)) (fun cA => by rw [fm_blank (fun i => (hz i).1)]; rfl) hn rfl (by show n.toNatClampNeg * 4 ≤ 536870912; omega) (by omega) (by omega) hd k1
  · refine sm_newarr rfl (Or.inr ⟨by show 9 < 11; decide, by show 11 < 15; decide⟩) (fun k j hk => by cases hk) h (fun H locs ls rest hP hS hz k1 => ?_) hm1 hm2 kk
    refine fr_newa (ty := .boolean) (a0 := (n.toNatClampNeg, .inl (M.1.1 M.2.length))) (N' := n.toNatClampNeg) C.1 C.2.1 hwa rfl hP hS (fm_aC_at (k := 1) hK rfl (fun n h => by cases h)) (fun cA => by rw [fm_blank (fun i => (hz i).1)]; rfl) hn rfl (by show n.toNatClampNeg * 1 ≤ 536870912; omega) (by omega) (by omega) hd k1
  · refine sm_newarr rfl (Or.inr ⟨by show 9 < 12; decide, by show 12 < 15; decide⟩) (fun k j hk => by cases hk) h (fun H locs ls rest hP hS hz k1 => ?_) hm1 hm2 kk
    refine fr_newa (ty := .long) (a0 := (n.toNatClampNeg, .inr (.inl (M.1.2.1 M.2.length)))) (N' := n.toNatClampNeg) C.1 C.2.1 hwa rfl hP hS (fm_aC_at (k := 2) hK rfl (fun n h => by cases h)) (fun cA => by rw [fm_blank (fun i => (hz i).2.1)]; rfl) hn rfl (by show n.toNatClampNeg * 8 ≤ 536870912; omega) (by omega) (by omega) hd k1
  · refine sm_newarr rfl (Or.inr ⟨by show 9 < 13; decide, by show 13 < 15; decide⟩) (fun k j hk => by cases hk) h (fun H locs ls rest hP hS hz k1 => ?_) hm1 hm2 kk
    refine fr_newa (ty := .double) (a0 := (n.toNatClampNeg, .inr (.inr (.inr (.inl (M.1.2.2.1 M.2.length)))))) (N' := n.toNatClampNeg) C.1 C.2.1 hwa rfl hP hS (fm_aC_at (k := 3) hK rfl (fun n h => by cases h)) (fun cA => by rw [fm_blank (fun i => (hz i).2.2)]; rfl) hn rfl (by show n.toNatClampNeg * 8 ≤ 536870912; omega) (by omega) (by omega) hd k1
theorem sm_anewarray {cp : Nat} {n : Int32} {y : Nat × fm_M} (C : fm_Cx p s m args meth c sts ncs X B b nL aC D cc own) (hd : decode cc pc = .ok (.anewarray cp, 3)) (hwc : (Cond.classLink own cp RX4).before args s = true)
    (hn : ¬ n < 0) (hb : n.toNatClampNeg ≤ 1000) (h : fm_newc (14, n.toNatClampNeg, List.replicate n.toNatClampNeg none) M = some y) (hc : fm_cn M + 1 - fm_cn M0 ≤ R.cells) (hs : fm_sn M + n.toNatClampNeg - fm_sn M0 ≤ R.slots) (hm1 : fm_cn M0 ≤ fm_cn M) (hm2 : fm_sn M0 ≤ fm_sn M)
    (kk : fm_WW p l e R s m args below meth c B b nL wd aC D M0 Q (pc + 3, lo, .inl (.ref y.1) :: st, y.2)) : fm_WW p l e R s m args below meth c B b nL wd aC D M0 Q (pc, lo, .inl (.int n) :: st, M) := by
  have hK := C.2.2.2.2.2.1.1
  have hAO := C.2.2.2.2.2.1.2.2.2.2.1
  have hnr : ∀ k j : Nat, (List.replicate n.toNatClampNeg (none : Option Nat))[k]? ≠ some (some j) := fun k j hk => by
    rw [List.getElem?_replicate] at hk
    split at hk <;> cases hk
  refine sm_newarr rfl (Or.inr ⟨by show 9 < 14; decide, by show 14 < 15; decide⟩) hnr h (fun H locs ls rest hP hS hz k1 => ?_) hm1 hm2 kk
  obtain ⟨kA, comp, k2, k3, k4, k5⟩ := (hK.2 4 _ rfl).2
  refine fr_newq C.1 C.2.1 C.2.2.2.1 hwc hAO hP hS k5 hn rfl (by omega) (by omega) (by omega) hd (fun i => ?_) k1
  dsimp only
  have hr : (List.replicate n.toNatClampNeg (none : Option Nat)).getD i none = none := by
    rw [List.getD, List.getElem?_replicate]
    split <;> rfl
  rw [hr]
  rfl
theorem sm_aastore {j c0 : Nat} {i : Int32} {q q' : fm_Sc} (C : fm_Cx p s m args meth c sts ncs X B b nL aC D cc own) (hd : decode cc pc = .ok (.aastore, 1)) (h1 : M.2[c0]? = some q) (h2 : M.2[j]? = some q') (hq : q.1 = 14) (hq' : q'.1 = 4) (hi : i.toNatClampNeg < q.2.2.length) (hpp : fm_pool M.2 = true → fm_pool (M.2.set c0 (q.1, q.2.1, q.2.2.set i.toNatClampNeg (some j))) = true) (hin : vp_in i q.2.1)
    (kk : fm_WW p l e R s m args below meth c B b nL wd aC D M0 Q (pc + 1, lo, st, (M.1, M.2.set c0 (q.1, q.2.1, q.2.2.set i.toNatClampNeg (some j))))) : fm_WW p l e R s m args below meth c B b nL wd aC D M0 Q (pc, lo, .inl (.ref j) :: .inl (.int i) :: .inl (.ref c0) :: st, M) := by
  intro H locs ls hl ho hw hS
  simp only [List.map_cons]
  rw [fm_ren_ref (fm_scr_ne h1 hw.2.1), fm_ren_ref (fm_scr_ne h2 hw.2.1)]
  obtain ⟨qk, qn, qr⟩ := q
  dsimp only at hq
  subst hq
  have g1 := fm_ws_get (B := B) (aC := aC) h1
  obtain ⟨g2, -⟩ := fm_obj_at (B := B) (aC := aC) (D := D) hw h2 (by rw [hq']; decide)
  rw [hq'] at g2
  refine fr_astq C.1 C.2.1 C.2.2.2.2.2.1.1 hw.1 (fm_ws_D B aC M) hS c0 4 j 4 (f := fun i => (qr.getD i none).map (fun j => B + j)) g1 rfl g2 (r := (RX4, TX4, 3)) rfl hin hd fun H1 locs1 hP1 hz1 hS1 => ?_
  obtain ⟨w1, w2, w3, w4, w5, w6, w7⟩ := hw
  have hcl := fm_len_of h1
  have hj := fm_len_of h2
  have hl2 : (M.2.set c0 (14, qn, qr.set i.toNatClampNeg (some j))).length = M.2.length := List.length_set
  have hcn : fm_cn (M.1, M.2.set c0 (14, qn, qr.set i.toNatClampNeg (some j))) = fm_cn M := by
    unfold fm_cn
    rw [hl2]
  have hsum : fm_sn (M.1, M.2.set c0 (14, qn, qr.set i.toNatClampNeg (some j))) = fm_sn M := by
    unfold fm_sn
    have : (M.2.set c0 (14, qn, qr.set i.toNatClampNeg (some j))).map (fun z => z.2.1) = M.2.map (fun z => z.2.1) := by
      rw [List.map_set]
      apply List.ext_getElem?
      intro i9
      by_cases hi9 : c0 = i9
      · subst hi9
        rw [List.getElem?_set_self (by simpa using hcl), List.getElem?_map, h1]
        rfl
      · rw [List.getElem?_set_ne hi9]
    rw [this]
  have hgo := kk H1 locs1 ls hl (ho.tail.tail.tail.mono hpp) ⟨?_, by rw [hl2]; exact w2, by rw [hl2, hz1]; exact w3, by rw [hl2, hz1]; exact w4, ?_, ?_, by rw [hl2]; exact w7⟩ hS1
  · rw [hsum, hcn] at hgo
    exact hgo
  · have e0 := fm_ws_set (B := B) (aC := aC) (M := M) (M' := (M.1, M.2.set c0 (14, qn, qr.set i.toNatClampNeg (some j)))) hcl rfl (fun d _ => ⟨rfl, rfl, rfl⟩)
    rw [← e0]
    have e1 : fm_ent B aC M.1 c0 (14, qn, qr.set i.toNatClampNeg (some j)) = .inl (aC 4, qn, .inr (.inr (.inr (.inr (va_up (fun i => (qr.getD i none).map (fun j => B + j)) i.toNatClampNeg (some (B + j))))))) := by
      show (Sum.inl (aC 4, qn, Sum.inr (Sum.inr (Sum.inr (Sum.inr (fun i9 => ((qr.set i.toNatClampNeg (some j)).getD i9 none).map (fun j => B + j)))))) : va_E) = _
      congr 7
      funext i9
      unfold va_up
      by_cases hi9 : i9 = i.toNatClampNeg
      · subst hi9
        rw [if_pos rfl, List.getD, List.getElem?_set_self hi]
        rfl
      · rw [if_neg hi9]
        show (((qr.set i.toNatClampNeg (some j))[i9]?).getD none).map _ = ((qr[i9]?).getD none).map _
        rw [List.getElem?_set_ne (fun e9 => hi9 e9.symm)]
    dsimp only
    rw [e1]
    exact hP1
  · intro c9 q9 h9
    dsimp only at h9
    by_cases hc9 : c0 = c9
    · subst hc9
      rw [List.getElem?_set_self hcl] at h9
      cases h9
      exact Or.inr ⟨by show 9 < 14; decide, by show 14 < 15; decide⟩
    · rw [List.getElem?_set_ne hc9] at h9
      exact w5 c9 q9 h9
  · intro c9 q9 h9 k9 j9 hkj
    show j9 < (M.2.set c0 (14, qn, qr.set i.toNatClampNeg (some j))).length
    rw [hl2]
    dsimp only at h9
    by_cases hc9 : c0 = c9
    · subst hc9
      rw [List.getElem?_set_self hcl] at h9
      cases h9
      dsimp only at hkj
      by_cases hk9 : i.toNatClampNeg = k9
      · rw [← hk9, List.getElem?_set_self hi] at hkj
        cases hkj
        exact hj
      · rw [List.getElem?_set_ne hk9] at hkj
        exact w6 c0 _ h1 k9 j9 hkj
    · rw [List.getElem?_set_ne hc9] at h9
      exact w6 c9 q9 h9 k9 j9 hkj
end FMS6
end
section
/-! what is checked of a row of code, once and for all -/
def fm_len (i : Instr) (l : Nat) : Nat := match i with
  | .bipush _ => 2 | .iload _ => 2 | .aload _ => 2 | .dload _ => 2 | .istore _ => 2 | .astore _ => 2 | .dstore _ => 2 | .newarray _ => 2 | .ldc _ => 2
  | .sipush _ => 3 | .ifCond _ _ => 3 | .if_icmp _ _ => 3 | .goto _ => 3 | .iinc _ _ => 3 | .getfield _ => 3 | .putfield _ => 3 | .new _ => 3 | .invokevirtual _ => 3 | .invokestatic _ => 3 | .invokespecial _ => 3 | .anewarray _ => 3 | .ldc_w _ => 3
  | .tableswitch _ _ _ _ => l
  | _ => 1
/-- a field's entry: class, entry, class by number, field, the host of a nest -/
abbrev fm_pfT : Type := String × Nat × Nat × Nat × Option String
def fm_fw (q : fm_pfT) : Cond := match q.2.2.2.2 with
  | none => .fieldLink q.1 q.2.1 (fm_T q.2.2.1 q.2.2.2.1).1 (fm_T q.2.2.1 q.2.2.2.1).2.1 (fm_T q.2.2.1 q.2.2.2.1).2.2.1
  | some h => .fieldLinkNest q.1 q.2.1 (fm_T q.2.2.1 q.2.2.2.1).1 (fm_T q.2.2.1 q.2.2.2.1).2.1 (fm_T q.2.2.1 q.2.2.2.1).2.2.1 h
def fm_fitb (ty : FieldType) (fk : Nat) : Bool := match ty, fk with
  | .int, 0 => true
  | .long, 1 => true
  | .object _, 2 => true
  | .array _, 2 => true
  | _, _ => false
theorem fm_fitb_ok {ty : FieldType} {fk : Nat} (h : fm_fitb ty fk = true) : fm_fit ty fk := by
  unfold fm_fitb at h
  split at h
  · rfl
  · rfl
  · exact Or.inl ⟨_, rfl⟩
  · exact Or.inr ⟨_, rfl⟩
  · cases h
/-- the tables of a program: fields, calls (class, entry, method, kind, host), throws (class, entry of the class, of the text, of the constructor, exception by number, text), Object.<init>, classes (class, entry, name), constants (class, entry, number) -/
abbrev fm_Tb : Type := List fm_pfT × List (String × Nat × Nat × Nat × Option String) × List (String × Nat × Nat × Nat × Nat × String) × List (String × Nat) × List (String × Nat × String) × List (String × Nat × Nat)
def fm_ex (x : Nat) : String := match x with
  | 0 => "java/lang/IndexOutOfBoundsException"
  | 1 => "java/lang/IllegalArgumentException"
  | 2 => "java/lang/IllegalStateException"
  | 3 => "java/util/NoSuchElementException"
  | _ => "java/lang/ArithmeticException"
def fm_exN : List String := ["java/lang/RuntimeException", "java/lang/Exception"]
def fm_atI (cl : List fm_En) (pc : Nat) (i : Instr) (n : Nat) : Bool := match fm_fetch cl pc with
  | some e => decide (e.2.1 = i) && Nat.beq e.2.2.1 n && Nat.beq e.1 pc
  | none => false
def fm_ck (T : fm_Tb) (cl : List fm_En) (own : String) (wd ini : Bool) (rt : Option FieldType) (e : fm_En) : Bool := Nat.beq e.2.2.1 (fm_len e.2.1 e.2.2.1) && (match e.2.1 with
  | .bipush n => decide ((Int8.ofInt n).toInt32 = fm_k n)
  | .sipush n => decide ((Int16.ofInt n).toInt32 = fm_k n)
  | .istore_n _ => e.2.2.2.isEmpty == !wd
  | .istore _ => e.2.2.2.isEmpty == !wd
  | .astore_n _ => e.2.2.2.isEmpty == !wd
  | .astore _ => e.2.2.2.isEmpty == !wd
  | .iinc _ _ => e.2.2.2.isEmpty == !wd
  | .dstore _ => wd
  | .ifCond _ off => match e.2.2.2 with
    | [t] => decide ((e.1 : Int) + off = (t : Int))
    | _ => true
  | .if_icmp _ off => match e.2.2.2 with
    | [t] => decide ((e.1 : Int) + off = (t : Int))
    | _ => true
  | .goto off => match e.2.2.2 with
    | [t] => decide ((e.1 : Int) + off = (t : Int))
    | _ => true
  | .tableswitch d lo hi offs => match e.2.2.2 with
    | dt :: ts => decide (lo = 0) && decide (hi + 1 = (ts.length : Int)) && decide ((e.1 : Int) + d = (dt : Int)) && decide (offs.toList.map (fun o => (e.1 : Int) + o) = ts.map (fun t : Nat => (t : Int))) && Nat.ble ts.length 1000
    | _ => true
  | .getfield cp => match e.2.2.2 with
    | [ci, k, fk, j] => Nat.blt ci 7 && Nat.blt k (fm_n ci) && Nat.beq ((fm_fks.getD ci []).getD k 9) fk && (match T.1[j]? with
      | some q => decide (q.1 = own) && Nat.beq q.2.1 cp && Nat.beq q.2.2.1 ci && Nat.beq q.2.2.2.1 k
      | none => false)
    | _ => true
  | .putfield cp => match e.2.2.2 with
    | [ci, k, fk, j] => Nat.blt ci 7 && Nat.blt k (fm_n ci) && Nat.beq ((fm_fks.getD ci []).getD k 9) fk && fm_fitb (fm_ty ci k) fk && (match T.1[j]? with
      | some q => decide (q.1 = own) && Nat.beq q.2.1 cp && Nat.beq q.2.2.1 ci && Nat.beq q.2.2.2.1 k && (!(fm_T ci k).2.2.2 || (ini && decide (q.2.2.2.2 = none) && decide ((fm_T ci k).1 = own)))
      | none => false)
    | _ => true
  | .new cp => match e.2.2.2 with
    | [0, ci, n, j] => Nat.blt ci 7 && Nat.beq n (fm_n ci) && decide (T.2.2.2.2.1[j]? = some (own, cp, fm_C ci))
    | [1, x, j] => Nat.blt x 5 && (match T.2.2.1[j]? with
      | some q => decide (q.1 = own) && Nat.beq q.2.1 cp && Nat.beq q.2.2.2.2.1 x && fm_atI cl (e.1 + 3) .dup 1 && fm_atI cl (e.1 + 4) (.ldc q.2.2.1) 2 && fm_atI cl (e.1 + 6) (.invokespecial q.2.2.2.1) 3 && fm_atI cl (e.1 + 9) .athrow 1
      | none => false)
    | _ => true
  | .newarray a => match e.2.2.2 with
    | [kd] => match a with
      | .int => Nat.beq kd 10
      | .boolean => Nat.beq kd 11
      | .long => Nat.beq kd 12
      | .double => Nat.beq kd 13
      | _ => false
    | _ => true
  | .anewarray cp => match e.2.2.2 with
    | [j] => decide (T.2.2.2.2.1[j]? = some (own, cp, RX4))
    | _ => false
  | .ldc cp => match e.2.2.2 with
    | [n] => T.2.2.2.2.2.contains (own, cp, n)
    | _ => true
  | .ldc_w cp => match e.2.2.2 with
    | [n] => T.2.2.2.2.2.contains (own, cp, n)
    | _ => true
  | .invokevirtual cp => match e.2.2.2 with
    | [mj, _, _, j, _] => match T.2.1[j]? with
      | some q => decide (q.1 = own) && Nat.beq q.2.1 cp && Nat.beq q.2.2.1 mj && Nat.beq q.2.2.2.1 0
      | none => false
    | _ => true
  | .invokestatic cp => match e.2.2.2 with
    | [mj, _, _, j] => match T.2.1[j]? with
      | some q => decide (q.1 = own) && Nat.beq q.2.1 cp && Nat.beq q.2.2.1 mj && Nat.beq q.2.2.2.1 1
      | none => false
    | _ => true
  | .invokespecial cp => match e.2.2.2 with
    | [mj, _, _, j] => match T.2.1[j]? with
      | some q => decide (q.1 = own) && Nat.beq q.2.1 cp && Nat.beq q.2.2.1 mj && Nat.beq q.2.2.2.1 2
      | none => false
    | [j] => decide (T.2.2.2.1[j]? = some (own, cp))
    | _ => true
  | .ireturn => match e.2.2.2 with
    | [0] => decide (rt = some .int)
    | [1] => decide (rt = some .boolean)
    | _ => true
  | .lreturn => decide (rt = some .long)
  | .freturn => decide (rt = some .float)
  | .dreturn => decide (rt = some .double)
  | .return_ => decide (rt = none)
  | _ => true)
/-- what the tables' rows say, of lw_tbl -/
def fm_TbOk (T : fm_Tb) : Prop := (∀ q ∈ T.1, fm_fw q ∈ lw_tbl) ∧ (∀ q ∈ T.2.2.2.1, (Cond.methodLink q.1 q.2 objectInit) ∈ lw_tbl) ∧ (Cond.instanceMethod objectInit) ∈ lw_tbl ∧ (Cond.code objectInit ⟨#[0xb1]⟩ 1 none) ∈ lw_tbl ∧
  (∀ q ∈ T.2.2.2.2.1, (Cond.classLink q.1 q.2.1 q.2.2) ∈ lw_tbl) ∧ (∀ q ∈ T.2.2.2.2.2, (Cond.constant q.1 q.2.1 (nI q.2.2)) ∈ lw_tbl) ∧ (∀ ci, ci < 7 → (Cond.instantiable (fm_C ci) (fm_n ci)) ∈ lw_tbl ∧ (Cond.initialized (fm_C ci)) ∈ lw_tbl ∧ ∀ k, k < fm_n ci → fm_fitb (fm_ty ci k) ((fm_fks.getD ci []).getD k 9) = true) ∧
  ((Cond.arrayClass .int) ∈ lw_tbl ∧ (Cond.arrayClass .boolean) ∈ lw_tbl ∧ (Cond.arrayClass .long) ∈ lw_tbl ∧ (Cond.arrayClass .double) ∈ lw_tbl)
section FMS7
variable {p : Program} {l : Launch} {e : Env} {R : Room} {s : State} {m : MethodId} {args : Array Value} {below : List Frame} {meth : Method} {c : Code}
variable {sts : fm_St} {ncs : fm_Nc} {X : Nat × (Nat → Int32)} {B b nL : Nat} {wd ini : Bool} {aC : Nat → ClassId} {D : va_G} {M0 : fm_M} {Q : State → Prop} {cc : ByteArray} {own : String} {T : fm_Tb} {cl : List fm_En} {rt : Option FieldType}
variable {pc : Nat} {lo : List (Option fm_V)} {st : List fm_V} {M : fm_M} {g : fm_F}
theorem sm_flOk {j cp ci k : Nat} {q : fm_pfT} (C : fm_Cx p s m args meth c sts ncs X B b nL aC D cc own) (hT : fm_TbOk T) (hq : T.1[j]? = some q) (h1 : q.1 = own) (h2 : q.2.1 = cp) (h3 : q.2.2.1 = ci) (h4 : q.2.2.2.1 = k) : fm_fl own cp ci k args s := by
  have hm := hT.1 q (List.mem_of_getElem? hq)
  obtain ⟨q1, q2, q3, q4, q5⟩ := q
  dsimp only at h1 h2 h3 h4
  subst h1; subst h2; subst h3; subst h4
  cases q5 with
  | none => exact Or.inl (fm_word C hm rfl)
  | some hst => exact Or.inr ⟨hst, fm_wordN C hm rfl rfl⟩
theorem sm_wdOk {w : List Nat} {wd : Bool} (h : (w.isEmpty == !wd) = true) : (w = [] → wd = false) ∧ (w ≠ [] → wd = true) := by
  cases w <;> cases wd <;> simp at h ⊢
theorem fm_ald_no {kd nx : Nat} {G : Nat → Int32 → fm_V} (h : fm_ald kd G nx lo st M = .inl g) : False := by
  unfold fm_ald at h
  split at h
  · split at h
    · rename_i q _
      cases hq : Nat.beq q.2.1 kd
      · rw [hq, cond_false] at h; cases h
      · rw [hq, cond_true] at h; cases h
    · cases h
  · cases h
theorem fm_if_no {tg nx : Nat} {cnd : Int32 → Prop} {d : ∀ x, Decidable (cnd x)} (h : fm_if tg nx lo st M cnd d = .inl g) : False := by
  unfold fm_if at h
  split at h <;> cases h
theorem fm_icmp_no {tg nx : Nat} {cnd : Int32 → Int32 → Prop} {d : ∀ x y, Decidable (cnd x y)} (h : fm_icmp tg nx lo st M cnd d = .inl g) : False := by
  unfold fm_icmp at h
  split at h <;> cases h
set_option maxHeartbeats 4000000 in
/-- a step to one frame -/
theorem sm_go {ins : Instr} {len : Nat} {ann : List Nat} (C : fm_Cx p s m args meth c sts ncs X B b nL aC D cc own) (hT : fm_TbOk T) (hini : ini = true → meth.name = "<init>") (hd : decode cc pc = .ok (ins, len)) (hck : fm_ck T cl own wd ini rt (pc, ins, len, ann) = true)
    (hfl : ∀ cp j, ins = .invokespecial cp → ann = [j] → 1 ≤ R.frames ∧ 20 ≤ R.locals)
    (h : fm_step X (pc, ins, len, ann) lo st M = .inl g) (hc : fm_cn g.2.2.2 - fm_cn M0 ≤ R.cells) (hs : fm_sn g.2.2.2 - fm_sn M0 ≤ R.slots) (hm1 : fm_cn M0 ≤ fm_cn M) (hm2 : fm_sn M0 ≤ fm_sn M)
    (k : fm_WW p l e R s m args below meth c B b nL wd aC D M0 Q g) : fm_WW p l e R s m args below meth c B b nL wd aC D M0 Q (pc, lo, st, M) := by
  unfold fm_ck at hck
  simp only [Bool.and_eq_true] at hck
  obtain ⟨hlen, hck⟩ := hck
  have hlen := Nat.eq_of_beq_eq_true hlen
  cases ins with
  | iconst n => have hl1 : len = 1 := hlen; subst hl1; cases h; exact sm_iconst C hd k
  | bipush n => have hl1 : len = 2 := hlen; subst hl1; cases h; exact sm_bipush C hd (of_decide_eq_true hck) k
  | sipush n => have hl1 : len = 3 := hlen; subst hl1; cases h; exact sm_sipush C hd (of_decide_eq_true hck) k
  | lconst n => have hl1 : len = 1 := hlen; subst hl1; cases h; exact sm_lconst C hd k
  | dconst n =>
    have hl1 : len = 1 := hlen
    subst hl1
    have h : cond (Nat.beq n.1 0) (fm_go (pc + 1, lo, .inl (.double FP.dconst0) :: st, M)) fm_no = .inl g := h
    cases hb : Nat.beq n.1 0
    · rw [hb, cond_false] at h; cases h
    · rw [hb, cond_true] at h
      cases h
      have hn : n = 0 := Fin.ext (Nat.eq_of_beq_eq_true hb)
      subst hn
      exact sm_dconst C hd k
  | iload_n j => have hl1 : len = 1 := hlen; subst hl1; exact sm_iload_n C hd h k
  | iload j => have hl1 : len = 2 := hlen; subst hl1; exact sm_iload C hd h k
  | aload_n j => have hl1 : len = 1 := hlen; subst hl1; exact sm_aload_n C hd h k
  | aload j => have hl1 : len = 2 := hlen; subst hl1; exact sm_aload C hd h k
  | dload j => have hl1 : len = 2 := hlen; subst hl1; exact sm_dload C hd h k
  | istore_n j =>
    have hl1 : len = 1 := hlen
    subst hl1
    dsimp only [fm_step] at h
    split at h
    · exact sm_istore_n C hd (sm_wdOk hck) h k
    · cases h
  | istore j =>
    have hl1 : len = 2 := hlen
    subst hl1
    dsimp only [fm_step] at h
    split at h
    · exact sm_istore C hd (sm_wdOk hck) h k
    · cases h
  | astore_n j =>
    have hl1 : len = 1 := hlen
    subst hl1
    dsimp only [fm_step] at h
    split at h
    · rename_i v r
      cases hb : fm_isA (some v)
      · rw [hb, cond_false] at h; cases h
      · rw [hb, cond_true] at h
        exact sm_astore_n C hd (sm_wdOk hck) hb h k
    · cases h
  | astore j =>
    have hl1 : len = 2 := hlen
    subst hl1
    dsimp only [fm_step] at h
    split at h
    · rename_i v r
      cases hb : fm_isA (some v)
      · rw [hb, cond_false] at h; cases h
      · rw [hb, cond_true] at h
        exact sm_astore C hd (sm_wdOk hck) hb h k
    · cases h
  | dstore j =>
    have hl1 : len = 2 := hlen
    subst hl1
    dsimp only [fm_step] at h
    split at h
    · exact sm_dstore C hd hck h k
    · cases h
  | iinc j n =>
    have hl1 : len = 3 := hlen
    subst hl1
    dsimp only [fm_step] at h
    split at h
    · rename_i x hx
      exact sm_iinc C hd (sm_wdOk hck) hx h k
    · cases h
  | iadd => have hl1 : len = 1 := hlen; subst hl1; exact sm_bin h (fun H locs cells slots ls x y rest kk => lv_iadd C.1 C.2.1 hd kk) k
  | isub => have hl1 : len = 1 := hlen; subst hl1; exact sm_bin h (fun H locs cells slots ls x y rest kk => lv_isub C.1 C.2.1 hd kk) k
  | imul => have hl1 : len = 1 := hlen; subst hl1; exact sm_bin h (fun H locs cells slots ls x y rest kk => lv_imul C.1 C.2.1 hd kk) k
  | iand => have hl1 : len = 1 := hlen; subst hl1; exact sm_bin h (fun H locs cells slots ls x y rest kk => lv_iand C.1 C.2.1 hd kk) k
  | ior => have hl1 : len = 1 := hlen; subst hl1; exact sm_bin h (fun H locs cells slots ls x y rest kk => lv_ior C.1 C.2.1 hd kk) k
  | ixor => have hl1 : len = 1 := hlen; subst hl1; exact sm_bin h (fun H locs cells slots ls x y rest kk => lv_ixor C.1 C.2.1 hd kk) k
  | ishl => have hl1 : len = 1 := hlen; subst hl1; exact sm_bin h (fun H locs cells slots ls x y rest kk => lv_ishl C.1 C.2.1 hd kk) k
  | ishr => have hl1 : len = 1 := hlen; subst hl1; exact sm_bin h (fun H locs cells slots ls x y rest kk => lv_ishr C.1 C.2.1 hd kk) k
  | iushr => have hl1 : len = 1 := hlen; subst hl1; exact sm_bin h (fun H locs cells slots ls x y rest kk => lv_iushr C.1 C.2.1 hd rfl kk) k
  | idiv =>
    have hl1 : len = 1 := hlen
    subst hl1
    dsimp only [fm_step] at h
    split at h
    · rename_i y x r
      cases hb : decide (y = nI 0)
      · rw [hb, cond_false] at h
        cases h
        have hy : ¬ y = 0 := of_decide_eq_false hb
        exact sm_stack (fun S ho => fm_ok.push (v := .inl (.int (x / y))) ho.tail.tail trivial) (fun H locs cells slots ls kk => lv_idiv C.1 C.2.1 hd hy kk) k
      · rw [hb, cond_true] at h; cases h
    · cases h
  | ineg => have hl1 : len = 1 := hlen; subst hl1; exact sm_un h (fun _ _ => trivial) (fun H locs cells slots ls x rest kk => lv_ineg C.1 C.2.1 hd kk) k
  | i2l => have hl1 : len = 1 := hlen; subst hl1; exact sm_un h (fun _ _ => trivial) (fun H locs cells slots ls x rest kk => lv_i2l C.1 C.2.1 hd rfl kk) k
  | i2f => have hl1 : len = 1 := hlen; subst hl1; exact sm_un h (fun _ _ => trivial) (fun H locs cells slots ls x rest kk => lv_i2f C.1 C.2.1 hd kk) k
  | i2d => have hl1 : len = 1 := hlen; subst hl1; exact sm_un h (fun _ _ => trivial) (fun H locs cells slots ls x rest kk => lv_i2d C.1 C.2.1 hd kk) k
  | ladd =>
    have hl1 : len = 1 := hlen
    subst hl1
    dsimp only [fm_step] at h
    split at h
    · rename_i y x r
      cases h
      exact sm_stack (fun S ho => fm_ok.push (v := .inl (.long (x + y))) ho.tail.tail trivial) (fun H locs cells slots ls kk => lv_ladd C.1 C.2.1 hd kk) k
    · cases h
  | lcmp =>
    have hl1 : len = 1 := hlen
    subst hl1
    dsimp only [fm_step] at h
    split at h
    · rename_i y x r
      cases h
      exact sm_stack (fun S ho => fm_ok.push (v := .inl (.int (lg_cmp x y))) ho.tail.tail trivial) (fun H locs cells slots ls kk => W.lcmp C.1 C.2.1 hd kk) k
    · cases h
  | dcmp op =>
    have hl1 : len = 1 := hlen
    subst hl1
    dsimp only [fm_step] at h
    split at h
    · rename_i y x r
      cases h
      exact sm_stack (fun S ho => fm_ok.push (v := .inl (.int (Op.cmpValue (FP.dcmp x y) op))) ho.tail.tail trivial) (fun H locs cells slots ls kk => lv_dcmp C.1 C.2.1 hd kk) k
    · cases h
  | dup =>
    have hl1 : len = 1 := hlen
    subst hl1
    dsimp only [fm_step] at h
    split at h
    · rename_i v r
      cases hb : Nat.beq (fm_cat v) 1
      · rw [hb, cond_false] at h; cases h
      · rw [hb, cond_true] at h
        cases h
        have hv := Nat.eq_of_beq_eq_true hb
        exact sm_stack (fun S ho => ho.push ho.hd) (fun H locs cells slots ls kk => lv_dup C.1 C.2.1 hd (by rw [fm_cat_ren]; exact hv) kk) k
    · cases h
  | pop =>
    have hl1 : len = 1 := hlen
    subst hl1
    dsimp only [fm_step] at h
    split at h
    · rename_i v r
      cases hb : Nat.beq (fm_cat v) 1
      · rw [hb, cond_false] at h; cases h
      · rw [hb, cond_true] at h
        cases h
        have hv := Nat.eq_of_beq_eq_true hb
        exact sm_stack (fun S ho => ho.tail) (fun H locs cells slots ls kk => lv_pop C.1 C.2.1 hd (va := fm_ren B b v) (by rw [fm_cat_ren]; exact hv) kk) k
    · cases h
  | dup2 =>
    have hl1 : len = 1 := hlen
    subst hl1
    dsimp only [fm_step] at h
    split at h
    · rename_i v w r
      cases hb : (Nat.beq (fm_cat v) 1 && Nat.beq (fm_cat w) 1)
      · rw [hb, cond_false] at h; cases h
      · rw [hb, cond_true] at h
        cases h
        simp only [Bool.and_eq_true] at hb
        have hv := Nat.eq_of_beq_eq_true hb.1
        have hw := Nat.eq_of_beq_eq_true hb.2
        exact sm_stack (fun S ho => (ho.push ho.tail.hd).push ho.hd) (fun H locs cells slots ls kk => lv_dup2_11 C.1 C.2.1 hd (by rw [fm_cat_ren]; exact hv) (by rw [fm_cat_ren]; exact hw) kk) k
    · cases h
  | goto off =>
    have hl1 : len = 3 := hlen
    subst hl1
    dsimp only [fm_step] at h
    split at h
    · rename_i tg
      cases h
      dsimp only at hck
      exact sm_stack (fun S ho => ho) (fun H locs cells slots ls kk => lv_goto C.1 C.2.1 hd (of_decide_eq_true hck) kk) k
    · cases h
  | arraylength =>
    have hl1 : len = 1 := hlen
    subst hl1
    dsimp only [fm_step] at h
    split at h
    · rename_i c0 r
      cases hb : Nat.beq c0 fm_scr
      · rw [hb, cond_false] at h; cases h
      · rw [hb, cond_true] at h
        cases h
        have hc0 := Nat.eq_of_beq_eq_true hb
        subst hc0
        exact sm_slen C hd k
    · cases h
  | getfield cp =>
    have hl1 : len = 3 := hlen
    subst hl1
    dsimp only [fm_step] at h
    split at h
    · rename_i ci k9 fk j v r
      split at h
      · rename_i w hw
        cases h
        dsimp only at hck
        simp only [Bool.and_eq_true] at hck
        obtain ⟨⟨⟨h1, h2⟩, h3⟩, h4⟩ := hck
        split at h4
        · rename_i q hq
          simp only [Bool.and_eq_true] at h4
          obtain ⟨⟨⟨q1, q2⟩, q3⟩, q4⟩ := h4
          exact sm_getfield C hd (Nat.eq_of_beq_eq_true h3) (by simpa using h1) (by simpa using h2) (sm_flOk C hT hq (of_decide_eq_true q1) (Nat.eq_of_beq_eq_true q2) (Nat.eq_of_beq_eq_true q3) (Nat.eq_of_beq_eq_true q4)) hw k
        · cases h4
      · cases h
    · cases h
  | putfield cp =>
    have hl1 : len = 3 := hlen
    subst hl1
    dsimp only [fm_step] at h
    split at h
    · rename_i ci k9 fk j x v r
      split at h
      · rename_i w hw
        cases h
        dsimp only at hck
        simp only [Bool.and_eq_true] at hck
        obtain ⟨⟨⟨⟨h1, h2⟩, h3⟩, h5⟩, h4⟩ := hck
        split at h4
        · rename_i q hq
          simp only [Bool.and_eq_true] at h4
          obtain ⟨⟨⟨⟨q1, q2⟩, q3⟩, q4⟩, q5⟩ := h4
          have hfl := sm_flOk C hT hq (of_decide_eq_true q1) (Nat.eq_of_beq_eq_true q2) (Nat.eq_of_beq_eq_true q3) (Nat.eq_of_beq_eq_true q4)
          have hfp : fm_fp own cp ci k9 args s meth := by
            cases hfin : (fm_T ci k9).2.2.2
            · exact Or.inl ⟨hfin, hfl⟩
            · rw [hfin] at q5
              simp only [Bool.not_true, Bool.false_or, Bool.and_eq_true] at q5
              obtain ⟨⟨i1, i2⟩, i3⟩ := q5
              refine Or.inr ⟨hfin, ?_, hini i1, of_decide_eq_true i3⟩
              have hm := hT.1 q (List.mem_of_getElem? hq)
              have e1 := of_decide_eq_true q1
              have e2 := Nat.eq_of_beq_eq_true q2
              have e3 := Nat.eq_of_beq_eq_true q3
              have e4 := Nat.eq_of_beq_eq_true q4
              have e5 := of_decide_eq_true i2
              obtain ⟨z1, z2, z3, z4, z5⟩ := q
              dsimp only at e1 e2 e3 e4 e5
              subst e1; subst e2; subst e3; subst e4; subst e5
              exact fm_word C hm rfl
          exact sm_putfield C hd (Nat.eq_of_beq_eq_true h3) (by simpa using h1) (by simpa using h2) hfp (fm_fitb_ok h5) hw k
        · cases h4
      · cases h
    · cases h
  | new cp =>
    have hl1 : len = 3 := hlen
    subst hl1
    dsimp only [fm_step] at h
    split at h
    · rename_i ci n j
      split at h
      · rename_i q hq
        cases h
        dsimp only at hck
        simp only [Bool.and_eq_true] at hck
        obtain ⟨⟨h1, h2⟩, h3⟩ := hck
        have hci : ci < 7 := by simpa using h1
        have hn := Nat.eq_of_beq_eq_true h2
        have hw1 := hT.2.2.2.2.1 _ (List.mem_of_getElem? (of_decide_eq_true h3))
        obtain ⟨w2, w3, w4⟩ := hT.2.2.2.2.2.2.1 ci hci
        obtain ⟨g0, g1, rfl⟩ := fm_newc_inv hq
        rw [fm_cn_app] at hc
        rw [fm_sn_app] at hs
        exact sm_new C hd hci hn (fm_word C hw1 rfl) (fm_word C w2 rfl) (fm_word C w3 rfl) (fun k hk => fm_fitb_ok (w4 k hk)) hq hc hs hm1 hm2 k
      · cases h
    · rename_i x j
      cases hb : Nat.ble (fm_csum st) 8
      · rw [hb, cond_false] at h; cases h
      · rw [hb, cond_true] at h; cases h
    · cases h
  | ldc cp =>
    have hl1 : len = 2 := hlen
    subst hl1
    dsimp only [fm_step] at h
    split at h
    · rename_i n
      cases h
      dsimp only at hck
      have hm := hT.2.2.2.2.2.1 _ (List.contains_iff_mem.mp hck)
      exact sm_stack (fun S ho => fm_ok.push (v := .inl (.int (nI n))) ho trivial) (fun H locs cells slots ls kk => lv_ldc C.1 C.2.1 C.2.2.2.1 (fm_word C hm rfl) hd kk) k
    · cases h
  | ldc_w cp =>
    have hl1 : len = 3 := hlen
    subst hl1
    dsimp only [fm_step] at h
    split at h
    · rename_i n
      cases h
      dsimp only at hck
      have hm := hT.2.2.2.2.2.1 _ (List.contains_iff_mem.mp hck)
      exact sm_stack (fun S ho => fm_ok.push (v := .inl (.int (nI n))) ho trivial) (fun H locs cells slots ls kk => lv_ldcw C.1 C.2.1 C.2.2.2.1 (fm_word C hm rfl) hd kk) k
    · cases h
  | invokespecial cp =>
    have hl1 : len = 3 := hlen
    subst hl1
    dsimp only [fm_step] at h
    split at h
    · rename_i mj rk n j
      unfold fm_calls at h
      split at h
      · rename_i q hq
        cases hb : (Nat.ble (fm_csum q.2) 8 && q.1.all (fun v => Nat.beq (fm_cat v) 1) && fm_isA q.1.head?)
        · rw [hb, cond_false] at h; cases h
        · rw [hb, cond_true] at h; cases h
      · cases h
    · rename_i j
      split at h
      · rename_i c0 r
        cases hb : Nat.ble (fm_csum r) 8
        · rw [hb, cond_false] at h; cases h
        · rw [hb, cond_true] at h
          cases h
          dsimp only at hck
          have hm := hT.2.1 _ (List.mem_of_getElem? (of_decide_eq_true hck))
          have hf1 : 1 ≤ R.frames := (hfl _ j rfl rfl).1
          have hl2 : 20 ≤ R.locals := (hfl _ j rfl rfl).2
          have hb2 : fm_csum r ≤ 8 := by simpa using hb
          intro H locs ls hl ho hw hS
          refine W.objInit (a := if c0 = fm_scr then b else B + c0) (rest := r.map (fm_ren B b)) C.1 C.2.1 C.2.2.2.1 (fm_word C hm rfl) (fm_word C hT.2.2.1 rfl) (fm_word C hT.2.2.2.1 rfl) rfl (by rw [C.2.2.1]; exact hl.1) rfl hd hf1 ?_ (k H locs ls hl ho.tail hw hS)
          rw [fm_csum_ren]
          show 2 * (F0 m pc ls (List.map (fm_ren B b) (Sum.inl (Value.ref c0) :: r))).monitorRoom + fm_csum r + 12 ≤ R.locals
          have h0 : (F0 m pc ls (List.map (fm_ren B b) (Sum.inl (Value.ref c0) :: r))).monitorRoom = 0 := rfl
          rw [h0]
          omega
      · cases h
    · cases h
  | ifCond cd off =>
    exfalso
    dsimp only [fm_step] at h
    split at h
    · cases cd <;> exact fm_if_no h
    · cases h
  | if_icmp cd off =>
    exfalso
    dsimp only [fm_step] at h
    split at h
    · cases cd <;> exact fm_icmp_no h
    · cases h
  | tableswitch d lo9 hi offs =>
    exfalso
    dsimp only [fm_step] at h
    split at h <;> cases h
  | iaload =>
    exfalso
    dsimp only [fm_step] at h
    split at h
    · rename_i i c0 r
      cases hb : Nat.beq c0 fm_scr
      · rw [hb, cond_false] at h; exact fm_ald_no h
      · rw [hb, cond_true] at h; cases h
    · exact fm_ald_no h
  | _ => first
    | exact absurd (show (fm_no : fm_R) = Sum.inl g from h) (fun h9 => nomatch h9)
    | (exfalso; (simp only [fm_step, fm_ald, fm_callr, fm_callv, fm_calls, Bool.cond_eq_ite] at h) <;> (repeat' (split at h)) <;> (cases h))
end FMS7
end
section
section FMS8
variable {p : Program} {l : Launch} {e : Env} {R : Room} {s : State} {m : MethodId} {args : Array Value} {below : List Frame} {meth : Method} {c : Code}
variable {sts : fm_St} {ncs : fm_Nc} {X : Nat × (Nat → Int32)} {B b nL : Nat} {wd ini : Bool} {aC : Nat → ClassId} {D : va_G} {M0 : fm_M} {Q : State → Prop} {cc : ByteArray} {own : String} {T : fm_Tb} {cl : List fm_En} {rt : Option FieldType}
variable {pc : Nat} {lo : List (Option fm_V)} {st : List fm_V} {M : fm_M} {g : fm_F}
theorem fm_if_gd {tg nx : Nat} {cnd : Int32 → Prop} {d : ∀ x, Decidable (cnd x)} {q : fm_P} (h : fm_if tg nx lo st M cnd d = .inr (.inl (q, g))) : False := by
  unfold fm_if at h
  split at h <;> cases h
theorem fm_icmp_gd {tg nx : Nat} {cnd : Int32 → Int32 → Prop} {d : ∀ x y, Decidable (cnd x y)} {q : fm_P} (h : fm_icmp tg nx lo st M cnd d = .inr (.inl (q, g))) : False := by
  unfold fm_icmp at h
  split at h <;> cases h
set_option maxHeartbeats 4000000 in
/-- a step under a condition -/
theorem sm_gd {ins : Instr} {len : Nat} {ann : List Nat} {q : fm_P} (C : fm_Cx p s m args meth c sts ncs X B b nL aC D cc own) (hT : fm_TbOk T) (hd : decode cc pc = .ok (ins, len)) (hck : fm_ck T cl own wd ini rt (pc, ins, len, ann) = true)
    (h : fm_step X (pc, ins, len, ann) lo st M = .inr (.inl (q, g))) (hq : q.1) (hc : fm_cn g.2.2.2 - fm_cn M0 ≤ R.cells) (hs : fm_sn g.2.2.2 - fm_sn M0 ≤ R.slots) (hm1 : fm_cn M0 ≤ fm_cn M) (hm2 : fm_sn M0 ≤ fm_sn M)
    (k : fm_WW p l e R s m args below meth c B b nL wd aC D M0 Q g) : fm_WW p l e R s m args below meth c B b nL wd aC D M0 Q (pc, lo, st, M) := by
  unfold fm_ck at hck
  simp only [Bool.and_eq_true] at hck
  obtain ⟨hlen, hck⟩ := hck
  have hlen := Nat.eq_of_beq_eq_true hlen
  cases ins with
  | fdiv =>
    have hl1 : len = 1 := hlen
    subst hl1
    dsimp only [fm_step] at h
    split at h
    · rename_i y x r
      cases h
      exact sm_stack (fun S ho => fm_ok.push (v := .inl (.float (FP.fdiv x y))) ho.tail.tail trivial) (fun H locs cells slots ls kk => lv_fdiv C.1 C.2.1 hd hq kk) k
    · cases h
  | ddiv =>
    have hl1 : len = 1 := hlen
    subst hl1
    dsimp only [fm_step] at h
    split at h
    · rename_i y x r
      cases h
      exact sm_stack (fun S ho => fm_ok.push (v := .inl (.double (FP.ddiv x y))) ho.tail.tail trivial) (fun H locs cells slots ls kk => lv_ddiv C.1 C.2.1 hd hq kk) k
    · cases h
  | f2d =>
    have hl1 : len = 1 := hlen
    subst hl1
    dsimp only [fm_step] at h
    split at h
    · rename_i x r
      cases h
      exact sm_stack (fun S ho => fm_ok.push (v := .inl (.double (FP.f2d x))) ho.tail trivial) (fun H locs cells slots ls kk => lv_f2d C.1 C.2.1 hd hq kk) k
    · cases h
  | iaload =>
    have hl1 : len = 1 := hlen
    subst hl1
    dsimp only [fm_step] at h
    split at h
    · rename_i i c0 r
      cases hb : Nat.beq c0 fm_scr
      · rw [hb, cond_false] at h; exact sm_iaload C hd h hq k
      · rw [hb, cond_true] at h
        cases h
        have hc0 := Nat.eq_of_beq_eq_true hb
        subst hc0
        exact sm_sload C hd hq k
    · exact sm_iaload C hd h hq k
  | baload => have hl1 : len = 1 := hlen; subst hl1; exact sm_baload C hd h hq k
  | laload => have hl1 : len = 1 := hlen; subst hl1; exact sm_laload C hd h hq k
  | daload => have hl1 : len = 1 := hlen; subst hl1; exact sm_daload C hd h hq k
  | aaload =>
    have hl1 : len = 1 := hlen
    subst hl1
    dsimp only [fm_step] at h
    split at h
    · rename_i i c0 r
      cases hb : (fm_pool M.2 && (M.2[c0]? == some (14, 12, fm_poolRefs)))
      · rw [hb, cond_false] at h; cases h
      · rw [hb, cond_true] at h
        cases h
        simp only [Bool.and_eq_true, beq_iff_eq] at hb
        exact sm_aaload C hd hb.1 hb.2 hq k
    · cases h
  | iastore =>
    have hl1 : len = 1 := hlen
    subst hl1
    dsimp only [fm_step] at h
    split at h
    · rename_i x i a r
      split at h
      · rename_i y hy
        cases hb : Nat.beq y.2.1 10
        · rw [hb, cond_false] at h; cases h
        · rw [hb, cond_true] at h
          cases h
          exact sm_iastore C hd hy (Nat.eq_of_beq_eq_true hb) hq k
      · cases h
    · cases h
  | bastore =>
    have hl1 : len = 1 := hlen
    subst hl1
    dsimp only [fm_step] at h
    split at h
    · rename_i x i a r
      split at h
      · rename_i y hy
        cases hb : Nat.beq y.2.1 11
        · rw [hb, cond_false] at h; cases h
        · rw [hb, cond_true] at h
          cases h
          exact sm_bastore C hd hy (Nat.eq_of_beq_eq_true hb) hq k
      · cases h
    · cases h
  | lastore =>
    have hl1 : len = 1 := hlen
    subst hl1
    dsimp only [fm_step] at h
    split at h
    · rename_i x i a r
      split at h
      · rename_i y hy
        cases hb : Nat.beq y.2.1 12
        · rw [hb, cond_false] at h; cases h
        · rw [hb, cond_true] at h
          cases h
          exact sm_lastore C hd hy (Nat.eq_of_beq_eq_true hb) hq k
      · cases h
    · cases h
  | dastore =>
    have hl1 : len = 1 := hlen
    subst hl1
    dsimp only [fm_step] at h
    split at h
    · rename_i x i a r
      split at h
      · rename_i y hy
        cases hb : Nat.beq y.2.1 13
        · rw [hb, cond_false] at h; cases h
        · rw [hb, cond_true] at h
          cases h
          exact sm_dastore C hd hy (Nat.eq_of_beq_eq_true hb) hq k
      · cases h
    · cases h
  | aastore =>
    have hl1 : len = 1 := hlen
    subst hl1
    dsimp only [fm_step] at h
    split at h
    · rename_i j i c0 r
      split at h
      · rename_i y y' hy hy'
        cases hb : (Nat.beq y.1 14 && Nat.beq y'.1 4 && Nat.blt i.toNatClampNeg y.2.2.length && (!(fm_pool M.2) || fm_pool (M.2.set c0 (y.1, y.2.1, y.2.2.set i.toNatClampNeg (some j)))))
        · rw [hb, cond_false] at h; cases h
        · rw [hb, cond_true] at h
          cases h
          simp only [Bool.and_eq_true] at hb
          obtain ⟨⟨⟨b1, b2⟩, b3⟩, b4⟩ := hb
          refine sm_aastore C hd hy hy' (Nat.eq_of_beq_eq_true b1) (Nat.eq_of_beq_eq_true b2) (by simpa using b3) (fun hp => ?_) hq k
          rw [hp] at b4
          simpa using b4
      · cases h
    · cases h
  | newarray a =>
    have hl1 : len = 2 := hlen
    subst hl1
    dsimp only [fm_step] at h
    split at h
    · rename_i kd n r
      split at h
      · rename_i y hy
        cases hb : Nat.ble n.toNatClampNeg 1000
        · rw [hb, cond_false] at h; cases h
        · rw [hb, cond_true] at h
          cases h
          have hb2 : n.toNatClampNeg ≤ 1000 := by simpa using hb
          obtain ⟨g0, g1, rfl⟩ := fm_newc_inv hy
          rw [fm_cn_app] at hc
          rw [fm_sn_app] at hs
          obtain ⟨t1, t2, t3, t4⟩ := hT.2.2.2.2.2.2.2
          cases a with
          | int => exact sm_newarray C hd (Or.inl ⟨rfl, Nat.eq_of_beq_eq_true hck⟩) (fm_word C t1 rfl) hq hb2 hy hc hs hm1 hm2 k
          | boolean => exact sm_newarray C hd (Or.inr (Or.inl ⟨rfl, Nat.eq_of_beq_eq_true hck⟩)) (fm_word C t2 rfl) hq hb2 hy hc hs hm1 hm2 k
          | long => exact sm_newarray C hd (Or.inr (Or.inr (Or.inl ⟨rfl, Nat.eq_of_beq_eq_true hck⟩))) (fm_word C t3 rfl) hq hb2 hy hc hs hm1 hm2 k
          | double => exact sm_newarray C hd (Or.inr (Or.inr (Or.inr ⟨rfl, Nat.eq_of_beq_eq_true hck⟩))) (fm_word C t4 rfl) hq hb2 hy hc hs hm1 hm2 k
          | _ => cases hck
      · cases h
    · cases h
  | anewarray cp =>
    have hl1 : len = 3 := hlen
    subst hl1
    dsimp only [fm_step] at h
    split at h
    · rename_i n r
      split at h
      · rename_i y hy
        cases hb : Nat.ble n.toNatClampNeg 1000
        · rw [hb, cond_false] at h; cases h
        · rw [hb, cond_true] at h
          cases h
          have hb2 : n.toNatClampNeg ≤ 1000 := by simpa using hb
          obtain ⟨g0, g1, rfl⟩ := fm_newc_inv hy
          rw [fm_cn_app] at hc
          rw [fm_sn_app] at hs
          dsimp only at hck
          split at hck
          · rename_i j
            have hw1 := hT.2.2.2.2.1 _ (List.mem_of_getElem? (of_decide_eq_true hck))
            exact sm_anewarray C hd (fm_word C hw1 rfl) hq hb2 hy hc hs hm1 hm2 k
          · cases hck
      · cases h
    · cases h
  | ifCond cd off =>
    exfalso
    dsimp only [fm_step] at h
    split at h
    · cases cd <;> exact fm_if_gd h
    · cases h
  | if_icmp cd off =>
    exfalso
    dsimp only [fm_step] at h
    split at h
    · cases cd <;> exact fm_icmp_gd h
    · cases h
  | _ => first
    | exact absurd (show (fm_no : fm_R) = Sum.inr (Sum.inl (q, g)) from h) (fun h9 => nomatch h9)
    | (exfalso; (simp only [fm_step, fm_ald, fm_callr, fm_callv, fm_calls, fm_load, fm_st, fm_bin, fm_un, Bool.cond_eq_ite] at h) <;> (repeat' (split at h)) <;> (cases h))
set_option maxHeartbeats 4000000 in
/-- a branch -/
theorem sm_br {ins : Instr} {len : Nat} {ann : List Nat} {q : fm_P} {g2 : fm_F} (C : fm_Cx p s m args meth c sts ncs X B b nL aC D cc own) (hd : decode cc pc = .ok (ins, len)) (hck : fm_ck T cl own wd ini rt (pc, ins, len, ann) = true)
    (h : fm_step X (pc, ins, len, ann) lo st M = .inr (.inr (.inl (q, g, g2))))
    (k1 : q.1 → fm_WW p l e R s m args below meth c B b nL wd aC D M0 Q g) (k2 : ¬ q.1 → fm_WW p l e R s m args below meth c B b nL wd aC D M0 Q g2) : fm_WW p l e R s m args below meth c B b nL wd aC D M0 Q (pc, lo, st, M) := by
  unfold fm_ck at hck
  simp only [Bool.and_eq_true] at hck
  obtain ⟨hlen, hck⟩ := hck
  have hlen := Nat.eq_of_beq_eq_true hlen
  cases ins with
  | ifCond cd off =>
    have hl1 : len = 3 := hlen
    subst hl1
    have h' := h
    dsimp only [fm_step] at h'
    split at h'
    · rename_i tg
      exact sm_ifCond (X := X) C hd (of_decide_eq_true hck) h k1 k2
    · cases h'
  | if_icmp cd off =>
    have hl1 : len = 3 := hlen
    subst hl1
    have h' := h
    dsimp only [fm_step] at h'
    split at h'
    · rename_i tg
      exact sm_ifIcmp (X := X) C hd (of_decide_eq_true hck) h k1 k2
    · cases h'
  | _ => first
    | exact absurd (show (fm_no : fm_R) = Sum.inr (Sum.inr (Sum.inl (q, g, g2))) from h) (fun h9 => nomatch h9)
    | (exfalso; (simp only [fm_step, fm_ald, fm_callr, fm_callv, fm_calls, fm_load, fm_st, fm_bin, fm_un, Bool.cond_eq_ite] at h) <;> (repeat' (split at h)) <;> (cases h))
end FMS8
end
section
/-- a memory that came behind another: the pool stays, nothing is unmade -/
def fm_ge (M M' : fm_M) : Prop := (fm_pool M.2 = true → fm_pool M'.2 = true) ∧ fm_cn M ≤ fm_cn M' ∧ fm_sn M ≤ fm_sn M'
theorem fm_ge.rf (M : fm_M) : fm_ge M M := ⟨id, Nat.le_refl _, Nat.le_refl _⟩
theorem fm_ge.tr {M M' M'' : fm_M} (h : fm_ge M M') (h' : fm_ge M' M'') : fm_ge M M'' := ⟨fun z => h'.1 (h.1 z), Nat.le_trans h.2.1 h'.2.1, Nat.le_trans h.2.2 h'.2.2⟩
def fm_rall (P : fm_M → Prop) (r : fm_R) : Prop := match r with
  | .inl g => P g.2.2.2
  | .inr (.inl (_, g)) => P g.2.2.2
  | .inr (.inr (.inl (_, g, h))) => P g.2.2.2 ∧ P h.2.2.2
  | .inr (.inr (.inr (.inl (_, _, _, g)))) => P g.2.2.2
  | .inr (.inr (.inr (.inr (.inl q)))) => P q.2
  | .inr (.inr (.inr (.inr (.inr (.inl (x, l, d)))))) => P (fm_sel x l d).2.2.2
  | .inr (.inr (.inr (.inr (.inr (.inr (.inl (_, q))))))) => P q.2
  | .inr (.inr (.inr (.inr (.inr (.inr (.inr _)))))) => True
theorem fm_set_sum {S : List fm_Sc} {cI : Nat} {q : fm_Sc} {rs : List (Option Nat)} (h : S[cI]? = some q) : ((S.set cI (q.1, q.2.1, rs)).map (fun z => z.2.1)).sum = (S.map (fun z => z.2.1)).sum := by
  have : (S.set cI (q.1, q.2.1, rs)).map (fun z => z.2.1) = S.map (fun z => z.2.1) := by
    rw [List.map_set]
    apply List.ext_getElem?
    intro i
    have hcl := (List.getElem?_eq_some_iff.mp h).1
    by_cases hi : cI = i
    · subst hi
      rw [List.getElem?_set_self (by simpa using hcl), List.getElem?_map, h]
      rfl
    · rw [List.getElem?_set_ne hi]
  rw [this]
theorem fm_set_ge {M : fm_M} {cI : Nat} {q : fm_Sc} {rs : List (Option Nat)} (h : M.2[cI]? = some q) (hp : fm_pool M.2 = true → fm_pool (M.2.set cI (q.1, q.2.1, rs)) = true) : fm_ge M (M.1, M.2.set cI (q.1, q.2.1, rs)) := by
  refine ⟨hp, ?_, ?_⟩
  · unfold fm_cn
    rw [List.length_set]
    exact Nat.le_refl _
  · unfold fm_sn
    rw [fm_set_sum h]
    exact Nat.le_refl _
theorem fm_putf_ge {ci k fk : Nat} {v x : fm_V} {M M' : fm_M} (h : fm_putf ci k fk v x M = some M') : fm_ge M M' := by
  unfold fm_putf at h
  split at h
  · rename_i cI
    split at h
    · rename_i q hq
      cases hb : (Nat.beq q.1 ci && Nat.blt k q.2.1)
      · rw [hb, cond_false] at h; cases h
      · rw [hb, cond_true] at h
        split at h
        · cases h; exact ⟨fun z => z, Nat.le_refl _, Nat.le_refl _⟩
        · cases h; exact ⟨fun z => z, Nat.le_refl _, Nat.le_refl _⟩
        · rename_i j
          cases hb2 : (Nat.blt j M.2.length && Nat.blt k q.2.2.length && (!(fm_pool M.2) || fm_pool (M.2.set cI (q.1, q.2.1, q.2.2.set k (some j)))))
          · rw [hb2, cond_false] at h; cases h
          · rw [hb2, cond_true] at h
            cases h
            simp only [Bool.and_eq_true] at hb2
            refine fm_set_ge hq fun hp => ?_
            have h3 := hb2.2
            rw [hp] at h3
            simpa using h3
        · cases h
    · cases h
  · rename_i t j
    cases hb : (Nat.beq t 0 && Nat.beq ci 4 && Nat.beq k 2 && fm_pool M.2)
    · rw [hb, cond_false] at h; cases h
    · rw [hb, cond_true] at h
      split at h
      · cases h; exact ⟨fun z => z, Nat.le_refl _, Nat.le_refl _⟩
      · cases h
  · cases h
theorem fm_newc_ge {q : fm_Sc} {M : fm_M} {y : Nat × fm_M} (h : fm_newc q M = some y) : fm_ge M y.2 := by
  obtain ⟨-, -, rfl⟩ := fm_newc_inv h
  refine ⟨fun z => fm_pool_app z, ?_, ?_⟩
  · rw [fm_cn_app]; omega
  · rw [fm_sn_app]; omega
theorem fm_swl_mem {lo : List (Option fm_V)} {r : List fm_V} {M : fm_M} : ∀ (ts : List Nat) (k : Nat) (x : Int32) (d : fm_F), d.2.2.2 = M → (fm_sel x (fm_swl lo r M k ts) d).2.2.2 = M := by
  intro ts
  induction ts with
  | nil => intro k x d hd; exact hd
  | cons t ts ih =>
    intro k x d hd
    unfold fm_swl fm_sel
    split
    · rfl
    · exact ih _ _ _ hd
set_option maxHeartbeats 4000000 in
theorem fm_step_ge (X : Nat × (Nat → Int32)) (e : fm_En) (lo : List (Option fm_V)) (st : List fm_V) (M : fm_M) : fm_rall (fm_ge M) (fm_step X e lo st M) := by
  have rfl1 : fm_ge M M := fm_ge.rf M
  have one : ∀ (c : Bool) (f : fm_F), f.2.2.2 = M → fm_rall (fm_ge M) (cond c (fm_go f) fm_no) := fun c f hf => by
    cases c
    · trivial
    · show fm_ge M f.2.2.2; rw [hf]; exact rfl1
  have ald : ∀ (kd : Nat) (G : Nat → Int32 → fm_V) (nx : Nat), fm_rall (fm_ge M) (fm_ald kd G nx lo st M) := fun kd G nx => by
    unfold fm_ald
    split
    · split
      · rename_i q _
        cases Nat.beq q.2.1 kd
        · trivial
        · exact rfl1
      · trivial
    · trivial
  have bin : ∀ (nx : Nat) (op : Int32 → Int32 → Int32), fm_rall (fm_ge M) (fm_bin nx lo st M op) := fun nx op => by
    unfold fm_bin
    split
    · exact rfl1
    · trivial
  have un : ∀ (nx : Nat) (op : Int32 → fm_V), fm_rall (fm_ge M) (fm_un nx lo st M op) := fun nx op => by
    unfold fm_un
    split
    · exact rfl1
    · trivial
  have ld : ∀ (ok : Option fm_V → Bool) (nx i : Nat), fm_rall (fm_ge M) (fm_load ok nx lo i st M) := fun ok nx i => by
    unfold fm_load
    split
    · exact one _ _ rfl
    · trivial
  have sto : ∀ (w : List Nat) (nx i : Nat) (v : fm_V) (r : List fm_V), fm_rall (fm_ge M) (fm_st w nx lo i v r M) := fun w nx i v r => by
    unfold fm_st
    split
    · exact one _ _ rfl
    · exact one _ _ rfl
  have iff1 : ∀ (tg nx : Nat) (cnd : Int32 → Prop) (d : ∀ x, Decidable (cnd x)), fm_rall (fm_ge M) (fm_if tg nx lo st M cnd d) := fun tg nx cnd d => by
    unfold fm_if
    split
    · exact ⟨rfl1, rfl1⟩
    · trivial
  have iff2 : ∀ (tg nx : Nat) (cnd : Int32 → Int32 → Prop) (d : ∀ x y, Decidable (cnd x y)), fm_rall (fm_ge M) (fm_icmp tg nx lo st M cnd d) := fun tg nx cnd d => by
    unfold fm_icmp
    split
    · exact ⟨rfl1, rfl1⟩
    · trivial
  have callr : ∀ (mj rk n nx : Nat), fm_rall (fm_ge M) (fm_callr mj rk n nx lo st M) := fun mj rk n nx => by
    unfold fm_callr
    split
    · rename_i q _
      cases (Nat.ble (fm_csum q.2) 8 && q.1.all (fun v => Nat.beq (fm_cat v) 1))
      · trivial
      · exact rfl1
    · trivial
  have callv : ∀ (mj rk n ci nx : Nat), fm_rall (fm_ge M) (fm_callv mj rk n ci nx lo st M) := fun mj rk n ci nx => by
    unfold fm_callv
    split
    · rename_i q _
      cases (Nat.ble (fm_csum q.2) 8 && q.1.all (fun v => Nat.beq (fm_cat v) 1) && fm_rcv ci q.1 M.2)
      · trivial
      · exact rfl1
    · trivial
  have calls : ∀ (mj rk n nx : Nat), fm_rall (fm_ge M) (fm_calls mj rk n nx lo st M) := fun mj rk n nx => by
    unfold fm_calls
    split
    · rename_i q _
      cases (Nat.ble (fm_csum q.2) 8 && q.1.all (fun v => Nat.beq (fm_cat v) 1) && fm_isA q.1.head?)
      · trivial
      · exact rfl1
    · trivial
  obtain ⟨pc, ins, len, ann⟩ := e
  cases ins with
  | dconst n => exact one _ _ rfl
  | iload_n j => exact ld _ _ _
  | iload j => exact ld _ _ _
  | aload_n j => exact ld _ _ _
  | aload j => exact ld _ _ _
  | dload j => exact ld _ _ _
  | istore_n j =>
    dsimp only [fm_step]
    split
    · exact sto _ _ _ _ _
    · trivial
  | istore j =>
    dsimp only [fm_step]
    split
    · exact sto _ _ _ _ _
    · trivial
  | astore_n j =>
    dsimp only [fm_step]
    split
    · rename_i v r
      cases fm_isA (some v)
      · trivial
      · exact sto _ _ _ _ _
    · trivial
  | astore j =>
    dsimp only [fm_step]
    split
    · rename_i v r
      cases fm_isA (some v)
      · trivial
      · exact sto _ _ _ _ _
    · trivial
  | dstore j =>
    dsimp only [fm_step]
    split
    · exact sto _ _ _ _ _
    · trivial
  | iinc j n =>
    dsimp only [fm_step]
    split
    · exact sto _ _ _ _ _
    · trivial
  | iadd => exact bin _ _
  | isub => exact bin _ _
  | imul => exact bin _ _
  | iand => exact bin _ _
  | ior => exact bin _ _
  | ixor => exact bin _ _
  | ishl => exact bin _ _
  | ishr => exact bin _ _
  | iushr => exact bin _ _
  | ineg => exact un _ _
  | i2l => exact un _ _
  | i2f => exact un _ _
  | i2d => exact un _ _
  | ifCond cd off =>
    dsimp only [fm_step]
    split
    · cases cd <;> exact iff1 _ _ _ _
    · trivial
  | if_icmp cd off =>
    dsimp only [fm_step]
    split
    · cases cd <;> exact iff2 _ _ _ _
    · trivial
  | tableswitch d lo9 hi offs =>
    dsimp only [fm_step]
    split
    · rename_i dt ts x r
      have h9 := fm_swl_mem (lo := lo) (r := r) (M := M) ts 0 x (dt, lo, r, M) rfl
      show fm_ge M (fm_sel x (fm_swl lo r M 0 ts) (dt, lo, r, M)).2.2.2
      rw [h9]
      exact rfl1
    · trivial
  | iaload =>
    dsimp only [fm_step]
    split
    · rename_i i c0 r
      cases Nat.beq c0 fm_scr
      · exact ald 10 (fun c i => .inl (.int (M.1.1 c i.toNatClampNeg))) (pc + 1)
      · exact rfl1
    · exact ald 10 (fun c i => .inl (.int (M.1.1 c i.toNatClampNeg))) (pc + 1)
  | baload => exact ald 11 (fun c i => .inl (.int (M.1.1 c i.toNatClampNeg))) (pc + 1)
  | laload => exact ald 12 (fun c i => .inl (.long (M.1.2.1 c i.toNatClampNeg))) (pc + 1)
  | daload => exact ald 13 (fun c i => .inl (.double (M.1.2.2.1 c i.toNatClampNeg))) (pc + 1)
  | getfield cp =>
    dsimp only [fm_step]
    split
    · split
      · exact rfl1
      · trivial
    · trivial
  | putfield cp =>
    dsimp only [fm_step]
    split
    · split
      · rename_i w hw
        exact fm_putf_ge hw
      · trivial
    · trivial
  | new cp =>
    dsimp only [fm_step]
    split
    · split
      · rename_i q hq
        exact fm_newc_ge hq
      · trivial
    · cases Nat.ble (fm_csum st) 8
      · trivial
      · exact ⟨fun z => z, (by unfold fm_cn; dsimp only; omega), (by unfold fm_sn; dsimp only; omega)⟩
    · trivial
  | newarray a =>
    dsimp only [fm_step]
    split
    · rename_i kd n r
      split
      · rename_i q hq
        cases Nat.ble n.toNatClampNeg 1000
        · trivial
        · exact fm_newc_ge hq
      · trivial
    · trivial
  | anewarray cp =>
    dsimp only [fm_step]
    split
    · rename_i n r
      split
      · rename_i q hq
        cases Nat.ble n.toNatClampNeg 1000
        · trivial
        · exact fm_newc_ge hq
      · trivial
    · trivial
  | aastore =>
    dsimp only [fm_step]
    split
    · rename_i j i c0 r
      split
      · rename_i q q' hq hq'
        cases hb : (Nat.beq q.1 14 && Nat.beq q'.1 4 && Nat.blt i.toNatClampNeg q.2.2.length && (!(fm_pool M.2) || fm_pool (M.2.set c0 (q.1, q.2.1, q.2.2.set i.toNatClampNeg (some j)))))
        · trivial
        · simp only [Bool.and_eq_true] at hb
          refine fm_set_ge hq fun hp => ?_
          have h3 := hb.2
          rw [hp] at h3
          simpa using h3
      · trivial
    · trivial
  | invokevirtual cp =>
    dsimp only [fm_step]
    split
    · exact callv _ _ _ _ _
    · trivial
  | invokestatic cp =>
    dsimp only [fm_step]
    split
    · exact callr _ _ _ _
    · trivial
  | invokespecial cp =>
    dsimp only [fm_step]
    split
    · exact calls _ _ _ _
    · split
      · exact one _ _ rfl
      · trivial
    · trivial
  | _ => first
    | trivial
    | exact rfl1
    | (simp only [fm_step, Bool.cond_eq_ite] <;> (repeat' split) <;> first | trivial | exact rfl1 | exact ⟨fun z => z, Nat.le_refl _, Nat.le_refl _⟩)
/-- a run never unmakes -/
theorem fm_run_ge (P : fm_Pr) : ∀ (n mi : Nat) (f : fm_F) (r : fm_O × fm_M), fm_run P n mi f = some r → fm_ge f.2.2.2 r.2 := by
  intro n
  induction n with
  | zero => intro mi f r h; cases h
  | succ n ih =>
    intro mi f r h
    rw [fm_run] at h
    split at h
    · cases h
    · rename_i e he
      have hs := fm_step_ge P.2.2.2 e f.2.1 f.2.2.1 f.2.2.2
      split at h
      · rename_i g hg; rw [hg] at hs; exact fm_ge.tr hs (ih _ _ _ h)
      · rename_i c g hg
        rw [hg] at hs
        by_cases hc : c.1
        · rw [if_pos hc] at h; exact fm_ge.tr hs (ih _ _ _ h)
        · rw [if_neg hc] at h; cases h
      · rename_i c g g' hg
        rw [hg] at hs
        by_cases hc : c.1
        · rw [if_pos hc] at h; exact fm_ge.tr hs.1 (ih _ _ _ h)
        · rw [if_neg hc] at h; exact fm_ge.tr hs.2 (ih _ _ _ h)
      · rename_i mj rk as g hg
        rw [hg] at hs
        split at h
        · cases h
        · rename_i v M hr
          have h1 := ih _ _ _ hr
          have h2 := ih _ _ _ h
          have h3 : fm_ge M r.2 := by
            unfold fm_push at h2
            split at h2 <;> exact h2
          exact fm_ge.tr hs (fm_ge.tr h1 h3)
        · rename_i x M hr
          have h1 := ih _ _ _ hr
          split at h
          · exact fm_ge.tr hs (fm_ge.tr h1 (ih _ _ _ h))
          · cases h; exact fm_ge.tr hs h1
      · rename_i q hg; rw [hg] at hs; cases h; exact hs
      · rename_i x l d hg; rw [hg] at hs; exact fm_ge.tr hs (ih _ _ _ h)
      · rename_i c q hg
        rw [hg] at hs
        by_cases hc : c.1
        · rw [if_pos hc] at h; cases h; exact hs
        · rw [if_neg hc] at h; cases h
      · cases h
end
section
/-! an exception of an own throw, whose constructor hands its text on by an entry of any number -/
def vx_chX (X : String) (ix : Nat) (rx : ByteArray) : List String → List Cond
  | [] => Bundle.passSAtoms X Bundle.tN ix rx
  | Y :: r => Bundle.passSAtoms X Y ix rx ++ Bundle.chainSAtoms Y r
def vx_clX (own : String) (ic : Nat) (X : String) : List Cond := [.methodLink own ic (Bundle.initS X), .instantiable X 6, .castable X X, .selects X Bundle.tFill0 Bundle.tFill0, .selects X Bundle.tFill Bundle.tFill, .lays X Bundle.tN "cause" "Ljava/lang/Throwable;", .lays X Bundle.tN "stackTrace" Bundle.steD, .lays X Bundle.tN "suppressedExceptions" Bundle.listD, .lays X Bundle.tN "detailMessage" "Ljava/lang/String;", .lays X Bundle.tN "backtrace" "Ljava/lang/Object;"]
def vx_tnX : List Cond := [.isRef (.static Bundle.tN "UNASSIGNED_STACK" Bundle.steD), .isRef (.static Bundle.tN "SUPPRESSED_SENTINEL" Bundle.listD), .fieldLink Bundle.tN 198 Bundle.tN "backtrace" "Ljava/lang/Object;", .lays Bundle.tN Bundle.tN "backtrace" "Ljava/lang/Object;"]
def vx_waX (own : String) (ic : Nat) (X : String) (ix : Nat) (rx : ByteArray) (names : List String) : List Cond := (Bundle.throwableAtoms ++ Bundle.throwableSAtoms) ++ (vx_chX X ix rx names ++ (vx_clX own ic X ++ vx_tnX))
def vx_atX (own : String) (ic : Nat) (X : String) (ix : Nat) (rx : ByteArray) (names : List String) : List Cond := (vx_waX own ic X ix rx names).filter vx_no
theorem vx_chX_ok {args : Array Value} {s : State} {pl : Platform} (hpl : pl.magicAccessors = ({} : Platform).magicAccessors) {top : MethodId} (htop : s.methodNamed? (Bundle.initS Bundle.tN) = some top) {ix : Nat} {rx : ByteArray}
    (x0 : decode rx 0 = .ok (.aload_n 0, 1)) (x1 : decode rx 1 = .ok (.aload_n 1, 1)) (x2 : decode rx 2 = .ok (.invokespecial ix, 3)) (x5 : decode rx 5 = .ok (.return_, 1)) (names : List String) (X : String) (hX : Bundle.fit X = true) (hn : ∀ n ∈ names, Bundle.fit n = true) (h : ∀ c ∈ vx_chX X ix rx names, c.before args s = true) :
    ∃ (P1 : PassC) (Ps : List PassC), Ps.length = names.length ∧ P1.LinksS pl s ∧ (∀ P, P ∈ Ps → P.LinksS pl s) ∧ s.methodNamed? (Bundle.initS X) = some P1.m ∧ P1.sup = firstOf top (Ps.map (·.toPassT)) ∧ PassesOn top (Ps.map (·.toPassT)) := by
  cases names with
  | nil =>
    obtain ⟨P, L, hm, hs⟩ := PassC.ofS_atoms (args := args) (s := s) hpl (X := X) (Y := Bundle.tN) (Bundle.fit_spec hX).1 (by decide) x0 x1 x2 x5 h
    exact ⟨P, [], rfl, L, (fun _ hP => nomatch hP), hm, Option.some.inj (hs.symm.trans htop), trivial⟩
  | cons Y r =>
    obtain ⟨P, L, hm, hs⟩ := PassC.ofS_atoms (args := args) (s := s) hpl (X := X) (Y := Y) (Bundle.fit_spec hX).1 (Bundle.fit_spec (hn Y List.mem_cons_self)).2 x0 x1 x2 x5 (fun c hc => h c (List.mem_append_left _ hc))
    obtain ⟨P', Ps, hlen, L', hL, hm', hsup, hpass⟩ := Bundle.chainS (args := args) hpl htop r Y (hn Y List.mem_cons_self) (fun n hn' => hn n (List.mem_cons_of_mem _ hn')) (fun c hc => h c (List.mem_append_right _ hc))
    exact ⟨P, P' :: Ps, congrArg Nat.succ hlen, L, (fun Q hQ => (List.mem_cons.mp hQ).elim (fun e => by rw [e]; exact L') (hL Q)), hm, Option.some.inj (hs.symm.trans hm'), hsup, hpass⟩
theorem vx_chX_in {X : String} {ix : Nat} {rx : ByteArray} {names : List String} : Cond.instanceMethod (Bundle.initS X) ∈ vx_chX X ix rx names ∧ Cond.code (Bundle.initS X) rx 2 none ∈ vx_chX X ix rx names := by
  cases names <;> simp [vx_chX, Bundle.passSAtoms]
section VXX
variable {p : Program} {l : Launch} {e : Env} {R : Room} {s : State} {m : MethodId} {args : Array Value} {below : List Frame} {meth : Method} {c : Code} {H : Heap} {locs : List Loc} {cells slots : Nat}
variable {mc ms : Nat} {free : Addr → Prop} {A0 A1 : Nat → Prop} {H0 : Heap} {a : Array Value} {ls : Array Slot} {st0 rest : List Value}
variable {Qc : Array Value → State → Outcome → State → Prop} {XC : String → State → State → Prop}
set_option maxHeartbeats 4000000 in
theorem vx_ctorX {W : State} (X : Stand p l e R s m args below meth c W locs cells slots) (hexec : p.tables.exec = Jvm.exec) (htr : e.platform.stackTraces = false) {ix : Nat} {rx : ByteArray}
    (x0 : decode rx 0 = .ok (.aload_n 0, 1)) (x1 : decode rx 1 = .ok (.aload_n 1, 1)) (x2 : decode rx 2 = .ok (.invokespecial ix, 3)) (x5 : decode rx 5 = .ok (.return_, 1)) {own cls : String} {names : List String} {ic : Nat}
    (hown : s.vm.findClass own = some m.cls) (hcls : Bundle.fit cls = true) (hnames : ∀ n ∈ names, Bundle.fit n = true) (h : ∀ w ∈ vx_waX own ic cls ix rx names, w.before args s = true) (hlocs : ∀ x ∈ locs, ∀ cell, s.heap[x.base]? = some cell → cell.vm.isStatics = false)
    {a : Addr} {cX : ClassId} {kX : Class} (hfX : s.vm.findClass cls = some cX) (hkX : s.vm.classes[cX]? = some kX) (hcell : W.heap[a]? = some (freshCell cX kX)) (hnew : s.heap.size ≤ a) {msg : Value} (hmsg : msg.isRef = true)
    {g : JFrame} (hg : g.method = m) (hsize : g.locals.size = c.maxLocals) (hlocked : g.locked = none) (hentered : g.entered = []) {rest : List Value} (hstack : g.stack = msg :: .ref a :: .ref a :: rest)
    (hd6 : decode c.code g.pc = .ok (.invokespecial ic, 3)) (hd9 : decode c.code (g.pc + 3) = .ok (.athrow, 1)) (hout : ∀ x ∈ c.exceptionTable.toList, covers x (g.pc + 3) = false)
    (hRf : names.length + 3 < R.frames) (hRl : 2 * g.monitorRoom + ((Value.ref a :: rest).map fun v => v.category).sum + (13 * (names.length + 1) + 42) ≤ R.locals) (hlocks : meth.locks = false) :
    ∃ U : State, Steps p.tables e below (W.setTop g) U ∧ U.status = .running ∧ Ended U below (.threw a) ∧ s.WarmedH U.vm ∧ s.sameButNew ({ U with vm := s.vm } : State) locs cells slots ∧ ∃ ce, U.heap[a]? = some ce ∧ ce.cls = cX ∧ ce.vm = .none := by
  have hT0 : ∀ w ∈ Bundle.throwableAtoms ++ Bundle.throwableSAtoms, w.before args s = true := fun w hw => h w (List.mem_append_left _ hw)
  have hCh : ∀ w ∈ vx_chX cls ix rx names, w.before args s = true := fun w hw => h w (List.mem_append_right _ (List.mem_append_left _ hw))
  have hCl : ∀ w ∈ vx_clX own ic cls, w.before args s = true := fun w hw => h w (List.mem_append_right _ (List.mem_append_right _ (List.mem_append_left _ hw)))
  have hTn : ∀ w ∈ vx_tnX, w.before args s = true := fun w hw => h w (List.mem_append_right _ (List.mem_append_right _ (List.mem_append_right _ hw)))
  have howns : e.platform.frameOwnsMonitors = true := by rw [X.admits.platform]
  have hfin : e.platform.finalization = false := by rw [X.admits.platform]
  have hpl : e.platform.magicAccessors = ({} : Platform).magicAccessors := by rw [X.admits.platform]
  obtain ⟨T, Z0, L, -, Y⟩ := ThrowableC.of_atoms (args := args) howns hfin hpl (fun x hx => hT0 x (List.mem_append_left _ hx))
  obtain ⟨Z, M, LZ, LM, hnZ⟩ := Init0T.ofS_atoms (args := args) hpl L Y (fun x hx => hT0 x (List.mem_append_right _ hx))
  obtain ⟨P1, Ps, hlen, L1, hL, hP1m, hl1, hl2⟩ := vx_chX_ok (args := args) hpl hnZ x0 x1 x2 x5 names cls hcls hnames hCh
  have hfound : s.vm.findClass cls = some P1.m.cls := findClass_of_methodNamed hP1m
  cases Option.some.inj (hfX.symm.trans hfound)
  have w1 := hCl (.instantiable cls 6) (by simp [vx_clX])
  obtain ⟨c1, kX', hc1, hk, hord, -, -, hn6⟩ := Cond.instantiable_spec w1
  cases Option.some.inj (hc1.symm.trans hfound)
  cases Option.some.inj (hkX.symm.trans hk)
  have hs0 : selectMethod e.platform s.vm P1.m.cls T.fill0 = .method T.fill0 := by
    obtain ⟨c2, r2, m2, q1, q2, q3, q4, -⟩ := Cond.selects_spec (hCl (.selects cls Bundle.tFill0 Bundle.tFill0) (by simp [vx_clX]))
    cases Option.some.inj (q1.symm.trans hfound)
    cases Option.some.inj (q2.symm.trans (State.methodFound?_of_named Y.fill0 (by decide)))
    cases Option.some.inj (q3.symm.trans Y.fill0)
    rw [Launch.admits_selectMethod X.admits]; exact q4
  have hsF : selectMethod e.platform s.vm P1.m.cls T.fill = .method T.fill := by
    obtain ⟨c2, r2, m2, q1, q2, q3, q4, -⟩ := Cond.selects_spec (hCl (.selects cls Bundle.tFill Bundle.tFill) (by simp [vx_clX]))
    cases Option.some.inj (q1.symm.trans hfound)
    cases Option.some.inj (q2.symm.trans (State.methodFound?_of_named Y.fill (by decide)))
    cases Option.some.inj (q3.symm.trans Y.fill)
    rw [Launch.admits_selectMethod X.admits]; exact q4
  obtain ⟨cellS0, hcS0, hiss⟩ := Y.statics
  obtain ⟨u0, hu0⟩ := Cond.staticRefV Y.unassigned L.unassignedStatic L.statics hcS0 hiss (hTn (.isRef (.static Bundle.tN "UNASSIGNED_STACK" Bundle.steD)) (by simp [vx_tnX]))
  obtain ⟨sen, hsen⟩ := Cond.staticRefV Y.sentinel L.sentinelStatic L.statics hcS0 hiss (hTn (.isRef (.static Bundle.tN "SUPPRESSED_SENTINEL" Bundle.listD)) (by simp [vx_tnX]))
  obtain ⟨ci9, i9, fB, hk9, hg9, ha9, hsB, -, hnB, htB, hfB⟩ := Cond.ownField (t := .object "java/lang/Object") Y.found L.cls (by decide +kernel) (hTn (.fieldLink Bundle.tN 198 Bundle.tN "backtrace" "Ljava/lang/Object;") (by simp [vx_tnX])) (hTn (.lays Bundle.tN Bundle.tN "backtrace" "Ljava/lang/Object;") (by simp [vx_tnX])) e.platform hpl
  obtain ⟨cellS, hcS', heS, -, hkeep⟩ := X.same.2.2.2.2.2 T.aS cellS0 hcS0
  have hout' : ∀ i, (⟨T.aS, i⟩ : Loc) ∉ locs := fun i hmem => by
    have := hlocs _ hmem cellS0 hcS0
    rw [hiss] at this; cases this
  have hknownS : cellS.vm ≠ .unknown := by
    rw [heS]; intro hu
    rw [show cellS0.vm = .unknown from hu] at hiss
    cases hiss
  have hneS : T.aS ≠ a := Nat.ne_of_lt (Nat.lt_of_lt_of_le (Array.getElem?_eq_some_iff.mp hcS0).1 hnew)
  obtain ⟨iM, hfM⟩ := Y.msg
  obtain ⟨tyC, dC, hdC, hnC⟩ := Cond.laysAt hfound hk Y.cause (hCl (.lays cls Bundle.tN "cause" "Ljava/lang/Throwable;") (by simp [vx_clX]))
  obtain ⟨tyS, dS, hdS, hnS⟩ := Cond.laysAt hfound hk Y.stack (hCl (.lays cls Bundle.tN "stackTrace" Bundle.steD) (by simp [vx_clX]))
  obtain ⟨tyP, dP, hdP, hnP⟩ := Cond.laysAt hfound hk Y.supp (hCl (.lays cls Bundle.tN "suppressedExceptions" Bundle.listD) (by simp [vx_clX]))
  obtain ⟨tyM, dM, hdM, hnM⟩ := Cond.laysAt hfound hk hfM (hCl (.lays cls Bundle.tN "detailMessage" "Ljava/lang/String;") (by simp [vx_clX]))
  obtain ⟨tyB, dB, hdB, hnB'⟩ := Cond.laysAt hfound hk hfB (hCl (.lays cls Bundle.tN "backtrace" "Ljava/lang/Object;") (by simp [vx_clX]))
  have bC := Cond.laysApart hdB hdC hnB' hnC (by rw [hnB, Y.causeName]; decide)
  have bS := Cond.laysApart hdB hdS hnB' hnS (by rw [hnB, Y.stackName]; decide)
  have bP := Cond.laysApart hdB hdP hnB' hnP (by rw [hnB, Y.suppName]; decide)
  have hskip : SkipFacts T e.platform s (fun u => u) u0 ((preparedCellV T.toThrowableT (freshCell P1.m.cls kX) a u0 sen).withEntry W.cur) := by
    refine ⟨{ ci198 := ci9, i198 := i9, fBack := fB }, ⟨hk9, hg9, ha9, hsB⟩, ?_, fun _ _ => rfl⟩
    have hz := fresh_default (c := P1.m.cls) tyB
    rw [htB] at hz
    simpa [preparedCellV, Cell.setSlot, Cell.withEntry, Array.getElem?_setIfInBounds, bC, bS, bP, bC.symm, bS.symm, bP.symm, defaultValue] using hz
  obtain ⟨tm, mC, cC, kC, vm1, hnm, -, -, -, -, -, -, -, hW1, st1⟩ := Steps.initColdS (tb := p.tables) (e := e) (below := below) (s := s) (U := W) X.here hexec X.warmed hpl hown (t := Bundle.initS cls) rfl rfl (Bundle.fit_spec hcls).2
    (hCl (.methodLink own ic (Bundle.initS cls)) (by simp [vx_clX])) (hCh _ vx_chX_in.1) (bytes := rx) (maxL := 2) (hCh _ vx_chX_in.2) (f := g) hg (a := a) (msg := msg) (rest := .ref a :: rest) hstack hd6
  cases Option.some.inj (hnm.symm.trans hP1m)
  have X1 := X.noted hW1
  obtain ⟨vm2, X2, st2⟩ := X1.ctorMessageOffV hexec (g := { g with stack := .ref a :: rest }) hg hsize T L Z LZ M LM (P1 :: Ps) (fun P hP => (List.mem_cons.mp hP).elim (fun z => by rw [z]; exact L1) (hL P)) ⟨hl1, hl2⟩ (u0 := u0) (sen := sen) (self := a) hmsg (cell := freshCell P1.m.cls kX) (cellS := cellS)
    hcell (fun _ => by simp) (by simp) rfl rfl hs0 hsF hcS' hneS hknownS (by rw [hkeep _ (hout' _)]; exact hu0) (by rw [hkeep _ (hout' _)]; exact hsen)
    (Takes.of_laid hk hord tyC (by rw [Y.causeType]; rfl)) (Takes.of_laid hk hord tyS (by rw [Y.stackType]; exact fits_refV_array _ u0)) (Takes.of_laid hk hord tyP (by rw [Y.suppType]; exact fits_refV_object _ sen)) (Takes.of_laid hk hord tyM (by rw [Y.msgType]; exact fits_refV_object _ ⟨msg, hmsg⟩)) Y.objLocals hskip htr [] hd6
    (by simp only [List.length_cons, hlen]; omega) (by simp only [List.length_cons, hlen]; exact hRl)
  obtain ⟨hwalk, hrun, hended, hWU, hsame⟩ := X2.athrowLeaves hexec (g := { g with stack := .ref a :: rest, pc := g.pc + 3 }) hg hlocked hentered hout (a := a) (rest := rest) rfl hd9
  have hlt : a < ((W.setVm vm1).setVm vm2).heap.size := (Array.getElem?_eq_some_iff.mp hcell).1
  have hU := heapAt_setCell_self (s := (W.setVm vm1).setVm vm2) (plainBareV T.toThrowableT (freshCell P1.m.cls kX) a u0 sen msg) hlt
  refine ⟨_, st1 _ (fun acts => ?_), hrun, hended, hWU, hsame.weaken (fun y hy hy2 => ?_) (Nat.le_refl _) (Nat.le_refl _), _, hU, rfl, rfl⟩
  · rw [doInvoke_state]
    exact st2 _ hwalk
  · rcases List.mem_append.mp hy with h1 | h1
    · exact h1
    · exfalso
      have hb : y.base = a := by
        simp only [List.mem_cons, List.not_mem_nil, or_false] at h1
        rcases h1 with rfl | rfl | rfl | rfl | rfl <;> rfl
      rw [hb] at hy2
      exact Nat.not_lt.mpr hnew hy2
set_option maxHeartbeats 4000000 in
theorem vx_throwX {cc : ByteArray} {pc : Nat} (hexec : p.tables.exec = Jvm.exec) (hb : c.code = cc) (hl : l.stackTraces = false) {own cls text : String} {names : List String} {ix : Nat} {rx : ByteArray} (x0 : decode rx 0 = .ok (.aload_n 0, 1)) (x1 : decode rx 1 = .ok (.aload_n 1, 1)) (x2 : decode rx 2 = .ok (.invokespecial ix, 3)) (x5 : decode rx 5 = .ok (.return_, 1)) {ik is ic mc ms sa : Nat} {A : Nat → Prop}
    (hown : s.vm.findClass own = some m.cls) (hcls : Bundle.fit cls = true) (hnames : ∀ n ∈ names, Bundle.fit n = true)
    (hk : (Cond.classLink own ik cls).before args s = true) (hini : (Cond.initialized cls).before args s = true) (hstr : vk_R own is text sa s) (hat : ∀ w ∈ vx_atX own ic cls ix rx names, w.before args s = true)
    (hgood : ∀ w ∈ Cond.classLink own ik cls :: Cond.initialized cls :: vx_atX own ic cls ix rx names, vx_ot w = true)
    (hU : vx_Zq Bundle.tN "UNASSIGNED_STACK" Bundle.steD A s s.heap) (hN : vx_Zq Bundle.tN "SUPPRESSED_SENTINEL" Bundle.listD A s s.heap) (hS : va_S A s.heap H locs) (hsize : ls.size = c.maxLocals)
    (d0 : decode cc pc = .ok (.new ik, 3)) (d3 : decode cc (pc + 3) = .ok (.dup, 1)) (d4 : decode cc (pc + 4) = .ok (.ldc is, 2)) (d6 : decode cc (pc + 6) = .ok (.invokespecial ic, 3)) (d9 : decode cc (pc + 9) = .ok (.athrow, 1))
    (hout : ∀ x ∈ c.exceptionTable.toList, covers x (pc + 9) = false)
    (hRframes : names.length + 3 < R.frames) (hRlocals : (rest.map fun v => v.category).sum + (13 * (names.length + 1) + 43) ≤ R.locals) (hRcells : cells + 1 ≤ R.cells) (hRslots : slots + 6 ≤ R.slots) (hlocks : meth.locks = false)
    (hx : ∀ t : State, s.vm.Alike t.vm → H.size ≤ t.heap.size → (∀ q : Nat, q < H.size → t.heap[q]? = H[q]?) → XC cls s t)
    (hf : ∀ z ∈ locs, free z.base) (hc : cells + 1 ≤ mc) (hs : slots + 6 ≤ ms) :
    W p l e R s m args below meth c H locs cells slots (vx_MQ below Qc XC args s mc ms free) (F0 m pc ls rest) := by
  intro T hT X
  have htr : e.platform.stackTraces = false := (show e.platform.stackTraces = l.stackTraces by rw [X.admits.platform]).trans hl
  have Y := vx_rebase X (R' := { frames := R.frames, locals := R.locals, cells := 1, slots := 6 }) (Nat.le_refl _) (Nat.le_refl _) hRcells hRslots
  obtain ⟨s', hA⟩ : ∃ z, z = (T.setVm s.vm).setFrames (.invoking m args :: below) := ⟨_, rfl⟩
  rw [← hA] at Y
  have hvm : s'.vm = s.vm := by rw [hA]; rfl
  have hhp : s'.heap = H := by rw [hA]; exact hT
  have hW0 : s.WarmedH s'.vm := by rw [hvm]; exact State.WarmedH.refl s
  have hat' : ∀ w ∈ vx_atX own ic cls ix rx names, w.before args s' = true := fun w hw => vx_ot_at hW0 hvm.symm (hgood w (List.mem_cons_of_mem _ (List.mem_cons_of_mem _ hw))) (hat w hw)
  have hk' : (Cond.classLink own ik cls).before args s' = true := vx_ot_at hW0 hvm.symm (hgood _ List.mem_cons_self) hk
  have hini' : (Cond.initialized cls).before args s' = true := vx_ot_at hW0 hvm.symm (hgood _ (List.mem_cons_of_mem _ List.mem_cons_self)) hini
  have hU' : vx_Zq Bundle.tN "UNASSIGNED_STACK" Bundle.steD A s' s'.heap := by rw [hhp]; exact vx_Zq.moved hW0.alike (hU.kept hS.2.1)
  have hN' : vx_Zq Bundle.tN "SUPPRESSED_SENTINEL" Bundle.listD A s' s'.heap := by rw [hhp]; exact vx_Zq.moved hW0.alike (hN.kept hS.2.1)
  have h : ∀ w ∈ vx_waX own ic cls ix rx names, w.before args s' = true := vx_own hat' (vx_isRefq hU'.1) (vx_isRefq hN'.1) hU'.2.word hN'.2.word
  have hown' : s'.vm.findClass own = some m.cls := by rw [hvm]; exact hown
  have hins : (Cond.instantiable cls 6).before args s' = true := h _ (by simp [vx_waX, vx_clX])
  obtain ⟨vm₁, cX, kX, hfX, hkX, -, -, X₁, st1⟩ := Y.newCold hexec (own := own) (C := cls) (index := ik) (n := 6) hown' hk' hins hini'
    (g := F0 m pc ls rest) rfl (by rw [hb]; exact d0) (Nat.le_refl _) (Nat.le_refl _)
  generalize hT1 : (T.setVm vm₁).pushCell { cls := cX, slots := kX.instanceTypes.map defaultValue, vm := .none } = T1 at X₁ st1
  have hcat : (Value.ref T.heap.size).category = 1 := rfl
  have hcellA : T1.heap[T.heap.size]? = some (freshCell cX kX) := by rw [← hT1]; exact State.heap_pushCell_size _ _
  have d3' : decode c.code (pc + 3) = .ok (.dup, 1) := by rw [hb]; exact d3
  have d4' : decode c.code (pc + 4) = .ok (.ldc is, 2) := by rw [hb]; exact d4
  have hstr' : vk_R own is text sa s' := vk_R.warm hW0 hstr
  obtain ⟨U, hsteps, hrun, hend, hW, hsame, ce, hce, hO1, hO2⟩ := vx_ctorX X₁ hexec htr x0 x1 x2 x5 (own := own) (cls := cls) (names := names) (ic := ic) hown' hcls hnames h (fun x hx => nomatch hx) hfX hkX hcellA (by rw [hhp, hT]; exact Nat.le_refl _) (msg := .ref sa) rfl
    (g := { method := m, pc := pc + 6, locals := ls, stack := .ref sa :: .ref T.heap.size :: .ref T.heap.size :: rest, locked := none }) rfl hsize rfl rfl (rest := rest) rfl
    (by rw [hb]; exact d6) (by rw [hb]; exact d9) hout hRframes (by simp only [List.map_cons, List.sum_cons, hcat]; omega) hlocks
  obtain ⟨f1, f2⟩ := vx_frame hsame
  rw [hhp] at f1 f2
  have hWs : s.WarmedH U.vm := State.WarmedH.trans hW0 hW
  have hcl : s.vm.findClass cls = some ce.cls := by
    rw [hO1, ← hvm]
    exact hfX
  have hall : s.sameButNew ({ U with vm := s.vm } : State) locs mc ms := by
    subst hA
    obtain ⟨e1, e2⟩ := hsame
    rw [State.setFrames_setFrames] at e1
    have h2 : (T.setVm s.vm).sameButNew ({ U with vm := s.vm } : State) [] (0 + 1) (0 + 6) := ⟨e1, e2⟩
    have h3 := X.same.trans h2
    rw [List.append_nil] at h3
    exact h3.mono hc hs
  refine ⟨U, ?_, .threw T.heap.size, hrun, hend, Or.inr ⟨T.heap.size, rfl, cls, ce, locs, hx U hWs.alike f1 (fun q hq => f2 q hq (fun z hz => nomatch hz)), hce, hO2, hcl, hWs, hall, hf⟩⟩
  refine st1 _ ?_
  show Steps p.tables e below (T1.setTop { method := m, pc := pc + 3, locals := ls, stack := .ref T.heap.size :: rest, locked := none }) _
  jvm_step X₁.here [X₁.here.top, hexec, d3', Value.category]
  exact X₁.ldcString hexec (own := own) (text := text) (index := is) (a := sa) hown' hstr'.1 hstr'.2
    (g := { method := m, pc := pc + 4, locals := ls, stack := .ref T.heap.size :: .ref T.heap.size :: rest, locked := none }) rfl d4' _ hsteps
end VXX
end
section
/-! ends of a method, and its contract -/
def fm_Qc (B b : Nat) (aC : Nat → ClassId) (D : va_G) (r : fm_O × fm_M) : Array Value → State → Outcome → State → Prop := fun _ st o t => match r.1 with
  | .inl v => o = .returned (v.map (fm_ren B b)) ∧ fm_Wd B aC D r.2 t.heap ∧ va_F (fm_A B) st t
  | .inr _ => False
def fm_XC (B : Nat) (aC : Nat → ClassId) (D : va_G) (r : fm_O × fm_M) : String → State → State → Prop := fun E st t => match r.1 with
  | .inl _ => False
  | .inr x => E = fm_ex x ∧ fm_Wd B aC D r.2 t.heap ∧ va_F (fm_A B) st t
def fm_Pc (sts : fm_St) (ncs : fm_Nc) (X : Nat × (Nat → Int32)) (B b : Nat) (aC : Nat → ClassId) (D : va_G) (as : List fm_V) (M : fm_M) : Array Value → State → Prop := va_Pc (as.map (fm_ren B b)) (fun U => fm_Ps sts ncs X B b aC D U ∧ fm_Wd B aC D M U.heap ∧ ∀ v ∈ as, fm_vok M.2 v)
theorem fm_Pc_blind {sts : fm_St} {ncs : fm_Nc} {X : Nat × (Nat → Int32)} {B b : Nat} {aC : Nat → ClassId} {D : va_G} {as : List fm_V} {M : fm_M} : FrameBlind (fm_Pc sts ncs X B b aC D as M) := by
  intro a U g mk h
  obtain ⟨h1, h2, h3, h4⟩ := h
  exact ⟨h1, h2.eqv rfl rfl, h3, h4⟩
theorem fm_map_none {B b : Nat} : (Option.map (fm_ren B b) none) = none := rfl
/-- by which entry an exception's constructor hands its text on, and its bytes -/
def fm_exI (x : Nat) : Nat := match x with
  | 3 => 13
  | _ => 7
def fm_exB (x : Nat) : ByteArray := match x with
  | 3 => ⟨#[0x2a, 0x2b, 0xb7, 0x00, 0x0d, 0xb1]⟩
  | _ => ⟨#[0x2a, 0x2b, 0xb7, 0x00, 0x07, 0xb1]⟩
theorem fm_exB_0 (x : Nat) : decode (fm_exB x) 0 = .ok (.aload_n 0, 1) := by
  unfold fm_exB
  split <;> decide +kernel
theorem fm_exB_1 (x : Nat) : decode (fm_exB x) 1 = .ok (.aload_n 1, 1) := by
  unfold fm_exB
  split <;> decide +kernel
theorem fm_exB_2 (x : Nat) : decode (fm_exB x) 2 = .ok (.invokespecial (fm_exI x), 3) := by
  unfold fm_exB fm_exI
  split <;> decide +kernel
theorem fm_exB_5 (x : Nat) : decode (fm_exB x) 5 = .ok (.return_, 1) := by
  unfold fm_exB
  split <;> decide +kernel
/-- the tables' rows about throws -/
def fm_ThOk (T : fm_Tb) : Prop := ∀ q ∈ T.2.2.1, q.2.2.2.2.1 < 5 → (Cond.classLink q.1 q.2.1 (fm_ex q.2.2.2.2.1)) ∈ lw_tbl ∧ (Cond.initialized (fm_ex q.2.2.2.2.1)) ∈ lw_tbl ∧ (∀ w ∈ vx_atX q.1 q.2.2.2.1 (fm_ex q.2.2.2.2.1) (fm_exI q.2.2.2.2.1) (fm_exB q.2.2.2.2.1) fm_exN, w ∈ lw_tbl ∧ (goodWord w || (fm_mv w && w.onTables)) = true)
def fm_StOk (T : fm_Tb) (sts : fm_St) : Prop := ∀ q ∈ T.2.2.1, (q.1, q.2.2.1, q.2.2.2.2.2) ∈ sts
theorem fm_ex_fit (x : Nat) : Bundle.fit (fm_ex x) = true := by
  unfold fm_ex
  split <;> decide
theorem fm_exN_fit : ∀ n ∈ fm_exN, Bundle.fit n = true := by decide
section FMS10
variable {p : Program} {l : Launch} {e : Env} {R : Room} {s : State} {m : MethodId} {args : Array Value} {below : List Frame} {meth : Method} {c : Code}
variable {sts : fm_St} {ncs : fm_Nc} {X : Nat × (Nat → Int32)} {B b nL : Nat} {wd ini : Bool} {aC : Nat → ClassId} {D : va_G} {M0 : fm_M} {Q : State → Prop} {cc : ByteArray} {own : String} {T : fm_Tb} {cl : List fm_En} {rt : Option FieldType}
variable {pc : Nat} {lo : List (Option fm_V)} {st : List fm_V} {M : fm_M} {g : fm_F}
theorem fm_sel_at {lo : List (Option fm_V)} {r : List fm_V} {M : fm_M} {x : Int32} {d : fm_F} : ∀ (ts : List Nat) (k : Nat), k + ts.length ≤ 2000 → (∃ j t, ts[j]? = some t ∧ x = nI (k + j) ∧ fm_sel x (fm_swl lo r M k ts) d = (t, lo, r, M)) ∨ ((∀ j, j < ts.length → ¬ x = nI (k + j)) ∧ fm_sel x (fm_swl lo r M k ts) d = d) := by
  intro ts
  induction ts with
  | nil => intro k hk; exact Or.inr ⟨fun j hj => absurd hj (Nat.not_lt_zero j), rfl⟩
  | cons t ts ih =>
    intro k hk
    unfold fm_swl fm_sel
    by_cases hx : x = nI k
    · rw [if_pos hx]
      exact Or.inl ⟨0, t, rfl, hx, rfl⟩
    · rw [if_neg hx]
      rcases ih (k + 1) (by simp only [List.length_cons] at hk; omega) with ⟨j, t', h1, h2, h3⟩ | ⟨h1, h2⟩
      · exact Or.inl ⟨j + 1, t', h1, by rw [h2]; congr 1; omega, h3⟩
      · refine Or.inr ⟨fun j hj => ?_, h2⟩
        cases j with
        | zero => exact hx
        | succ j =>
          have := h1 j (by simp only [List.length_cons] at hj; omega)
          rw [show k + (j + 1) = k + 1 + j by omega]
          exact this
/-- a switch -/
theorem sm_sw {ins : Instr} {len : Nat} {ann : List Nat} {x : Int32} {sl : List (Int32 × fm_F)} {d : fm_F} (C : fm_Cx p s m args meth c sts ncs X B b nL aC D cc own) (hd : decode cc pc = .ok (ins, len)) (hck : fm_ck T cl own wd ini rt (pc, ins, len, ann) = true)
    (h : fm_step X (pc, ins, len, ann) lo st M = .inr (.inr (.inr (.inr (.inr (.inl (x, sl, d)))))))
    (k : fm_WW p l e R s m args below meth c B b nL wd aC D M0 Q (fm_sel x sl d)) : fm_WW p l e R s m args below meth c B b nL wd aC D M0 Q (pc, lo, st, M) := by
  unfold fm_ck at hck
  simp only [Bool.and_eq_true] at hck
  obtain ⟨hlen, hck⟩ := hck
  cases ins with
  | tableswitch d9 lo9 hi offs =>
    dsimp only [fm_step] at h
    split at h
    · rename_i dt ts x' r
      cases h
      dsimp only at hck
      simp only [Bool.and_eq_true] at hck
      obtain ⟨⟨⟨⟨h1, h2⟩, h3⟩, h4⟩, h5⟩ := hck
      have e1 := of_decide_eq_true h1
      have e2 := of_decide_eq_true h2
      have e3 := of_decide_eq_true h3
      have e4 := of_decide_eq_true h4
      have e5 : ts.length ≤ 1000 := by simpa using h5
      clear h1 h2 h3 h4 h5
      subst e1
      rcases fm_sel_at (lo := lo) (r := r) (M := M) (x := x) (d := (dt, lo, r, M)) ts 0 (by omega) with ⟨j, t, g1, g2, g3⟩ | ⟨g1, g2⟩
      · rw [g3] at k
        have hj : j < ts.length := (List.getElem?_eq_some_iff.mp g1).1
        have hx : x.toInt = (j : Int) := by
          rw [g2, Nat.zero_add]
          exact nI_toInt (by omega)
        have hoff : ∃ off, offs[(x.toInt - 0).toNat]? = some off ∧ (pc : Int) + off = (t : Int) := by
          have hm : (offs.toList.map (fun o => (pc : Int) + o))[j]? = (ts.map (fun t : Nat => (t : Int)))[j]? := by rw [e4]
          rw [List.getElem?_map, List.getElem?_map, g1] at hm
          cases ho : offs.toList[j]? with
          | none => rw [ho] at hm; cases hm
          | some off =>
            rw [ho] at hm
            refine ⟨off, ?_, Option.some.inj hm⟩
            rw [hx, Int.sub_zero, Int.toNat_natCast, ← Array.getElem?_toList]
            exact ho
        obtain ⟨off, o1, o2⟩ := hoff
        intro H locs ls hl ho hw hS
        exact lv_tableIn C.1 C.2.1 hd (by omega) (by omega) o1 o2 (k H locs ls hl ho.tail hw hS)
      · rw [g2] at k
        have hout : x.toInt < 0 ∨ hi < x.toInt := by
          rcases Int.lt_or_le x.toInt 0 with q | q
          · exact Or.inl q
          · rcases Int.lt_or_le hi x.toInt with q2 | q2
            · exact Or.inr q2
            · exfalso
              have hlt : ¬ x < 0 := fun z => by
                have z2 := Int32.lt_iff_toInt_lt.mp z
                have z3 : (0 : Int32).toInt = 0 := by decide
                omega
              obtain ⟨n, hn, hxn⟩ := nI_of hlt
              have ht : x.toInt = (n : Int) := by rw [hxn]; exact nI_toInt hn
              exact g1 n (by omega) (by rw [Nat.zero_add]; exact hxn)
        intro H locs ls hl ho hw hS
        exact lv_tableOut C.1 C.2.1 hd hout e3 (k H locs ls hl ho.tail hw hS)
    · cases h
  | ifCond cd off =>
    exfalso
    dsimp only [fm_step] at h
    split at h
    · cases cd <;> (unfold fm_if at h; simp only at h; (repeat' (split at h)) <;> cases h)
    · cases h
  | if_icmp cd off =>
    exfalso
    dsimp only [fm_step] at h
    split at h
    · cases cd <;> (unfold fm_icmp at h; simp only at h; (repeat' (split at h)) <;> cases h)
    · cases h
  | _ => first
    | exact absurd (show (fm_no : fm_R) = Sum.inr (Sum.inr (Sum.inr (Sum.inr (Sum.inr (Sum.inl (x, sl, d)))))) from h) (fun h9 => nomatch h9)
    | (exfalso; (simp only [fm_step, fm_ald, fm_callr, fm_callv, fm_calls, fm_load, fm_st, fm_bin, fm_un, Bool.cond_eq_ite] at h) <;> (repeat' (split at h)) <;> (cases h))
/-- what stands when a method returns -/
theorem fm_Qc_of {r : fm_O × fm_M} {v : Option fm_V} {H : Heap} {locs : List Loc} (hr : r = (.inl v, M)) (hw : fm_Wd B aC D M H) (hS : va_S (fm_A B) s.heap H locs) : ∀ t : State, t.heap = H → s.WarmedH t.vm → fm_Qc B b aC D r args s (.returned (v.map (fm_ren B b))) t := by
  intro t ht _
  subst hr
  exact ⟨rfl, by rw [ht]; exact hw, hS.F ht⟩
/-- a method's return -/
theorem sm_dn {ins : Instr} {len : Nat} {ann : List Nat} {v : Option fm_V} {M' : fm_M} {mc ms : Nat} {XC : String → State → State → Prop} (C : fm_Cx p s m args meth c sts ncs X B b nL aC D cc own) (hr : meth.sig.returnType = rt) (hd : decode cc pc = .ok (ins, len)) (hck : fm_ck T cl own wd ini rt (pc, ins, len, ann) = true)
    (h : (fm_step X (pc, ins, len, ann) lo st M = fm_dn (.inl v) M') ∨ ∃ q : fm_P, q.1 ∧ fm_step X (pc, ins, len, ann) lo st M = .inr (.inr (.inr (.inr (.inr (.inr (.inl (q, .inl v, M')))))))) (hc : fm_cn M' - fm_cn M0 ≤ mc) (hs : fm_sn M' - fm_sn M0 ≤ ms) :
    fm_WW p l e R s m args below meth c B b nL wd aC D M0 (vx_MQ below (fm_Qc B b aC D (.inl v, M')) XC args s mc ms (fm_A B)) (pc, lo, st, M) := by
  have hlk := C.2.2.2.2.2.2
  unfold fm_ck at hck
  simp only [Bool.and_eq_true] at hck
  obtain ⟨hlen, hck⟩ := hck
  have hlen := Nat.eq_of_beq_eq_true hlen
  intro H locs ls hl ho hw hS
  refine vx_ret ?_
  cases ins with
  | ireturn =>
    have hl1 : len = 1 := hlen
    subst hl1
    rcases h with h | ⟨q, hq, h⟩
    · dsimp only [fm_step] at h
      split at h
      · rename_i x
        cases h
        exact W.widen hc hs (W.iret C.1 C.2.1 (by rw [hr]; exact of_decide_eq_true hck) (fm_Qc_of rfl hw hS) hS.2.2 hd hlk)
      · cases h
      · cases h
    · dsimp only [fm_step] at h
      split at h
      · cases h
      · rename_i x
        cases h
        refine W.widen hc hs (W.zret (ty := .boolean) C.1 C.2.1 (by rw [hr]; exact of_decide_eq_true hck) ?_ (fm_Qc_of rfl hw hS) hS.2.2 hd hlk)
        rcases (show x = nI 0 ∨ x = nI 1 from hq) with e9 | e9 <;> (rw [e9]; rfl)
      · cases h
  | lreturn =>
    have hl1 : len = 1 := hlen
    subst hl1
    rcases h with h | ⟨q, hq, h⟩
    · dsimp only [fm_step] at h
      split at h
      · rename_i x
        cases h
        exact W.widen hc hs (W.lret C.1 C.2.1 (by rw [hr]; exact of_decide_eq_true hck) (fm_Qc_of rfl hw hS) hS.2.2 hd hlk)
      · cases h
    · dsimp only [fm_step] at h
      split at h <;> cases h
  | freturn =>
    have hl1 : len = 1 := hlen
    subst hl1
    rcases h with h | ⟨q, hq, h⟩
    · dsimp only [fm_step] at h
      split at h
      · rename_i x
        cases h
        exact W.widen hc hs (W.fret C.1 C.2.1 (by rw [hr]; exact of_decide_eq_true hck) (fm_Qc_of rfl hw hS) hS.2.2 hd hlk)
      · cases h
    · dsimp only [fm_step] at h
      split at h <;> cases h
  | dreturn =>
    have hl1 : len = 1 := hlen
    subst hl1
    rcases h with h | ⟨q, hq, h⟩
    · dsimp only [fm_step] at h
      split at h
      · rename_i x
        cases h
        exact W.widen hc hs (W.dret C.1 C.2.1 (by rw [hr]; exact of_decide_eq_true hck) (fm_Qc_of rfl hw hS) hS.2.2 hd hlk)
      · cases h
    · dsimp only [fm_step] at h
      split at h <;> cases h
  | return_ =>
    have hl1 : len = 1 := hlen
    subst hl1
    rcases h with h | ⟨q, hq, h⟩
    · dsimp only [fm_step] at h
      split at h
      · cases h
        exact W.widen hc hs (W.vret C.1 C.2.1 (by rw [hr]; exact of_decide_eq_true hck) (fm_Qc_of (v := none) rfl hw hS) hS.2.2 hd hlk)
      · cases h
    · dsimp only [fm_step] at h
      split at h <;> cases h
  | ifCond cd off =>
    exfalso
    rcases h with h | ⟨q, hq, h⟩ <;> dsimp only [fm_step] at h <;> split at h
    · cases cd <;> (unfold fm_if at h; simp only at h; (repeat' (split at h)) <;> cases h)
    · cases h
    · cases cd <;> (unfold fm_if at h; simp only at h; (repeat' (split at h)) <;> cases h)
    · cases h
  | if_icmp cd off =>
    exfalso
    rcases h with h | ⟨q, hq, h⟩ <;> dsimp only [fm_step] at h <;> split at h
    · cases cd <;> (unfold fm_icmp at h; simp only at h; (repeat' (split at h)) <;> cases h)
    · cases h
    · cases cd <;> (unfold fm_icmp at h; simp only at h; (repeat' (split at h)) <;> cases h)
    · cases h
  | _ =>
    exfalso
    rcases h with h | ⟨q, hq, h⟩
    · first
        | exact absurd (show (fm_no : fm_R) = fm_dn (.inl v) M' from h) (fun h9 => nomatch h9)
        | ((simp only [fm_step, fm_ald, fm_callr, fm_callv, fm_calls, fm_load, fm_st, fm_bin, fm_un, Bool.cond_eq_ite] at h) <;> (repeat' (split at h)) <;> (cases h))
    · first
        | exact absurd (show (fm_no : fm_R) = _ from h) (fun h9 => nomatch h9)
        | ((simp only [fm_step, fm_ald, fm_callr, fm_callv, fm_calls, fm_load, fm_st, fm_bin, fm_un, Bool.cond_eq_ite] at h) <;> (repeat' (split at h)) <;> (cases h))
end FMS10
end
section
/-- the handlers of a method, as the tables have them (from, to, handler, entry of the class) and as the small machine has them -/
def fm_hOk (hh : List (Nat × Nat × Nat × Nat)) (hs : List fm_H) : Bool := hh.map (fun q => (q.1, q.2.1, q.2.2.1)) == hs.map (fun h => (h.1, h.2.1, h.2.2.1))
section FMS11
variable {p : Program} {l : Launch} {e : Env} {R : Room} {s : State} {m : MethodId} {args : Array Value} {below : List Frame} {meth : Method} {c : Code}
variable {sts : fm_St} {ncs : fm_Nc} {X : Nat × (Nat → Int32)} {B b nL : Nat} {wd ini : Bool} {aC : Nat → ClassId} {D : va_G} {M0 : fm_M} {Q : State → Prop} {cc : ByteArray} {own : String} {T : fm_Tb} {cl : List fm_En} {rt : Option FieldType}
variable {pc : Nat} {lo : List (Option fm_V)} {st : List fm_V} {M : fm_M} {g : fm_F}
theorem fm_atI_at {pc n : Nat} {i : Instr} (hcl : ∀ x ∈ cl, decode cc x.1 = .ok (x.2.1, x.2.2.1)) (h : fm_atI cl pc i n = true) : decode cc pc = .ok (i, n) := by
  unfold fm_atI at h
  split at h
  · rename_i x hx
    simp only [Bool.and_eq_true] at h
    obtain ⟨⟨h1, h2⟩, h3⟩ := h
    have hm : ∀ (cl : List fm_En), fm_fetch cl pc = some x → x ∈ cl := by
      intro cl
      induction cl with
      | nil => intro h; cases h
      | cons y r ih =>
        intro h
        unfold fm_fetch at h
        cases hb : Nat.beq y.1 pc
        · rw [hb, cond_false] at h; exact List.mem_cons_of_mem _ (ih h)
        · rw [hb, cond_true] at h; cases h; exact List.mem_cons_self
    have hd := hcl x (hm cl hx)
    rw [← of_decide_eq_true h1, ← Nat.eq_of_beq_eq_true h2, ← Nat.eq_of_beq_eq_true h3]
    exact hd
  · cases h
set_option maxHeartbeats 4000000 in
/-- a throw -/
theorem sm_throw {ins : Instr} {len : Nat} {ann : List Nat} {x : Nat} {M' : fm_M} {mc ms : Nat} {Qc : Array Value → State → Outcome → State → Prop} (C : fm_Cx p s m args meth c sts ncs X B b nL aC D cc own) (hl0 : l.stackTraces = false) (hTh : fm_ThOk T) (hSt : fm_StOk T sts) (hcl : ∀ x ∈ cl, decode cc x.1 = .ok (x.2.1, x.2.2.1)) (hout : c.exceptionTable.toList = []) (hd : decode cc pc = .ok (ins, len)) (hck : fm_ck T cl own wd ini rt (pc, ins, len, ann) = true)
    (h : fm_step X (pc, ins, len, ann) lo st M = fm_dn (.inr x) M') (hf : 5 < R.frames) (hlo : 8 + (13 * 3 + 43) ≤ R.locals) (hc : fm_cn M' - fm_cn M0 ≤ mc) (hs : fm_sn M' - fm_sn M0 ≤ ms) (hcR : mc ≤ R.cells) (hsR : ms ≤ R.slots) (hm1 : fm_cn M0 ≤ fm_cn M) (hm2 : fm_sn M0 ≤ fm_sn M) :
    fm_WW p l e R s m args below meth c B b nL wd aC D M0 (vx_MQ below Qc (fm_XC B aC D (.inr x, M')) args s mc ms (fm_A B)) (pc, lo, st, M) := by
  unfold fm_ck at hck
  simp only [Bool.and_eq_true] at hck
  obtain ⟨hlen, hck⟩ := hck
  have hlen := Nat.eq_of_beq_eq_true hlen
  cases ins with
  | new cp =>
    have hl1 : len = 3 := hlen
    subst hl1
    dsimp only [fm_step] at h
    split at h
    · split at h <;> cases h
    · rename_i x9 j
      cases hb : Nat.ble (fm_csum st) 8
      · rw [hb, cond_false] at h; cases h
      · rw [hb, cond_true] at h
        cases h
        have hb2 : fm_csum st ≤ 8 := by simpa using hb
        dsimp only at hck
        simp only [Bool.and_eq_true] at hck
        obtain ⟨hx5, hck⟩ := hck
        split at hck
        · rename_i q hq
          simp only [Bool.and_eq_true] at hck
          obtain ⟨⟨⟨⟨⟨⟨q1, q2⟩, q3⟩, q4⟩, q5⟩, q6⟩, q7⟩ := hck
          have hqm := List.mem_of_getElem? hq
          have e1 := of_decide_eq_true q1
          have e2 := Nat.eq_of_beq_eq_true q2
          have e3 := Nat.eq_of_beq_eq_true q3
          have hx : q.2.2.2.2.1 < 5 := by rw [e3]; simpa using hx5
          obtain ⟨t1, t2, t3⟩ := hTh q hqm hx
          have hst := hSt q hqm
          obtain ⟨z1, z2, z3, z4, z5, z6⟩ := q
          dsimp only at e1 e2 e3 t1 t2 t3 hst q5 q6
          subst e1; subst e2; subst e3
          have hcn : fm_cn ((M.1.1, M.1.2.1, M.1.2.2.1, M.1.2.2.2 + 1), M.2) = fm_cn M + 1 := by
            unfold fm_cn
            dsimp only
            omega
          have hsn : fm_sn ((M.1.1, M.1.2.1, M.1.2.2.1, M.1.2.2.2 + 1), M.2) = fm_sn M + 6 := by
            unfold fm_sn
            dsimp only
            omega
          rw [hcn] at hc
          rw [hsn] at hs
          intro H locs ls hl ho hw hS
          obtain ⟨p1, p2, p3, p4, p5, p6, p7, p8, p9, p10⟩ := id C.2.2.2.2.2.1
          obtain ⟨sa, hsa⟩ := p3 _ hst
          have hat : ∀ w ∈ vx_atX z1 z4 (fm_ex z5) (fm_exI z5) (fm_exB z5) fm_exN, w.before args s = true := fun w hw9 => by
            obtain ⟨u1, u2⟩ := t3 w hw9
            simp only [Bool.or_eq_true, Bool.and_eq_true] at u2
            rcases u2 with u2 | u2
            · exact fm_word C u1 u2
            · exact fm_wordN C u1 u2.1 u2.2
          have hgood : ∀ w ∈ Cond.classLink z1 z2 (fm_ex z5) :: Cond.initialized (fm_ex z5) :: vx_atX z1 z4 (fm_ex z5) (fm_exI z5) (fm_exB z5) fm_exN, vx_ot w = true := fun w hw9 => by
            rcases List.mem_cons.mp hw9 with rfl | hw9
            · rfl
            · rcases List.mem_cons.mp hw9 with rfl | hw9
              · rfl
              · obtain ⟨u1, u2⟩ := t3 w hw9
                unfold vx_ot
                simp only [Bool.or_eq_true, Bool.and_eq_true] at u2 ⊢
                rcases u2 with u2 | u2
                · exact Or.inr u2
                · exact Or.inl u2.2
          refine vx_throwX (rest := st.map (fm_ren B b)) (names := fm_exN) (A := fm_A B) C.1 C.2.1 hl0 (fm_exB_0 z5) (fm_exB_1 z5) (fm_exB_2 z5) (fm_exB_5 z5) C.2.2.2.1 (fm_ex_fit _) fm_exN_fit (fm_word C t1 rfl) (fm_word C t2 rfl) hsa hat hgood p6 p7 hS (by rw [C.2.2.1]; exact hl.1)
            hd (fm_atI_at hcl q4) (fm_atI_at hcl q5) (fm_atI_at hcl q6) (fm_atI_at hcl q7) (fun y hy => by rw [hout] at hy; cases hy) hf (by rw [fm_csum_ren]; show fm_csum st + (13 * (2 + 1) + 43) ≤ R.locals; omega) ?_ ?_ C.2.2.2.2.2.2 (fun t ht hz hk => ?_) hS.2.2 ?_ ?_
          · show fm_cn M - fm_cn M0 + 1 ≤ R.cells; omega
          · show fm_sn M - fm_sn M0 + 6 ≤ R.slots; omega
          · refine ⟨rfl, ⟨hw.1.kept (fun k q hq => hk q.1 (hw.1 k q hq).lt), hw.2.1, ?_, fun h0 => ?_, hw.2.2.2.2.1, hw.2.2.2.2.2.1, hw.2.2.2.2.2.2⟩, ?_⟩
            · have := hw.2.2.1
              show B + M.2.length ≤ t.heap.size
              dsimp only at this
              omega
            · dsimp only at h0
              omega
            · exact ⟨Nat.le_trans hS.1 hz, fun q h1 h2 => by rw [hk q (Nat.lt_of_lt_of_le h1 hS.1)]; exact hS.2.1 q h1 h2⟩
          · show fm_cn M - fm_cn M0 + 1 ≤ mc; omega
          · show fm_sn M - fm_sn M0 + 6 ≤ ms; omega
        · cases hck
    · cases h
  | ifCond cd off =>
    exfalso
    dsimp only [fm_step] at h
    split at h
    · cases cd <;> (unfold fm_if at h; simp only at h; (repeat' (split at h)) <;> cases h)
    · cases h
  | if_icmp cd off =>
    exfalso
    dsimp only [fm_step] at h
    split at h
    · cases cd <;> (unfold fm_icmp at h; simp only at h; (repeat' (split at h)) <;> cases h)
    · cases h
  | _ =>
    exfalso
    first
      | exact absurd (show (fm_no : fm_R) = fm_dn (.inr x) M' from h) (fun h9 => nomatch h9)
      | ((simp only [fm_step, fm_ald, fm_callr, fm_callv, fm_calls, fm_load, fm_st, fm_bin, fm_un, Bool.cond_eq_ite] at h) <;> (repeat' (split at h)) <;> (cases h))
/-- an exception that came out of a call goes on to the caller -/
theorem sm_out {H : Heap} {locs : List Loc} {ls : Array Slot} {rest : List Value} {q9 : Addr} {ce : Cell} {x mc ms : Nat} {r : fm_O × fm_M} {Qc : Array Value → State → Outcome → State → Prop} {cells slots : Nat} (C : fm_Cx p s m args meth c sts ncs X B b nL aC D cc own)
    (hpass : ∀ z ∈ c.exceptionTable.toList, covers z pc = false ∨ (z.catchType ≠ 0 ∧ ∃ nm : String, (Cond.classLink own z.catchType nm).before args s = true ∧ va_Nc (fm_ex x) nm s)) (hr : r = (.inr x, M))
    (hw : fm_Wd B aC D M H) (hS : va_S (fm_A B) s.heap H locs) (hce : H[q9]? = some ce) (hv : ce.vm = .none) (hcl : s.vm.findClass (fm_ex x) = some ce.cls) (hc : cells ≤ mc) (hs : slots ≤ ms) :
    vx_W p l e R s m args below meth c H locs cells slots (vx_MQ below Qc (fm_XC B aC D r) args s mc ms (fm_A B)) (F0 m pc ls rest) q9 :=
  vx_outP C.2.2.2.1 C.2.2.2.2.2.2 hpass hce hv hcl (fun t ht _ => by subst hr; exact ⟨rfl, by rw [ht]; exact hw, hS.F ht⟩) hS.2.2 hc hs
end FMS11
end
section
/-! calls through a nest, and of constructors, that return or throw: the proofs of vx_callV, vx_callS, vx_runV, vx_runS and of the kit's callI, va_callIN with the other link -/
section FXC
variable {p : Program} {l : Launch} {e : Env} {R : Room} {s : State} {m : MethodId} {args : Array Value} {below : List Frame} {meth : Method} {c : Code} {T : State} {locs : List Loc} {cells slots : Nat}
theorem fx_callVN (X : Stand p l e R s m args below meth c T locs cells slots) (hexec : p.tables.exec = Jvm.exec) {own C host : String} {index : Nat} {y : MethodName} {bytes : ByteArray} {maxL : Nat} {ret : Option FieldType}
    (hown : s.vm.findClass own = some m.cls) (hlink : (Cond.methodLinkNest own index y host).before args s = true) (hinst : (Cond.instanceMethod y).before args s = true) (hsel : (Cond.selects C y y).before args s = true)
    (hcode : (Cond.code y bytes maxL ret).before args s = true) (hy : y.cls ≠ "java/lang/invoke/MethodHandle" ∧ y.cls ≠ "java/lang/invoke/VarHandle")
    {W9 : Nat} {Pre : Pt → Array Value → Prop} {Post : Pt → Array Value → Option Value → Pt → Prop} {PostX : Pt → Array Value → Addr → Pt → Prop} (hK : vx_Back l R p e below s args y 3 W9 Pre Post PostX)
    {b : Addr} {cellB : Cell} (hcell : T.heap[b]? = some cellB) (hobj : cellB.vm.isStatics = false) (hcls : s.vm.findClass C = some cellB.cls)
    {g : JFrame} (hg : g.method = m) (hsize : g.locals.size = c.maxLocals) {argsL rest : List Value} (hlen : ∀ sig, parseMethodDescriptor y.desc = some sig → argsL.length = sig.parameters.length)
    (hstack : g.stack = argsL.reverse ++ .ref b :: rest) (hW : 2 * g.monitorRoom + (rest.map fun v => v.category).sum ≤ W9) (hdg : decode c.code g.pc = .ok (.invokevirtual index, 3))
    (hpre : ∀ vm₁, s.WarmedH vm₁ → Pre ⟨T.setVm vm₁, locs, cells, slots⟩ (Value.ref b :: argsL).toArray) :
    (∃ (v : Option Value) (vm₁ : Vm) (B : Pt), s.WarmedH vm₁ ∧ Stand p l e R s m args below meth c B.U B.locs B.cells B.slots ∧ Post ⟨T.setVm vm₁, locs, cells, slots⟩ (Value.ref b :: argsL).toArray v B ∧
      ∀ target, Steps p.tables e below (B.U.setTop { g with pc := g.pc + 3, stack := v.toList ++ rest }) target → Steps p.tables e below (T.setTop g) target) ∨
    (∃ (q : Addr) (vm₁ : Vm) (B : Pt), s.WarmedH vm₁ ∧ Stand p l e R s m args below meth c B.U B.locs B.cells B.slots ∧ PostX ⟨T.setVm vm₁, locs, cells, slots⟩ (Value.ref b :: argsL).toArray q B ∧
      Steps p.tables e below (T.setTop g) ((B.U.setTop { g with stack := rest }).pushFrame (.throwing q))) := by
  obtain ⟨mk, methM, hnamed, hmethM, hstM, habM⟩ := Cond.instanceMethod_spec hinst
  obtain ⟨methM', cM, hmethM', -, -, -, -, -, -, hsigM⟩ := Cond.code_spec hnamed hcode
  cases hmethM.symm.trans hmethM'
  obtain ⟨c2, r2, m2, q1, q2, q3, q4, kP, hkP, hkPi⟩ := Cond.selects_spec hsel
  cases hcls.symm.trans q1
  cases (State.methodFound?_of_named hnamed hy).symm.trans q2
  cases hnamed.symm.trans q3
  have hselP : selectMethod e.platform s.vm cellB.cls mk = .method mk := by rw [Launch.admits_selectMethod X.admits]; exact q4
  obtain ⟨vm₁, X₁, hstep₁⟩ := X.invokevirtualNest hexec hown hlink hnamed hmethM hstM hkP hkPi hy (a := b) (cell := cellB) hcell
    (fun z h => by rw [h] at hobj; cases hobj) hselP hmethM habM hkP hkPi (g := g) hg (argsL := argsL) (rest := rest) (hlen _ hsigM) hstack hdg
  rcases hK m meth c ⟨T.setVm vm₁, locs, cells, slots⟩ { g with stack := rest } (.invokevirtual index) mk (Value.ref b :: argsL).toArray X₁ hg hsize hdg hW (X₁.named hnamed) (hpre vm₁ X₁.warmed) with ⟨v, B, X', hpost, hsteps⟩ | ⟨q, B, X', hpost, hsteps⟩
  · exact Or.inl ⟨v, vm₁, B, X₁.warmed, X', hpost, fun target h => hstep₁ _ fun acts => by rw [doInvoke_state]; exact hsteps.trans h⟩
  · exact Or.inr ⟨q, vm₁, B, X₁.warmed, X', hpost, hstep₁ _ fun acts => by rw [doInvoke_state]; exact hsteps⟩
theorem fx_callSN (X : Stand p l e R s m args below meth c T locs cells slots) (hexec : p.tables.exec = Jvm.exec) {own host : String} {index : Nat} {y : MethodName} {bytes : ByteArray} {maxL : Nat} {ret : Option FieldType}
    (hown : s.vm.findClass own = some m.cls) (hlink : (Cond.methodLinkNest own index y host).before args s = true) (hstat : (Cond.static y).before args s = true) (hinit : (Cond.initialized y.cls).before args s = true)
    (hcode : (Cond.code y bytes maxL ret).before args s = true) (hy : y.cls ≠ "java/lang/invoke/MethodHandle" ∧ y.cls ≠ "java/lang/invoke/VarHandle")
    {W9 : Nat} {Pre : Pt → Array Value → Prop} {Post : Pt → Array Value → Option Value → Pt → Prop} {PostX : Pt → Array Value → Addr → Pt → Prop} (hK : vx_Back l R p e below s args y 3 W9 Pre Post PostX)
    {g : JFrame} (hg : g.method = m) (hsize : g.locals.size = c.maxLocals) {argsL rest : List Value} (hlen : ∀ sig, parseMethodDescriptor y.desc = some sig → argsL.length = sig.parameters.length)
    (hstack : g.stack = argsL.reverse ++ rest) (hW : 2 * g.monitorRoom + (rest.map fun v => v.category).sum ≤ W9) (hdg : decode c.code g.pc = .ok (.invokestatic index, 3))
    (hpre : ∀ vm₁, s.WarmedH vm₁ → Pre ⟨T.setVm vm₁, locs, cells, slots⟩ argsL.toArray) :
    (∃ (v : Option Value) (vm₁ : Vm) (B : Pt), s.WarmedH vm₁ ∧ Stand p l e R s m args below meth c B.U B.locs B.cells B.slots ∧ Post ⟨T.setVm vm₁, locs, cells, slots⟩ argsL.toArray v B ∧
      ∀ target, Steps p.tables e below (B.U.setTop { g with pc := g.pc + 3, stack := v.toList ++ rest }) target → Steps p.tables e below (T.setTop g) target) ∨
    (∃ (q : Addr) (vm₁ : Vm) (B : Pt), s.WarmedH vm₁ ∧ Stand p l e R s m args below meth c B.U B.locs B.cells B.slots ∧ PostX ⟨T.setVm vm₁, locs, cells, slots⟩ argsL.toArray q B ∧
      Steps p.tables e below (T.setTop g) ((B.U.setTop { g with stack := rest }).pushFrame (.throwing q))) := by
  obtain ⟨mk, hnamed⟩ := Cond.code_named hcode
  obtain ⟨methM, cM, hmethM, -, -, -, -, -, -, hsigM⟩ := Cond.code_spec hnamed hcode
  have hstatic : methM.isStatic = true := Cond.static_spec hnamed hmethM hstat
  obtain ⟨kP, hkP, -⟩ := className_of_methodNamed hnamed
  have hinitP : kP.init = .initialized := Cond.initialized_spec (findClass_of_methodNamed hnamed) hkP hinit
  obtain ⟨vm₁, X₁, hstep₁⟩ := X.invokestaticNest hexec hown hlink hnamed hmethM hstatic hkP hinitP hy (g := g) hg (argsL := argsL) (rest := rest) (hlen _ hsigM) hstack hdg
  rcases hK m meth c ⟨T.setVm vm₁, locs, cells, slots⟩ { g with stack := rest } (.invokestatic index) mk argsL.toArray X₁ hg hsize hdg hW (X₁.named hnamed) (hpre vm₁ X₁.warmed) with ⟨v, B, X', hpost, hsteps⟩ | ⟨q, B, X', hpost, hsteps⟩
  · exact Or.inl ⟨v, vm₁, B, X₁.warmed, X', hpost, fun target h => hstep₁ _ fun acts => by rw [doInvoke_state]; exact hsteps.trans h⟩
  · exact Or.inr ⟨q, vm₁, B, X₁.warmed, X', hpost, hstep₁ _ fun acts => by rw [doInvoke_state]; exact hsteps⟩
theorem fx_callI (X : Stand p l e R s m args below meth c T locs cells slots) (hexec : p.tables.exec = Jvm.exec) {own : String} {index : Nat} {y : MethodName} {bytes : ByteArray} {maxL : Nat}
    (hown : s.vm.findClass own = some m.cls) (hy1 : y.name = "<init>") (hlink : (Cond.methodLink own index y).before args s = true) (hinst : (Cond.instanceMethod y).before args s = true)
    (hcode : (Cond.code y bytes maxL none).before args s = true) (hy : y.cls ≠ "java/lang/invoke/MethodHandle" ∧ y.cls ≠ "java/lang/invoke/VarHandle")
    {W9 : Nat} {Pre : Pt → Array Value → Prop} {Post : Pt → Array Value → Option Value → Pt → Prop} {PostX : Pt → Array Value → Addr → Pt → Prop} (hK : vx_Back l R p e below s args y 3 W9 Pre Post PostX)
    {g : JFrame} (hg : g.method = m) (hsize : g.locals.size = c.maxLocals) {a : Addr} {argsL rest : List Value} (hlen : ∀ sig, parseMethodDescriptor y.desc = some sig → argsL.length = sig.parameters.length)
    (hstack : g.stack = argsL.reverse ++ .ref a :: rest) (hW : 2 * g.monitorRoom + (rest.map fun v => v.category).sum ≤ W9) (hdg : decode c.code g.pc = .ok (.invokespecial index, 3))
    (hpre : ∀ vm₁, s.WarmedH vm₁ → Pre ⟨T.setVm vm₁, locs, cells, slots⟩ (Value.ref a :: argsL).toArray) :
    (∃ (v : Option Value) (vm₁ : Vm) (B : Pt), s.WarmedH vm₁ ∧ Stand p l e R s m args below meth c B.U B.locs B.cells B.slots ∧ Post ⟨T.setVm vm₁, locs, cells, slots⟩ (Value.ref a :: argsL).toArray v B ∧
      ∀ target, Steps p.tables e below (B.U.setTop { g with pc := g.pc + 3, stack := v.toList ++ rest }) target → Steps p.tables e below (T.setTop g) target) ∨
    (∃ (q : Addr) (vm₁ : Vm) (B : Pt), s.WarmedH vm₁ ∧ Stand p l e R s m args below meth c B.U B.locs B.cells B.slots ∧ PostX ⟨T.setVm vm₁, locs, cells, slots⟩ (Value.ref a :: argsL).toArray q B ∧
      Steps p.tables e below (T.setTop g) ((B.U.setTop { g with stack := rest }).pushFrame (.throwing q))) := by
  subst hg
  have hpl : e.platform.magicAccessors = ({} : Platform).magicAccessors := by rw [X.admits.platform]
  obtain ⟨mk, methM, cM, kP, vm₁, hnamed, hmethM, hcodeM, -, hlocalsM, -, hkP, -, hW₁, hstep₁⟩ := Steps.initColdArgs (e := e) X.here hexec X.warmed hpl hown hy1 hy hlink hinst hcode (f := g) rfl hlen hstack hdg
  have X₁ := X.noted hW₁
  rcases hK g.method meth c ⟨T.setVm vm₁, locs, cells, slots⟩ { g with stack := rest } (.invokespecial index) mk (Value.ref a :: argsL).toArray X₁ rfl hsize hdg hW (X₁.named hnamed) (hpre vm₁ X₁.warmed) with ⟨v, B, X', hpost, hsteps⟩ | ⟨q, B, X', hpost, hsteps⟩
  · exact Or.inl ⟨v, vm₁, B, X₁.warmed, X', hpost, fun target h => hstep₁ _ fun acts => by rw [doInvoke_state]; exact hsteps.trans h⟩
  · exact Or.inr ⟨q, vm₁, B, X₁.warmed, X', hpost, hstep₁ _ fun acts => by rw [doInvoke_state]; exact hsteps⟩
theorem fx_callIN (X : Stand p l e R s m args below meth c T locs cells slots) (hexec : p.tables.exec = Jvm.exec) {own host : String} {index : Nat} {y : MethodName} {bytes : ByteArray} {maxL : Nat}
    (hown : s.vm.findClass own = some m.cls) (hy1 : y.name = "<init>") (hlink : (Cond.methodLinkNest own index y host).before args s = true) (hinst : (Cond.instanceMethod y).before args s = true)
    (hcode : (Cond.code y bytes maxL none).before args s = true) (hy : y.cls ≠ "java/lang/invoke/MethodHandle" ∧ y.cls ≠ "java/lang/invoke/VarHandle")
    {W9 : Nat} {Pre : Pt → Array Value → Prop} {Post : Pt → Array Value → Option Value → Pt → Prop} {PostX : Pt → Array Value → Addr → Pt → Prop} (hK : vx_Back l R p e below s args y 3 W9 Pre Post PostX)
    {g : JFrame} (hg : g.method = m) (hsize : g.locals.size = c.maxLocals) {a : Addr} {argsL rest : List Value} (hlen : ∀ sig, parseMethodDescriptor y.desc = some sig → argsL.length = sig.parameters.length)
    (hstack : g.stack = argsL.reverse ++ .ref a :: rest) (hW : 2 * g.monitorRoom + (rest.map fun v => v.category).sum ≤ W9) (hdg : decode c.code g.pc = .ok (.invokespecial index, 3))
    (hpre : ∀ vm₁, s.WarmedH vm₁ → Pre ⟨T.setVm vm₁, locs, cells, slots⟩ (Value.ref a :: argsL).toArray) :
    (∃ (v : Option Value) (vm₁ : Vm) (B : Pt), s.WarmedH vm₁ ∧ Stand p l e R s m args below meth c B.U B.locs B.cells B.slots ∧ Post ⟨T.setVm vm₁, locs, cells, slots⟩ (Value.ref a :: argsL).toArray v B ∧
      ∀ target, Steps p.tables e below (B.U.setTop { g with pc := g.pc + 3, stack := v.toList ++ rest }) target → Steps p.tables e below (T.setTop g) target) ∨
    (∃ (q : Addr) (vm₁ : Vm) (B : Pt), s.WarmedH vm₁ ∧ Stand p l e R s m args below meth c B.U B.locs B.cells B.slots ∧ PostX ⟨T.setVm vm₁, locs, cells, slots⟩ (Value.ref a :: argsL).toArray q B ∧
      Steps p.tables e below (T.setTop g) ((B.U.setTop { g with stack := rest }).pushFrame (.throwing q))) := by
  subst hg
  have hpl : e.platform.magicAccessors = ({} : Platform).magicAccessors := by rw [X.admits.platform]
  obtain ⟨mk, methM, cM, kP, vm₁, hnamed, hmethM, hcodeM, -, hlocalsM, -, hkP, -, hW₁, hstep₁⟩ := Steps.initColdArgsNest (e := e) X.here hexec X.warmed hpl hown hy1 hy hlink hinst hcode (f := g) rfl hlen hstack hdg
  have X₁ := X.noted hW₁
  rcases hK g.method meth c ⟨T.setVm vm₁, locs, cells, slots⟩ { g with stack := rest } (.invokespecial index) mk (Value.ref a :: argsL).toArray X₁ rfl hsize hdg hW (X₁.named hnamed) (hpre vm₁ X₁.warmed) with ⟨v, B, X', hpost, hsteps⟩ | ⟨q, B, X', hpost, hsteps⟩
  · exact Or.inl ⟨v, vm₁, B, X₁.warmed, X', hpost, fun target h => hstep₁ _ fun acts => by rw [doInvoke_state]; exact hsteps.trans h⟩
  · exact Or.inr ⟨q, vm₁, B, X₁.warmed, X', hpost, hstep₁ _ fun acts => by rw [doInvoke_state]; exact hsteps⟩
end FXC
section FXR
variable {p : Program} {l : Launch} {e : Env} {R : Room} {s : State} {m : MethodId} {args : Array Value} {below : List Frame} {meth : Method} {c : Code} {H : Heap} {locs : List Loc} {cells slots : Nat}
variable {y : MethodName} {bytes cc : ByteArray} {maxL nL mc ms n index : Nat} {ret : Option FieldType} {ws : List Cond} {rm : Room} {Pc : Array Value → State → Prop} {Qc : Array Value → State → Outcome → State → Prop} {XC : String → State → State → Prop} {free : Addr → Prop} {Ts : List Cond} {own C host : String} {b : Addr} {As rest : List Value} {g : JFrame}
theorem fx_runVN (S : CallFix p m c cc nL s args Ts own) (hM : vx_Met l y ws rm Pc Qc XC mc ms free) (cw : va_CN R s args own index y host bytes maxL ret ws rm mc ms n ∧ (Cond.instanceMethod y).before args s = true ∧ (Cond.selects C y y).before args s = true) (hp : PreV s H C b Pc As)
    (hg : g.method = m) (hn : As.length = n) (hsize : g.locals.size = nL) (hstack : g.stack = As.reverse ++ .ref b :: rest) (hW : 2 * g.monitorRoom + (rest.map fun v => v.category).sum ≤ 8) (hdg : decode cc g.pc = .ok (.invokevirtual index, 3)) (hf : cells + mc ≤ R.cells ∧ slots + ms ≤ R.slots) :
    vx_Run p l e R s m args below meth c H locs cells slots mc ms g rest (Qc (Value.ref b :: As).toArray) XC free := by
  obtain ⟨⟨⟨hrc, hrs, hfr, hlo, hws, hcw⟩, hcode, hini, hy, hlen, hl⟩, hx1, hx2⟩ := cw
  have hK : vx_Back l R p e below s args y 3 8 (PreOf R mc ms Pc) (PostOf Qc mc ms free) (vx_Post XC mc ms free) := vx_back (bytes := bytes) (maxL := maxL) (ret := ret) hM hp.1 hrc hrs hfr hlo hws hcw (fun a' U hW => word_at hW (Or.inl (by first | rfl | simp [Cond.onTables, Cond.keeps, Cond.steady])) hini)
  obtain ⟨hx, hb, hml, ho, -⟩ := S
  obtain ⟨-, ⟨cellB, hcB, hoB, hclB⟩, hPc⟩ := hp
  intro T hT X
  rcases fx_callVN X hx (C := C) (bytes := bytes) (maxL := maxL) (ret := ret) ho hl hx1 hx2 hcode hy hK (by rw [hT]; exact hcB) hoB hclB hg (hsize.trans hml.symm) (argsL := As) (rest := rest) (fun sig h => hn.trans (hlen sig h)) hstack hW (by rw [hb]; exact hdg)
    (fun vm₁ hW₁ => ⟨hf.1, hf.2, hPc (T.setVm vm₁) hT hW₁⟩) with ⟨v, vm₁, ⟨U', l2, c2, s2⟩, hW₁, X', ⟨g', mk, t, L, e1, e2, hq, h1, hL, h2, h3⟩, st⟩ | ⟨q, vm₁, ⟨U', l2, c2, s2⟩, hW₁, X', ⟨g', mk, t, L, E, ce, e1, e2, hq, hce, hcv, hcl, h1, hL, h2, h3⟩, st⟩
  · dsimp only [Pt.U, Pt.locs, Pt.cells, Pt.slots] at X' e1 e2 h1 h2 h3 st
    subst h1; subst h2; subst h3
    exact Or.inl ⟨v, (T.setVm vm₁).calling g' mk (Value.ref b :: As).toArray, t, U', L, hT, X', hL, e1, e2, hq, st⟩
  · dsimp only [Pt.U, Pt.locs, Pt.cells, Pt.slots] at X' e1 e2 h1 h2 h3 st hcl
    subst h1; subst h2; subst h3
    exact Or.inr ⟨q, (T.setVm vm₁).calling g' mk (Value.ref b :: As).toArray, t, U', L, E, ce, hT, X', hL, e1, e2, hq, hce, hcv, vx_cls hW₁ hcl, st⟩
theorem fx_runSN (S : CallFix p m c cc nL s args Ts own) (hM : vx_Met l y ws rm Pc Qc XC mc ms free) (cw : va_CN R s args own index y host bytes maxL ret ws rm mc ms n ∧ (Cond.static y).before args s = true) (hp : PreS s H Pc As)
    (hg : g.method = m) (hn : As.length = n) (hsize : g.locals.size = nL) (hstack : g.stack = As.reverse ++ rest) (hW : 2 * g.monitorRoom + (rest.map fun v => v.category).sum ≤ 8) (hdg : decode cc g.pc = .ok (.invokestatic index, 3)) (hf : cells + mc ≤ R.cells ∧ slots + ms ≤ R.slots) :
    vx_Run p l e R s m args below meth c H locs cells slots mc ms g rest (Qc As.toArray) XC free := by
  obtain ⟨⟨⟨hrc, hrs, hfr, hlo, hws, hcw⟩, hcode, hini, hy, hlen, hl⟩, hx1⟩ := cw
  have hK : vx_Back l R p e below s args y 3 8 (PreOf R mc ms Pc) (PostOf Qc mc ms free) (vx_Post XC mc ms free) := vx_back (bytes := bytes) (maxL := maxL) (ret := ret) hM hp.1 hrc hrs hfr hlo hws hcw (fun a' U hW => word_at hW (Or.inl (by first | rfl | simp [Cond.onTables, Cond.keeps, Cond.steady])) hini)
  obtain ⟨hx, hb, hml, ho, -⟩ := S
  have hPc := hp.2
  intro T hT X
  rcases fx_callSN X hx (bytes := bytes) (maxL := maxL) (ret := ret) ho hl hx1 hini hcode hy hK hg (hsize.trans hml.symm) (argsL := As) (rest := rest) (fun sig h => hn.trans (hlen sig h)) hstack hW (by rw [hb]; exact hdg)
    (fun vm₁ hW₁ => ⟨hf.1, hf.2, hPc (T.setVm vm₁) hT hW₁⟩) with ⟨v, vm₁, ⟨U', l2, c2, s2⟩, hW₁, X', ⟨g', mk, t, L, e1, e2, hq, h1, hL, h2, h3⟩, st⟩ | ⟨q, vm₁, ⟨U', l2, c2, s2⟩, hW₁, X', ⟨g', mk, t, L, E, ce, e1, e2, hq, hce, hcv, hcl, h1, hL, h2, h3⟩, st⟩
  · dsimp only [Pt.U, Pt.locs, Pt.cells, Pt.slots] at X' e1 e2 h1 h2 h3 st
    subst h1; subst h2; subst h3
    exact Or.inl ⟨v, (T.setVm vm₁).calling g' mk As.toArray, t, U', L, hT, X', hL, e1, e2, hq, st⟩
  · dsimp only [Pt.U, Pt.locs, Pt.cells, Pt.slots] at X' e1 e2 h1 h2 h3 st hcl
    subst h1; subst h2; subst h3
    exact Or.inr ⟨q, (T.setVm vm₁).calling g' mk As.toArray, t, U', L, E, ce, hT, X', hL, e1, e2, hq, hce, hcv, vx_cls hW₁ hcl, st⟩
theorem fx_runI (S : CallFix p m c cc nL s args Ts own) (hM : vx_Met l y ws rm Pc Qc XC mc ms free) (cw : CallB R s args own index y bytes maxL none ws rm mc ms n ∧ y.name = "<init>" ∧ (Cond.instanceMethod y).before args s = true) (hp : PreS s H Pc (.ref b :: As))
    (hg : g.method = m) (hn : As.length = n) (hsize : g.locals.size = nL) (hstack : g.stack = As.reverse ++ .ref b :: rest) (hW : 2 * g.monitorRoom + (rest.map fun v => v.category).sum ≤ 8) (hdg : decode cc g.pc = .ok (.invokespecial index, 3)) (hf : cells + mc ≤ R.cells ∧ slots + ms ≤ R.slots) :
    vx_Run p l e R s m args below meth c H locs cells slots mc ms g rest (Qc (Value.ref b :: As).toArray) XC free := by
  have hK : vx_Back l R p e below s args y 3 8 (PreOf R mc ms Pc) (PostOf Qc mc ms free) (vx_Post XC mc ms free) := vx_callBack cw.1 hM hp.1
  obtain ⟨⟨-, -, -, -, -, -, hcode, -, hy, hlen, hl⟩, hy1, hin⟩ := cw
  obtain ⟨hx, hb, hml, ho, -⟩ := S
  intro T hT X
  rcases fx_callI X hx (bytes := bytes) (maxL := maxL) ho hy1 hl hin hcode hy hK hg (hsize.trans hml.symm) (a := b) (argsL := As) (rest := rest) (fun sig h => hn.trans (hlen sig h)) hstack hW (by rw [hb]; exact hdg)
    (fun vm₁ hW₁ => ⟨hf.1, hf.2, hp.2 (T.setVm vm₁) hT hW₁⟩) with ⟨v, vm₁, ⟨U', l2, c2, s2⟩, hW₁, X', ⟨g', mk, t, L, e1, e2, hq, h1, hL, h2, h3⟩, st⟩ | ⟨q, vm₁, ⟨U', l2, c2, s2⟩, hW₁, X', ⟨g', mk, t, L, E, ce, e1, e2, hq, hce, hcv, hcl, h1, hL, h2, h3⟩, st⟩
  · dsimp only [Pt.U, Pt.locs, Pt.cells, Pt.slots] at X' e1 e2 h1 h2 h3 st
    subst h1; subst h2; subst h3
    exact Or.inl ⟨v, (T.setVm vm₁).calling g' mk (Value.ref b :: As).toArray, t, U', L, hT, X', hL, e1, e2, hq, st⟩
  · dsimp only [Pt.U, Pt.locs, Pt.cells, Pt.slots] at X' e1 e2 h1 h2 h3 st hcl
    subst h1; subst h2; subst h3
    exact Or.inr ⟨q, (T.setVm vm₁).calling g' mk (Value.ref b :: As).toArray, t, U', L, E, ce, hT, X', hL, e1, e2, hq, hce, hcv, vx_cls hW₁ hcl, st⟩
theorem fx_runIN (S : CallFix p m c cc nL s args Ts own) (hM : vx_Met l y ws rm Pc Qc XC mc ms free) (cw : va_CN R s args own index y host bytes maxL none ws rm mc ms n ∧ y.name = "<init>" ∧ (Cond.instanceMethod y).before args s = true) (hp : PreS s H Pc (.ref b :: As))
    (hg : g.method = m) (hn : As.length = n) (hsize : g.locals.size = nL) (hstack : g.stack = As.reverse ++ .ref b :: rest) (hW : 2 * g.monitorRoom + (rest.map fun v => v.category).sum ≤ 8) (hdg : decode cc g.pc = .ok (.invokespecial index, 3)) (hf : cells + mc ≤ R.cells ∧ slots + ms ≤ R.slots) :
    vx_Run p l e R s m args below meth c H locs cells slots mc ms g rest (Qc (Value.ref b :: As).toArray) XC free := by
  obtain ⟨⟨⟨hrc, hrs, hfr, hlo, hws, hcw⟩, hcode, hini, hy, hlen, hl⟩, hx1, hx2⟩ := cw
  have hK : vx_Back l R p e below s args y 3 8 (PreOf R mc ms Pc) (PostOf Qc mc ms free) (vx_Post XC mc ms free) := vx_back (bytes := bytes) (maxL := maxL) (ret := none) hM hp.1 hrc hrs hfr hlo hws hcw (fun a' U hW => word_at hW (Or.inl (by first | rfl | simp [Cond.onTables, Cond.keeps, Cond.steady])) hini)
  obtain ⟨hx, hb, hml, ho, -⟩ := S
  intro T hT X
  rcases fx_callIN X hx (bytes := bytes) (maxL := maxL) ho hx1 hl hx2 hcode hy hK hg (hsize.trans hml.symm) (a := b) (argsL := As) (rest := rest) (fun sig h => hn.trans (hlen sig h)) hstack hW (by rw [hb]; exact hdg)
    (fun vm₁ hW₁ => ⟨hf.1, hf.2, hp.2 (T.setVm vm₁) hT hW₁⟩) with ⟨v, vm₁, ⟨U', l2, c2, s2⟩, hW₁, X', ⟨g', mk, t, L, e1, e2, hq, h1, hL, h2, h3⟩, st⟩ | ⟨q, vm₁, ⟨U', l2, c2, s2⟩, hW₁, X', ⟨g', mk, t, L, E, ce, e1, e2, hq, hce, hcv, hcl, h1, hL, h2, h3⟩, st⟩
  · dsimp only [Pt.U, Pt.locs, Pt.cells, Pt.slots] at X' e1 e2 h1 h2 h3 st
    subst h1; subst h2; subst h3
    exact Or.inl ⟨v, (T.setVm vm₁).calling g' mk (Value.ref b :: As).toArray, t, U', L, hT, X', hL, e1, e2, hq, st⟩
  · dsimp only [Pt.U, Pt.locs, Pt.cells, Pt.slots] at X' e1 e2 h1 h2 h3 st hcl
    subst h1; subst h2; subst h3
    exact Or.inr ⟨q, (T.setVm vm₁).calling g' mk (Value.ref b :: As).toArray, t, U', L, E, ce, hT, X', hL, e1, e2, hq, hce, hcv, vx_cls hW₁ hcl, st⟩
end FXR
end
section
/-- a method's record: name, bytes, locals, answer, handlers, arguments told, frames, words of locals, wide locals -/
abbrev fm_MR : Type := MethodName × ByteArray × Nat × Option FieldType × List (Nat × Nat × Nat × Nat) × Nat × Nat × Nat × Bool
def fm_cw (r : fm_MR) : Cond := match r.2.2.2.2.1 with
  | [] => .code r.1 r.2.1 r.2.2.1 r.2.2.2.1
  | h :: t => .codeWith r.1 r.2.1 r.2.2.1 r.2.2.2.1 (h :: t)
def fm_w (r : fm_MR) : List Cond := fm_cw r :: fm_TG
def fm_rm (r : fm_MR) (mc ms : Nat) : Room := { frames := r.2.2.2.2.2.2.1, cells := mc, slots := ms, locals := r.2.2.2.2.2.2.2.1 }
/-- a method's contract: started with these arguments over M it ends as r says -/
def fm_Ct (l : Launch) (sts : fm_St) (ncs : fm_Nc) (X : Nat × (Nat → Int32)) (B b : Nat) (aC : Nat → ClassId) (D : va_G) (rec : fm_MR) (as : List fm_V) (M : fm_M) (r : fm_O × fm_M) : Prop :=
  vx_Met l rec.1 (fm_w rec) (fm_rm rec (fm_cn r.2 - fm_cn M) (fm_sn r.2 - fm_sn M)) (fm_Pc sts ncs X B b aC D as M) (fm_Qc B b aC D r) (fm_XC B aC D r) (fm_cn r.2 - fm_cn M) (fm_sn r.2 - fm_sn M) (fm_A B)
/-- what the tables say of the calls -/
def fm_CallOk (T : fm_Tb) (ms : List fm_MR) : Prop := ∀ q ∈ T.2.1, ∀ rec, ms[q.2.2.1]? = some rec →
  fm_cw rec ∈ lw_tbl ∧ (Cond.initialized rec.1.cls) ∈ lw_tbl ∧ (rec.1.cls ≠ "java/lang/invoke/MethodHandle" ∧ rec.1.cls ≠ "java/lang/invoke/VarHandle" ∧ (parseMethodDescriptor rec.1.desc).map (fun d => d.parameters.length) = some rec.2.2.2.2.2.1) ∧
  (match q.2.2.2.2 with
    | none => (Cond.methodLink q.1 q.2.1 rec.1) ∈ lw_tbl
    | some h => (Cond.methodLinkNest q.1 q.2.1 rec.1 h) ∈ lw_tbl) ∧
  (match q.2.2.2.1 with
    | 0 => (Cond.instanceMethod rec.1) ∈ lw_tbl ∧ (Cond.selects rec.1.cls rec.1 rec.1) ∈ lw_tbl ∧ rec.2.2.2.2.1 = []
    | 1 => (Cond.static rec.1) ∈ lw_tbl ∧ (rec.2.2.2.2.1 = [] ∨ q.2.2.2.2 = none)
    | _ => rec.1.name = "<init>" ∧ (Cond.instanceMethod rec.1) ∈ lw_tbl ∧ rec.2.2.2.2.1 = [] ∧ rec.2.2.2.1 = none)
/-- the room of a row: what it calls fits -/
def fm_ck2 (ms : List fm_MR) (fr lo : Nat) (e : fm_En) : Bool := match e.2.1 with
  | .invokevirtual _ => match e.2.2.2 with
    | [mj, _, n, _, ci] => Nat.blt 0 mj && (match ms[mj]? with
      | some r => Nat.beq (r.2.2.2.2.2.1 + 1) n && Nat.ble n r.2.2.1 && Nat.blt ci 7 && decide (fm_C ci = r.1.cls) && Nat.ble (r.2.2.2.2.2.2.1 + 1) fr && Nat.ble (8 + (r.2.2.1 + 11) + r.2.2.2.2.2.2.2.1) lo
      | none => false)
    | _ => true
  | .invokestatic _ => match e.2.2.2 with
    | [mj, _, n, _] => Nat.blt 0 mj && (match ms[mj]? with
      | some r => Nat.beq r.2.2.2.2.2.1 n && Nat.ble n r.2.2.1 && Nat.ble (r.2.2.2.2.2.2.1 + 1) fr && Nat.ble (8 + (r.2.2.1 + 11) + r.2.2.2.2.2.2.2.1) lo
      | none => false)
    | _ => true
  | .invokespecial _ => match e.2.2.2 with
    | [mj, _, n, _] => Nat.blt 0 mj && (match ms[mj]? with
      | some r => Nat.beq (r.2.2.2.2.2.1 + 1) n && Nat.ble n r.2.2.1 && Nat.ble (r.2.2.2.2.2.2.1 + 1) fr && Nat.ble (8 + (r.2.2.1 + 11) + r.2.2.2.2.2.2.2.1) lo
      | none => false)
    | _ => Nat.ble 1 fr && Nat.ble 20 lo
  | .new _ => match e.2.2.2 with
    | [1, _, _] => Nat.blt 5 fr && Nat.ble 90 lo
    | _ => true
  | _ => true
theorem fm_pop_inv : ∀ (n : Nat) (st acc : List fm_V) (q : List fm_V × List fm_V), fm_pop n st acc = some q → ∃ tk, st = tk ++ q.2 ∧ q.1 = tk.reverse ++ acc ∧ tk.length = n := by
  intro n
  induction n with
  | zero => intro st acc q h; cases h; exact ⟨[], rfl, rfl, rfl⟩
  | succ n ih =>
    intro st acc q h
    cases st with
    | nil => cases h
    | cons v r =>
      obtain ⟨tk, h1, h2, h3⟩ := ih r (v :: acc) q h
      exact ⟨v :: tk, by rw [h1]; rfl, by rw [h2]; simp, by simp [h3]⟩
section FMS12
variable {p : Program} {l : Launch} {e : Env} {R : Room} {s : State} {m : MethodId} {args : Array Value} {below : List Frame} {meth : Method} {c : Code}
variable {sts : fm_St} {ncs : fm_Nc} {X : Nat × (Nat → Int32)} {B b nL : Nat} {wd ini : Bool} {aC : Nat → ClassId} {D : va_G} {M0 : fm_M} {Q : State → Prop} {cc : ByteArray} {own : String} {T : fm_Tb} {cl : List fm_En} {rt : Option FieldType} {mss : List fm_MR}
variable {pc : Nat} {lo : List (Option fm_V)} {st : List fm_V} {M : fm_M} {g : fm_F}
/-- behind a call -/
theorem fm_after {r : fm_O × fm_M} {a : Array Value} {H : Heap} {locs : List Loc} {ls : Array Slot} {cells slots mc ms : Nat} {st0 rest : List Value} (hr : vx_Run p l e R s m args below meth c H locs cells slots mc ms (F0 m pc ls st0) rest (fm_Qc B b aC D r a) (fm_XC B aC D r) (fm_A B)) (hS : va_S (fm_A B) s.heap H locs)
    (kk : ∀ v, r.1 = .inl v → ∀ (H1 : Heap) (locs1 : List Loc), fm_Wd B aC D r.2 H1 → va_S (fm_A B) s.heap H1 locs1 → W p l e R s m args below meth c H1 locs1 (cells + mc) (slots + ms) Q (F0 m (pc + 3) ls ((v.map (fm_ren B b)).toList ++ rest)))
    (kx : ∀ x, r.1 = .inr x → ∀ (H1 : Heap) (locs1 : List Loc) (q9 : Addr) (ce : Cell), fm_Wd B aC D r.2 H1 → va_S (fm_A B) s.heap H1 locs1 → H1[q9]? = some ce → ce.vm = .none → s.vm.findClass (fm_ex x) = some ce.cls → vx_W p l e R s m args below meth c H1 locs1 (cells + mc) (slots + ms) Q (F0 m pc ls rest) q9) :
    W p l e R s m args below meth c H locs cells slots Q (F0 m pc ls st0) := by
  intro T0 hT0 X0
  rcases hr T0 hT0 X0 with ⟨v, st₀, t, T', L, h0, X', hL, e1, e2, hq, go⟩ | ⟨q, st₀, t, T', L, E, ce, h0, X', hL, e1, e2, hq, hce, hcv, hcl, go⟩
  · unfold fm_Qc at hq
    split at hq
    · rename_i w hw
      obtain ⟨hv, hwd, hF⟩ := hq
      have hv' := Outcome.returned.inj hv
      subst hv'
      obtain ⟨k1, k2, k3⟩ := vx_keep h0 e1 hS (fun q _ h => h) (fun q h => h) hL hF
      obtain ⟨t2, a1, b1⟩ := kk w hw T'.heap (locs ++ L) (by rw [e1]; exact hwd) k3 T' rfl X'
      exact ⟨t2, go t2 a1, b1⟩
    · exact hq.elim
  · unfold fm_XC at hq
    split at hq
    · exact hq.elim
    · rename_i x hx
      obtain ⟨hE, hwd, hF⟩ := hq
      subst hE
      obtain ⟨k1, k2, k3⟩ := vx_keep h0 e1 hS (fun q _ h => h) (fun q h => h) hL hF
      obtain ⟨t2, a1, b1⟩ := kx x hx T'.heap (locs ++ L) q ce (by rw [e1]; exact hwd) k3 (by rw [e1]; exact hce) hcv hcl T' rfl X'
      exact ⟨t2, go.trans a1, b1⟩
theorem fm_TG_in {w : Cond} (hw : w ∈ lw_tbl) (hg : goodWord w = true) : w ∈ fm_TG := List.mem_filter.mpr ⟨hw, hg⟩
theorem fm_TG_good : GoodIn fm_TG fm_TG := fun w hw => ⟨hw, good_of_word (List.mem_filter.mp hw).2⟩
theorem fm_w_good {rec : fm_MR} (h : fm_cw rec ∈ lw_tbl) : GoodIn fm_TG (fm_w rec) := by
  intro w hw
  rcases List.mem_cons.mp hw with rfl | hw
  · have hg : goodWord (fm_cw rec) = true := by
      unfold fm_cw
      split <;> rfl
    exact ⟨fm_TG_in h hg, good_of_word hg⟩
  · exact fm_TG_good w hw
theorem fm_w_code {rec : fm_MR} (h : rec.2.2.2.2.1 = []) : fm_w rec = Cond.code rec.1 rec.2.1 rec.2.2.1 rec.2.2.2.1 :: fm_TG := by
  unfold fm_w fm_cw
  rw [h]
/-- what the callee finds -/
theorem fm_pre {as : List fm_V} {H : Heap} {locs : List Loc} (C : fm_Cx p s m args meth c sts ncs X B b nL aC D cc own) (hw : fm_Wd B aC D M H) (hS : va_S (fm_A B) s.heap H locs) (hv : ∀ v ∈ as, fm_vok M.2 v) : ∀ U : State, U.heap = H → s.WarmedH U.vm → fm_Pc sts ncs X B b aC D as M (as.map (fm_ren B b)).toArray U := by
  intro U hU hW
  exact ⟨rfl, C.2.2.2.2.2.1.go hW (by rw [hU]; exact hS.1) (fun q h1 h2 => by rw [hU]; exact hS.2.1 q h1 h2), by rw [hU]; exact hw, hv⟩
/-- the receiver's cell -/
theorem fm_rcv_at {ci : Nat} {v : fm_V} {as : List fm_V} {H : Heap} (C : fm_Cx p s m args meth c sts ncs X B b nL aC D cc own) (hw : fm_Wd B aC D M H) (hv : fm_vok M.2 v) (hci : ci < 7) (h : fm_rcv ci (v :: as) M.2 = true) : ∃ a, fm_ren B b v = .ref a ∧ ∃ cellB : Cell, H[a]? = some cellB ∧ cellB.vm.isStatics = false ∧ s.vm.findClass (fm_C ci) = some cellB.cls := by
  have hK := C.2.2.2.2.2.1.1
  unfold fm_rcv at h
  split at h
  · rename_i c0 tl hcc
    cases hcc
    split at h
    · rename_i q hq
      have hqc := Nat.eq_of_beq_eq_true h
      subst hqc
      obtain ⟨o1, -⟩ := fm_obj_at (B := B) (aC := aC) (D := D) hw hq hci
      exact ⟨_, fm_ren_ref (fm_scr_ne hq hw.2.1), va_recv hK hw.1 (fm_cls_at hci) o1⟩
    · cases h
  · rename_i t j tl hcc
    cases hcc
    simp only [Bool.and_eq_true] at h
    have ht := Nat.eq_of_beq_eq_true h.1.1
    have hc4 := Nat.eq_of_beq_eq_true h.1.2
    subst ht
    subst hc4
    obtain ⟨p0, -, -⟩ := fm_pool_at h.2 hv.2.1
    obtain ⟨o1, -⟩ := fm_obj_at (B := B) (aC := aC) (D := D) hw p0 (show 4 < 7 by decide)
    exact ⟨_, rfl, va_recv hK hw.1 (fm_cls_at (show 4 < 7 by decide)) o1⟩
  · cases h
/-- the first of a constructor's arguments -/
theorem fm_catA {v : fm_V} (h : fm_cat v = 1) : True := trivial
end FMS12
end
section
section FMS13
variable {p : Program} {l : Launch} {e : Env} {R : Room} {s : State} {m : MethodId} {args : Array Value} {below : List Frame} {meth : Method} {c : Code}
variable {sts : fm_St} {ncs : fm_Nc} {X : Nat × (Nat → Int32)} {B b nL : Nat} {wd ini : Bool} {aC : Nat → ClassId} {D : va_G} {M0 : fm_M} {Q : State → Prop} {cc : ByteArray} {own : String} {T : fm_Tb} {cl : List fm_En} {rt : Option FieldType} {mss : List fm_MR}
variable {pc : Nat} {lo : List (Option fm_V)} {st : List fm_V} {M : fm_M} {g : fm_F}
/-- from a call's run to the frame behind -/
theorem sm_called {r : fm_O × fm_M} {as rest : List fm_V} (hge : fm_ge M r.2) (hm1 : fm_cn M0 ≤ fm_cn M) (hm2 : fm_sn M0 ≤ fm_sn M) (hv : ∀ v, r.1 = .inl (some v) → fm_vok r.2.2 v)
    (hrest : ∀ S, fm_ok S lo st → fm_ok S lo rest)
    (run : ∀ (H : Heap) (locs : List Loc) (ls : Array Slot), fm_LH B b nL wd ls lo → fm_ok M.2 lo st → fm_Wd B aC D M H → va_S (fm_A B) s.heap H locs →
      vx_Run p l e R s m args below meth c H locs (fm_cn M - fm_cn M0) (fm_sn M - fm_sn M0) (fm_cn r.2 - fm_cn M) (fm_sn r.2 - fm_sn M) (F0 m pc ls (st.map (fm_ren B b))) (rest.map (fm_ren B b)) (fm_Qc B b aC D r (as.map (fm_ren B b)).toArray) (fm_XC B aC D r) (fm_A B))
    (kk : ∀ v, r.1 = .inl v → fm_WW p l e R s m args below meth c B b nL wd aC D M0 Q (fm_push v (pc + 3, lo, rest, M) r.2))
    (kx : ∀ x, r.1 = .inr x → ∀ (H : Heap) (locs : List Loc) (ls : Array Slot) (q9 : Addr) (ce : Cell), fm_LH B b nL wd ls lo → fm_ok r.2.2 lo rest → fm_Wd B aC D r.2 H → va_S (fm_A B) s.heap H locs → H[q9]? = some ce → ce.vm = .none → s.vm.findClass (fm_ex x) = some ce.cls →
      vx_W p l e R s m args below meth c H locs (fm_cn r.2 - fm_cn M0) (fm_sn r.2 - fm_sn M0) Q (F0 m pc ls (rest.map (fm_ren B b))) q9) :
    fm_WW p l e R s m args below meth c B b nL wd aC D M0 Q (pc, lo, st, M) := by
  intro H locs ls hl ho hw hS
  have e1 : fm_cn M - fm_cn M0 + (fm_cn r.2 - fm_cn M) = fm_cn r.2 - fm_cn M0 := by have := hge.2.1; omega
  have e2 : fm_sn M - fm_sn M0 + (fm_sn r.2 - fm_sn M) = fm_sn r.2 - fm_sn M0 := by have := hge.2.2; omega
  refine fm_after (run H locs ls hl ho hw hS) hS (fun v hvv H1 locs1 hw1 hS1 => ?_) (fun x hx H1 locs1 q9 ce hw1 hS1 h1 h2 h3 => ?_)
  · rw [e1, e2]
    have hg := kk v hvv H1 locs1 ls
    unfold fm_push at hg
    cases v with
    | none => exact hg hl ((hrest _ ho).mono hge.1) hw1 hS1
    | some w => exact hg hl (((hrest _ ho).mono hge.1).push (hv w hvv)) hw1 hS1
  · rw [e1, e2]
    exact kx x hx H1 locs1 ls q9 ce hl ((hrest _ ho).mono hge.1) hw1 hS1 h1 h2 h3
theorem sm_wsum {rest : List fm_V} {ls : Array Slot} {st0 : List Value} (h : fm_csum rest ≤ 8) : 2 * (F0 m pc ls st0).monitorRoom + ((rest.map (fm_ren B b)).map fun v => v.category).sum ≤ 8 := by
  rw [fm_csum_ren]
  have h0 : (F0 m pc ls st0).monitorRoom = 0 := rfl
  rw [h0]
  omega
set_option maxHeartbeats 4000000 in
/-- a call -/
theorem sm_call {ins : Instr} {len : Nat} {ann : List Nat} {mj rk : Nat} {as : List fm_V} {r : fm_O × fm_M} (C : fm_Cx p s m args meth c sts ncs X B b nL aC D cc own) (hCl : fm_CallOk T mss) (hd : decode cc pc = .ok (ins, len)) (hck : fm_ck T cl own wd ini rt (pc, ins, len, ann) = true) (hck2 : fm_ck2 mss R.frames R.locals (pc, ins, len, ann) = true)
    (h : fm_step X (pc, ins, len, ann) lo st M = fm_ca mj rk as g) (hrec : ∀ rec, mss[mj]? = some rec → 0 < mj → as.length ≤ rec.2.2.1 → (∀ v ∈ as, fm_cat v = 1) → fm_Ct l sts ncs X B b aC D rec as M r) (hge : fm_ge M r.2) (hv : ∀ v, r.1 = .inl (some v) → fm_vok r.2.2 v) (hc : fm_cn r.2 - fm_cn M0 ≤ R.cells) (hs : fm_sn r.2 - fm_sn M0 ≤ R.slots) (hm1 : fm_cn M0 ≤ fm_cn M) (hm2 : fm_sn M0 ≤ fm_sn M)
    (kk : ∀ v, r.1 = .inl v → fm_WW p l e R s m args below meth c B b nL wd aC D M0 Q (fm_push v g r.2))
    (kx : ∀ x, r.1 = .inr x → ∀ (H : Heap) (locs : List Loc) (ls : Array Slot) (q9 : Addr) (ce : Cell), fm_LH B b nL wd ls lo → fm_ok r.2.2 lo g.2.2.1 → fm_Wd B aC D r.2 H → va_S (fm_A B) s.heap H locs → H[q9]? = some ce → ce.vm = .none → s.vm.findClass (fm_ex x) = some ce.cls →
      vx_W p l e R s m args below meth c H locs (fm_cn r.2 - fm_cn M0) (fm_sn r.2 - fm_sn M0) Q (F0 m pc ls (g.2.2.1.map (fm_ren B b))) q9) :
    fm_WW p l e R s m args below meth c B b nL wd aC D M0 Q (pc, lo, st, M) := by
  have hcc : fm_cn M - fm_cn M0 + (fm_cn r.2 - fm_cn M) ≤ R.cells := by have := hge.2.1; omega
  have hss : fm_sn M - fm_sn M0 + (fm_sn r.2 - fm_sn M) ≤ R.slots := by have := hge.2.2; omega
  unfold fm_ck at hck
  simp only [Bool.and_eq_true] at hck
  obtain ⟨hlen, hck⟩ := hck
  have hlen := Nat.eq_of_beq_eq_true hlen
  cases ins with
  | invokevirtual cp =>
    have hl1 : len = 3 := hlen
    subst hl1
    dsimp only [fm_step] at h
    split at h
    · rename_i mj0 rk0 n j ci
      unfold fm_callv at h
      split at h
      · rename_i q hq
        cases hb : (Nat.ble (fm_csum q.2) 8 && q.1.all (fun v => Nat.beq (fm_cat v) 1) && fm_rcv ci q.1 M.2)
        · rw [hb, cond_false] at h; cases h
        · rw [hb, cond_true] at h
          cases h
          simp only [Bool.and_eq_true] at hb
          obtain ⟨⟨b1, b2⟩, b3⟩ := hb
          obtain ⟨tk, t1, t2, t3⟩ := fm_pop_inv n st [] q hq
          rw [List.append_nil] at t2
          dsimp only [fm_ck2] at hck2
          simp only [Bool.and_eq_true] at hck2
          obtain ⟨hmj, hck2⟩ := hck2
          split at hck2
          · rename_i rec hrc
            simp only [Bool.and_eq_true] at hck2
            obtain ⟨⟨⟨⟨⟨c1, c2⟩, c3⟩, c4⟩, c5⟩, c6⟩ := hck2
            have c1 := Nat.eq_of_beq_eq_true c1
            have c2 : n ≤ rec.2.2.1 := by simpa using c2
            have c3 : ci < 7 := by simpa using c3
            have c4 := of_decide_eq_true c4
            have c5 : rec.2.2.2.2.2.2.1 + 1 ≤ R.frames := by simpa using c5
            have c6 : 8 + (rec.2.2.1 + 11) + rec.2.2.2.2.2.2.2.1 ≤ R.locals := by simpa using c6
            have hlenA : q.1.length = n := by rw [t2, List.length_reverse]; exact t3
            have hcat : ∀ v ∈ q.1, fm_cat v = 1 := fun v hv => Nat.eq_of_beq_eq_true (List.all_eq_true.mp b2 v hv)
            have hct := hrec rec hrc (by simpa using hmj) (by rw [hlenA]; exact c2) hcat
            dsimp only at hck
            split at hck
            · rename_i q5 hq5
              simp only [Bool.and_eq_true] at hck
              obtain ⟨⟨⟨k1, k2⟩, k3⟩, k4⟩ := hck
              have k1 := of_decide_eq_true k1
              have k2 := Nat.eq_of_beq_eq_true k2
              have k3 := Nat.eq_of_beq_eq_true k3
              have k4 := Nat.eq_of_beq_eq_true k4
              obtain ⟨w1, w2, w3, w4, w5⟩ := hCl q5 (List.mem_of_getElem? hq5) rec (by rw [k3]; exact hrc)
              rw [k4] at w5
              obtain ⟨w5, w6, w7⟩ := w5
              obtain ⟨v0, as0, hqa⟩ : ∃ v0 as0, q.1 = v0 :: as0 := by
                cases hq1 : q.1 with
                | nil => rw [hq1] at hlenA; simp at hlenA; omega
                | cons v0 as0 => exact ⟨v0, as0, rfl⟩
              have hlen0 : as0.length = rec.2.2.2.2.2.1 := by rw [hqa] at hlenA; simp at hlenA; omega
              have hst : st = as0.reverse ++ v0 :: q.2 := by
                have : tk = q.1.reverse := by rw [t2, List.reverse_reverse]
                rw [t1, this, hqa]
                simp
              refine sm_called (as := q.1) (rest := q.2) hge hm1 hm2 hv (fun S ho => ⟨ho.1, fun v hv => ho.2 v (by rw [t1]; exact List.mem_append_right _ hv)⟩) (fun H locs ls hl ho hw hS => ?_) kk kx
              have hvas : ∀ v ∈ q.1, fm_vok M.2 v := fun v hv => ho.2 v (by rw [t1]; refine List.mem_append_left _ ?_; rw [t2] at hv; exact List.mem_reverse.mp hv)
              have hpre := fm_pre C hw hS hvas
              have hrcv := b3
              rw [hqa] at hrcv hpre
              obtain ⟨a0, ha0, hcell⟩ := fm_rcv_at C hw (hvas v0 (by rw [hqa]; exact List.mem_cons_self)) c3 hrcv
              rw [c4] at hcell
              simp only [List.map_cons] at hpre
              rw [ha0] at hpre
              have hgoal : (F0 m pc ls (st.map (fm_ren B b))).stack = (as0.map (fm_ren B b)).reverse ++ .ref a0 :: q.2.map (fm_ren B b) := by
                show st.map (fm_ren B b) = _
                rw [hst]
                simp [ha0]
              rw [hqa]
              simp only [List.map_cons]
              rw [ha0]
              rw [hqa] at hct
              have hct' : vx_Met l rec.1 (fm_w rec) (fm_rm rec (fm_cn r.2 - fm_cn M) (fm_sn r.2 - fm_sn M)) (fm_Pc sts ncs X B b aC D (v0 :: as0) M) (fm_Qc B b aC D r) (fm_XC B aC D r) (fm_cn r.2 - fm_cn M) (fm_sn r.2 - fm_sn M) (fm_A B) := hct
              have hS5 : CallFix p m c cc nL s args fm_TG own := ⟨C.1, C.2.1, C.2.2.1, C.2.2.2.1, C.2.2.2.2.1⟩
              cases hh5 : q5.2.2.2.2 with
              | none =>
                rw [hh5] at w4
                dsimp only at w4
                rw [k1, k2] at w4
                exact vx_runV (C := rec.1.cls) (n := rec.2.2.2.2.2.1) hS5 hct' ⟨callB_of _ C.2.2.2.2.1 (fm_w_good w1) (fm_w_code w7) rfl rfl (fm_word C w2 rfl) (fm_word C w4 rfl) w3 ⟨c5, c6⟩, fm_word C w5 rfl, fm_word C w6 rfl⟩ ⟨fm_Pc_blind, hcell, hpre⟩ rfl (by simpa using hlen0) hl.1 hgoal (sm_wsum (by simpa using b1)) hd ⟨hcc, hss⟩
              | some hst5 =>
                rw [hh5] at w4
                dsimp only at w4
                rw [k1, k2] at w4
                exact fx_runVN (C := rec.1.cls) (n := rec.2.2.2.2.2.1) hS5 hct' ⟨va_cnB _ C.2.2.2.2.1 (fm_w_good w1) (fm_w_code w7) rfl rfl (C.2.2.2.2.2.1.2.1 _ w4 rfl) (fm_word C w2 rfl) w3 ⟨c5, c6⟩, fm_word C w5 rfl, fm_word C w6 rfl⟩ ⟨fm_Pc_blind, hcell, hpre⟩ rfl (by simpa using hlen0) hl.1 hgoal (sm_wsum (by simpa using b1)) hd ⟨hcc, hss⟩
            · cases hck
          · cases hck2
      · cases h
    · cases h
  | invokestatic cp =>
    have hl1 : len = 3 := hlen
    subst hl1
    dsimp only [fm_step] at h
    split at h
    · rename_i mj0 rk0 n j
      unfold fm_callr at h
      split at h
      · rename_i q hq
        cases hb : (Nat.ble (fm_csum q.2) 8 && q.1.all (fun v => Nat.beq (fm_cat v) 1))
        · rw [hb, cond_false] at h; cases h
        · rw [hb, cond_true] at h
          cases h
          simp only [Bool.and_eq_true] at hb
          obtain ⟨b1, b2⟩ := hb
          obtain ⟨tk, t1, t2, t3⟩ := fm_pop_inv n st [] q hq
          rw [List.append_nil] at t2
          dsimp only [fm_ck2] at hck2
          simp only [Bool.and_eq_true] at hck2
          obtain ⟨hmj, hck2⟩ := hck2
          split at hck2
          · rename_i rec hrc
            simp only [Bool.and_eq_true] at hck2
            obtain ⟨⟨⟨c1, c2⟩, c5⟩, c6⟩ := hck2
            have c1 := Nat.eq_of_beq_eq_true c1
            have c2 : n ≤ rec.2.2.1 := by simpa using c2
            have c5 : rec.2.2.2.2.2.2.1 + 1 ≤ R.frames := by simpa using c5
            have c6 : 8 + (rec.2.2.1 + 11) + rec.2.2.2.2.2.2.2.1 ≤ R.locals := by simpa using c6
            have hlenA : q.1.length = n := by rw [t2, List.length_reverse]; exact t3
            have hcat : ∀ v ∈ q.1, fm_cat v = 1 := fun v hv => Nat.eq_of_beq_eq_true (List.all_eq_true.mp b2 v hv)
            have hct : vx_Met l rec.1 (fm_w rec) (fm_rm rec (fm_cn r.2 - fm_cn M) (fm_sn r.2 - fm_sn M)) (fm_Pc sts ncs X B b aC D q.1 M) (fm_Qc B b aC D r) (fm_XC B aC D r) (fm_cn r.2 - fm_cn M) (fm_sn r.2 - fm_sn M) (fm_A B) := hrec rec hrc (by simpa using hmj) (by rw [hlenA]; exact c2) hcat
            dsimp only at hck
            split at hck
            · rename_i q5 hq5
              simp only [Bool.and_eq_true] at hck
              obtain ⟨⟨⟨k1, k2⟩, k3⟩, k4⟩ := hck
              have k1 := of_decide_eq_true k1
              have k2 := Nat.eq_of_beq_eq_true k2
              have k3 := Nat.eq_of_beq_eq_true k3
              have k4 := Nat.eq_of_beq_eq_true k4
              obtain ⟨w1, w2, w3, w4, w5⟩ := hCl q5 (List.mem_of_getElem? hq5) rec (by rw [k3]; exact hrc)
              rw [k4] at w5
              obtain ⟨w5, w7⟩ := w5
              have hst : st = q.1.reverse ++ q.2 := by
                have : tk = q.1.reverse := by rw [t2, List.reverse_reverse]
                rw [t1, this]
              refine sm_called (as := q.1) (rest := q.2) hge hm1 hm2 hv (fun S ho => ⟨ho.1, fun v hv => ho.2 v (by rw [t1]; exact List.mem_append_right _ hv)⟩) (fun H locs ls hl ho hw hS => ?_) kk kx
              have hvas : ∀ v ∈ q.1, fm_vok M.2 v := fun v hv => ho.2 v (by rw [t1]; refine List.mem_append_left _ ?_; rw [t2] at hv; exact List.mem_reverse.mp hv)
              have hpre := fm_pre C hw hS hvas
              have hgoal : (F0 m pc ls (st.map (fm_ren B b))).stack = (q.1.map (fm_ren B b)).reverse ++ q.2.map (fm_ren B b) := by
                show st.map (fm_ren B b) = _
                rw [hst]
                simp
              have hn : (q.1.map (fm_ren B b)).length = rec.2.2.2.2.2.1 := by rw [List.length_map, hlenA]; exact c1.symm
              have hS5 : CallFix p m c cc nL s args fm_TG own := ⟨C.1, C.2.1, C.2.2.1, C.2.2.2.1, C.2.2.2.2.1⟩
              cases hh5 : q5.2.2.2.2 with
              | none =>
                rw [hh5] at w4
                dsimp only at w4
                rw [k1, k2] at w4
                cases hhh : rec.2.2.2.2.1 with
                | nil => exact vx_runS (n := rec.2.2.2.2.2.1) hS5 hct ⟨callB_of _ C.2.2.2.2.1 (fm_w_good w1) (fm_w_code hhh) rfl rfl (fm_word C w2 rfl) (fm_word C w4 rfl) w3 ⟨c5, c6⟩, fm_word C w5 rfl⟩ ⟨fm_Pc_blind, hpre⟩ rfl hn hl.1 hgoal (sm_wsum (by simpa using b1)) hd ⟨hcc, hss⟩
                | cons h0 t0 =>
                  have hwc : fm_w rec = Cond.codeWith rec.1 rec.2.1 rec.2.2.1 rec.2.2.2.1 (h0 :: t0) :: fm_TG := by
                    unfold fm_w fm_cw
                    rw [hhh]
                  have hwc1 : Cond.codeWith rec.1 rec.2.1 rec.2.2.1 rec.2.2.2.1 (h0 :: t0) ∈ fm_w rec := by rw [hwc]; exact List.mem_cons_self
                  have hgood := fm_w_good w1
                  refine vx_runSX (n := rec.2.2.2.2.2.1) (hh := h0 :: t0) hS5 hct ⟨⟨rfl, rfl, c5, c6, pay_in C.2.2.2.2.1 hgood, hwc1⟩, C.2.2.2.2.1 _ (hgood _ hwc1).1, fm_word C w2 rfl, ⟨w3.1, w3.2.1⟩, fun sig hsig => ?_, fm_word C w4 rfl, fm_word C w5 rfl⟩ ⟨fm_Pc_blind, hpre⟩ rfl hn hl.1 hgoal (sm_wsum (by simpa using b1)) hd ⟨hcc, hss⟩
                  have h2 := w3.2.2
                  rw [hsig] at h2
                  exact (Option.some.inj h2).symm
              | some hst5 =>
                rw [hh5] at w4
                dsimp only at w4
                rw [k1, k2] at w4
                have hhh : rec.2.2.2.2.1 = [] := w7.elim id (fun z => by rw [hh5] at z; cases z)
                exact fx_runSN (n := rec.2.2.2.2.2.1) hS5 hct ⟨va_cnB _ C.2.2.2.2.1 (fm_w_good w1) (fm_w_code hhh) rfl rfl (C.2.2.2.2.2.1.2.1 _ w4 rfl) (fm_word C w2 rfl) w3 ⟨c5, c6⟩, fm_word C w5 rfl⟩ ⟨fm_Pc_blind, hpre⟩ rfl hn hl.1 hgoal (sm_wsum (by simpa using b1)) hd ⟨hcc, hss⟩
            · cases hck
          · cases hck2
      · cases h
    · cases h
  | invokespecial cp =>
    have hl1 : len = 3 := hlen
    subst hl1
    dsimp only [fm_step] at h
    split at h
    · rename_i mj0 rk0 n j
      unfold fm_calls at h
      split at h
      · rename_i q hq
        cases hb : (Nat.ble (fm_csum q.2) 8 && q.1.all (fun v => Nat.beq (fm_cat v) 1) && fm_isA q.1.head?)
        · rw [hb, cond_false] at h; cases h
        · rw [hb, cond_true] at h
          cases h
          simp only [Bool.and_eq_true] at hb
          obtain ⟨⟨b1, b2⟩, b3⟩ := hb
          obtain ⟨tk, t1, t2, t3⟩ := fm_pop_inv n st [] q hq
          rw [List.append_nil] at t2
          dsimp only [fm_ck2] at hck2
          simp only [Bool.and_eq_true] at hck2
          obtain ⟨hmj, hck2⟩ := hck2
          split at hck2
          · rename_i rec hrc
            simp only [Bool.and_eq_true] at hck2
            obtain ⟨⟨⟨c1, c2⟩, c5⟩, c6⟩ := hck2
            have c1 := Nat.eq_of_beq_eq_true c1
            have c2 : n ≤ rec.2.2.1 := by simpa using c2
            have c5 : rec.2.2.2.2.2.2.1 + 1 ≤ R.frames := by simpa using c5
            have c6 : 8 + (rec.2.2.1 + 11) + rec.2.2.2.2.2.2.2.1 ≤ R.locals := by simpa using c6
            have hlenA : q.1.length = n := by rw [t2, List.length_reverse]; exact t3
            have hcat : ∀ v ∈ q.1, fm_cat v = 1 := fun v hv => Nat.eq_of_beq_eq_true (List.all_eq_true.mp b2 v hv)
            have hct := hrec rec hrc (by simpa using hmj) (by rw [hlenA]; exact c2) hcat
            dsimp only at hck
            split at hck
            · rename_i q5 hq5
              simp only [Bool.and_eq_true] at hck
              obtain ⟨⟨⟨k1, k2⟩, k3⟩, k4⟩ := hck
              have k1 := of_decide_eq_true k1
              have k2 := Nat.eq_of_beq_eq_true k2
              have k3 := Nat.eq_of_beq_eq_true k3
              have k4 := Nat.eq_of_beq_eq_true k4
              obtain ⟨w1, w2, w3, w4, w5⟩ := hCl q5 (List.mem_of_getElem? hq5) rec (by rw [k3]; exact hrc)
              rw [k4] at w5
              obtain ⟨w6, w5, w7, w8⟩ := w5
              obtain ⟨v0, as0, hqa⟩ : ∃ v0 as0, q.1 = v0 :: as0 := by
                cases hq1 : q.1 with
                | nil => rw [hq1] at hlenA; simp at hlenA; omega
                | cons v0 as0 => exact ⟨v0, as0, rfl⟩
              have hlen0 : as0.length = rec.2.2.2.2.2.1 := by rw [hqa] at hlenA; simp at hlenA; omega
              have hst : st = as0.reverse ++ v0 :: q.2 := by
                have : tk = q.1.reverse := by rw [t2, List.reverse_reverse]
                rw [t1, this, hqa]
                simp
              have hisA : fm_isA (some v0) = true := by rw [hqa] at b3; exact b3
              obtain ⟨-, a0, ha0⟩ := sm_isA (B := B) (b := b) hisA
              refine sm_called (as := q.1) (rest := q.2) hge hm1 hm2 hv (fun S ho => ⟨ho.1, fun v hv => ho.2 v (by rw [t1]; exact List.mem_append_right _ hv)⟩) (fun H locs ls hl ho hw hS => ?_) kk kx
              have hvas : ∀ v ∈ q.1, fm_vok M.2 v := fun v hv => ho.2 v (by rw [t1]; refine List.mem_append_left _ ?_; rw [t2] at hv; exact List.mem_reverse.mp hv)
              have hpre := fm_pre C hw hS hvas
              rw [hqa] at hpre
              simp only [List.map_cons] at hpre
              rw [ha0] at hpre
              have hgoal : (F0 m pc ls (st.map (fm_ren B b))).stack = (as0.map (fm_ren B b)).reverse ++ .ref a0 :: q.2.map (fm_ren B b) := by
                show st.map (fm_ren B b) = _
                rw [hst]
                simp [ha0]
              rw [hqa]
              simp only [List.map_cons]
              rw [ha0]
              rw [hqa] at hct
              have hct' : vx_Met l rec.1 (fm_w rec) (fm_rm rec (fm_cn r.2 - fm_cn M) (fm_sn r.2 - fm_sn M)) (fm_Pc sts ncs X B b aC D (v0 :: as0) M) (fm_Qc B b aC D r) (fm_XC B aC D r) (fm_cn r.2 - fm_cn M) (fm_sn r.2 - fm_sn M) (fm_A B) := hct
              have hS5 : CallFix p m c cc nL s args fm_TG own := ⟨C.1, C.2.1, C.2.2.1, C.2.2.2.1, C.2.2.2.2.1⟩
              have hwc := fm_w_code w7
              rw [w8] at hwc
              cases hh5 : q5.2.2.2.2 with
              | none =>
                rw [hh5] at w4
                dsimp only at w4
                rw [k1, k2] at w4
                exact fx_runI (n := rec.2.2.2.2.2.1) hS5 hct' ⟨callB_of _ C.2.2.2.2.1 (fm_w_good w1) hwc rfl rfl (fm_word C w2 rfl) (fm_word C w4 rfl) w3 ⟨c5, c6⟩, w6, fm_word C w5 rfl⟩ ⟨fm_Pc_blind, hpre⟩ rfl (by simpa using hlen0) hl.1 hgoal (sm_wsum (by simpa using b1)) hd ⟨hcc, hss⟩
              | some hst5 =>
                rw [hh5] at w4
                dsimp only at w4
                rw [k1, k2] at w4
                exact fx_runIN (n := rec.2.2.2.2.2.1) hS5 hct' ⟨va_cnB _ C.2.2.2.2.1 (fm_w_good w1) hwc rfl rfl (C.2.2.2.2.2.1.2.1 _ w4 rfl) (fm_word C w2 rfl) w3 ⟨c5, c6⟩, w6, fm_word C w5 rfl⟩ ⟨fm_Pc_blind, hpre⟩ rfl (by simpa using hlen0) hl.1 hgoal (sm_wsum (by simpa using b1)) hd ⟨hcc, hss⟩
            · cases hck
          · cases hck2
      · cases h
    · rename_i j
      split at h
      · rename_i c0 r0
        cases hb : Nat.ble (fm_csum r0) 8
        · rw [hb, cond_false] at h; cases h
        · rw [hb, cond_true] at h; cases h
      · cases h
    · cases h
  | ifCond cd off =>
    exfalso
    dsimp only [fm_step] at h
    split at h
    · cases cd <;> (unfold fm_if at h; simp only at h; (repeat' (split at h)) <;> cases h)
    · cases h
  | if_icmp cd off =>
    exfalso
    dsimp only [fm_step] at h
    split at h
    · cases cd <;> (unfold fm_icmp at h; simp only at h; (repeat' (split at h)) <;> cases h)
    · cases h
  | _ =>
    exfalso
    first
      | exact absurd (show (fm_no : fm_R) = fm_ca mj rk as g from h) (fun h9 => nomatch h9)
      | ((simp only [fm_step, fm_ald, fm_load, fm_st, fm_bin, fm_un, Bool.cond_eq_ite] at h) <;> (repeat' (split at h)) <;> (cases h))
end FMS13
end
section
/-! handlers; what ends; entry -/
theorem fm_fetch_in {cl : List fm_En} {pc : Nat} {x : fm_En} (h : fm_fetch cl pc = some x) : x ∈ cl ∧ x.1 = pc := by
  induction cl with
  | nil => cases h
  | cons y r ih =>
    unfold fm_fetch at h
    cases hb : Nat.beq y.1 pc
    · rw [hb, cond_false] at h; exact ⟨List.mem_cons_of_mem _ (ih h).1, (ih h).2⟩
    · rw [hb, cond_true] at h; cases h; exact ⟨List.mem_cons_self, Nat.eq_of_beq_eq_true hb⟩
/-- the handlers' table of a method against the small machine's -/
def fm_hck (own : String) : List (Nat × Nat × Nat × Nat) → List fm_H → Bool
  | [], [] => true
  | q :: r, h :: t => Nat.beq q.1 h.1 && Nat.beq q.2.1 h.2.1 && Nat.beq q.2.2.1 h.2.2.1 && !(Nat.beq q.2.2.2 0) && Nat.blt h.2.2.2.1 5 && decide (Cond.classLink own q.2.2.2 (fm_ex h.2.2.2.1) ∈ lw_tbl) && fm_hck own r t
  | _, _ => false
/-- a handler's first row stores the exception -/
def fm_hst (cl : List fm_En) (h : fm_H) : Bool := match fm_fetch cl h.2.2.1 with
  | some x => match x.2.1 with
    | .astore_n k => Nat.beq x.2.2.1 1 && Nat.beq k.val h.2.2.2.2.2 && Nat.beq (h.2.2.1 + 1) h.2.2.2.2.1
    | .astore k => Nat.beq x.2.2.1 2 && Nat.beq k h.2.2.2.2.2 && Nat.beq (h.2.2.1 + 2) h.2.2.2.2.1
    | _ => false
  | none => false
/-- a row that lets x through -/
def fm_hby (own : String) (pc x : Nat) (z : Nat × Nat × Nat × Nat) : Prop := (Nat.ble z.1 pc && Nat.blt pc z.2.1) = false ∨ (z.2.2.2 ≠ 0 ∧ ∃ y, y < 5 ∧ y ≠ x ∧ Cond.classLink own z.2.2.2 (fm_ex y) ∈ lw_tbl)
theorem fm_hck_no {own : String} {pc x : Nat} : ∀ (hh : List (Nat × Nat × Nat × Nat)) (hs : List fm_H), fm_hck own hh hs = true → fm_hnd hs pc x = none → ∀ z ∈ hh, fm_hby own pc x z := by
  intro hh
  induction hh with
  | nil => intro hs _ _ z hz; cases hz
  | cons q r ih =>
    intro hs h1 h2
    cases hs with
    | nil => cases h1
    | cons h t =>
      unfold fm_hck at h1
      simp only [Bool.and_eq_true] at h1
      obtain ⟨⟨⟨⟨⟨⟨a1, a2⟩, a3⟩, a4⟩, a5⟩, a6⟩, a7⟩ := h1
      unfold fm_hnd at h2
      cases hb : (Nat.ble h.1 pc && Nat.blt pc h.2.1 && Nat.beq h.2.2.2.1 x)
      · rw [hb, cond_false] at h2
        intro z hz
        rcases List.mem_cons.mp hz with rfl | hz
        · have e1 := Nat.eq_of_beq_eq_true a1
          have e2 := Nat.eq_of_beq_eq_true a2
          unfold fm_hby
          rw [e1, e2]
          rcases Bool.and_eq_false_iff.mp hb with hb | hb
          · exact Or.inl hb
          · refine Or.inr ⟨fun e => ?_, h.2.2.2.1, by simpa using a5, fun e => ?_, of_decide_eq_true a6⟩
            · rw [e] at a4; cases a4
            · rw [e, Nat.beq_refl] at hb; cases hb
        · exact ih t a7 h2 z hz
      · rw [hb, cond_true] at h2; cases h2
theorem fm_hck_some {own : String} {pc x : Nat} {g : fm_H} : ∀ (hh : List (Nat × Nat × Nat × Nat)) (hs : List fm_H), fm_hck own hh hs = true → fm_hnd hs pc x = some g → ∃ pre q suf, hh = pre ++ q :: suf ∧ (∀ z ∈ pre, fm_hby own pc x z) ∧ (Nat.ble q.1 pc && Nat.blt pc q.2.1) = true ∧ q.2.2.2 ≠ 0 ∧ Cond.classLink own q.2.2.2 (fm_ex x) ∈ lw_tbl ∧ q.2.2.1 = g.2.2.1 ∧ g ∈ hs ∧ x < 5 := by
  intro hh
  induction hh with
  | nil =>
    intro hs h1 h2
    cases hs with
    | nil => cases h2
    | cons h t => cases h1
  | cons q r ih =>
    intro hs h1 h2
    cases hs with
    | nil => cases h1
    | cons h t =>
      unfold fm_hck at h1
      simp only [Bool.and_eq_true] at h1
      obtain ⟨⟨⟨⟨⟨⟨a1, a2⟩, a3⟩, a4⟩, a5⟩, a6⟩, a7⟩ := h1
      have e1 := Nat.eq_of_beq_eq_true a1
      have e2 := Nat.eq_of_beq_eq_true a2
      have e3 := Nat.eq_of_beq_eq_true a3
      have e4 : q.2.2.2 ≠ 0 := fun e => by rw [e] at a4; cases a4
      unfold fm_hnd at h2
      cases hb : (Nat.ble h.1 pc && Nat.blt pc h.2.1 && Nat.beq h.2.2.2.1 x)
      · rw [hb, cond_false] at h2
        obtain ⟨pre, q9, suf, b1, b2, b3, b4, b5, b6, b7, b8⟩ := ih t a7 h2
        refine ⟨q :: pre, q9, suf, by rw [b1]; rfl, fun z hz => ?_, b3, b4, b5, b6, List.mem_cons_of_mem _ b7, b8⟩
        rcases List.mem_cons.mp hz with rfl | hz
        · unfold fm_hby
          rw [e1, e2]
          rcases Bool.and_eq_false_iff.mp hb with hb | hb
          · exact Or.inl hb
          · refine Or.inr ⟨e4, h.2.2.2.1, by simpa using a5, fun e => ?_, of_decide_eq_true a6⟩
            rw [e, Nat.beq_refl] at hb; cases hb
        · exact b2 z hz
      · rw [hb, cond_true] at h2
        cases h2
        simp only [Bool.and_eq_true] at hb
        have e5 := Nat.eq_of_beq_eq_true hb.2
        refine ⟨[], q, r, rfl, (fun z hz => nomatch hz), ?_, e4, ?_, e3, List.mem_cons_self, ?_⟩
        · rw [e1, e2, hb.1.1, hb.1.2]; rfl
        · rw [← e5]; exact of_decide_eq_true a6
        · rw [← e5]; simpa using a5
theorem fm_covers {q : Nat × Nat × Nat × Nat} {pc : Nat} : covers ⟨q.1, q.2.1, q.2.2.1, q.2.2.2⟩ pc = (Nat.ble q.1 pc && Nat.blt pc q.2.1) := by
  show (decide (q.1 ≤ pc) && decide (pc < q.2.1)) = _
  congr 1
  · cases h : Nat.ble q.1 pc
    · exact decide_eq_false (fun z => by rw [Nat.ble_eq_true_of_le z] at h; cases h)
    · exact decide_eq_true (Nat.le_of_ble_eq_true h)
  · cases h : Nat.blt pc q.2.1
    · exact decide_eq_false (fun z => by rw [show Nat.blt pc q.2.1 = true from Nat.ble_eq_true_of_le z] at h; cases h)
    · exact decide_eq_true (Nat.le_of_ble_eq_true h)
/-- the exceptions part from one another -/
def fm_NcOk (ncs : fm_Nc) : Prop := ∀ x, x < 5 → ∀ y, y < 5 → y ≠ x → (fm_ex x, fm_ex y) ∈ ncs
def fm_CaOk : Prop := ∀ x, x < 5 → (Cond.castable (fm_ex x) (fm_ex x)) ∈ lw_tbl
section FMS14
variable {p : Program} {l : Launch} {e : Env} {R : Room} {s : State} {m : MethodId} {args : Array Value} {below : List Frame} {meth : Method} {c : Code}
variable {sts : fm_St} {ncs : fm_Nc} {X : Nat × (Nat → Int32)} {B b nL : Nat} {wd ini : Bool} {aC : Nat → ClassId} {D : va_G} {M0 : fm_M} {Q : State → Prop} {cc : ByteArray} {own : String} {T : fm_Tb} {cl : List fm_En} {rt : Option FieldType} {mss : List fm_MR}
variable {pc : Nat} {lo : List (Option fm_V)} {st : List fm_V} {M : fm_M} {g : fm_F}
theorem fm_hby_at {x : Nat} {z : Nat × Nat × Nat × Nat} (C : fm_Cx p s m args meth c sts ncs X B b nL aC D cc own) (hN : fm_NcOk ncs) (hx : x < 5) (h : fm_hby own pc x z) : covers ⟨z.1, z.2.1, z.2.2.1, z.2.2.2⟩ pc = false ∨ ((⟨z.1, z.2.1, z.2.2.1, z.2.2.2⟩ : ExceptionTableEntry).catchType ≠ 0 ∧ ∃ nm : String, (Cond.classLink own z.2.2.2 nm).before args s = true ∧ va_Nc (fm_ex x) nm s) := by
  rcases h with h | ⟨h0, y, h1, h2, h3⟩
  · exact Or.inl (fm_covers.trans h)
  · exact Or.inr ⟨h0, fm_ex y, fm_word C h3 rfl, C.2.2.2.2.2.1.2.2.2.1 _ (hN x hx y h1 h2)⟩
theorem fm_LH.setN1 {ls ls' : Array Slot} {lo : List (Option fm_V)} {i : Nat} {w : Value} (h : fm_LH B b nL false ls lo) (hi : i < nL) (h' : lv_has ls' nL ((i, w) :: (fm_pl B b lo).filter (fun q => !(q.1 == i) && !(q.1 + 1 == i && q.2.category == 2)))) : fm_LH B b nL false ls' (lo.set i none) := by
  obtain ⟨h1, h2, h3, h4, h5⟩ := h
  refine ⟨h'.1, by rw [List.length_set]; exact h2, h'.2.1, fun j w hj => ?_, fun _ j w hj => ?_⟩
  · by_cases hij : i = j
    · subst hij
      rw [List.getElem?_set_self (by omega)] at hj
      cases hj
    · rw [List.getElem?_set_ne hij] at hj
      refine h'.2.2 (j, fm_ren B b w) (List.mem_cons_of_mem _ (List.mem_filter.mpr ⟨fm_pl_in hj, ?_⟩))
      have hc := h5 rfl j w hj
      have : ¬ j = i := fun e => hij e.symm
      simp [this, fm_cat_ren, hc]
  · by_cases hij : i = j
    · subst hij
      rw [List.getElem?_set_self (by omega)] at hj
      cases hj
    · rw [List.getElem?_set_ne hij] at hj
      exact h5 rfl j w hj
/-- caught here -/
theorem sm_catch {hh : List (Nat × Nat × Nat × Nat)} {hs : List fm_H} {x : Nat} {h : fm_H} {H : Heap} {locs : List Loc} {ls : Array Slot} {rest : List Value} {q9 : Addr} {ce : Cell} {st0 : List fm_V} (C : fm_Cx p s m args meth c sts ncs X B b nL aC D cc own) (hN : fm_NcOk ncs) (hCa : fm_CaOk) (htab : c.exceptionTable.toList = tableOf hh) (hk : fm_hck own hh hs = true) (hks : ∀ h ∈ hs, fm_hst cl h = true ∧ h.2.2.2.2.2 < nL) (hcl : ∀ x ∈ cl, decode cc x.1 = .ok (x.2.1, x.2.2.1)) (hf : fm_hnd hs pc x = some h)
    (hl : fm_LH B b nL false ls lo) (ho : fm_ok M.2 lo st0) (hw : fm_Wd B aC D M H) (hS : va_S (fm_A B) s.heap H locs) (hce : H[q9]? = some ce) (hv : ce.vm = .none) (hcls : s.vm.findClass (fm_ex x) = some ce.cls)
    (k : fm_WW p l e R s m args below meth c B b nL false aC D M0 Q (fm_hfr h lo M)) :
    vx_W p l e R s m args below meth c H locs (fm_cn M - fm_cn M0) (fm_sn M - fm_sn M0) Q (F0 m pc ls rest) q9 := by
  obtain ⟨pre, q, suf, a1, a2, a3, a4, a5, a6, a7, a8⟩ := fm_hck_some hh hs hk hf
  have hsplit : c.exceptionTable.toList = tableOf pre ++ (⟨q.1, q.2.1, q.2.2.1, q.2.2.2⟩ : ExceptionTableEntry) :: tableOf suf := by
    rw [htab, a1]
    unfold tableOf
    rw [List.map_append, List.map_cons]
  have hE : (Cond.castable (fm_ex x) (fm_ex x)).before args s = true := fm_wordN C (hCa x a8) rfl rfl
  refine vx_catch (own := own) (name := fm_ex x) (E := fm_ex x) (ce := ce) C.2.2.2.1 (tableOf pre) _ (tableOf suf) hsplit (fun z hz => ?_) (fm_covers.trans a3) a4 (fm_word C a5 rfl) hE hce hv hcls ?_
  · unfold tableOf at hz
    obtain ⟨z0, hz0, rfl⟩ := List.mem_map.mp hz
    exact fm_hby_at C hN a8 (a2 z0 hz0)
  · obtain ⟨b1, b2⟩ := hks h a7
    unfold fm_hst at b1
    split at b1
    · rename_i y hy
      obtain ⟨hy1, hy2⟩ := fm_fetch_in hy
      have hd := hcl y hy1
      rw [hy2] at hd
      split at b1
      · rename_i kf hkf
        simp only [Bool.and_eq_true] at b1
        obtain ⟨⟨c1, c2⟩, c3⟩ := b1
        have c1 := Nat.eq_of_beq_eq_true c1
        have c2 := Nat.eq_of_beq_eq_true c2
        have c3 := Nat.eq_of_beq_eq_true c3
        rw [hkf, c1] at hd
        rw [← a6] at hd c3
        refine lv_astore_n C.1 C.2.1 hd c2 hl.has b2 rfl fun ls' h' => ?_
        have hg := k H locs ls' (hl.setN1 b2 h') ⟨(ho.setN (i := h.2.2.2.2.2)).1, fun v hv => by cases hv⟩ hw hS
        rw [c3]
        exact hg
      · rename_i kf hkf
        simp only [Bool.and_eq_true] at b1
        obtain ⟨⟨c1, c2⟩, c3⟩ := b1
        have c1 := Nat.eq_of_beq_eq_true c1
        have c2 := Nat.eq_of_beq_eq_true c2
        have c3 := Nat.eq_of_beq_eq_true c3
        rw [hkf, c1, c2] at hd
        rw [← a6] at hd c3
        refine lv_astore C.1 C.2.1 hd hl.has b2 rfl fun ls' h' => ?_
        have hg := k H locs ls' (hl.setN1 b2 h') ⟨(ho.setN (i := h.2.2.2.2.2)).1, fun v hv => by cases hv⟩ hw hS
        rw [c3]
        exact hg
      · cases b1
    · cases b1
end FMS14
/-- a call's frame behind it -/
theorem fm_step_ca {X : Nat × (Nat → Int32)} {pc len : Nat} {ins : Instr} {ann : List Nat} {lo : List (Option fm_V)} {st : List fm_V} {M : fm_M} {mj rk : Nat} {as : List fm_V} {g : fm_F} (h : fm_step X (pc, ins, len, ann) lo st M = fm_ca mj rk as g) : g.2.1 = lo ∧ g.2.2.2 = M ∧ ∀ v ∈ as, v ∈ st := by
  cases ins with
  | invokevirtual cp =>
    dsimp only [fm_step] at h
    split at h
    · rename_i n j ci
      unfold fm_callv at h
      split at h
      · rename_i q hq
        cases hb : (Nat.ble (fm_csum q.2) 8 && q.1.all (fun v => Nat.beq (fm_cat v) 1) && fm_rcv ci q.1 M.2)
        · rw [hb, cond_false] at h; cases h
        · rw [hb, cond_true] at h
          cases h
          obtain ⟨tk, t1, t2, t3⟩ := fm_pop_inv n st [] q hq
          refine ⟨rfl, rfl, fun v hv => ?_⟩
          rw [t2, List.append_nil] at hv
          rw [t1]
          exact List.mem_append_left _ (List.mem_reverse.mp hv)
      · cases h
    · cases h
  | invokestatic cp =>
    dsimp only [fm_step] at h
    split at h
    · rename_i n j
      unfold fm_callr at h
      split at h
      · rename_i q hq
        cases hb : (Nat.ble (fm_csum q.2) 8 && q.1.all (fun v => Nat.beq (fm_cat v) 1))
        · rw [hb, cond_false] at h; cases h
        · rw [hb, cond_true] at h
          cases h
          obtain ⟨tk, t1, t2, t3⟩ := fm_pop_inv n st [] q hq
          refine ⟨rfl, rfl, fun v hv => ?_⟩
          rw [t2, List.append_nil] at hv
          rw [t1]
          exact List.mem_append_left _ (List.mem_reverse.mp hv)
      · cases h
    · cases h
  | invokespecial cp =>
    dsimp only [fm_step] at h
    split at h
    · rename_i n j
      unfold fm_calls at h
      split at h
      · rename_i q hq
        cases hb : (Nat.ble (fm_csum q.2) 8 && q.1.all (fun v => Nat.beq (fm_cat v) 1) && fm_isA q.1.head?)
        · rw [hb, cond_false] at h; cases h
        · rw [hb, cond_true] at h
          cases h
          obtain ⟨tk, t1, t2, t3⟩ := fm_pop_inv n st [] q hq
          refine ⟨rfl, rfl, fun v hv => ?_⟩
          rw [t2, List.append_nil] at hv
          rw [t1]
          exact List.mem_append_left _ (List.mem_reverse.mp hv)
      · cases h
    · split at h
      · rename_i c0 r0
        cases hb : Nat.ble (fm_csum r0) 8
        · rw [hb, cond_false] at h; cases h
        · rw [hb, cond_true] at h; cases h
      · cases h
    · cases h
  | ifCond cd off =>
    exfalso
    dsimp only [fm_step] at h
    split at h
    · cases cd <;> (unfold fm_if at h; simp only at h; (repeat' (split at h)) <;> cases h)
    · cases h
  | if_icmp cd off =>
    exfalso
    dsimp only [fm_step] at h
    split at h
    · cases cd <;> (unfold fm_icmp at h; simp only at h; (repeat' (split at h)) <;> cases h)
    · cases h
  | _ =>
    exfalso
    first
      | exact absurd (show (fm_no : fm_R) = fm_ca mj rk as g from h) (fun h9 => nomatch h9)
      | ((simp only [fm_step, fm_ald, fm_load, fm_st, fm_bin, fm_un, Bool.cond_eq_ite] at h) <;> (repeat' (split at h)) <;> (cases h))
/-- how a frame ends: with a value of the program's own, or with an exception that its row made -/
def fm_nice (T : fm_Tb) (ins : Instr) (ann : List Nat) (o : fm_O) : Prop := (∃ w : Option Value, o = .inl (w.map Sum.inl)) ∨ ∃ x cp j, x < 5 ∧ o = .inr x ∧ ins = .new cp ∧ ann = [1, x, j]
theorem fm_step_dn {T : fm_Tb} {X : Nat × (Nat → Int32)} {cl : List fm_En} {own : String} {wd ini : Bool} {rt : Option FieldType} {pc len : Nat} {ins : Instr} {ann : List Nat} {lo : List (Option fm_V)} {st : List fm_V} {M M' : fm_M} {o : fm_O} (hck : fm_ck T cl own wd ini rt (pc, ins, len, ann) = true)
    (h : (fm_step X (pc, ins, len, ann) lo st M = fm_dn o M') ∨ ∃ q : fm_P, fm_step X (pc, ins, len, ann) lo st M = .inr (.inr (.inr (.inr (.inr (.inr (.inl (q, o, M')))))))) : fm_nice T ins ann o := by
  unfold fm_ck at hck
  simp only [Bool.and_eq_true] at hck
  obtain ⟨hlen, hck⟩ := hck
  cases ins with
  | new cp =>
    rcases h with h | ⟨q, h⟩
    · dsimp only [fm_step] at h
      split at h
      · split at h <;> cases h
      · rename_i x9 j
        dsimp only at hck
        simp only [Bool.and_eq_true] at hck
        have hx5 := hck.1
        cases hb : Nat.ble (fm_csum st) 8
        · rw [hb, cond_false] at h; cases h
        · rw [hb, cond_true] at h
          cases h
          exact Or.inr ⟨_, _, _, by simpa using hx5, rfl, rfl, rfl⟩
      · cases h
    · dsimp only [fm_step] at h
      split at h
      · split at h <;> cases h
      · rename_i x9 j
        cases hb : Nat.ble (fm_csum st) 8
        · rw [hb, cond_false] at h; cases h
        · rw [hb, cond_true] at h; cases h
      · cases h
  | ireturn =>
    rcases h with h | ⟨q, h⟩
    · dsimp only [fm_step] at h
      split at h
      · rename_i x; cases h; exact Or.inl ⟨some (.int x), rfl⟩
      · cases h
      · cases h
    · dsimp only [fm_step] at h
      split at h
      · cases h
      · rename_i x; cases h; exact Or.inl ⟨some (.int x), rfl⟩
      · cases h
  | lreturn =>
    rcases h with h | ⟨q, h⟩ <;> (dsimp only [fm_step] at h; split at h)
    · rename_i x; cases h; exact Or.inl ⟨some (.long x), rfl⟩
    · cases h
    · cases h
    · cases h
  | freturn =>
    rcases h with h | ⟨q, h⟩ <;> (dsimp only [fm_step] at h; split at h)
    · rename_i x; cases h; exact Or.inl ⟨some (.float x), rfl⟩
    · cases h
    · cases h
    · cases h
  | dreturn =>
    rcases h with h | ⟨q, h⟩ <;> (dsimp only [fm_step] at h; split at h)
    · rename_i x; cases h; exact Or.inl ⟨some (.double x), rfl⟩
    · cases h
    · cases h
    · cases h
  | return_ =>
    rcases h with h | ⟨q, h⟩ <;> (dsimp only [fm_step] at h; split at h)
    · cases h; exact Or.inl ⟨none, rfl⟩
    · cases h
    · cases h
    · cases h
  | ifCond cd off =>
    exfalso
    rcases h with h | ⟨q, h⟩ <;> dsimp only [fm_step] at h <;> split at h
    · cases cd <;> (unfold fm_if at h; simp only at h; (repeat' (split at h)) <;> cases h)
    · cases h
    · cases cd <;> (unfold fm_if at h; simp only at h; (repeat' (split at h)) <;> cases h)
    · cases h
  | if_icmp cd off =>
    exfalso
    rcases h with h | ⟨q, h⟩ <;> dsimp only [fm_step] at h <;> split at h
    · cases cd <;> (unfold fm_icmp at h; simp only at h; (repeat' (split at h)) <;> cases h)
    · cases h
    · cases cd <;> (unfold fm_icmp at h; simp only at h; (repeat' (split at h)) <;> cases h)
    · cases h
  | _ =>
    exfalso
    rcases h with h | ⟨q, h⟩
    · first
        | exact absurd (show (fm_no : fm_R) = fm_dn o M' from h) (fun h9 => nomatch h9)
        | ((simp only [fm_step, fm_ald, fm_callr, fm_callv, fm_calls, fm_load, fm_st, fm_bin, fm_un, Bool.cond_eq_ite] at h) <;> (repeat' (split at h)) <;> (cases h))
    · first
        | exact absurd (show (fm_no : fm_R) = _ from h) (fun h9 => nomatch h9)
        | ((simp only [fm_step, fm_ald, fm_callr, fm_callv, fm_calls, fm_load, fm_st, fm_bin, fm_un, Bool.cond_eq_ite] at h) <;> (repeat' (split at h)) <;> (cases h))
/-- the locals at a method's entry -/
theorem fm_sl1 : ∀ vs : List Value, (∀ v ∈ vs, v.category = 1) → lg_sl vs = vs.map Slot.val := by
  intro vs
  induction vs with
  | nil => intro _; rfl
  | cons v r ih =>
    intro h
    have h1 := h v List.mem_cons_self
    have h2 := ih (fun w hw => h w (List.mem_cons_of_mem _ hw))
    have e : lg_sl (v :: r) = Slot.val v :: lg_sl r := by simp [lg_sl, h1]
    rw [e, h2]
    rfl
theorem fm_args1 : ∀ (vs : List Value) (i k : Nat) (v : Value), (∀ v ∈ vs, v.category = 1) → vs[k]? = some v → (i + k, v) ∈ lv_args i vs := by
  intro vs
  induction vs with
  | nil => intro i k v _ h; simp at h
  | cons w r ih =>
    intro i k v h hk
    have h1 := h w List.mem_cons_self
    unfold lv_args
    rw [if_neg (by rw [h1]; decide)]
    cases k with
    | zero =>
      have : w = v := by simpa using hk
      rw [this]
      exact List.mem_cons_self
    | succ k =>
      refine List.mem_cons_of_mem _ ?_
      have := ih (i + 1) k v (fun w hw => h w (List.mem_cons_of_mem _ hw)) (by simpa using hk)
      rw [show i + (k + 1) = i + 1 + k by omega]
      exact this
theorem fm_entry_LH {B b nL : Nat} {wd : Bool} {as : List fm_V} (hl : as.length ≤ nL) (hc : ∀ v ∈ as, fm_cat v = 1) : fm_LH B b nL wd ((lg_sl (as.map (fm_ren B b)) ++ List.replicate (nL - (lg_sl (as.map (fm_ren B b))).length) Slot.unset).toArray) (as.map some ++ List.replicate (nL - as.length) none) := by
  have hc' : ∀ v ∈ as.map (fm_ren B b), v.category = 1 := fun v hv => by
    obtain ⟨w, hw, rfl⟩ := List.mem_map.mp hv
    rw [fm_cat_ren]
    exact hc w hw
  have hlen : (lg_sl (as.map (fm_ren B b))).length = as.length := by rw [fm_sl1 _ hc']; simp
  have h := lv_entry (as.map (fm_ren B b)) (n := nL) (by rw [hlen]; exact hl)
  have hget : ∀ (i : Nat) (v : fm_V), (as.map some ++ List.replicate (nL - as.length) none)[i]? = some (some v) → as[i]? = some v := by
    intro i v hi
    by_cases hlt : i < as.length
    · rw [List.getElem?_append_left (by simpa using hlt), List.getElem?_map] at hi
      cases ha : as[i]? with
      | none => rw [ha] at hi; cases hi
      | some w => rw [ha] at hi; cases hi; rfl
    · rw [List.getElem?_append_right (by simpa using hlt), List.getElem?_replicate] at hi
      split at hi <;> cases hi
  refine ⟨h.1, by simp; omega, h.2.1, fun i v hi => ?_, fun _ i v hi => hc v (List.mem_of_getElem? (hget i v hi))⟩
  have hm : (as.map (fm_ren B b))[i]? = some (fm_ren B b v) := by rw [List.getElem?_map, hget i v hi]; rfl
  have := h.2.2 _ (fm_args1 _ 0 i _ hc' hm)
  rw [Nat.zero_add] at this
  exact this
end
section
/-! the walk of a frame, and every method's contract -/
/-- what is checked of a method, once and for all -/
def fm_dck (cc : ByteArray) (x : fm_En) : Bool := match decode cc x.1 with
  | .ok q => decide (q = (x.2.1, x.2.2.1))
  | _ => false
theorem fm_dck_ok {cc : ByteArray} {x : fm_En} (h : fm_dck cc x = true) : decode cc x.1 = .ok (x.2.1, x.2.2.1) := by
  unfold fm_dck at h
  split at h
  · rename_i q hq
    rw [hq, of_decide_eq_true h]
  · cases h
def fm_thr (x : fm_En) : Bool := match x.2.1, x.2.2.2 with
  | .new _, [1, _, _] => true
  | _, _ => false
def fm_mck (T : fm_Tb) (ms : List fm_MR) (cl : List fm_En) (hs : List fm_H) (nL : Nat) (rec : fm_MR) : Bool :=
  cl.all (fun x => fm_dck rec.2.1 x && fm_ck T cl rec.1.cls rec.2.2.2.2.2.2.2.2 (decide (rec.1.name = "<init>")) rec.2.2.2.1 x && fm_ck2 ms rec.2.2.2.2.2.2.1 rec.2.2.2.2.2.2.2.1 x) &&
  fm_hck rec.1.cls rec.2.2.2.2.1 hs && hs.all (fun h => fm_hst cl h && Nat.blt h.2.2.2.2.2 rec.2.2.1) && (hs.isEmpty || (!rec.2.2.2.2.2.2.2.2 && cl.all (fun x => !fm_thr x))) && plainFor rec.1 && Nat.beq nL rec.2.2.1
def fm_All (T : fm_Tb) (ms : List fm_MR) (P : fm_Pr) : Prop := ∀ mi rec, ms[mi]? = some rec → fm_mck T ms (P.1 mi) (P.2.1 mi) (P.2.2.1 mi) rec = true
theorem fm_mck_out {T : fm_Tb} {ms : List fm_MR} {cl : List fm_En} {hs : List fm_H} {nL : Nat} {rec : fm_MR} (h : fm_mck T ms cl hs nL rec = true) : (∀ x ∈ cl, decode rec.2.1 x.1 = .ok (x.2.1, x.2.2.1) ∧ fm_ck T cl rec.1.cls rec.2.2.2.2.2.2.2.2 (decide (rec.1.name = "<init>")) rec.2.2.2.1 x = true ∧ fm_ck2 ms rec.2.2.2.2.2.2.1 rec.2.2.2.2.2.2.2.1 x = true) ∧
    fm_hck rec.1.cls rec.2.2.2.2.1 hs = true ∧ (∀ h ∈ hs, fm_hst cl h = true ∧ h.2.2.2.2.2 < rec.2.2.1) ∧ (hs = [] ∨ (rec.2.2.2.2.2.2.2.2 = false ∧ ∀ x ∈ cl, fm_thr x = false)) ∧ plainFor rec.1 = true ∧ nL = rec.2.2.1 := by
  unfold fm_mck at h
  simp only [Bool.and_eq_true] at h
  obtain ⟨⟨⟨⟨⟨h1, h2⟩, h3⟩, h4⟩, h5⟩, h6⟩ := h
  refine ⟨fun x hx => ?_, h2, fun q hq => ?_, ?_, h5, Nat.eq_of_beq_eq_true h6⟩
  · have := List.all_eq_true.mp h1 x hx
    simp only [Bool.and_eq_true] at this
    exact ⟨fm_dck_ok this.1.1, this.1.2, this.2⟩
  · have := List.all_eq_true.mp h3 q hq
    simp only [Bool.and_eq_true] at this
    exact ⟨this.1, by simpa using this.2⟩
  · rcases Bool.or_eq_true_iff.mp h4 with h4 | h4
    · exact Or.inl (List.isEmpty_iff.mp h4)
    · simp only [Bool.and_eq_true] at h4
      refine Or.inr ⟨by simpa using h4.1, fun x hx => ?_⟩
      have := List.all_eq_true.mp h4.2 x hx
      simpa using this
theorem fm_ca_rec {ms : List fm_MR} {fr lc : Nat} {X : Nat × (Nat → Int32)} {pc len : Nat} {ins : Instr} {ann : List Nat} {lo : List (Option fm_V)} {st : List fm_V} {M : fm_M} {mj rk : Nat} {as : List fm_V} {g : fm_F} (hck2 : fm_ck2 ms fr lc (pc, ins, len, ann) = true) (h : fm_step X (pc, ins, len, ann) lo st M = fm_ca mj rk as g) : ∃ rec, ms[mj]? = some rec ∧ 0 < mj := by
  cases ins with
  | invokevirtual cp =>
    dsimp only [fm_step] at h
    split at h
    · rename_i n j ci
      unfold fm_callv at h
      split at h
      · rename_i q hq
        cases hb : (Nat.ble (fm_csum q.2) 8 && q.1.all (fun v => Nat.beq (fm_cat v) 1) && fm_rcv ci q.1 M.2)
        · rw [hb, cond_false] at h; cases h
        · rw [hb, cond_true] at h
          cases h
          dsimp only [fm_ck2] at hck2
          simp only [Bool.and_eq_true] at hck2
          obtain ⟨hmj, hck2⟩ := hck2
          split at hck2
          · rename_i rec hrc
            exact ⟨rec, hrc, by simpa using hmj⟩
          · cases hck2
      · cases h
    · cases h
  | invokestatic cp =>
    dsimp only [fm_step] at h
    split at h
    · rename_i n j
      unfold fm_callr at h
      split at h
      · rename_i q hq
        cases hb : (Nat.ble (fm_csum q.2) 8 && q.1.all (fun v => Nat.beq (fm_cat v) 1))
        · rw [hb, cond_false] at h; cases h
        · rw [hb, cond_true] at h
          cases h
          dsimp only [fm_ck2] at hck2
          simp only [Bool.and_eq_true] at hck2
          obtain ⟨hmj, hck2⟩ := hck2
          split at hck2
          · rename_i rec hrc
            exact ⟨rec, hrc, by simpa using hmj⟩
          · cases hck2
      · cases h
    · cases h
  | invokespecial cp =>
    dsimp only [fm_step] at h
    split at h
    · rename_i n j
      unfold fm_calls at h
      split at h
      · rename_i q hq
        cases hb : (Nat.ble (fm_csum q.2) 8 && q.1.all (fun v => Nat.beq (fm_cat v) 1) && fm_isA q.1.head?)
        · rw [hb, cond_false] at h; cases h
        · rw [hb, cond_true] at h
          cases h
          dsimp only [fm_ck2] at hck2
          simp only [Bool.and_eq_true] at hck2
          obtain ⟨hmj, hck2⟩ := hck2
          split at hck2
          · rename_i rec hrc
            exact ⟨rec, hrc, by simpa using hmj⟩
          · cases hck2
      · cases h
    · split at h
      · rename_i c0 r0
        cases hb : Nat.ble (fm_csum r0) 8
        · rw [hb, cond_false] at h; cases h
        · rw [hb, cond_true] at h; cases h
      · cases h
    · cases h
  | ifCond cd off =>
    exfalso
    dsimp only [fm_step] at h
    split at h
    · cases cd <;> (unfold fm_if at h; simp only at h; (repeat' (split at h)) <;> cases h)
    · cases h
  | if_icmp cd off =>
    exfalso
    dsimp only [fm_step] at h
    split at h
    · cases cd <;> (unfold fm_icmp at h; simp only at h; (repeat' (split at h)) <;> cases h)
    · cases h
  | _ =>
    exfalso
    first
      | exact absurd (show (fm_no : fm_R) = fm_ca mj rk as g from h) (fun h9 => nomatch h9)
      | ((simp only [fm_step, fm_ald, fm_load, fm_st, fm_bin, fm_un, Bool.cond_eq_ite] at h) <;> (repeat' (split at h)) <;> (cases h))
/-- how a run ends -/
def fm_nr (o : fm_O) : Prop := (∃ w : Option Value, o = .inl (w.map Sum.inl)) ∨ ∃ x, x < 5 ∧ o = .inr x
theorem fm_run_nice {P : fm_Pr} {T : fm_Tb} {ms : List fm_MR} (hAll : fm_All T ms P) : ∀ (n mi : Nat) (f : fm_F) (r : fm_O × fm_M) (rec : fm_MR), ms[mi]? = some rec → fm_run P n mi f = some r → fm_nr r.1 := by
  intro n
  induction n with
  | zero => intro mi f r rec _ h; cases h
  | succ n ih =>
    intro mi f r rec hm h
    have hM := (fm_mck_out (hAll mi rec hm)).1
    obtain ⟨pc, lo, st, M⟩ := f
    rw [fm_run] at h
    split at h
    · cases h
    · rename_i e he
      obtain ⟨he1, he2⟩ := fm_fetch_in he
      obtain ⟨pc', ins, len, ann⟩ := e
      obtain ⟨-, hck, hck2⟩ := hM _ he1
      generalize hst : fm_step P.2.2.2 (pc', ins, len, ann) lo st M = R0 at h
      rcases R0 with g | ⟨q, g⟩ | ⟨q, g, g2⟩ | ⟨mj, rk, as, g⟩ | ⟨o, M'⟩ | ⟨x, sl, d⟩ | ⟨q, o, M'⟩ | _
      · exact ih mi g r rec hm h
      · dsimp only at h
        by_cases hq : q.1
        · rw [if_pos hq] at h; exact ih mi g r rec hm h
        · rw [if_neg hq] at h; cases h
      · dsimp only at h
        by_cases hq : q.1
        · rw [if_pos hq] at h; exact ih mi g r rec hm h
        · rw [if_neg hq] at h; exact ih mi g2 r rec hm h
      · dsimp only at h
        obtain ⟨rec', hrc', h0⟩ := fm_ca_rec hck2 hst
        split at h
        · cases h
        · exact ih mi _ r rec hm h
        · rename_i x M1 hrun
          have hn := ih mj _ _ rec' hrc' hrun
          split at h
          · exact ih mi _ r rec hm h
          · cases h
            exact hn
      · dsimp only at h
        cases h
        rcases fm_step_dn hck (Or.inl hst) with ⟨w, hw⟩ | ⟨x, cp, j, h1, h2, -⟩
        · exact Or.inl ⟨w, hw⟩
        · exact Or.inr ⟨x, h1, h2⟩
      · exact ih mi _ r rec hm h
      · dsimp only at h
        by_cases hq : q.1
        · rw [if_pos hq] at h
          cases h
          rcases fm_step_dn hck (Or.inr ⟨q, hst⟩) with ⟨w, hw⟩ | ⟨x, cp, j, h1, h2, -⟩
          · exact Or.inl ⟨w, hw⟩
          · exact Or.inr ⟨x, h1, h2⟩
        · rw [if_neg hq] at h; cases h
      · cases h
/-- every method's contract, for runs of at most N steps -/
def fm_AA (l : Launch) (sts : fm_St) (ncs : fm_Nc) (X : Nat × (Nat → Int32)) (B b : Nat) (aC : Nat → ClassId) (D : va_G) (P : fm_Pr) (ms : List fm_MR) (N : Nat) : Prop := ∀ mj rec as M r, ms[mj]? = some rec → 0 < mj → as.length ≤ rec.2.2.1 → (∀ v ∈ as, fm_cat v = 1) → fm_run P N mj (fm_entry (P.2.2.1 mj) as M) = some r → fm_Ct l sts ncs X B b aC D rec as M r
section FMS15
variable {p : Program} {l : Launch} {e : Env} {R : Room} {s : State} {m : MethodId} {args : Array Value} {below : List Frame} {meth : Method} {c : Code}
variable {sts : fm_St} {ncs : fm_Nc} {X : Nat × (Nat → Int32)} {B b nL : Nat} {aC : Nat → ClassId} {D : va_G} {M0 : fm_M} {Q : State → Prop} {T : fm_Tb} {mss : List fm_MR} {P : fm_Pr}
set_option maxHeartbeats 4000000 in
theorem fm_walk {mi N : Nat} {rec : fm_MR} {r : fm_O × fm_M} (hT : fm_TbOk T) (hCl : fm_CallOk T mss) (hNc : fm_NcOk ncs) (hCa : fm_CaOk) (hAll : fm_All T mss P) (hm : mss[mi]? = some rec) (hX : P.2.2.2 = X) (hA : fm_AA l sts ncs X B b aC D P mss N) (C : fm_Cx p s m args meth c sts ncs X B b rec.2.2.1 aC D rec.2.1 rec.1.cls) (htab : c.exceptionTable.toList = tableOf rec.2.2.2.2.1)
    (hini : rec.1.name = "<init>" → meth.name = "<init>") (hR1 : R.frames = rec.2.2.2.2.2.2.1) (hR2 : R.locals = rec.2.2.2.2.2.2.2.1) (hrc : fm_cn r.2 - fm_cn M0 ≤ R.cells) (hrs : fm_sn r.2 - fm_sn M0 ≤ R.slots)
    (kret : ∀ (pc : Nat) (ins : Instr) (len : Nat) (ann : List Nat) (lo : List (Option fm_V)) (st : List fm_V) (M : fm_M) (w : Option fm_V), decode rec.2.1 pc = .ok (ins, len) → fm_ck T (P.1 mi) rec.1.cls rec.2.2.2.2.2.2.2.2 (decide (rec.1.name = "<init>")) rec.2.2.2.1 (pc, ins, len, ann) = true → r.1 = .inl w →
      ((fm_step X (pc, ins, len, ann) lo st M = fm_dn (.inl w) r.2) ∨ ∃ q : fm_P, q.1 ∧ fm_step X (pc, ins, len, ann) lo st M = .inr (.inr (.inr (.inr (.inr (.inr (.inl (q, .inl w, r.2)))))))) → fm_WW p l e R s m args below meth c B b rec.2.2.1 rec.2.2.2.2.2.2.2.2 aC D M0 Q (pc, lo, st, M))
    (kthr : ∀ (pc : Nat) (ins : Instr) (len : Nat) (ann : List Nat) (lo : List (Option fm_V)) (st : List fm_V) (M : fm_M) (x : Nat), decode rec.2.1 pc = .ok (ins, len) → fm_ck T (P.1 mi) rec.1.cls rec.2.2.2.2.2.2.2.2 (decide (rec.1.name = "<init>")) rec.2.2.2.1 (pc, ins, len, ann) = true → r.1 = .inr x → rec.2.2.2.2.1 = [] → 5 < R.frames → 90 ≤ R.locals → fm_cn M0 ≤ fm_cn M → fm_sn M0 ≤ fm_sn M →
      fm_step X (pc, ins, len, ann) lo st M = fm_dn (.inr x) r.2 → fm_WW p l e R s m args below meth c B b rec.2.2.1 rec.2.2.2.2.2.2.2.2 aC D M0 Q (pc, lo, st, M))
    (kout : ∀ (pc : Nat) (x : Nat) (H : Heap) (locs : List Loc) (ls : Array Slot) (rest : List Value) (q9 : Addr) (ce : Cell), r.1 = .inr x → x < 5 → fm_hnd (P.2.1 mi) pc x = none → fm_Wd B aC D r.2 H → va_S (fm_A B) s.heap H locs → H[q9]? = some ce → ce.vm = .none → s.vm.findClass (fm_ex x) = some ce.cls →
      vx_W p l e R s m args below meth c H locs (fm_cn r.2 - fm_cn M0) (fm_sn r.2 - fm_sn M0) Q (F0 m pc ls rest) q9) :
    ∀ (k : Nat) (f : fm_F), k ≤ N + 1 → fm_run P k mi f = some r → fm_cn M0 ≤ fm_cn f.2.2.2 → fm_sn M0 ≤ fm_sn f.2.2.2 → fm_WW p l e R s m args below meth c B b rec.2.2.1 rec.2.2.2.2.2.2.2.2 aC D M0 Q f := by
  obtain ⟨hM1, hM2, hM3, hM4, hM5, hM6⟩ := fm_mck_out (hAll mi rec hm)
  intro k
  induction k with
  | zero => intro f _ h; cases h
  | succ k ih =>
    intro f hk h hm1 hm2
    obtain ⟨pc, lo, st, M⟩ := f
    dsimp only at hm1 hm2
    rw [fm_run] at h
    split at h
    · cases h
    · rename_i e0 he
      obtain ⟨he1, he2⟩ := fm_fetch_in he
      obtain ⟨pc', ins, len, ann⟩ := e0
      have he2 : pc' = pc := he2
      subst he2
      obtain ⟨hd, hck, hck2⟩ := hM1 _ he1
      have hd : decode rec.2.1 pc' = .ok (ins, len) := hd
      have hini' : decide (rec.1.name = "<init>") = true → meth.name = "<init>" := fun z => hini (of_decide_eq_true z)
      have hge := fm_step_ge X (pc', ins, len, ann) lo st M
      generalize hst : fm_step P.2.2.2 (pc', ins, len, ann) lo st M = R0 at h
      rw [hX] at hst
      rw [hst] at hge
      rcases R0 with g | ⟨q, g⟩ | ⟨q, g, g2⟩ | ⟨mj, rk, as, g⟩ | ⟨o, M'⟩ | ⟨x, sl, d⟩ | ⟨q, o, M'⟩ | _
      · have hge : fm_ge M g.2.2.2 := hge
        have hr := fm_run_ge P k mi g r h
        have a1 := hge.2.1; have a2 := hge.2.2; have a3 := hr.2.1; have a4 := hr.2.2
        refine sm_go C hT hini' hd hck (fun cp j e1 e2 => ?_) hst (by omega) (by omega) hm1 hm2 (ih g (by omega) h (by omega) (by omega))
        subst e1; subst e2
        dsimp only [fm_ck2] at hck2
        simp only [Bool.and_eq_true] at hck2
        rw [hR1, hR2]
        exact ⟨by simpa using hck2.1, by simpa using hck2.2⟩
      · dsimp only at h
        by_cases hq : q.1
        · rw [if_pos hq] at h
          have hge : fm_ge M g.2.2.2 := hge
          have hr := fm_run_ge P k mi g r h
          have a1 := hge.2.1; have a2 := hge.2.2; have a3 := hr.2.1; have a4 := hr.2.2
          exact sm_gd C hT hd hck hst hq (by omega) (by omega) hm1 hm2 (ih g (by omega) h (by omega) (by omega))
        · rw [if_neg hq] at h; cases h
      · dsimp only at h
        have hge : fm_ge M g.2.2.2 ∧ fm_ge M g2.2.2.2 := hge
        obtain ⟨hg1, hg2⟩ := hge
        have a1 := hg1.2.1; have a2 := hg1.2.2; have a3 := hg2.2.1; have a4 := hg2.2.2
        by_cases hq : q.1
        · rw [if_pos hq] at h
          exact sm_br C hd hck hst (fun _ => ih g (by omega) h (by omega) (by omega)) (fun z => absurd hq z)
        · rw [if_neg hq] at h
          exact sm_br C hd hck hst (fun z => absurd z hq) (fun _ => ih g2 (by omega) h (by omega) (by omega))
      · dsimp only at h
        obtain ⟨rec', hrc', h0⟩ := fm_ca_rec hck2 hst
        obtain ⟨c1, c2, c3⟩ := fm_step_ca hst
        rw [c2] at h
        have hcall : ∀ r1 : fm_O × fm_M, fm_run P k mj (fm_entry (P.2.2.1 mj) as M) = some r1 → fm_ge M r1.2 ∧ fm_nr r1.1 ∧ (∀ v, r1.1 = .inl (some v) → fm_vok r1.2.2 v) ∧ (∀ rec, mss[mj]? = some rec → 0 < mj → as.length ≤ rec.2.2.1 → (∀ v ∈ as, fm_cat v = 1) → fm_Ct l sts ncs X B b aC D rec as M r1) := by
          intro r1 hr1
          have hn := fm_run_nice hAll k mj _ r1 rec' hrc' hr1
          refine ⟨fm_run_ge P k mj _ r1 hr1, hn, fun v hv => ?_, fun rec9 h1 h2 h3 h4 => hA mj rec9 as M r1 h1 h2 h3 h4 (fm_run_le P (by omega) hr1)⟩
          rcases hn with ⟨w, hw⟩ | ⟨x, -, hx⟩
          · rw [hw] at hv
            cases w with
            | none => cases hv
            | some w => cases hv; trivial
          · rw [hx] at hv; cases hv
        split at h
        · cases h
        · rename_i v M1 hrun
          obtain ⟨d1, d2, d3, d4⟩ := hcall _ hrun
          have hr := fm_run_ge P k mi _ r h
          have hpM : (fm_push v g M1).2.2.2 = M1 := by cases v <;> rfl
          rw [hpM] at hr
          have a1 := d1.2.1; have a2 := d1.2.2; have a3 := hr.2.1; have a4 := hr.2.2
          dsimp only at a1 a2
          refine sm_call C hCl hd hck (by rw [hR1, hR2]; exact hck2) hst d4 d1 d3 (by dsimp only; omega) (by dsimp only; omega) hm1 hm2 (fun v' hv' => ?_) (fun x hx => nomatch hx)
          cases hv'
          exact ih (fm_push v g M1) (by omega) h (by rw [hpM]; omega) (by rw [hpM]; omega)
        · rename_i x M1 hrun
          obtain ⟨d1, d2, d3, d4⟩ := hcall _ hrun
          have a1 := d1.2.1; have a2 := d1.2.2
          dsimp only at a1 a2
          have hx5 : x < 5 := by
            rcases d2 with ⟨w, hw⟩ | ⟨x', hx', he'⟩
            · cases hw
            · cases he'; exact hx'
          split at h
          · rename_i h1 hh1
            have hr := fm_run_ge P k mi _ r h
            have hr : fm_ge M1 r.2 := hr
            have a3 := hr.2.1; have a4 := hr.2.2
            refine sm_call C hCl hd hck (by rw [hR1, hR2]; exact hck2) hst d4 d1 d3 (by dsimp only; omega) (by dsimp only; omega) hm1 hm2 (fun v' hv' => nomatch hv') (fun x9 hx9 H locs ls q9 ce e1 e2 e3 e4 e5 e6 e7 => ?_)
            cases hx9
            have hwd : rec.2.2.2.2.2.2.2.2 = false := by
              rcases hM4 with z | z
              · rw [z] at hh1; cases hh1
              · exact z.1
            have hg := ih (fm_hfr h1 g.2.1 M1) (by omega) h (by show fm_cn M0 ≤ fm_cn M1; omega) (by show fm_sn M0 ≤ fm_sn M1; omega)
            rw [c1, hwd] at hg
            rw [hwd] at e1
            exact sm_catch C hNc hCa htab hM2 hM3 (fun x hx => (hM1 x hx).1) hh1 e1 e2 e3 e4 e5 e6 e7 hg
          · rename_i hh1
            cases h
            refine sm_call C hCl hd hck (by rw [hR1, hR2]; exact hck2) hst d4 d1 d3 (by dsimp only; exact hrc) (by dsimp only; exact hrs) hm1 hm2 (fun v' hv' => nomatch hv') (fun x9 hx9 H locs ls q9 ce e1 e2 e3 e4 e5 e6 e7 => ?_)
            cases hx9
            exact kout pc' x H locs ls _ q9 ce rfl hx5 hh1 e3 e4 e5 e6 e7
      · dsimp only at h
        cases h
        rcases fm_step_dn hck (Or.inl hst) with ⟨w, hw⟩ | ⟨x, cp, j, h1, h2, h3, h4⟩
        · subst hw
          exact kret pc' ins len ann lo st M _ hd hck rfl (Or.inl hst)
        · subst h2; subst h3; subst h4
          dsimp only [fm_ck2] at hck2
          simp only [Bool.and_eq_true] at hck2
          have hnil : rec.2.2.2.2.1 = [] := by
            rcases hM4 with z | z
            · rw [z] at hM2
              cases hh : rec.2.2.2.2.1 with
              | nil => rfl
              | cons a t => rw [hh] at hM2; cases hM2
            · exact nomatch (show true = false from z.2 _ he1)
          exact kthr pc' _ len _ lo st M x hd hck rfl hnil (by rw [hR1]; simpa using hck2.1) (by rw [hR2]; simpa using hck2.2) hm1 hm2 hst
      · have hge : fm_ge M (fm_sel x sl d).2.2.2 := hge
        have a1 := hge.2.1; have a2 := hge.2.2
        exact sm_sw C hd hck hst (ih _ (by omega) h (by omega) (by omega))
      · dsimp only at h
        by_cases hq : q.1
        · rw [if_pos hq] at h
          cases h
          rcases fm_step_dn hck (Or.inr ⟨q, hst⟩) with ⟨w, hw⟩ | ⟨x, cp, j, h1, h2, h3, h4⟩
          · subst hw
            exact kret pc' ins len ann lo st M _ hd hck rfl (Or.inr ⟨q, hq, hst⟩)
          · exfalso
            subst h2; subst h3; subst h4
            dsimp only [fm_step] at hst
            cases hb : Nat.ble (fm_csum st) 8 <;> (simp only [hb] at hst; cases hst)
        · rw [if_neg hq] at h; cases h
      · cases h
end FMS15
end
section
/-! every method keeps its contract -/
theorem fx_ofW {l : Launch} {y : MethodName} {ws ws' : List Cond} {rm : Room} {Pc : Array Value → State → Prop} {Qc : Array Value → State → Outcome → State → Prop} {XC : String → State → State → Prop} {mc ms : Nat} {free : Addr → Prop} {cc : ByteArray} {maxL : Nat} {ret : Option FieldType}
    (hy : plainFor y = true) (hw : ws = Cond.code y cc maxL ret :: ws')
    (body : ∀ p e s m args below meth c s₁, BodyLoose p l y (headSpec ws rm) cc maxL ret e s m args below meth c s₁ → c.maxLocals = maxL → (∀ x ∈ c.exceptionTable.toList, False) → Pc args s →
      W p l e (headSpec ws rm).room s m args below meth c s.heap [] 0 0 (vx_MQ below Qc XC args s mc ms free) (entryFrame m args maxL)) : vx_Met l y ws rm Pc Qc XC mc ms free := by
  refine MetFree.of_bodySF (code := cc) (maxLocals := maxL) (ret := ret) hy ?_ ?_
  · intro args s m h hn
    obtain ⟨meth, c, h1, h2, h3, h4, h5, h6, -, -⟩ := Cond.code_spec hn (atoms_spec (ws := ws) h _ (by rw [hw]; exact List.mem_cons_self))
    exact ⟨meth, c, h1, h2, h3, h4, h5, h6⟩
  · intro p e s m args below meth c s₁ B hml hP _
    have hh0 : s₁.heap = s.heap := by rw [B.state]; rfl
    have ht : ∀ x ∈ c.exceptionTable.toList, False := by
      obtain ⟨meth9, c9, h1, h2, -, -, -, -, h7, -⟩ := Cond.code_spec B.named (atoms_spec (ws := ws) B.pre _ (by rw [hw]; exact List.mem_cons_self))
      cases Option.some.inj (h1.symm.trans B.method)
      cases Option.some.inj (h2.symm.trans (Stand.of_body B).code)
      intro x hx
      rw [Array.isEmpty_iff.mp h7] at hx
      cases hx
    obtain ⟨t, a1, o, b1, b2, b3⟩ := body p e s m args below meth c s₁ B hml ht hP s₁ hh0 (Stand.of_body B)
    exact ⟨t, o, a1, b1, b2, b3⟩
theorem fx_ofWH {l : Launch} {y : MethodName} {ws ws' : List Cond} {rm : Room} {Pc : Array Value → State → Prop} {Qc : Array Value → State → Outcome → State → Prop} {XC : String → State → State → Prop} {mc ms : Nat} {free : Addr → Prop} {cc : ByteArray} {maxL : Nat} {ret : Option FieldType} {hh : List (Nat × Nat × Nat × Nat)}
    (hy : plainFor y = true) (hw : ws = Cond.codeWith y cc maxL ret hh :: ws')
    (body : ∀ p e s m args below meth c s₁, BodyLoose p l y (headSpec ws rm) cc maxL ret e s m args below meth c s₁ → c.maxLocals = maxL → Pc args s →
      W p l e (headSpec ws rm).room s m args below meth c s.heap [] 0 0 (vx_MQ below Qc XC args s mc ms free) (entryFrame m args maxL)) : vx_Met l y ws rm Pc Qc XC mc ms free := by
  refine MetFree.of_bodySF (code := cc) (maxLocals := maxL) (ret := ret) hy ?_ ?_
  · intro args s m h hn
    obtain ⟨m9, meth, c, hn9, h1, h2, h3, h4, -, h5, h6, -⟩ := Cond.codeWith_spec (atoms_spec (ws := ws) h _ (by rw [hw]; exact List.mem_cons_self))
    cases hn.symm.trans hn9
    exact ⟨meth, c, h1, h2, h3, h4, h5, h6⟩
  · intro p e s m args below meth c s₁ B hml hP _
    have hh0 : s₁.heap = s.heap := by rw [B.state]; rfl
    obtain ⟨t, a1, o, b1, b2, b3⟩ := body p e s m args below meth c s₁ B hml hP s₁ hh0 (Stand.of_body B)
    exact ⟨t, o, a1, b1, b2, b3⟩
section FMS16
variable {p : Program} {l : Launch} {e : Env} {s s₁ : State} {m : MethodId} {args : Array Value} {below : List Frame} {meth : Method} {c : Code}
variable {sts : fm_St} {ncs : fm_Nc} {X : Nat × (Nat → Int32)} {B b : Nat} {aC : Nat → ClassId} {D : va_G} {T : fm_Tb} {mss : List fm_MR} {P : fm_Pr}
theorem fm_body {mi N : Nat} {rec : fm_MR} {as : List fm_V} {M : fm_M} {r : fm_O × fm_M} (hl0 : l.stackTraces = false) (hT : fm_TbOk T) (hCl : fm_CallOk T mss) (hTh : fm_ThOk T) (hSt : fm_StOk T sts) (hNc : fm_NcOk ncs) (hCa : fm_CaOk) (hAll : fm_All T mss P) (hm : mss[mi]? = some rec) (hX : P.2.2.2 = X) (hA : fm_AA l sts ncs X B b aC D P mss N)
    (hlen : as.length ≤ rec.2.2.1) (hcat : ∀ v ∈ as, fm_cat v = 1) (hrun : fm_run P (N + 1) mi (fm_entry (P.2.2.1 mi) as M) = some r)
    (hexec : p.tables.exec = Jvm.exec) (hbytes : c.code = rec.2.1) (hml : c.maxLocals = rec.2.2.1) (hnamed : s.methodNamed? rec.1 = some m) (hmeth : s.vm.method? m = some meth) (hret : meth.sig.returnType = rec.2.2.2.1) (hlk : meth.locks = false) (hw : ∀ w ∈ fm_TG, w.before args s = true) (htab : c.exceptionTable.toList = tableOf rec.2.2.2.2.1) (hP : fm_Pc sts ncs X B b aC D as M args s) :
    W p l e (fm_rm rec (fm_cn r.2 - fm_cn M) (fm_sn r.2 - fm_sn M)) s m args below meth c s.heap [] 0 0 (vx_MQ below (fm_Qc B b aC D r) (fm_XC B aC D r) args s (fm_cn r.2 - fm_cn M) (fm_sn r.2 - fm_sn M) (fm_A B)) (entryFrame m args rec.2.2.1) := by
  obtain ⟨rfl, hPs, hWd, hvok⟩ := hP
  obtain ⟨hM1, hM2, hM3, hM4, hM5, hM6⟩ := fm_mck_out (hAll mi rec hm)
  have C : fm_Cx p s m (as.map (fm_ren B b)).toArray meth c sts ncs X B b rec.2.2.1 aC D rec.2.1 rec.1.cls := ⟨hexec, hbytes, hml, findClass_of_methodNamed hnamed, hw, hPs, hlk⟩
  rw [hM6] at hrun
  rw [lg_entry_eq]
  have hS0 : va_S (fm_A B) s.heap s.heap [] := va_S.rf
  have hW := fm_walk (p := p) (l := l) (e := e) (R := fm_rm rec (fm_cn r.2 - fm_cn M) (fm_sn r.2 - fm_sn M)) (below := below) (M0 := M) (Q := vx_MQ below (fm_Qc B b aC D r) (fm_XC B aC D r) (as.map (fm_ren B b)).toArray s (fm_cn r.2 - fm_cn M) (fm_sn r.2 - fm_sn M) (fm_A B)) (r := r)
    hT hCl hNc hCa hAll hm hX hA C htab (fun z => (name_of_methodNamed hnamed hmeth).1.trans z) rfl rfl (Nat.le_refl _) (Nat.le_refl _)
    (fun pc ins len ann lo st M9 w g1 g2 g3 g4 => by
      obtain ⟨r1, r2⟩ := r
      dsimp only at g3 g4 ⊢
      subst g3
      exact sm_dn C hret g1 g2 g4 (Nat.le_refl _) (Nat.le_refl _))
    (fun pc ins len ann lo st M9 x g1 g2 g3 g4 g5 g6 g7 g8 g9 => by
      obtain ⟨r1, r2⟩ := r
      dsimp only at g3 g9 ⊢
      subst g3
      exact sm_throw C hl0 hTh hSt (fun x hx => (hM1 x hx).1) (by rw [htab, g4]; rfl) g1 g2 g9 g5 g6 (Nat.le_refl _) (Nat.le_refl _) (Nat.le_refl _) (Nat.le_refl _) g7 g8)
    (fun pc x H locs ls rest q9 ce g1 g2 g3 g4 g5 g6 g7 g8 => by
      obtain ⟨r1, r2⟩ := r
      dsimp only at g1 g4 ⊢
      subst g1
      refine sm_out C (fun z hz => ?_) rfl g4 g5 g6 g7 g8 (Nat.le_refl _) (Nat.le_refl _)
      rw [htab] at hz
      unfold tableOf at hz
      obtain ⟨z0, hz0, rfl⟩ := List.mem_map.mp hz
      exact fm_hby_at C hNc g2 (fm_hck_no _ _ hM2 g3 z0 hz0))
    (N + 1) (fm_entry rec.2.2.1 as M) (Nat.le_refl _) hrun (Nat.le_refl _) (Nat.le_refl _)
  have h0 := hW s.heap [] _ (fm_entry_LH (B := B) (b := b) (wd := rec.2.2.2.2.2.2.2.2) hlen hcat) ⟨fun i v hi => ?_, fun v hv => by cases hv⟩ hWd hS0
  · have e1 : fm_cn (fm_entry rec.2.2.1 as M).2.2.2 - fm_cn M = 0 := Nat.sub_self _
    have e2 : fm_sn (fm_entry rec.2.2.1 as M).2.2.2 - fm_sn M = 0 := Nat.sub_self _
    rw [e1, e2] at h0
    exact h0
  · have hm9 : some v ∈ (as.map some ++ List.replicate (rec.2.2.1 - as.length) none) := List.mem_of_getElem? hi
    rcases List.mem_append.mp hm9 with h9 | h9
    · obtain ⟨w, hw8, e9⟩ := List.mem_map.mp h9
      rw [← Option.some.inj e9]
      exact hvok w hw8
    · exact nomatch (List.mem_replicate.mp h9).2
theorem fm_main (hl0 : l.stackTraces = false) (hT : fm_TbOk T) (hCl : fm_CallOk T mss) (hTh : fm_ThOk T) (hSt : fm_StOk T sts) (hNc : fm_NcOk ncs) (hCa : fm_CaOk) (hAll : fm_All T mss P) (hX : P.2.2.2 = X) : ∀ N, fm_AA l sts ncs X B b aC D P mss N := by
  intro N
  induction N with
  | zero => intro mj rec as M r _ _ _ _ h; cases h
  | succ N ih =>
    intro mj rec as M r hm h0 hlen hcat hrun
    obtain ⟨hM1, hM2, hM3, hM4, hM5, hM6⟩ := fm_mck_out (hAll mj rec hm)
    unfold fm_Ct
    cases hh : rec.2.2.2.2.1 with
    | nil =>
      refine fx_ofW hM5 (fm_w_code hh) fun p e s m args below meth c s₁ BL hml ht hP => ?_
      have hat := atoms_spec (ws := fm_w rec) BL.pre
      exact fm_body hl0 hT hCl hTh hSt hNc hCa hAll hm hX ih hlen hcat hrun BL.exec BL.bytes hml BL.named BL.method BL.returns BL.notSynchronized (fun w hw => hat w (List.mem_cons_of_mem _ hw)) (by rw [hh]; exact List.eq_nil_iff_forall_not_mem.mpr ht) hP
    | cons q t =>
      have hwc : fm_w rec = Cond.codeWith rec.1 rec.2.1 rec.2.2.1 rec.2.2.2.1 (q :: t) :: fm_TG := by
        unfold fm_w fm_cw
        rw [hh]
      refine fx_ofWH hM5 hwc fun p e s m args below meth c s₁ BL hml hP => ?_
      have hat := atoms_spec (ws := fm_w rec) BL.pre
      exact fm_body hl0 hT hCl hTh hSt hNc hCa hAll hm hX ih hlen hcat hrun BL.exec BL.bytes hml BL.named BL.method BL.returns BL.notSynchronized (fun w hw => hat w (List.mem_cons_of_mem _ hw)) (by rw [hh]; exact vx_table (x := rec.1) BL (hat _ (by rw [hwc]; exact List.mem_cons_self))) hP
end FMS16
end
section
/-! the tables of the program itself, printed; and what is checked of them once and for all -/
def fm_inT (i : Nat) (w : Cond) : Bool := decide (lw_tbl[i]? = some w)
theorem fm_inT_ok {i : Nat} {w : Cond} (h : fm_inT i w = true) : w ∈ lw_tbl := List.mem_of_getElem? (of_decide_eq_true h)
def fm_tF : List (fm_pfT × Nat) := [(("Feederlight", 10, 5, 0, none), 250), (("Feederlight", 16, 2, 0, some "Feederlight"), 193), (("Feederlight", 20, 5, 1, none), 251), (("Feederlight", 21, 1, 0, some "Feederlight"), 154), (("Feederlight", 27, 5, 2, none), 252), (("Feederlight", 31, 5, 3, none), 253), (("Feederlight", 37, 5, 4, none), 254), (("Feederlight", 42, 5, 5, none), 255), (("Feederlight", 46, 5, 6, none), 256), (("Feederlight", 49, 5, 7, none), 257), (("Feederlight", 53, 5, 8, none), 258), (("Feederlight", 56, 5, 9, none), 259), (("Feederlight", 59, 5, 10, none), 260), (("Feederlight", 71, 3, 8, some "Feederlight"), 125), (("Feederlight", 95, 3, 9, some "Feederlight"), 129), (("Feederlight", 103, 0, 0, some "Feederlight"), 212), (("Feederlight", 106, 0, 4, some "Feederlight"), 220), (("Feederlight", 109, 0, 1, some "Feederlight"), 214), (("Feederlight", 112, 4, 2, some "Feederlight"), 242), (("Feederlight", 143, 3, 4, some "Feederlight"), 117), (("Feederlight", 149, 3, 3, some "Feederlight"), 114), (("Feederlight", 152, 1, 7, some "Feederlight"), 174), (("Feederlight", 155, 1, 1, some "Feederlight"), 157), (("Feederlight", 161, 1, 2, some "Feederlight"), 160), (("Feederlight", 169, 1, 6, some "Feederlight"), 171), (("Feederlight", 175, 2, 1, some "Feederlight"), 195), (("Feederlight", 179, 2, 2, some "Feederlight"), 197), (("Feederlight", 196, 0, 3, some "Feederlight"), 218), (("Feederlight", 201, 0, 2, some "Feederlight"), 216), (("Feederlight", 215, 1, 5, some "Feederlight"), 169), (("Feederlight", 267, 1, 3, some "Feederlight"), 163), (("Feederlight", 276, 1, 4, some "Feederlight"), 166), (("FeederlightModel", 9, 6, 0, none), 879), (("FeederlightModel", 13, 6, 1, none), 880), (("FeederlightModel", 16, 6, 2, none), 881), (("FeederlightModel", 19, 6, 3, none), 882), (("FeederlightModel", 22, 6, 4, none), 883), (("FeederlightModel", 25, 6, 5, none), 884), (("FeederlightModel", 28, 6, 6, none), 885), (("FeederlightModel", 31, 6, 7, none), 886), (("FeederlightModel", 35, 6, 8, none), 887), (("FeederlightModel", 38, 6, 9, none), 888), (("FeederlightModel", 41, 6, 10, none), 889), (("FeederlightModel", 44, 6, 11, none), 890), (("FeederlightModel", 47, 6, 12, none), 891), (("FeederlightModel", 50, 6, 13, none), 892), (("FeederlightModel", 53, 6, 14, none), 893), (("FeederlightModel", 56, 6, 15, none), 894), (("FeederlightModel", 59, 6, 16, none), 895), (("FeederlightModel", 62, 6, 17, none), 896), (("FeederlightModel", 65, 6, 18, none), 897), (("FeederlightModel", 68, 6, 19, none), 898), (("FeederlightModel", 71, 6, 20, none), 899), (("FeederlightModel", 74, 6, 21, none), 900), (("FeederlightModel", 77, 6, 22, none), 901), (("FeederlightModel", 80, 6, 23, none), 902), (("FeederlightModel", 83, 6, 24, none), 903), (("FeederlightModel", 86, 6, 25, none), 904), (("FeederlightModel", 90, 6, 27, none), 906), (("FeederlightModel", 93, 6, 31, none), 910), (("FeederlightModel", 108, 6, 26, none), 905), (("FeederlightModel", 111, 6, 28, none), 907), (("FeederlightModel", 152, 6, 32, none), 911), (("FeederlightModel", 159, 6, 30, none), 909), (("FeederlightModel", 162, 6, 29, none), 908), (("Feederlight$Chargers", 9, 0, 0, none), 211), (("Feederlight$Chargers", 15, 0, 1, none), 213), (("Feederlight$Chargers", 18, 0, 2, none), 215), (("Feederlight$Chargers", 21, 0, 3, none), 217), (("Feederlight$Chargers", 25, 0, 4, none), 219), (("Feederlight$Feeding", 12, 1, 0, none), 153), (("Feederlight$Feeding", 18, 1, 1, none), 156), (("Feederlight$Feeding", 22, 1, 2, none), 158), (("Feederlight$Feeding", 26, 1, 3, none), 161), (("Feederlight$Feeding", 29, 1, 4, none), 164), (("Feederlight$Feeding", 32, 1, 5, none), 167), (("Feederlight$Feeding", 35, 1, 6, none), 170), (("Feederlight$Feeding", 38, 1, 7, none), 172), (("Feederlight$Feeding", 49, 3, 9, some "Feederlight"), 128), (("Feederlight$Feeding", 59, 3, 8, some "Feederlight"), 126), (("Feederlight$Feeding", 65, 3, 0, some "Feederlight"), 108), (("Feederlight$Feeding", 72, 3, 4, some "Feederlight"), 116), (("Feederlight$Feeding", 75, 3, 1, some "Feederlight"), 110), (("Feederlight$Feeding", 79, 3, 5, some "Feederlight"), 119), (("Feederlight$Feeding", 82, 3, 6, some "Feederlight"), 121), (("Feederlight$Feeding", 85, 3, 7, some "Feederlight"), 123), (("Feederlight$Flows", 12, 2, 0, none), 192), (("Feederlight$Flows", 18, 2, 1, none), 194), (("Feederlight$Flows", 22, 2, 2, none), 196), (("Feederlight$Flows", 29, 1, 7, some "Feederlight"), 173), (("Feederlight$Flows", 33, 1, 5, some "Feederlight"), 168), (("Feederlight$Flows", 36, 1, 2, some "Feederlight"), 159), (("Feederlight$Flows", 39, 1, 4, some "Feederlight"), 165), (("Feederlight$Flows", 52, 1, 3, some "Feederlight"), 162), (("Feederlight$Flows", 58, 1, 0, some "Feederlight"), 155), (("Feederlight$Flows", 62, 3, 2, some "Feederlight"), 112), (("Feederlight$Grid", 9, 3, 0, none), 107), (("Feederlight$Grid", 15, 3, 1, none), 109), (("Feederlight$Grid", 18, 3, 2, none), 111), (("Feederlight$Grid", 21, 3, 3, none), 113), (("Feederlight$Grid", 24, 3, 4, none), 115), (("Feederlight$Grid", 28, 3, 5, none), 118), (("Feederlight$Grid", 31, 3, 6, none), 120), (("Feederlight$Grid", 34, 3, 7, none), 122), (("Feederlight$Grid", 37, 3, 8, none), 124), (("Feederlight$Grid", 41, 3, 9, none), 127), (("Feederlight$Roof", 9, 4, 0, none), 239), (("Feederlight$Roof", 15, 4, 1, none), 240), (("Feederlight$Roof", 19, 4, 2, none), 241)]
def fm_tI : List ((String × Nat × Nat × Nat × Option String) × List Nat) := [(("FeederlightLaw", 103, 1, 2, none), [83, 84]), (("FeederlightLaw", 106, 61, 2, none), [875, 876]), (("FeederlightLaw", 107, 142, 1, none), [482, 483]), (("FeederlightLaw", 112, 66, 0, none), [983, 984, 985]), (("FeederlightLaw", 113, 62, 0, none), [979, 980, 981]), (("FeederlightLaw", 116, 143, 1, none), [627, 628]), (("FeederlightLaw", 118, 67, 0, none), [998, 999, 1000]), (("FeederlightLaw", 119, 144, 1, none), [640, 641]), (("FeederlightLaw", 122, 68, 0, none), [1002, 1003, 1004]), (("FeederlightLaw", 123, 145, 1, none), [647, 648]), (("FeederlightLaw", 126, 69, 0, none), [1006, 1007, 1008]), (("FeederlightLaw", 127, 146, 1, none), [654, 655]), (("FeederlightLaw", 129, 70, 0, none), [1010, 1011, 1012]), (("FeederlightLaw", 130, 147, 1, none), [661, 662]), (("FeederlightLaw", 132, 71, 0, none), [1014, 1015, 1016]), (("FeederlightLaw", 133, 148, 1, none), [668, 669]), (("FeederlightLaw", 135, 72, 0, none), [1018, 1019, 1020]), (("FeederlightLaw", 136, 149, 1, none), [679, 680]), (("FeederlightLaw", 138, 74, 0, none), [1022, 1023, 1024]), (("FeederlightLaw", 139, 150, 1, none), [695, 696]), (("FeederlightLaw", 141, 75, 0, none), [1030, 1031, 1032]), (("FeederlightLaw", 142, 151, 1, none), [702, 703]), (("FeederlightLaw", 144, 77, 0, none), [1034, 1035, 1036]), (("FeederlightLaw", 145, 12, 0, none), [284, 285, 286]), (("FeederlightLaw", 148, 86, 0, none), [1043, 1044, 1045]), (("FeederlightLaw", 149, 152, 1, none), [709, 710]), (("FeederlightLaw", 151, 87, 0, none), [1077, 1078, 1079]), (("FeederlightLaw", 152, 153, 1, none), [716, 717]), (("FeederlightLaw", 154, 88, 0, none), [1081, 1082, 1083]), (("FeederlightLaw", 155, 15, 0, none), [403, 404, 405]), (("FeederlightLaw", 158, 90, 0, none), [1089, 1090, 1091]), (("FeederlightLaw", 159, 154, 1, none), [725, 726]), (("FeederlightLaw", 161, 91, 0, none), [1093, 1094, 1095]), (("FeederlightLaw", 162, 155, 1, none), [732, 733]), (("FeederlightLaw", 164, 93, 0, none), [1097, 1098, 1099]), (("FeederlightLaw", 165, 156, 1, none), [765, 766]), (("FeederlightLaw", 167, 94, 0, none), [1109, 1110, 1111]), (("FeederlightLaw", 168, 157, 1, none), [773, 774]), (("FeederlightLaw", 170, 95, 0, none), [1113, 1114, 1115]), (("FeederlightLaw", 171, 158, 1, none), [780, 781]), (("FeederlightLaw", 173, 96, 0, none), [1117, 1118, 1119]), (("FeederlightLaw", 174, 159, 1, none), [787, 788]), (("FeederlightLaw", 176, 97, 0, none), [1121, 1122, 1123]), (("FeederlightLaw", 177, 22, 0, none), [407, 408, 409]), (("FeederlightLaw", 180, 98, 0, none), [1126, 1127, 1128]), (("FeederlightLaw", 181, 23, 0, none), [415, 416, 417]), (("FeederlightLaw", 185, 99, 0, none), [1130, 1131, 1132]), (("FeederlightLaw", 186, 160, 1, none), [794, 795]), (("FeederlightLaw", 188, 100, 0, none), [1134, 1135, 1136]), (("FeederlightLaw", 189, 161, 1, none), [801, 802]), (("FeederlightLaw", 191, 101, 0, none), [1138, 1139, 1140]), (("FeederlightLaw", 192, 162, 1, none), [808, 809]), (("FeederlightLaw", 194, 102, 0, none), [1142, 1143, 1144]), (("FeederlightLaw", 195, 163, 1, none), [816, 817]), (("FeederlightLaw", 198, 104, 0, none), [1146, 1147, 1148]), (("FeederlightLaw", 199, 164, 1, none), [824, 825]), (("FeederlightLaw", 201, 105, 0, none), [1155, 1156, 1157]), (("FeederlightLaw", 202, 165, 1, none), [831, 832]), (("FeederlightLaw", 204, 107, 0, none), [1160, 1161, 1162]), (("FeederlightLaw", 205, 166, 1, none), [842, 843]), (("FeederlightLaw", 207, 108, 0, none), [1168, 1169, 1170]), (("FeederlightLaw", 208, 31, 0, none), [419, 420, 421]), (("FeederlightLaw", 211, 109, 0, none), [1172, 1173, 1174]), (("FeederlightLaw", 212, 32, 0, none), [423, 424, 425]), (("FeederlightLaw", 216, 110, 0, none), [1176, 1177, 1178]), (("FeederlightLaw", 217, 33, 0, none), [427, 428, 429]), (("FeederlightLaw", 221, 111, 0, none), [1180, 1181, 1182]), (("FeederlightLaw", 222, 34, 0, none), [431, 432, 433]), (("FeederlightLaw", 225, 112, 0, none), [1184, 1185, 1186]), (("FeederlightLaw", 226, 167, 1, none), [849, 850]), (("FeederlightLaw", 229, 113, 0, none), [1188, 1189, 1190]), (("FeederlightLaw", 230, 36, 0, none), [435, 436, 437]), (("FeederlightLaw", 233, 114, 0, none), [1192, 1193, 1194]), (("Feederlight", 9, 130, 2, some "Feederlight"), [91, 92]), (("Feederlight", 30, 115, 2, some "Feederlight"), [207, 208]), (("Feederlight", 41, 138, 2, some "Feederlight"), [235, 236]), (("Feederlight", 63, 37, 0, none), [570, 572, 35]), (("Feederlight", 67, 38, 0, none), [587, 589, 36]), (("Feederlight", 83, 135, 0, some "Feederlight"), [623, 625, 37]), (("Feederlight", 87, 120, 0, some "Feederlight"), [361, 363, 14]), (("Feederlight", 100, 136, 0, some "Feederlight"), [636, 638, 38]), (("Feederlight", 115, 139, 0, some "Feederlight"), [675, 677, 39]), (("Feederlight", 118, 39, 0, none), [686, 688, 40]), (("Feederlight", 121, 140, 0, some "Feederlight"), [691, 693, 41]), (("Feederlight", 125, 141, 0, some "Feederlight"), [296, 298, 2]), (("Feederlight", 129, 48, 0, none), [288, 290, 0]), (("Feederlight", 133, 128, 0, some "Feederlight"), [393, 395, 22]), (("Feederlight", 136, 168, 1, none), [397, 398]), (("Feederlight", 158, 41, 0, none), [740, 742, 42]), (("Feederlight", 172, 45, 0, none), [411, 413, 23]), (("Feederlight", 176, 40, 0, none), [760, 762, 43]), (("Feederlight", 182, 52, 0, none), [443, 445, 25]), (("Feederlight", 185, 133, 0, some "Feederlight"), [333, 335, 9]), (("Feederlight", 189, 43, 0, none), [459, 461, 29]), (("Feederlight", 193, 116, 0, some "Feederlight"), [307, 309, 4]), (("Feederlight", 204, 57, 0, none), [477, 479, 33]), (("Feederlight", 209, 58, 0, none), [464, 466, 30]), (("Feederlight", 212, 42, 0, none), [838, 840, 44]), (("Feederlight", 223, 55, 0, none), [439, 441, 24]), (("Feederlight", 226, 125, 0, some "Feederlight"), [481, 387, 20]), (("Feederlight", 242, 59, 1, none), [348, 328]), (("Feederlight", 246, 44, 0, none), [292, 294, 1]), (("Feederlight", 249, 46, 0, none), [319, 321, 7]), (("Feederlight", 252, 131, 0, some "Feederlight"), [323, 325, 8]), (("Feederlight", 255, 49, 0, none), [303, 305, 3]), (("Feederlight", 258, 50, 0, none), [344, 346, 11]), (("Feederlight", 261, 51, 0, none), [349, 351, 12]), (("Feederlight", 264, 47, 0, none), [315, 317, 6]), (("Feederlight", 270, 132, 0, some "Feederlight"), [353, 339, 10]), (("Feederlight", 273, 137, 0, some "Feederlight"), [354, 356, 13]), (("Feederlight", 279, 53, 0, none), [447, 449, 26]), (("Feederlight", 282, 60, 1, none), [463, 331]), (("Feederlight", 286, 129, 0, some "Feederlight"), [451, 453, 27]), (("Feederlight", 289, 54, 0, none), [455, 457, 28]), (("Feederlight", 292, 118, 0, some "Feederlight"), [472, 474, 32]), (("Feederlight", 295, 56, 0, none), [468, 470, 31]), (("Feederlight", 298, 170, 1, none), [476, 359]), (("FeederlightModel", 96, 63, 1, none), [991, 992]), (("FeederlightModel", 100, 64, 0, none), [994, 996, 46]), (("FeederlightModel", 104, 65, 0, none), [987, 989, 45]), (("FeederlightModel", 114, 73, 0, none), [1026, 1028, 47]), (("FeederlightModel", 118, 171, 1, none), [1042, 301]), (("FeederlightModel", 124, 76, 0, none), [1038, 1040, 48]), (("FeederlightModel", 127, 78, 0, none), [1059, 1061, 52]), (("FeederlightModel", 131, 79, 0, none), [1055, 1057, 51]), (("FeederlightModel", 134, 81, 0, none), [1071, 1073, 55]), (("FeederlightModel", 137, 169, 1, none), [1075, 342]), (("FeederlightModel", 141, 80, 0, none), [1051, 1053, 50]), (("FeederlightModel", 144, 84, 0, none), [1063, 1065, 53]), (("FeederlightModel", 148, 82, 0, none), [1067, 1069, 54]), (("FeederlightModel", 156, 170, 1, none), [1076, 359]), (("FeederlightModel", 165, 85, 0, none), [1047, 1049, 49]), (("FeederlightModel", 168, 89, 0, none), [1085, 1087, 56]), (("FeederlightModel", 171, 83, 0, none), [1105, 1107, 58]), (("FeederlightModel", 174, 92, 0, none), [1101, 1103, 57]), (("FeederlightModel", 178, 96, 0, none), [1125, 1118, 1119]), (("FeederlightModel", 180, 168, 1, none), [1154, 398]), (("FeederlightModel", 185, 103, 0, none), [1150, 1152, 59]), (("FeederlightModel", 188, 104, 0, none), [1159, 1147, 1148]), (("FeederlightModel", 191, 106, 0, none), [1164, 1166, 60]), (("Feederlight$Chargers", 28, 117, 0, none), [311, 313, 5]), (("Feederlight$Feeding", 11, 134, 2, some "Feederlight"), [103, 104]), (("Feederlight$Feeding", 42, 121, 0, none), [365, 367, 15]), (("Feederlight$Feeding", 45, 122, 0, none), [369, 371, 16]), (("Feederlight$Feeding", 52, 125, 0, none), [385, 387, 20]), (("Feederlight$Feeding", 56, 126, 0, none), [389, 391, 21]), (("Feederlight$Feeding", 62, 123, 0, none), [373, 375, 17]), (("Feederlight$Feeding", 68, 124, 0, none), [377, 379, 18]), (("Feederlight$Feeding", 76, 127, 0, none), [381, 383, 19]), (("Feederlight$Flows", 11, 119, 2, some "Feederlight"), [97, 98]), (("Feederlight$Flows", 25, 59, 1, some "Feederlight"), [327, 328]), (("Feederlight$Flows", 42, 60, 1, some "Feederlight"), [330, 331]), (("Feederlight$Flows", 46, 169, 1, none), [341, 342]), (("Feederlight$Flows", 55, 132, 0, none), [337, 339, 10]), (("Feederlight$Grid", 44, 170, 1, none), [358, 359]), (("Feederlight$Roof", 23, 171, 1, none), [300, 301]), (("FeederlightLaw", 7, 2, 0, none), [566, 567, 568]), (("FeederlightLaw", 19, 3, 0, none), [630, 631, 632]), (("FeederlightLaw", 22, 4, 0, none), [643, 644, 645]), (("FeederlightLaw", 26, 5, 0, none), [650, 651, 652]), (("FeederlightLaw", 30, 6, 0, none), [657, 658, 659]), (("FeederlightLaw", 33, 7, 0, none), [664, 665, 666]), (("FeederlightLaw", 36, 8, 0, none), [671, 672, 673]), (("FeederlightLaw", 39, 9, 0, none), [682, 683, 684]), (("FeederlightLaw", 42, 10, 0, none), [698, 699, 700]), (("FeederlightLaw", 45, 11, 0, none), [705, 706, 707]), (("FeederlightLaw", 48, 13, 0, none), [712, 713, 714]), (("FeederlightLaw", 51, 14, 0, none), [719, 720, 721]), (("FeederlightLaw", 54, 16, 0, none), [728, 729, 730]), (("FeederlightLaw", 58, 17, 0, none), [736, 737, 738]), (("FeederlightLaw", 63, 18, 0, none), [768, 769, 770]), (("FeederlightLaw", 66, 19, 0, none), [776, 777, 778]), (("FeederlightLaw", 69, 20, 0, none), [783, 784, 785]), (("FeederlightLaw", 72, 21, 0, none), [790, 791, 792]), (("FeederlightLaw", 75, 24, 0, none), [797, 798, 799]), (("FeederlightLaw", 78, 25, 0, none), [804, 805, 806]), (("FeederlightLaw", 81, 26, 0, none), [811, 812, 813]), (("FeederlightLaw", 84, 27, 0, none), [819, 820, 821]), (("FeederlightLaw", 88, 28, 0, none), [827, 828, 829]), (("FeederlightLaw", 91, 29, 0, none), [834, 835, 836]), (("FeederlightLaw", 94, 30, 0, none), [845, 846, 847]), (("FeederlightLaw", 97, 35, 0, none), [866, 867, 868])]
def fm_tT : List (String × Nat × Nat × Nat × Nat × String) := [("Feederlight", 76, 78, 80, 2, "there are 12 nodes"), ("Feederlight", 90, 92, 94, 1, "a tie links two nodes"), ("Feederlight", 76, 98, 80, 2, "there are 4 ties"), ("Feederlight", 76, 141, 80, 2, "node 0 has no cable"), ("Feederlight", 76, 147, 80, 2, "the fuse is whole"), ("Feederlight", 164, 166, 168, 3, "no such tie"), ("Feederlight", 164, 199, 168, 3, "no such place"), ("Feederlight", 164, 207, 168, 3, "no set keeps the limits"), ("Feederlight", 218, 220, 222, 4, "no charger of more than 0 amperes"), ("Feederlight", 229, 231, 233, 0, "no such node"), ("Feederlight", 90, 234, 94, 1, "out of range"), ("Feederlight", 76, 236, 80, 2, "4 layers were added"), ("Feederlight", 164, 238, 168, 3, "the node is not fed"), ("Feederlight", 164, 240, 168, 3, "no node feeds node 0"), ("Feederlight", 164, 141, 168, 3, "node 0 has no cable")]
def fm_tO : List (String × Nat) := [("Feederlight", 1), ("FeederlightModel", 1), ("Feederlight$Chargers", 3), ("Feederlight$Feeding", 3), ("Feederlight$Flows", 3), ("Feederlight$Grid", 3), ("Feederlight$Roof", 3)]
def fm_tN : List (String × Nat × String) := [("FeederlightLaw", 8, "Feederlight"), ("FeederlightLaw", 104, "FeederlightModel"), ("Feederlight", 7, "Feederlight$Flows"), ("Feederlight", 28, "Feederlight$Chargers"), ("Feederlight", 35, "Feederlight$Roof"), ("Feederlight$Feeding", 9, "Feederlight$Grid"), ("Feederlight$Flows", 9, "Feederlight$Feeding")]
def fm_tC : List (String × Nat × Nat) := [("java/lang/Integer", 265, 1431655765), ("java/lang/Integer", 266, 858993459), ("java/lang/Integer", 267, 252645135)]
def fm_T0 : fm_Tb := (fm_tF.map Prod.fst, fm_tI.map Prod.fst, fm_tT, fm_tO, fm_tN, fm_tC)
def fm_m0 : fm_MR := (⟨"FeederlightLaw", "law", "([I)Z"⟩, code, 10, ret, [], 1, room_1.frames, room_1.locals, true)
def fm_m1 : fm_MR := (⟨"Feederlight", "<init>", "()V"⟩, prog_1_method_1_code, 2, (Option.none : Option Jvm.ClassFile.FieldType), [], 0, 4, 80, false)
def fm_m2 : fm_MR := (⟨"Feederlight", "addNode", "(III)I"⟩, prog_1_method_2_code, 5, (Option.some Jvm.ClassFile.FieldType.int), [], 3, 7, 113, false)
def fm_m3 : fm_MR := (⟨"Feederlight", "addTie", "(III)I"⟩, prog_1_method_3_code, 5, (Option.some Jvm.ClassFile.FieldType.int), [], 3, 7, 113, false)
def fm_m4 : fm_MR := (⟨"Feederlight", "setBase", "(I)I"⟩, prog_1_method_4_code, 3, (Option.some Jvm.ClassFile.FieldType.int), [], 1, 7, 113, false)
def fm_m5 : fm_MR := (⟨"Feederlight", "setLoad", "(II)I"⟩, prog_1_method_5_code, 4, (Option.some Jvm.ClassFile.FieldType.int), [], 2, 7, 113, false)
def fm_m6 : fm_MR := (⟨"Feederlight", "setCharger", "(II)I"⟩, prog_1_method_6_code, 3, (Option.some Jvm.ClassFile.FieldType.int), [], 2, 7, 113, false)
def fm_m7 : fm_MR := (⟨"Feederlight", "setSun", "(I)I"⟩, prog_1_method_7_code, 3, (Option.some Jvm.ClassFile.FieldType.int), [], 1, 7, 113, false)
def fm_m8 : fm_MR := (⟨"Feederlight", "setRoof", "(II)I"⟩, prog_1_method_8_code, 4, (Option.some Jvm.ClassFile.FieldType.int), [], 2, 7, 113, false)
def fm_m9 : fm_MR := (⟨"Feederlight", "capRoof", "(II)I"⟩, prog_1_method_9_code, 3, (Option.some Jvm.ClassFile.FieldType.int), [], 2, 7, 113, false)
def fm_m10 : fm_MR := (⟨"Feederlight", "shadeRoof", "(II)I"⟩, prog_1_method_10_code, 3, (Option.some Jvm.ClassFile.FieldType.int), [], 2, 7, 113, false)
def fm_m11 : fm_MR := (⟨"Feederlight", "roofAt", "(II)I"⟩, prog_1_method_11_code, 3, (Option.some Jvm.ClassFile.FieldType.int), [], 2, 7, 113, false)
def fm_m12 : fm_MR := (⟨"Feederlight", "minute", "()I"⟩, prog_1_method_12_code, 1, (Option.some Jvm.ClassFile.FieldType.int), [], 0, 6, 134, false)
def fm_m13 : fm_MR := (⟨"Feederlight", "pass", "(I)I"⟩, prog_1_method_13_code, 4, (Option.some Jvm.ClassFile.FieldType.int), [], 1, 7, 134, false)
def fm_m14 : fm_MR := (⟨"Feederlight", "replaceFuse", "(I)I"⟩, prog_1_method_14_code, 2, (Option.some Jvm.ClassFile.FieldType.int), [], 1, 7, 113, false)
def fm_m15 : fm_MR := (⟨"Feederlight", "nodes", "()I"⟩, prog_1_method_15_code, 1, (Option.some Jvm.ClassFile.FieldType.int), [], 0, 0, 0, false)
def fm_m16 : fm_MR := (⟨"Feederlight", "isFed", "(I)Z"⟩, prog_1_method_16_code, 2, (Option.some Jvm.ClassFile.FieldType.boolean), [], 1, 7, 111, false)
def fm_m17 : fm_MR := (⟨"Feederlight", "feeder", "(I)I"⟩, prog_1_method_17_code, 2, (Option.some Jvm.ClassFile.FieldType.int), [], 1, 8, 132, false)
def fm_m18 : fm_MR := (⟨"Feederlight", "isClosed", "(I)Z"⟩, prog_1_method_18_code, 2, (Option.some Jvm.ClassFile.FieldType.boolean), [], 1, 6, 90, false)
def fm_m19 : fm_MR := (⟨"Feederlight", "flow", "(I)I"⟩, prog_1_method_19_code, 2, (Option.some Jvm.ClassFile.FieldType.int), [], 1, 8, 132, false)
def fm_m20 : fm_MR := (⟨"Feederlight", "voltage", "(I)I"⟩, prog_1_method_20_code, 2, (Option.some Jvm.ClassFile.FieldType.int), [], 1, 7, 111, false)
def fm_m21 : fm_MR := (⟨"Feederlight", "voltageByWay", "(I)I"⟩, prog_1_method_21_code, 2, (Option.some Jvm.ClassFile.FieldType.int), [], 1, 7, 114, false)
def fm_m22 : fm_MR := (⟨"Feederlight", "lowest", "()I"⟩, prog_1_method_22_code, 3, (Option.some Jvm.ClassFile.FieldType.int), [], 0, 4, 88, false)
def fm_m23 : fm_MR := (⟨"Feederlight", "keepsLimits", "()Z"⟩, prog_1_method_23_code, 1, (Option.some Jvm.ClassFile.FieldType.boolean), [], 0, 4, 88, false)
def fm_m24 : fm_MR := (⟨"Feederlight", "isServed", "(I)Z"⟩, prog_1_method_24_code, 2, (Option.some Jvm.ClassFile.FieldType.boolean), [], 1, 7, 111, false)
def fm_m25 : fm_MR := (⟨"Feederlight", "leftOut", "(I)I"⟩, prog_1_method_25_code, 2, (Option.some Jvm.ClassFile.FieldType.int), [], 1, 7, 111, false)
def fm_m26 : fm_MR := (⟨"Feederlight", "turn", "(I)I"⟩, prog_1_method_26_code, 2, (Option.some Jvm.ClassFile.FieldType.int), [], 1, 6, 90, false)
def fm_m27 : fm_MR := (⟨"Feederlight", "mostServed", "()I"⟩, prog_1_method_27_code, 2, (Option.some Jvm.ClassFile.FieldType.int), [], 0, 6, 113, false)
def fm_m28 : fm_MR := (⟨"Feederlight", "mostByAll", "()I"⟩, prog_1_method_28_code, 2, (Option.some Jvm.ClassFile.FieldType.int), [], 0, 6, 113, false)
def fm_m29 : fm_MR := (⟨"Feederlight", "heat", "(I)I"⟩, prog_1_method_29_code, 2, (Option.some Jvm.ClassFile.FieldType.int), [], 1, 7, 111, false)
def fm_m30 : fm_MR := (⟨"Feederlight", "isBlown", "(I)Z"⟩, prog_1_method_30_code, 2, (Option.some Jvm.ClassFile.FieldType.boolean), [], 1, 7, 111, false)
def fm_m31 : fm_MR := (⟨"Feederlight", "minutes", "()I"⟩, prog_1_method_31_code, 1, (Option.some Jvm.ClassFile.FieldType.int), [], 0, 0, 0, false)
def fm_m32 : fm_MR := (⟨"Feederlight", "charged", "()J"⟩, prog_1_method_32_code, 1, (Option.some Jvm.ClassFile.FieldType.long), [], 0, 0, 0, false)
def fm_m33 : fm_MR := (⟨"Feederlight", "fedShare", "()F"⟩, prog_1_method_33_code, 1, (Option.some Jvm.ClassFile.FieldType.float), [], 0, 0, 0, false)
def fm_m34 : fm_MR := (⟨"Feederlight", "meanVoltage", "()D"⟩, prog_1_method_34_code, 3, (Option.some Jvm.ClassFile.FieldType.double), [], 0, 4, 88, false)
def fm_m35 : fm_MR := (⟨"Feederlight", "meanLeftOut", "()D"⟩, prog_1_method_35_code, 4, (Option.some Jvm.ClassFile.FieldType.double), [], 0, 6, 90, false)
def fm_m36 : fm_MR := (⟨"Feederlight", "isSound", "()Z"⟩, prog_1_method_36_code, 1, (Option.some Jvm.ClassFile.FieldType.boolean), [], 0, 6, 135, false)
def fm_m37 : fm_MR := (⟨"Feederlight", "checkNode", "(I)V"⟩, prog_1_method_37_code, 2, (Option.none : Option Jvm.ClassFile.FieldType), [], 1, 6, 90, false)
def fm_m38 : fm_MR := (⟨"Feederlight", "checkRange", "(III)V"⟩, prog_1_method_38_code, 4, (Option.none : Option Jvm.ClassFile.FieldType), [], 3, 6, 90, false)
def fm_m39 : fm_MR := (⟨"Feederlight", "checkRoomForLayer", "(I)V"⟩, prog_1_method_39_code, 2, (Option.none : Option Jvm.ClassFile.FieldType), [], 1, 6, 90, false)
def fm_m40 : fm_MR := (⟨"Feederlight", "checkFed", "(I)V"⟩, prog_1_method_40_code, 2, (Option.none : Option Jvm.ClassFile.FieldType), [], 1, 6, 90, false)
def fm_m41 : fm_MR := (⟨"Feederlight", "checkFedOverLine", "(I)V"⟩, prog_1_method_41_code, 2, (Option.none : Option Jvm.ClassFile.FieldType), [], 1, 7, 111, false)
def fm_m42 : fm_MR := (⟨"Feederlight", "checkHasCable", "(I)V"⟩, prog_1_method_42_code, 2, (Option.none : Option Jvm.ClassFile.FieldType), [], 1, 6, 90, false)
def fm_m43 : fm_MR := (⟨"Feederlight", "countsAsServed", "(I)Z"⟩, prog_1_method_43_code, 2, (Option.some Jvm.ClassFile.FieldType.boolean), [], 1, 1, 21, false)
def fm_m44 : fm_MR := (⟨"Feederlight", "workOutOwnCurrents", "()V"⟩, prog_1_method_44_code, 2, (Option.none : Option Jvm.ClassFile.FieldType), [], 0, 2, 45, false)
def fm_m45 : fm_MR := (⟨"Feederlight", "workOutFlows", "()V"⟩, prog_1_method_45_code, 1, (Option.none : Option Jvm.ClassFile.FieldType), [], 0, 3, 68, false)
def fm_m46 : fm_MR := (⟨"Feederlight", "workOutFlowsWith", "(I)V"⟩, prog_1_method_46_code, 2, (Option.none : Option Jvm.ClassFile.FieldType), [], 1, 2, 47, false)
def fm_m47 : fm_MR := (⟨"Feederlight", "staysWithinLimitsWith", "(I)Z"⟩, prog_1_method_47_code, 2, (Option.some Jvm.ClassFile.FieldType.boolean), [], 1, 3, 68, false)
def fm_m48 : fm_MR := (⟨"Feederlight", "letMinutePass", "()I"⟩, prog_1_method_48_code, 2, (Option.some Jvm.ClassFile.FieldType.int), [], 0, 5, 113, false)
def fm_m49 : fm_MR := (⟨"Feederlight", "serveByTurn", "()V"⟩, prog_1_method_49_code, 5, (Option.none : Option Jvm.ClassFile.FieldType), [], 0, 4, 89, false)
def fm_m50 : fm_MR := (⟨"Feederlight", "countMinute", "()V"⟩, prog_1_method_50_code, 3, (Option.none : Option Jvm.ClassFile.FieldType), [], 0, 1, 21, false)
def fm_m51 : fm_MR := (⟨"Feederlight", "heatFuses", "()I"⟩, prog_1_method_51_code, 3, (Option.some Jvm.ClassFile.FieldType.int), [], 0, 2, 43, false)
def fm_m52 : fm_MR := (⟨"Feederlight", "voltageAlongWay", "(I)I"⟩, prog_1_method_52_code, 5, (Option.some Jvm.ClassFile.FieldType.int), [], 1, 4, 90, false)
def fm_m53 : fm_MR := (⟨"Feederlight", "flowFoundAlone", "(I)I"⟩, prog_1_method_53_code, 4, (Option.some Jvm.ClassFile.FieldType.int), [], 1, 3, 67, false)
def fm_m54 : fm_MR := (⟨"Feederlight", "netCurrent", "(I)I"⟩, prog_1_method_54_code, 3, (Option.some Jvm.ClassFile.FieldType.int), [], 1, 2, 45, false)
def fm_m55 : fm_MR := (⟨"Feederlight", "voltagesAgree", "()Z"⟩, prog_1_method_55_code, 2, (Option.some Jvm.ClassFile.FieldType.boolean), [], 0, 5, 114, false)
def fm_m56 : fm_MR := (⟨"Feederlight", "chargersToServe", "()I"⟩, prog_1_method_56_code, 1, (Option.some Jvm.ClassFile.FieldType.int), [], 0, 1, 23, false)
def fm_m57 : fm_MR := (⟨"Feederlight", "mostFromLargerSets", "()I"⟩, prog_1_method_57_code, 5, (Option.some Jvm.ClassFile.FieldType.int), [], 0, 4, 89, false)
def fm_m58 : fm_MR := (⟨"Feederlight", "mostOfAllSets", "()I"⟩, prog_1_method_58_code, 5, (Option.some Jvm.ClassFile.FieldType.int), [], 0, 4, 89, false)
def fm_m59 : fm_MR := (⟨"Feederlight", "isIn", "(II)Z"⟩, prog_1_method_59_code, 2, (Option.some Jvm.ClassFile.FieldType.boolean), [], 2, 0, 0, false)
def fm_m60 : fm_MR := (⟨"Feederlight", "drop", "(II)I"⟩, prog_1_method_60_code, 2, (Option.some Jvm.ClassFile.FieldType.int), [], 2, 0, 0, false)
def fm_m61 : fm_MR := (⟨"FeederlightModel", "<init>", "()V"⟩, prog_8_method_1_code, 1, (Option.none : Option Jvm.ClassFile.FieldType), [], 0, 1, 20, false)
def fm_m62 : fm_MR := (⟨"FeederlightModel", "thrown", "()I"⟩, prog_8_method_2_code, 1, (Option.some Jvm.ClassFile.FieldType.int), [], 0, 0, 0, false)
def fm_m63 : fm_MR := (⟨"FeederlightModel", "isIn", "(III)Z"⟩, prog_8_method_3_code, 3, (Option.some Jvm.ClassFile.FieldType.boolean), [], 3, 0, 0, false)
def fm_m64 : fm_MR := (⟨"FeederlightModel", "isThrown", "(ZI)Z"⟩, prog_8_method_4_code, 3, (Option.some Jvm.ClassFile.FieldType.boolean), [], 2, 0, 0, false)
def fm_m65 : fm_MR := (⟨"FeederlightModel", "isNone", "(I)Z"⟩, prog_8_method_5_code, 2, (Option.some Jvm.ClassFile.FieldType.boolean), [], 1, 1, 22, false)
def fm_m66 : fm_MR := (⟨"FeederlightModel", "addNode", "(III)I"⟩, prog_8_method_6_code, 4, (Option.some Jvm.ClassFile.FieldType.int), [], 3, 2, 43, false)
def fm_m67 : fm_MR := (⟨"FeederlightModel", "addTie", "(III)I"⟩, prog_8_method_7_code, 4, (Option.some Jvm.ClassFile.FieldType.int), [], 3, 1, 22, false)
def fm_m68 : fm_MR := (⟨"FeederlightModel", "setBase", "(I)I"⟩, prog_8_method_8_code, 3, (Option.some Jvm.ClassFile.FieldType.int), [], 1, 1, 22, false)
def fm_m69 : fm_MR := (⟨"FeederlightModel", "setLoad", "(II)I"⟩, prog_8_method_9_code, 4, (Option.some Jvm.ClassFile.FieldType.int), [], 2, 2, 43, false)
def fm_m70 : fm_MR := (⟨"FeederlightModel", "setCharger", "(II)I"⟩, prog_8_method_10_code, 3, (Option.some Jvm.ClassFile.FieldType.int), [], 2, 2, 43, false)
def fm_m71 : fm_MR := (⟨"FeederlightModel", "setSun", "(I)I"⟩, prog_8_method_11_code, 3, (Option.some Jvm.ClassFile.FieldType.int), [], 1, 1, 22, false)
def fm_m72 : fm_MR := (⟨"FeederlightModel", "setRoof", "(II)I"⟩, prog_8_method_12_code, 4, (Option.some Jvm.ClassFile.FieldType.int), [], 2, 2, 43, false)
def fm_m73 : fm_MR := (⟨"FeederlightModel", "adds", "(IZII)I"⟩, prog_8_method_13_code, 5, (Option.some Jvm.ClassFile.FieldType.int), [], 4, 2, 43, false)
def fm_m74 : fm_MR := (⟨"FeederlightModel", "capRoof", "(II)I"⟩, prog_8_method_14_code, 3, (Option.some Jvm.ClassFile.FieldType.int), [], 2, 3, 67, false)
def fm_m75 : fm_MR := (⟨"FeederlightModel", "shadeRoof", "(II)I"⟩, prog_8_method_15_code, 3, (Option.some Jvm.ClassFile.FieldType.int), [], 2, 3, 67, false)
def fm_m76 : fm_MR := (⟨"FeederlightModel", "curve", "(II)I"⟩, prog_8_method_16_code, 7, (Option.some Jvm.ClassFile.FieldType.int), [], 2, 1, 21, false)
def fm_m77 : fm_MR := (⟨"FeederlightModel", "roofAt", "(II)I"⟩, prog_8_method_17_code, 3, (Option.some Jvm.ClassFile.FieldType.int), [], 2, 2, 47, false)
def fm_m78 : fm_MR := (⟨"FeederlightModel", "feeds", "(IIII)V"⟩, prog_8_method_18_code, 5, (Option.none : Option Jvm.ClassFile.FieldType), [], 4, 0, 0, false)
def fm_m79 : fm_MR := (⟨"FeederlightModel", "spreads", "()V"⟩, prog_8_method_19_code, 4, (Option.none : Option Jvm.ClassFile.FieldType), [], 0, 1, 24, false)
def fm_m80 : fm_MR := (⟨"FeederlightModel", "nets", "()V"⟩, prog_8_method_20_code, 3, (Option.none : Option Jvm.ClassFile.FieldType), [], 0, 2, 47, false)
def fm_m81 : fm_MR := (⟨"FeederlightModel", "flows", "()V"⟩, prog_8_method_21_code, 4, (Option.none : Option Jvm.ClassFile.FieldType), [], 0, 2, 47, false)
def fm_m82 : fm_MR := (⟨"FeederlightModel", "keeps", "()Z"⟩, prog_8_method_22_code, 3, (Option.some Jvm.ClassFile.FieldType.boolean), [], 0, 3, 70, false)
def fm_m83 : fm_MR := (⟨"FeederlightModel", "lays", "()V"⟩, prog_8_method_23_code, 2, (Option.none : Option Jvm.ClassFile.FieldType), [], 0, 3, 70, false)
def fm_m84 : fm_MR := (⟨"FeederlightModel", "turns", "()I"⟩, prog_8_method_24_code, 4, (Option.some Jvm.ClassFile.FieldType.int), [], 0, 0, 0, false)
def fm_m85 : fm_MR := (⟨"FeederlightModel", "passes", "()I"⟩, prog_8_method_25_code, 6, (Option.some Jvm.ClassFile.FieldType.int), [], 0, 4, 92, false)
def fm_m86 : fm_MR := (⟨"FeederlightModel", "minute", "()I"⟩, prog_8_method_26_code, 1, (Option.some Jvm.ClassFile.FieldType.int), [], 0, 5, 117, false)
def fm_m87 : fm_MR := (⟨"FeederlightModel", "pass", "(I)I"⟩, prog_8_method_27_code, 4, (Option.some Jvm.ClassFile.FieldType.int), [], 1, 5, 117, false)
def fm_m88 : fm_MR := (⟨"FeederlightModel", "replaceFuse", "(I)I"⟩, prog_8_method_28_code, 2, (Option.some Jvm.ClassFile.FieldType.int), [], 1, 4, 91, false)
def fm_m89 : fm_MR := (⟨"FeederlightModel", "fed", "()I"⟩, prog_8_method_29_code, 3, (Option.some Jvm.ClassFile.FieldType.int), [], 0, 3, 69, false)
def fm_m90 : fm_MR := (⟨"FeederlightModel", "nodes", "()I"⟩, prog_8_method_30_code, 1, (Option.some Jvm.ClassFile.FieldType.int), [], 0, 0, 0, false)
def fm_m91 : fm_MR := (⟨"FeederlightModel", "isFed", "(I)Z"⟩, prog_8_method_31_code, 2, (Option.some Jvm.ClassFile.FieldType.boolean), [], 1, 3, 69, false)
def fm_m92 : fm_MR := (⟨"FeederlightModel", "isNotFed", "(IZ)Z"⟩, prog_8_method_32_code, 3, (Option.some Jvm.ClassFile.FieldType.boolean), [], 2, 4, 91, false)
def fm_m93 : fm_MR := (⟨"FeederlightModel", "feeder", "(I)I"⟩, prog_8_method_33_code, 2, (Option.some Jvm.ClassFile.FieldType.int), [], 1, 5, 113, false)
def fm_m94 : fm_MR := (⟨"FeederlightModel", "isClosed", "(I)Z"⟩, prog_8_method_34_code, 2, (Option.some Jvm.ClassFile.FieldType.boolean), [], 1, 3, 69, false)
def fm_m95 : fm_MR := (⟨"FeederlightModel", "flow", "(I)I"⟩, prog_8_method_35_code, 2, (Option.some Jvm.ClassFile.FieldType.int), [], 1, 5, 113, false)
def fm_m96 : fm_MR := (⟨"FeederlightModel", "voltage", "(I)I"⟩, prog_8_method_36_code, 2, (Option.some Jvm.ClassFile.FieldType.int), [], 1, 5, 113, false)
def fm_m97 : fm_MR := (⟨"FeederlightModel", "voltageByWay", "(I)I"⟩, prog_8_method_37_code, 2, (Option.some Jvm.ClassFile.FieldType.int), [], 1, 6, 134, false)
def fm_m98 : fm_MR := (⟨"FeederlightModel", "lowest", "()I"⟩, prog_8_method_38_code, 3, (Option.some Jvm.ClassFile.FieldType.int), [], 0, 4, 91, false)
def fm_m99 : fm_MR := (⟨"FeederlightModel", "keepsLimits", "()Z"⟩, prog_8_method_39_code, 1, (Option.some Jvm.ClassFile.FieldType.boolean), [], 0, 4, 92, false)
def fm_m100 : fm_MR := (⟨"FeederlightModel", "isServed", "(I)Z"⟩, prog_8_method_40_code, 2, (Option.some Jvm.ClassFile.FieldType.boolean), [], 1, 4, 91, false)
def fm_m101 : fm_MR := (⟨"FeederlightModel", "leftOut", "(I)I"⟩, prog_8_method_41_code, 2, (Option.some Jvm.ClassFile.FieldType.int), [], 1, 2, 43, false)
def fm_m102 : fm_MR := (⟨"FeederlightModel", "turn", "(I)I"⟩, prog_8_method_42_code, 3, (Option.some Jvm.ClassFile.FieldType.int), [], 1, 1, 23, false)
def fm_m103 : fm_MR := (⟨"FeederlightModel", "most", "()I"⟩, prog_8_method_43_code, 5, (Option.some Jvm.ClassFile.FieldType.int), [], 0, 4, 92, false)
def fm_m104 : fm_MR := (⟨"FeederlightModel", "mostServed", "()I"⟩, prog_8_method_44_code, 2, (Option.some Jvm.ClassFile.FieldType.int), [], 0, 5, 116, false)
def fm_m105 : fm_MR := (⟨"FeederlightModel", "mostByAll", "()I"⟩, prog_8_method_45_code, 1, (Option.some Jvm.ClassFile.FieldType.int), [], 0, 6, 137, false)
def fm_m106 : fm_MR := (⟨"FeederlightModel", "isNoFuse", "(I)Z"⟩, prog_8_method_46_code, 2, (Option.some Jvm.ClassFile.FieldType.boolean), [], 1, 2, 43, false)
def fm_m107 : fm_MR := (⟨"FeederlightModel", "heat", "(I)I"⟩, prog_8_method_47_code, 2, (Option.some Jvm.ClassFile.FieldType.int), [], 1, 3, 64, false)
def fm_m108 : fm_MR := (⟨"FeederlightModel", "isBlown", "(I)Z"⟩, prog_8_method_48_code, 2, (Option.some Jvm.ClassFile.FieldType.boolean), [], 1, 3, 64, false)
def fm_m109 : fm_MR := (⟨"FeederlightModel", "minutes", "()I"⟩, prog_8_method_49_code, 1, (Option.some Jvm.ClassFile.FieldType.int), [], 0, 0, 0, false)
def fm_m110 : fm_MR := (⟨"FeederlightModel", "charged", "()J"⟩, prog_8_method_50_code, 1, (Option.some Jvm.ClassFile.FieldType.long), [], 0, 0, 0, false)
def fm_m111 : fm_MR := (⟨"FeederlightModel", "fedShare", "()F"⟩, prog_8_method_51_code, 1, (Option.some Jvm.ClassFile.FieldType.float), [], 0, 4, 91, false)
def fm_m112 : fm_MR := (⟨"FeederlightModel", "meanVoltage", "()D"⟩, prog_8_method_52_code, 4, (Option.some Jvm.ClassFile.FieldType.double), [], 0, 4, 91, false)
def fm_m113 : fm_MR := (⟨"FeederlightModel", "meanLeftOut", "()D"⟩, prog_8_method_53_code, 4, (Option.some Jvm.ClassFile.FieldType.double), [], 0, 1, 22, false)
def fm_m114 : fm_MR := (⟨"FeederlightModel", "isSound", "()Z"⟩, prog_8_method_54_code, 1, (Option.some Jvm.ClassFile.FieldType.boolean), [], 0, 0, 0, false)
def fm_m115 : fm_MR := (⟨"Feederlight$Chargers", "<init>", "()V"⟩, prog_2_method_1_code, 1, (Option.none : Option Jvm.ClassFile.FieldType), [], 0, 1, 20, false)
def fm_m116 : fm_MR := (⟨"Feederlight$Chargers", "lineUp", "(I)V"⟩, prog_2_method_2_code, 3, (Option.none : Option Jvm.ClassFile.FieldType), [], 1, 1, 22, false)
def fm_m117 : fm_MR := (⟨"Feederlight$Chargers", "enterLine", "(I)V"⟩, prog_2_method_3_code, 3, (Option.none : Option Jvm.ClassFile.FieldType), [], 1, 0, 0, false)
def fm_m118 : fm_MR := (⟨"Feederlight$Chargers", "setAbove0", "(I)I"⟩, prog_2_method_4_code, 4, (Option.some Jvm.ClassFile.FieldType.int), [], 1, 0, 0, false)
def fm_m119 : fm_MR := (⟨"Feederlight$Feeding", "<init>", "()V"⟩, prog_3_method_1_code, 1, (Option.none : Option Jvm.ClassFile.FieldType), [], 0, 2, 40, false)
def fm_m120 : fm_MR := (⟨"Feederlight$Feeding", "workOut", "()V"⟩, prog_3_method_2_code, 4, (Option.none : Option Jvm.ClassFile.FieldType), [], 0, 4, 90, false)
def fm_m121 : fm_MR := (⟨"Feederlight$Feeding", "startAtTransformer", "()V"⟩, prog_3_method_3_code, 2, (Option.none : Option Jvm.ClassFile.FieldType), [], 0, 0, 0, false)
def fm_m122 : fm_MR := (⟨"Feederlight$Feeding", "spreadOverCables", "(I)V"⟩, prog_3_method_4_code, 3, (Option.none : Option Jvm.ClassFile.FieldType), [], 1, 3, 68, false)
def fm_m123 : fm_MR := (⟨"Feederlight$Feeding", "spreadFrom", "(I)V"⟩, prog_3_method_5_code, 3, (Option.none : Option Jvm.ClassFile.FieldType), [], 1, 2, 46, false)
def fm_m124 : fm_MR := (⟨"Feederlight$Feeding", "feedOverCable", "(III)V"⟩, prog_3_method_6_code, 4, (Option.none : Option Jvm.ClassFile.FieldType), [], 3, 1, 23, false)
def fm_m125 : fm_MR := (⟨"Feederlight$Feeding", "tieThatCanFeed", "()I"⟩, prog_3_method_7_code, 2, (Option.some Jvm.ClassFile.FieldType.int), [], 0, 0, 0, false)
def fm_m126 : fm_MR := (⟨"Feederlight$Feeding", "close", "(I)V"⟩, prog_3_method_8_code, 4, (Option.none : Option Jvm.ClassFile.FieldType), [], 1, 1, 23, false)
def fm_m127 : fm_MR := (⟨"Feederlight$Feeding", "feed", "(III)V"⟩, prog_3_method_9_code, 4, (Option.none : Option Jvm.ClassFile.FieldType), [], 3, 0, 0, false)
def fm_m128 : fm_MR := (⟨"Feederlight$Feeding", "fedSet", "()I"⟩, prog_3_method_10_code, 3, (Option.some Jvm.ClassFile.FieldType.int), [], 0, 0, 0, false)
def fm_m129 : fm_MR := (⟨"Feederlight$Feeding", "hasOnWay", "(II)Z"⟩, prog_3_method_11_code, 5, (Option.some Jvm.ClassFile.FieldType.boolean), [], 2, 0, 0, false)
def fm_m130 : fm_MR := (⟨"Feederlight$Flows", "<init>", "()V"⟩, prog_4_method_1_code, 1, (Option.none : Option Jvm.ClassFile.FieldType), [], 0, 3, 60, false)
def fm_m131 : fm_MR := (⟨"Feederlight$Flows", "workOut", "([I[III)V"⟩, prog_4_method_2_code, 7, (Option.none : Option Jvm.ClassFile.FieldType), [], 4, 1, 21, false)
def fm_m132 : fm_MR := (⟨"Feederlight$Flows", "carriedTo", "(I)I"⟩, prog_4_method_3_code, 2, (Option.some Jvm.ClassFile.FieldType.int), [], 1, 1, 20, false)
def fm_m133 : fm_MR := (⟨"Feederlight$Flows", "areWithinLimits", "()Z"⟩, prog_4_method_4_code, 4, (Option.some Jvm.ClassFile.FieldType.boolean), [], 0, 2, 41, false)
def fm_m134 : fm_MR := (⟨"Feederlight$Grid", "<init>", "()V"⟩, prog_5_method_1_code, 1, (Option.none : Option Jvm.ClassFile.FieldType), [], 0, 1, 20, false)
def fm_m135 : fm_MR := (⟨"Feederlight$Grid", "putNode", "(III)I"⟩, prog_5_method_2_code, 5, (Option.some Jvm.ClassFile.FieldType.int), [], 3, 0, 0, false)
def fm_m136 : fm_MR := (⟨"Feederlight$Grid", "putTie", "(III)I"⟩, prog_5_method_3_code, 5, (Option.some Jvm.ClassFile.FieldType.int), [], 3, 0, 0, false)
def fm_m137 : fm_MR := (⟨"Feederlight$Grid", "heatFuse", "(II)Z"⟩, prog_5_method_4_code, 3, (Option.some Jvm.ClassFile.FieldType.boolean), [], 2, 1, 21, false)
def fm_m138 : fm_MR := (⟨"Feederlight$Roof", "<init>", "()V"⟩, prog_6_method_1_code, 1, (Option.none : Option Jvm.ClassFile.FieldType), [], 0, 1, 20, false)
def fm_m139 : fm_MR := (⟨"Feederlight$Roof", "startWith", "(I)V"⟩, prog_6_method_2_code, 2, (Option.none : Option Jvm.ClassFile.FieldType), [], 1, 0, 0, false)
def fm_m140 : fm_MR := (⟨"Feederlight$Roof", "putLayer", "(ZI)I"⟩, prog_6_method_3_code, 3, (Option.some Jvm.ClassFile.FieldType.int), [], 2, 0, 0, false)
def fm_m141 : fm_MR := (⟨"Feederlight$Roof", "currentFor", "(I)I"⟩, prog_6_method_4_code, 5, (Option.some Jvm.ClassFile.FieldType.int), [], 1, 1, 21, false)
def fm_m142 : fm_MR := (⟨"FeederlightLaw", "addNode", "(LFeederlight;III[J)I"⟩, method_3_code, 6, (Option.some Jvm.ClassFile.FieldType.int), [((0 : Nat), (12 : Nat), (15 : Nat), (13 : Nat)), ((0 : Nat), (12 : Nat), (19 : Nat), (15 : Nat)), ((0 : Nat), (12 : Nat), (23 : Nat), (17 : Nat))], 5, 8, 137, false)
def fm_m143 : fm_MR := (⟨"FeederlightLaw", "addTie", "(LFeederlight;III[J)I"⟩, method_4_code, 6, (Option.some Jvm.ClassFile.FieldType.int), [((0 : Nat), (12 : Nat), (15 : Nat), (13 : Nat)), ((0 : Nat), (12 : Nat), (19 : Nat), (15 : Nat)), ((0 : Nat), (12 : Nat), (23 : Nat), (17 : Nat))], 5, 8, 137, false)
def fm_m144 : fm_MR := (⟨"FeederlightLaw", "setBase", "(LFeederlight;I[J)I"⟩, method_5_code, 4, (Option.some Jvm.ClassFile.FieldType.int), [((0 : Nat), (9 : Nat), (12 : Nat), (15 : Nat))], 3, 8, 135, false)
def fm_m145 : fm_MR := (⟨"FeederlightLaw", "setLoad", "(LFeederlight;II[J)I"⟩, method_6_code, 5, (Option.some Jvm.ClassFile.FieldType.int), [((0 : Nat), (10 : Nat), (13 : Nat), (13 : Nat)), ((0 : Nat), (10 : Nat), (17 : Nat), (15 : Nat))], 4, 8, 136, false)
def fm_m146 : fm_MR := (⟨"FeederlightLaw", "setCharger", "(LFeederlight;II[J)I"⟩, method_7_code, 5, (Option.some Jvm.ClassFile.FieldType.int), [((0 : Nat), (10 : Nat), (13 : Nat), (13 : Nat)), ((0 : Nat), (10 : Nat), (17 : Nat), (15 : Nat))], 4, 8, 135, false)
def fm_m147 : fm_MR := (⟨"FeederlightLaw", "setSun", "(LFeederlight;I[J)I"⟩, method_8_code, 4, (Option.some Jvm.ClassFile.FieldType.int), [((0 : Nat), (9 : Nat), (12 : Nat), (15 : Nat))], 3, 8, 135, false)
def fm_m148 : fm_MR := (⟨"FeederlightLaw", "setRoof", "(LFeederlight;II[J)I"⟩, method_9_code, 5, (Option.some Jvm.ClassFile.FieldType.int), [((0 : Nat), (10 : Nat), (13 : Nat), (13 : Nat)), ((0 : Nat), (10 : Nat), (17 : Nat), (15 : Nat))], 4, 8, 136, false)
def fm_m149 : fm_MR := (⟨"FeederlightLaw", "capRoof", "(LFeederlight;II[J)I"⟩, method_10_code, 5, (Option.some Jvm.ClassFile.FieldType.int), [((0 : Nat), (10 : Nat), (13 : Nat), (13 : Nat)), ((0 : Nat), (10 : Nat), (17 : Nat), (15 : Nat)), ((0 : Nat), (10 : Nat), (21 : Nat), (17 : Nat))], 4, 8, 135, false)
def fm_m150 : fm_MR := (⟨"FeederlightLaw", "shadeRoof", "(LFeederlight;II[J)I"⟩, method_11_code, 5, (Option.some Jvm.ClassFile.FieldType.int), [((0 : Nat), (10 : Nat), (13 : Nat), (13 : Nat)), ((0 : Nat), (10 : Nat), (17 : Nat), (15 : Nat)), ((0 : Nat), (10 : Nat), (21 : Nat), (17 : Nat))], 4, 8, 135, false)
def fm_m151 : fm_MR := (⟨"FeederlightLaw", "roofAt", "(LFeederlight;II[J)I"⟩, method_12_code, 5, (Option.some Jvm.ClassFile.FieldType.int), [((0 : Nat), (10 : Nat), (13 : Nat), (13 : Nat)), ((0 : Nat), (10 : Nat), (17 : Nat), (15 : Nat))], 4, 8, 135, false)
def fm_m152 : fm_MR := (⟨"FeederlightLaw", "pass", "(LFeederlight;I[J)I"⟩, method_13_code, 4, (Option.some Jvm.ClassFile.FieldType.int), [((0 : Nat), (9 : Nat), (12 : Nat), (15 : Nat))], 3, 8, 157, false)
def fm_m153 : fm_MR := (⟨"FeederlightLaw", "replaceFuse", "(LFeederlight;I[J)I"⟩, method_14_code, 4, (Option.some Jvm.ClassFile.FieldType.int), [((0 : Nat), (9 : Nat), (12 : Nat), (13 : Nat)), ((0 : Nat), (9 : Nat), (15 : Nat), (17 : Nat))], 3, 8, 134, false)
def fm_m154 : fm_MR := (⟨"FeederlightLaw", "isFed", "(LFeederlight;I[J)I"⟩, method_15_code, 4, (Option.some Jvm.ClassFile.FieldType.int), [((0 : Nat), (16 : Nat), (19 : Nat), (13 : Nat))], 3, 8, 132, false)
def fm_m155 : fm_MR := (⟨"FeederlightLaw", "feeder", "(LFeederlight;I[J)I"⟩, method_16_code, 4, (Option.some Jvm.ClassFile.FieldType.int), [((0 : Nat), (9 : Nat), (12 : Nat), (13 : Nat)), ((0 : Nat), (9 : Nat), (15 : Nat), (61 : Nat))], 3, 9, 153, false)
def fm_m156 : fm_MR := (⟨"FeederlightLaw", "isClosed", "(LFeederlight;I[J)I"⟩, method_17_code, 4, (Option.some Jvm.ClassFile.FieldType.int), [((0 : Nat), (16 : Nat), (19 : Nat), (61 : Nat))], 3, 7, 111, false)
def fm_m157 : fm_MR := (⟨"FeederlightLaw", "flow", "(LFeederlight;I[J)I"⟩, method_18_code, 4, (Option.some Jvm.ClassFile.FieldType.int), [((0 : Nat), (9 : Nat), (12 : Nat), (13 : Nat)), ((0 : Nat), (9 : Nat), (15 : Nat), (61 : Nat))], 3, 9, 153, false)
def fm_m158 : fm_MR := (⟨"FeederlightLaw", "voltage", "(LFeederlight;I[J)I"⟩, method_19_code, 4, (Option.some Jvm.ClassFile.FieldType.int), [((0 : Nat), (9 : Nat), (12 : Nat), (13 : Nat)), ((0 : Nat), (9 : Nat), (15 : Nat), (61 : Nat))], 3, 8, 132, false)
def fm_m159 : fm_MR := (⟨"FeederlightLaw", "voltageByWay", "(LFeederlight;I[J)I"⟩, method_20_code, 4, (Option.some Jvm.ClassFile.FieldType.int), [((0 : Nat), (9 : Nat), (12 : Nat), (13 : Nat)), ((0 : Nat), (9 : Nat), (15 : Nat), (61 : Nat))], 3, 8, 135, false)
def fm_m160 : fm_MR := (⟨"FeederlightLaw", "isServed", "(LFeederlight;I[J)I"⟩, method_21_code, 4, (Option.some Jvm.ClassFile.FieldType.int), [((0 : Nat), (16 : Nat), (19 : Nat), (13 : Nat))], 3, 8, 132, false)
def fm_m161 : fm_MR := (⟨"FeederlightLaw", "leftOut", "(LFeederlight;I[J)I"⟩, method_22_code, 4, (Option.some Jvm.ClassFile.FieldType.int), [((0 : Nat), (9 : Nat), (12 : Nat), (13 : Nat))], 3, 8, 132, false)
def fm_m162 : fm_MR := (⟨"FeederlightLaw", "turn", "(LFeederlight;I[J)I"⟩, method_23_code, 4, (Option.some Jvm.ClassFile.FieldType.int), [((0 : Nat), (9 : Nat), (12 : Nat), (61 : Nat))], 3, 7, 111, false)
def fm_m163 : fm_MR := (⟨"FeederlightLaw", "mostServed", "(LFeederlight;[J)I"⟩, method_24_code, 3, (Option.some Jvm.ClassFile.FieldType.int), [((0 : Nat), (8 : Nat), (11 : Nat), (61 : Nat))], 2, 7, 134, false)
def fm_m164 : fm_MR := (⟨"FeederlightLaw", "mostByAll", "(LFeederlight;[J)I"⟩, method_25_code, 3, (Option.some Jvm.ClassFile.FieldType.int), [((0 : Nat), (8 : Nat), (11 : Nat), (61 : Nat))], 2, 7, 134, false)
def fm_m165 : fm_MR := (⟨"FeederlightLaw", "heat", "(LFeederlight;I[J)I"⟩, method_26_code, 4, (Option.some Jvm.ClassFile.FieldType.int), [((0 : Nat), (9 : Nat), (12 : Nat), (13 : Nat)), ((0 : Nat), (9 : Nat), (15 : Nat), (61 : Nat))], 3, 8, 132, false)
def fm_m166 : fm_MR := (⟨"FeederlightLaw", "isBlown", "(LFeederlight;I[J)I"⟩, method_27_code, 4, (Option.some Jvm.ClassFile.FieldType.int), [((0 : Nat), (16 : Nat), (19 : Nat), (13 : Nat)), ((0 : Nat), (16 : Nat), (22 : Nat), (61 : Nat))], 3, 8, 132, false)
def fm_m167 : fm_MR := (⟨"FeederlightLaw", "meanLeftOut", "(LFeederlight;[D)I"⟩, method_28_code, 3, (Option.some Jvm.ClassFile.FieldType.int), [((0 : Nat), (7 : Nat), (10 : Nat), (101 : Nat))], 2, 7, 113, false)
def fm_m168 : fm_MR := (⟨"java/lang/Integer", "bitCount", "(I)I"⟩, prog_16_method_49_code, 1, (Option.some Jvm.ClassFile.FieldType.int), [], 1, 0, 0, false)
def fm_m169 : fm_MR := (⟨"java/lang/Math", "abs", "(I)I"⟩, prog_17_method_59_code, 1, (Option.some Jvm.ClassFile.FieldType.int), [], 1, 0, 0, false)
def fm_m170 : fm_MR := (⟨"java/lang/Math", "max", "(II)I"⟩, prog_17_method_65_code, 2, (Option.some Jvm.ClassFile.FieldType.int), [], 2, 0, 0, false)
def fm_m171 : fm_MR := (⟨"java/lang/Math", "min", "(II)I"⟩, prog_17_method_69_code, 2, (Option.some Jvm.ClassFile.FieldType.int), [], 2, 0, 0, false)
def fm_ms : List fm_MR := [fm_m0, fm_m1, fm_m2, fm_m3, fm_m4, fm_m5, fm_m6, fm_m7, fm_m8, fm_m9, fm_m10, fm_m11, fm_m12, fm_m13, fm_m14, fm_m15, fm_m16, fm_m17, fm_m18, fm_m19, fm_m20, fm_m21, fm_m22, fm_m23, fm_m24, fm_m25, fm_m26, fm_m27, fm_m28, fm_m29, fm_m30, fm_m31, fm_m32, fm_m33, fm_m34, fm_m35, fm_m36, fm_m37, fm_m38, fm_m39, fm_m40, fm_m41, fm_m42, fm_m43, fm_m44, fm_m45, fm_m46, fm_m47, fm_m48, fm_m49, fm_m50, fm_m51, fm_m52, fm_m53, fm_m54, fm_m55, fm_m56, fm_m57, fm_m58, fm_m59, fm_m60, fm_m61, fm_m62, fm_m63, fm_m64, fm_m65, fm_m66, fm_m67, fm_m68, fm_m69, fm_m70, fm_m71, fm_m72, fm_m73, fm_m74, fm_m75, fm_m76, fm_m77, fm_m78, fm_m79, fm_m80, fm_m81, fm_m82, fm_m83, fm_m84, fm_m85, fm_m86, fm_m87, fm_m88, fm_m89, fm_m90, fm_m91, fm_m92, fm_m93, fm_m94, fm_m95, fm_m96, fm_m97, fm_m98, fm_m99, fm_m100, fm_m101, fm_m102, fm_m103, fm_m104, fm_m105, fm_m106, fm_m107, fm_m108, fm_m109, fm_m110, fm_m111, fm_m112, fm_m113, fm_m114, fm_m115, fm_m116, fm_m117, fm_m118, fm_m119, fm_m120, fm_m121, fm_m122, fm_m123, fm_m124, fm_m125, fm_m126, fm_m127, fm_m128, fm_m129, fm_m130, fm_m131, fm_m132, fm_m133, fm_m134, fm_m135, fm_m136, fm_m137, fm_m138, fm_m139, fm_m140, fm_m141, fm_m142, fm_m143, fm_m144, fm_m145, fm_m146, fm_m147, fm_m148, fm_m149, fm_m150, fm_m151, fm_m152, fm_m153, fm_m154, fm_m155, fm_m156, fm_m157, fm_m158, fm_m159, fm_m160, fm_m161, fm_m162, fm_m163, fm_m164, fm_m165, fm_m166, fm_m167, fm_m168, fm_m169, fm_m170, fm_m171]
theorem fm_mw1 : fm_cw fm_m1 ∈ lw_tbl ∧ Cond.initialized fm_m1.1.cls ∈ lw_tbl ∧ (fm_m1.1.cls ≠ "java/lang/invoke/MethodHandle" ∧ fm_m1.1.cls ≠ "java/lang/invoke/VarHandle" ∧ (parseMethodDescriptor fm_m1.1.desc).map (fun d => d.parameters.length) = some fm_m1.2.2.2.2.2.1) := ⟨List.mem_of_getElem? (i := 85) (by decide +kernel), List.mem_of_getElem? (i := 62) (by decide +kernel), by decide +kernel⟩
theorem fm_mw2 : fm_cw fm_m2 ∈ lw_tbl ∧ Cond.initialized fm_m2.1.cls ∈ lw_tbl ∧ (fm_m2.1.cls ≠ "java/lang/invoke/MethodHandle" ∧ fm_m2.1.cls ≠ "java/lang/invoke/VarHandle" ∧ (parseMethodDescriptor fm_m2.1.desc).map (fun d => d.parameters.length) = some fm_m2.2.2.2.2.2.1) := ⟨List.mem_of_getElem? (i := 569) (by decide +kernel), List.mem_of_getElem? (i := 62) (by decide +kernel), by decide +kernel⟩
theorem fm_mw3 : fm_cw fm_m3 ∈ lw_tbl ∧ Cond.initialized fm_m3.1.cls ∈ lw_tbl ∧ (fm_m3.1.cls ≠ "java/lang/invoke/MethodHandle" ∧ fm_m3.1.cls ≠ "java/lang/invoke/VarHandle" ∧ (parseMethodDescriptor fm_m3.1.desc).map (fun d => d.parameters.length) = some fm_m3.2.2.2.2.2.1) := ⟨List.mem_of_getElem? (i := 633) (by decide +kernel), List.mem_of_getElem? (i := 62) (by decide +kernel), by decide +kernel⟩
theorem fm_mw4 : fm_cw fm_m4 ∈ lw_tbl ∧ Cond.initialized fm_m4.1.cls ∈ lw_tbl ∧ (fm_m4.1.cls ≠ "java/lang/invoke/MethodHandle" ∧ fm_m4.1.cls ≠ "java/lang/invoke/VarHandle" ∧ (parseMethodDescriptor fm_m4.1.desc).map (fun d => d.parameters.length) = some fm_m4.2.2.2.2.2.1) := ⟨List.mem_of_getElem? (i := 646) (by decide +kernel), List.mem_of_getElem? (i := 62) (by decide +kernel), by decide +kernel⟩
theorem fm_mw5 : fm_cw fm_m5 ∈ lw_tbl ∧ Cond.initialized fm_m5.1.cls ∈ lw_tbl ∧ (fm_m5.1.cls ≠ "java/lang/invoke/MethodHandle" ∧ fm_m5.1.cls ≠ "java/lang/invoke/VarHandle" ∧ (parseMethodDescriptor fm_m5.1.desc).map (fun d => d.parameters.length) = some fm_m5.2.2.2.2.2.1) := ⟨List.mem_of_getElem? (i := 653) (by decide +kernel), List.mem_of_getElem? (i := 62) (by decide +kernel), by decide +kernel⟩
theorem fm_mw6 : fm_cw fm_m6 ∈ lw_tbl ∧ Cond.initialized fm_m6.1.cls ∈ lw_tbl ∧ (fm_m6.1.cls ≠ "java/lang/invoke/MethodHandle" ∧ fm_m6.1.cls ≠ "java/lang/invoke/VarHandle" ∧ (parseMethodDescriptor fm_m6.1.desc).map (fun d => d.parameters.length) = some fm_m6.2.2.2.2.2.1) := ⟨List.mem_of_getElem? (i := 660) (by decide +kernel), List.mem_of_getElem? (i := 62) (by decide +kernel), by decide +kernel⟩
theorem fm_mw7 : fm_cw fm_m7 ∈ lw_tbl ∧ Cond.initialized fm_m7.1.cls ∈ lw_tbl ∧ (fm_m7.1.cls ≠ "java/lang/invoke/MethodHandle" ∧ fm_m7.1.cls ≠ "java/lang/invoke/VarHandle" ∧ (parseMethodDescriptor fm_m7.1.desc).map (fun d => d.parameters.length) = some fm_m7.2.2.2.2.2.1) := ⟨List.mem_of_getElem? (i := 667) (by decide +kernel), List.mem_of_getElem? (i := 62) (by decide +kernel), by decide +kernel⟩
theorem fm_mw8 : fm_cw fm_m8 ∈ lw_tbl ∧ Cond.initialized fm_m8.1.cls ∈ lw_tbl ∧ (fm_m8.1.cls ≠ "java/lang/invoke/MethodHandle" ∧ fm_m8.1.cls ≠ "java/lang/invoke/VarHandle" ∧ (parseMethodDescriptor fm_m8.1.desc).map (fun d => d.parameters.length) = some fm_m8.2.2.2.2.2.1) := ⟨List.mem_of_getElem? (i := 674) (by decide +kernel), List.mem_of_getElem? (i := 62) (by decide +kernel), by decide +kernel⟩
theorem fm_mw9 : fm_cw fm_m9 ∈ lw_tbl ∧ Cond.initialized fm_m9.1.cls ∈ lw_tbl ∧ (fm_m9.1.cls ≠ "java/lang/invoke/MethodHandle" ∧ fm_m9.1.cls ≠ "java/lang/invoke/VarHandle" ∧ (parseMethodDescriptor fm_m9.1.desc).map (fun d => d.parameters.length) = some fm_m9.2.2.2.2.2.1) := ⟨List.mem_of_getElem? (i := 685) (by decide +kernel), List.mem_of_getElem? (i := 62) (by decide +kernel), by decide +kernel⟩
theorem fm_mw10 : fm_cw fm_m10 ∈ lw_tbl ∧ Cond.initialized fm_m10.1.cls ∈ lw_tbl ∧ (fm_m10.1.cls ≠ "java/lang/invoke/MethodHandle" ∧ fm_m10.1.cls ≠ "java/lang/invoke/VarHandle" ∧ (parseMethodDescriptor fm_m10.1.desc).map (fun d => d.parameters.length) = some fm_m10.2.2.2.2.2.1) := ⟨List.mem_of_getElem? (i := 701) (by decide +kernel), List.mem_of_getElem? (i := 62) (by decide +kernel), by decide +kernel⟩
theorem fm_mw11 : fm_cw fm_m11 ∈ lw_tbl ∧ Cond.initialized fm_m11.1.cls ∈ lw_tbl ∧ (fm_m11.1.cls ≠ "java/lang/invoke/MethodHandle" ∧ fm_m11.1.cls ≠ "java/lang/invoke/VarHandle" ∧ (parseMethodDescriptor fm_m11.1.desc).map (fun d => d.parameters.length) = some fm_m11.2.2.2.2.2.1) := ⟨List.mem_of_getElem? (i := 708) (by decide +kernel), List.mem_of_getElem? (i := 62) (by decide +kernel), by decide +kernel⟩
theorem fm_mw12 : fm_cw fm_m12 ∈ lw_tbl ∧ Cond.initialized fm_m12.1.cls ∈ lw_tbl ∧ (fm_m12.1.cls ≠ "java/lang/invoke/MethodHandle" ∧ fm_m12.1.cls ≠ "java/lang/invoke/VarHandle" ∧ (parseMethodDescriptor fm_m12.1.desc).map (fun d => d.parameters.length) = some fm_m12.2.2.2.2.2.1) := ⟨List.mem_of_getElem? (i := 287) (by decide +kernel), List.mem_of_getElem? (i := 62) (by decide +kernel), by decide +kernel⟩
theorem fm_mw13 : fm_cw fm_m13 ∈ lw_tbl ∧ Cond.initialized fm_m13.1.cls ∈ lw_tbl ∧ (fm_m13.1.cls ≠ "java/lang/invoke/MethodHandle" ∧ fm_m13.1.cls ≠ "java/lang/invoke/VarHandle" ∧ (parseMethodDescriptor fm_m13.1.desc).map (fun d => d.parameters.length) = some fm_m13.2.2.2.2.2.1) := ⟨List.mem_of_getElem? (i := 715) (by decide +kernel), List.mem_of_getElem? (i := 62) (by decide +kernel), by decide +kernel⟩
theorem fm_mw14 : fm_cw fm_m14 ∈ lw_tbl ∧ Cond.initialized fm_m14.1.cls ∈ lw_tbl ∧ (fm_m14.1.cls ≠ "java/lang/invoke/MethodHandle" ∧ fm_m14.1.cls ≠ "java/lang/invoke/VarHandle" ∧ (parseMethodDescriptor fm_m14.1.desc).map (fun d => d.parameters.length) = some fm_m14.2.2.2.2.2.1) := ⟨List.mem_of_getElem? (i := 722) (by decide +kernel), List.mem_of_getElem? (i := 62) (by decide +kernel), by decide +kernel⟩
theorem fm_mw15 : fm_cw fm_m15 ∈ lw_tbl ∧ Cond.initialized fm_m15.1.cls ∈ lw_tbl ∧ (fm_m15.1.cls ≠ "java/lang/invoke/MethodHandle" ∧ fm_m15.1.cls ≠ "java/lang/invoke/VarHandle" ∧ (parseMethodDescriptor fm_m15.1.desc).map (fun d => d.parameters.length) = some fm_m15.2.2.2.2.2.1) := ⟨List.mem_of_getElem? (i := 406) (by decide +kernel), List.mem_of_getElem? (i := 62) (by decide +kernel), by decide +kernel⟩
theorem fm_mw16 : fm_cw fm_m16 ∈ lw_tbl ∧ Cond.initialized fm_m16.1.cls ∈ lw_tbl ∧ (fm_m16.1.cls ≠ "java/lang/invoke/MethodHandle" ∧ fm_m16.1.cls ≠ "java/lang/invoke/VarHandle" ∧ (parseMethodDescriptor fm_m16.1.desc).map (fun d => d.parameters.length) = some fm_m16.2.2.2.2.2.1) := ⟨List.mem_of_getElem? (i := 731) (by decide +kernel), List.mem_of_getElem? (i := 62) (by decide +kernel), by decide +kernel⟩
theorem fm_mw17 : fm_cw fm_m17 ∈ lw_tbl ∧ Cond.initialized fm_m17.1.cls ∈ lw_tbl ∧ (fm_m17.1.cls ≠ "java/lang/invoke/MethodHandle" ∧ fm_m17.1.cls ≠ "java/lang/invoke/VarHandle" ∧ (parseMethodDescriptor fm_m17.1.desc).map (fun d => d.parameters.length) = some fm_m17.2.2.2.2.2.1) := ⟨List.mem_of_getElem? (i := 739) (by decide +kernel), List.mem_of_getElem? (i := 62) (by decide +kernel), by decide +kernel⟩
theorem fm_mw18 : fm_cw fm_m18 ∈ lw_tbl ∧ Cond.initialized fm_m18.1.cls ∈ lw_tbl ∧ (fm_m18.1.cls ≠ "java/lang/invoke/MethodHandle" ∧ fm_m18.1.cls ≠ "java/lang/invoke/VarHandle" ∧ (parseMethodDescriptor fm_m18.1.desc).map (fun d => d.parameters.length) = some fm_m18.2.2.2.2.2.1) := ⟨List.mem_of_getElem? (i := 771) (by decide +kernel), List.mem_of_getElem? (i := 62) (by decide +kernel), by decide +kernel⟩
theorem fm_mw19 : fm_cw fm_m19 ∈ lw_tbl ∧ Cond.initialized fm_m19.1.cls ∈ lw_tbl ∧ (fm_m19.1.cls ≠ "java/lang/invoke/MethodHandle" ∧ fm_m19.1.cls ≠ "java/lang/invoke/VarHandle" ∧ (parseMethodDescriptor fm_m19.1.desc).map (fun d => d.parameters.length) = some fm_m19.2.2.2.2.2.1) := ⟨List.mem_of_getElem? (i := 779) (by decide +kernel), List.mem_of_getElem? (i := 62) (by decide +kernel), by decide +kernel⟩
theorem fm_mw20 : fm_cw fm_m20 ∈ lw_tbl ∧ Cond.initialized fm_m20.1.cls ∈ lw_tbl ∧ (fm_m20.1.cls ≠ "java/lang/invoke/MethodHandle" ∧ fm_m20.1.cls ≠ "java/lang/invoke/VarHandle" ∧ (parseMethodDescriptor fm_m20.1.desc).map (fun d => d.parameters.length) = some fm_m20.2.2.2.2.2.1) := ⟨List.mem_of_getElem? (i := 786) (by decide +kernel), List.mem_of_getElem? (i := 62) (by decide +kernel), by decide +kernel⟩
theorem fm_mw21 : fm_cw fm_m21 ∈ lw_tbl ∧ Cond.initialized fm_m21.1.cls ∈ lw_tbl ∧ (fm_m21.1.cls ≠ "java/lang/invoke/MethodHandle" ∧ fm_m21.1.cls ≠ "java/lang/invoke/VarHandle" ∧ (parseMethodDescriptor fm_m21.1.desc).map (fun d => d.parameters.length) = some fm_m21.2.2.2.2.2.1) := ⟨List.mem_of_getElem? (i := 793) (by decide +kernel), List.mem_of_getElem? (i := 62) (by decide +kernel), by decide +kernel⟩
theorem fm_mw22 : fm_cw fm_m22 ∈ lw_tbl ∧ Cond.initialized fm_m22.1.cls ∈ lw_tbl ∧ (fm_m22.1.cls ≠ "java/lang/invoke/MethodHandle" ∧ fm_m22.1.cls ≠ "java/lang/invoke/VarHandle" ∧ (parseMethodDescriptor fm_m22.1.desc).map (fun d => d.parameters.length) = some fm_m22.2.2.2.2.2.1) := ⟨List.mem_of_getElem? (i := 410) (by decide +kernel), List.mem_of_getElem? (i := 62) (by decide +kernel), by decide +kernel⟩
theorem fm_mw23 : fm_cw fm_m23 ∈ lw_tbl ∧ Cond.initialized fm_m23.1.cls ∈ lw_tbl ∧ (fm_m23.1.cls ≠ "java/lang/invoke/MethodHandle" ∧ fm_m23.1.cls ≠ "java/lang/invoke/VarHandle" ∧ (parseMethodDescriptor fm_m23.1.desc).map (fun d => d.parameters.length) = some fm_m23.2.2.2.2.2.1) := ⟨List.mem_of_getElem? (i := 418) (by decide +kernel), List.mem_of_getElem? (i := 62) (by decide +kernel), by decide +kernel⟩
theorem fm_mw24 : fm_cw fm_m24 ∈ lw_tbl ∧ Cond.initialized fm_m24.1.cls ∈ lw_tbl ∧ (fm_m24.1.cls ≠ "java/lang/invoke/MethodHandle" ∧ fm_m24.1.cls ≠ "java/lang/invoke/VarHandle" ∧ (parseMethodDescriptor fm_m24.1.desc).map (fun d => d.parameters.length) = some fm_m24.2.2.2.2.2.1) := ⟨List.mem_of_getElem? (i := 800) (by decide +kernel), List.mem_of_getElem? (i := 62) (by decide +kernel), by decide +kernel⟩
theorem fm_mw25 : fm_cw fm_m25 ∈ lw_tbl ∧ Cond.initialized fm_m25.1.cls ∈ lw_tbl ∧ (fm_m25.1.cls ≠ "java/lang/invoke/MethodHandle" ∧ fm_m25.1.cls ≠ "java/lang/invoke/VarHandle" ∧ (parseMethodDescriptor fm_m25.1.desc).map (fun d => d.parameters.length) = some fm_m25.2.2.2.2.2.1) := ⟨List.mem_of_getElem? (i := 807) (by decide +kernel), List.mem_of_getElem? (i := 62) (by decide +kernel), by decide +kernel⟩
theorem fm_mw26 : fm_cw fm_m26 ∈ lw_tbl ∧ Cond.initialized fm_m26.1.cls ∈ lw_tbl ∧ (fm_m26.1.cls ≠ "java/lang/invoke/MethodHandle" ∧ fm_m26.1.cls ≠ "java/lang/invoke/VarHandle" ∧ (parseMethodDescriptor fm_m26.1.desc).map (fun d => d.parameters.length) = some fm_m26.2.2.2.2.2.1) := ⟨List.mem_of_getElem? (i := 814) (by decide +kernel), List.mem_of_getElem? (i := 62) (by decide +kernel), by decide +kernel⟩
theorem fm_mw27 : fm_cw fm_m27 ∈ lw_tbl ∧ Cond.initialized fm_m27.1.cls ∈ lw_tbl ∧ (fm_m27.1.cls ≠ "java/lang/invoke/MethodHandle" ∧ fm_m27.1.cls ≠ "java/lang/invoke/VarHandle" ∧ (parseMethodDescriptor fm_m27.1.desc).map (fun d => d.parameters.length) = some fm_m27.2.2.2.2.2.1) := ⟨List.mem_of_getElem? (i := 822) (by decide +kernel), List.mem_of_getElem? (i := 62) (by decide +kernel), by decide +kernel⟩
theorem fm_mw28 : fm_cw fm_m28 ∈ lw_tbl ∧ Cond.initialized fm_m28.1.cls ∈ lw_tbl ∧ (fm_m28.1.cls ≠ "java/lang/invoke/MethodHandle" ∧ fm_m28.1.cls ≠ "java/lang/invoke/VarHandle" ∧ (parseMethodDescriptor fm_m28.1.desc).map (fun d => d.parameters.length) = some fm_m28.2.2.2.2.2.1) := ⟨List.mem_of_getElem? (i := 830) (by decide +kernel), List.mem_of_getElem? (i := 62) (by decide +kernel), by decide +kernel⟩
theorem fm_mw29 : fm_cw fm_m29 ∈ lw_tbl ∧ Cond.initialized fm_m29.1.cls ∈ lw_tbl ∧ (fm_m29.1.cls ≠ "java/lang/invoke/MethodHandle" ∧ fm_m29.1.cls ≠ "java/lang/invoke/VarHandle" ∧ (parseMethodDescriptor fm_m29.1.desc).map (fun d => d.parameters.length) = some fm_m29.2.2.2.2.2.1) := ⟨List.mem_of_getElem? (i := 837) (by decide +kernel), List.mem_of_getElem? (i := 62) (by decide +kernel), by decide +kernel⟩
theorem fm_mw30 : fm_cw fm_m30 ∈ lw_tbl ∧ Cond.initialized fm_m30.1.cls ∈ lw_tbl ∧ (fm_m30.1.cls ≠ "java/lang/invoke/MethodHandle" ∧ fm_m30.1.cls ≠ "java/lang/invoke/VarHandle" ∧ (parseMethodDescriptor fm_m30.1.desc).map (fun d => d.parameters.length) = some fm_m30.2.2.2.2.2.1) := ⟨List.mem_of_getElem? (i := 848) (by decide +kernel), List.mem_of_getElem? (i := 62) (by decide +kernel), by decide +kernel⟩
theorem fm_mw31 : fm_cw fm_m31 ∈ lw_tbl ∧ Cond.initialized fm_m31.1.cls ∈ lw_tbl ∧ (fm_m31.1.cls ≠ "java/lang/invoke/MethodHandle" ∧ fm_m31.1.cls ≠ "java/lang/invoke/VarHandle" ∧ (parseMethodDescriptor fm_m31.1.desc).map (fun d => d.parameters.length) = some fm_m31.2.2.2.2.2.1) := ⟨List.mem_of_getElem? (i := 422) (by decide +kernel), List.mem_of_getElem? (i := 62) (by decide +kernel), by decide +kernel⟩
theorem fm_mw32 : fm_cw fm_m32 ∈ lw_tbl ∧ Cond.initialized fm_m32.1.cls ∈ lw_tbl ∧ (fm_m32.1.cls ≠ "java/lang/invoke/MethodHandle" ∧ fm_m32.1.cls ≠ "java/lang/invoke/VarHandle" ∧ (parseMethodDescriptor fm_m32.1.desc).map (fun d => d.parameters.length) = some fm_m32.2.2.2.2.2.1) := ⟨List.mem_of_getElem? (i := 426) (by decide +kernel), List.mem_of_getElem? (i := 62) (by decide +kernel), by decide +kernel⟩
theorem fm_mw33 : fm_cw fm_m33 ∈ lw_tbl ∧ Cond.initialized fm_m33.1.cls ∈ lw_tbl ∧ (fm_m33.1.cls ≠ "java/lang/invoke/MethodHandle" ∧ fm_m33.1.cls ≠ "java/lang/invoke/VarHandle" ∧ (parseMethodDescriptor fm_m33.1.desc).map (fun d => d.parameters.length) = some fm_m33.2.2.2.2.2.1) := ⟨List.mem_of_getElem? (i := 430) (by decide +kernel), List.mem_of_getElem? (i := 62) (by decide +kernel), by decide +kernel⟩
theorem fm_mw34 : fm_cw fm_m34 ∈ lw_tbl ∧ Cond.initialized fm_m34.1.cls ∈ lw_tbl ∧ (fm_m34.1.cls ≠ "java/lang/invoke/MethodHandle" ∧ fm_m34.1.cls ≠ "java/lang/invoke/VarHandle" ∧ (parseMethodDescriptor fm_m34.1.desc).map (fun d => d.parameters.length) = some fm_m34.2.2.2.2.2.1) := ⟨List.mem_of_getElem? (i := 434) (by decide +kernel), List.mem_of_getElem? (i := 62) (by decide +kernel), by decide +kernel⟩
theorem fm_mw35 : fm_cw fm_m35 ∈ lw_tbl ∧ Cond.initialized fm_m35.1.cls ∈ lw_tbl ∧ (fm_m35.1.cls ≠ "java/lang/invoke/MethodHandle" ∧ fm_m35.1.cls ≠ "java/lang/invoke/VarHandle" ∧ (parseMethodDescriptor fm_m35.1.desc).map (fun d => d.parameters.length) = some fm_m35.2.2.2.2.2.1) := ⟨List.mem_of_getElem? (i := 869) (by decide +kernel), List.mem_of_getElem? (i := 62) (by decide +kernel), by decide +kernel⟩
theorem fm_mw36 : fm_cw fm_m36 ∈ lw_tbl ∧ Cond.initialized fm_m36.1.cls ∈ lw_tbl ∧ (fm_m36.1.cls ≠ "java/lang/invoke/MethodHandle" ∧ fm_m36.1.cls ≠ "java/lang/invoke/VarHandle" ∧ (parseMethodDescriptor fm_m36.1.desc).map (fun d => d.parameters.length) = some fm_m36.2.2.2.2.2.1) := ⟨List.mem_of_getElem? (i := 438) (by decide +kernel), List.mem_of_getElem? (i := 62) (by decide +kernel), by decide +kernel⟩
theorem fm_mw37 : fm_cw fm_m37 ∈ lw_tbl ∧ Cond.initialized fm_m37.1.cls ∈ lw_tbl ∧ (fm_m37.1.cls ≠ "java/lang/invoke/MethodHandle" ∧ fm_m37.1.cls ≠ "java/lang/invoke/VarHandle" ∧ (parseMethodDescriptor fm_m37.1.desc).map (fun d => d.parameters.length) = some fm_m37.2.2.2.2.2.1) := ⟨List.mem_of_getElem? (i := 573) (by decide +kernel), List.mem_of_getElem? (i := 62) (by decide +kernel), by decide +kernel⟩
theorem fm_mw38 : fm_cw fm_m38 ∈ lw_tbl ∧ Cond.initialized fm_m38.1.cls ∈ lw_tbl ∧ (fm_m38.1.cls ≠ "java/lang/invoke/MethodHandle" ∧ fm_m38.1.cls ≠ "java/lang/invoke/VarHandle" ∧ (parseMethodDescriptor fm_m38.1.desc).map (fun d => d.parameters.length) = some fm_m38.2.2.2.2.2.1) := ⟨List.mem_of_getElem? (i := 590) (by decide +kernel), List.mem_of_getElem? (i := 62) (by decide +kernel), by decide +kernel⟩
theorem fm_mw39 : fm_cw fm_m39 ∈ lw_tbl ∧ Cond.initialized fm_m39.1.cls ∈ lw_tbl ∧ (fm_m39.1.cls ≠ "java/lang/invoke/MethodHandle" ∧ fm_m39.1.cls ≠ "java/lang/invoke/VarHandle" ∧ (parseMethodDescriptor fm_m39.1.desc).map (fun d => d.parameters.length) = some fm_m39.2.2.2.2.2.1) := ⟨List.mem_of_getElem? (i := 689) (by decide +kernel), List.mem_of_getElem? (i := 62) (by decide +kernel), by decide +kernel⟩
theorem fm_mw40 : fm_cw fm_m40 ∈ lw_tbl ∧ Cond.initialized fm_m40.1.cls ∈ lw_tbl ∧ (fm_m40.1.cls ≠ "java/lang/invoke/MethodHandle" ∧ fm_m40.1.cls ≠ "java/lang/invoke/VarHandle" ∧ (parseMethodDescriptor fm_m40.1.desc).map (fun d => d.parameters.length) = some fm_m40.2.2.2.2.2.1) := ⟨List.mem_of_getElem? (i := 763) (by decide +kernel), List.mem_of_getElem? (i := 62) (by decide +kernel), by decide +kernel⟩
theorem fm_mw41 : fm_cw fm_m41 ∈ lw_tbl ∧ Cond.initialized fm_m41.1.cls ∈ lw_tbl ∧ (fm_m41.1.cls ≠ "java/lang/invoke/MethodHandle" ∧ fm_m41.1.cls ≠ "java/lang/invoke/VarHandle" ∧ (parseMethodDescriptor fm_m41.1.desc).map (fun d => d.parameters.length) = some fm_m41.2.2.2.2.2.1) := ⟨List.mem_of_getElem? (i := 743) (by decide +kernel), List.mem_of_getElem? (i := 62) (by decide +kernel), by decide +kernel⟩
theorem fm_mw42 : fm_cw fm_m42 ∈ lw_tbl ∧ Cond.initialized fm_m42.1.cls ∈ lw_tbl ∧ (fm_m42.1.cls ≠ "java/lang/invoke/MethodHandle" ∧ fm_m42.1.cls ≠ "java/lang/invoke/VarHandle" ∧ (parseMethodDescriptor fm_m42.1.desc).map (fun d => d.parameters.length) = some fm_m42.2.2.2.2.2.1) := ⟨List.mem_of_getElem? (i := 841) (by decide +kernel), List.mem_of_getElem? (i := 62) (by decide +kernel), by decide +kernel⟩
theorem fm_mw43 : fm_cw fm_m43 ∈ lw_tbl ∧ Cond.initialized fm_m43.1.cls ∈ lw_tbl ∧ (fm_m43.1.cls ≠ "java/lang/invoke/MethodHandle" ∧ fm_m43.1.cls ≠ "java/lang/invoke/VarHandle" ∧ (parseMethodDescriptor fm_m43.1.desc).map (fun d => d.parameters.length) = some fm_m43.2.2.2.2.2.1) := ⟨List.mem_of_getElem? (i := 462) (by decide +kernel), List.mem_of_getElem? (i := 62) (by decide +kernel), by decide +kernel⟩
theorem fm_mw44 : fm_cw fm_m44 ∈ lw_tbl ∧ Cond.initialized fm_m44.1.cls ∈ lw_tbl ∧ (fm_m44.1.cls ≠ "java/lang/invoke/MethodHandle" ∧ fm_m44.1.cls ≠ "java/lang/invoke/VarHandle" ∧ (parseMethodDescriptor fm_m44.1.desc).map (fun d => d.parameters.length) = some fm_m44.2.2.2.2.2.1) := ⟨List.mem_of_getElem? (i := 295) (by decide +kernel), List.mem_of_getElem? (i := 62) (by decide +kernel), by decide +kernel⟩
theorem fm_mw45 : fm_cw fm_m45 ∈ lw_tbl ∧ Cond.initialized fm_m45.1.cls ∈ lw_tbl ∧ (fm_m45.1.cls ≠ "java/lang/invoke/MethodHandle" ∧ fm_m45.1.cls ≠ "java/lang/invoke/VarHandle" ∧ (parseMethodDescriptor fm_m45.1.desc).map (fun d => d.parameters.length) = some fm_m45.2.2.2.2.2.1) := ⟨List.mem_of_getElem? (i := 414) (by decide +kernel), List.mem_of_getElem? (i := 62) (by decide +kernel), by decide +kernel⟩
theorem fm_mw46 : fm_cw fm_m46 ∈ lw_tbl ∧ Cond.initialized fm_m46.1.cls ∈ lw_tbl ∧ (fm_m46.1.cls ≠ "java/lang/invoke/MethodHandle" ∧ fm_m46.1.cls ≠ "java/lang/invoke/VarHandle" ∧ (parseMethodDescriptor fm_m46.1.desc).map (fun d => d.parameters.length) = some fm_m46.2.2.2.2.2.1) := ⟨List.mem_of_getElem? (i := 322) (by decide +kernel), List.mem_of_getElem? (i := 62) (by decide +kernel), by decide +kernel⟩
theorem fm_mw47 : fm_cw fm_m47 ∈ lw_tbl ∧ Cond.initialized fm_m47.1.cls ∈ lw_tbl ∧ (fm_m47.1.cls ≠ "java/lang/invoke/MethodHandle" ∧ fm_m47.1.cls ≠ "java/lang/invoke/VarHandle" ∧ (parseMethodDescriptor fm_m47.1.desc).map (fun d => d.parameters.length) = some fm_m47.2.2.2.2.2.1) := ⟨List.mem_of_getElem? (i := 318) (by decide +kernel), List.mem_of_getElem? (i := 62) (by decide +kernel), by decide +kernel⟩
theorem fm_mw48 : fm_cw fm_m48 ∈ lw_tbl ∧ Cond.initialized fm_m48.1.cls ∈ lw_tbl ∧ (fm_m48.1.cls ≠ "java/lang/invoke/MethodHandle" ∧ fm_m48.1.cls ≠ "java/lang/invoke/VarHandle" ∧ (parseMethodDescriptor fm_m48.1.desc).map (fun d => d.parameters.length) = some fm_m48.2.2.2.2.2.1) := ⟨List.mem_of_getElem? (i := 291) (by decide +kernel), List.mem_of_getElem? (i := 62) (by decide +kernel), by decide +kernel⟩
theorem fm_mw49 : fm_cw fm_m49 ∈ lw_tbl ∧ Cond.initialized fm_m49.1.cls ∈ lw_tbl ∧ (fm_m49.1.cls ≠ "java/lang/invoke/MethodHandle" ∧ fm_m49.1.cls ≠ "java/lang/invoke/VarHandle" ∧ (parseMethodDescriptor fm_m49.1.desc).map (fun d => d.parameters.length) = some fm_m49.2.2.2.2.2.1) := ⟨List.mem_of_getElem? (i := 306) (by decide +kernel), List.mem_of_getElem? (i := 62) (by decide +kernel), by decide +kernel⟩
theorem fm_mw50 : fm_cw fm_m50 ∈ lw_tbl ∧ Cond.initialized fm_m50.1.cls ∈ lw_tbl ∧ (fm_m50.1.cls ≠ "java/lang/invoke/MethodHandle" ∧ fm_m50.1.cls ≠ "java/lang/invoke/VarHandle" ∧ (parseMethodDescriptor fm_m50.1.desc).map (fun d => d.parameters.length) = some fm_m50.2.2.2.2.2.1) := ⟨List.mem_of_getElem? (i := 347) (by decide +kernel), List.mem_of_getElem? (i := 62) (by decide +kernel), by decide +kernel⟩
theorem fm_mw51 : fm_cw fm_m51 ∈ lw_tbl ∧ Cond.initialized fm_m51.1.cls ∈ lw_tbl ∧ (fm_m51.1.cls ≠ "java/lang/invoke/MethodHandle" ∧ fm_m51.1.cls ≠ "java/lang/invoke/VarHandle" ∧ (parseMethodDescriptor fm_m51.1.desc).map (fun d => d.parameters.length) = some fm_m51.2.2.2.2.2.1) := ⟨List.mem_of_getElem? (i := 352) (by decide +kernel), List.mem_of_getElem? (i := 62) (by decide +kernel), by decide +kernel⟩
theorem fm_mw52 : fm_cw fm_m52 ∈ lw_tbl ∧ Cond.initialized fm_m52.1.cls ∈ lw_tbl ∧ (fm_m52.1.cls ≠ "java/lang/invoke/MethodHandle" ∧ fm_m52.1.cls ≠ "java/lang/invoke/VarHandle" ∧ (parseMethodDescriptor fm_m52.1.desc).map (fun d => d.parameters.length) = some fm_m52.2.2.2.2.2.1) := ⟨List.mem_of_getElem? (i := 446) (by decide +kernel), List.mem_of_getElem? (i := 62) (by decide +kernel), by decide +kernel⟩
theorem fm_mw53 : fm_cw fm_m53 ∈ lw_tbl ∧ Cond.initialized fm_m53.1.cls ∈ lw_tbl ∧ (fm_m53.1.cls ≠ "java/lang/invoke/MethodHandle" ∧ fm_m53.1.cls ≠ "java/lang/invoke/VarHandle" ∧ (parseMethodDescriptor fm_m53.1.desc).map (fun d => d.parameters.length) = some fm_m53.2.2.2.2.2.1) := ⟨List.mem_of_getElem? (i := 450) (by decide +kernel), List.mem_of_getElem? (i := 62) (by decide +kernel), by decide +kernel⟩
theorem fm_mw54 : fm_cw fm_m54 ∈ lw_tbl ∧ Cond.initialized fm_m54.1.cls ∈ lw_tbl ∧ (fm_m54.1.cls ≠ "java/lang/invoke/MethodHandle" ∧ fm_m54.1.cls ≠ "java/lang/invoke/VarHandle" ∧ (parseMethodDescriptor fm_m54.1.desc).map (fun d => d.parameters.length) = some fm_m54.2.2.2.2.2.1) := ⟨List.mem_of_getElem? (i := 458) (by decide +kernel), List.mem_of_getElem? (i := 62) (by decide +kernel), by decide +kernel⟩
theorem fm_mw55 : fm_cw fm_m55 ∈ lw_tbl ∧ Cond.initialized fm_m55.1.cls ∈ lw_tbl ∧ (fm_m55.1.cls ≠ "java/lang/invoke/MethodHandle" ∧ fm_m55.1.cls ≠ "java/lang/invoke/VarHandle" ∧ (parseMethodDescriptor fm_m55.1.desc).map (fun d => d.parameters.length) = some fm_m55.2.2.2.2.2.1) := ⟨List.mem_of_getElem? (i := 442) (by decide +kernel), List.mem_of_getElem? (i := 62) (by decide +kernel), by decide +kernel⟩
theorem fm_mw56 : fm_cw fm_m56 ∈ lw_tbl ∧ Cond.initialized fm_m56.1.cls ∈ lw_tbl ∧ (fm_m56.1.cls ≠ "java/lang/invoke/MethodHandle" ∧ fm_m56.1.cls ≠ "java/lang/invoke/VarHandle" ∧ (parseMethodDescriptor fm_m56.1.desc).map (fun d => d.parameters.length) = some fm_m56.2.2.2.2.2.1) := ⟨List.mem_of_getElem? (i := 471) (by decide +kernel), List.mem_of_getElem? (i := 62) (by decide +kernel), by decide +kernel⟩
theorem fm_mw57 : fm_cw fm_m57 ∈ lw_tbl ∧ Cond.initialized fm_m57.1.cls ∈ lw_tbl ∧ (fm_m57.1.cls ≠ "java/lang/invoke/MethodHandle" ∧ fm_m57.1.cls ≠ "java/lang/invoke/VarHandle" ∧ (parseMethodDescriptor fm_m57.1.desc).map (fun d => d.parameters.length) = some fm_m57.2.2.2.2.2.1) := ⟨List.mem_of_getElem? (i := 480) (by decide +kernel), List.mem_of_getElem? (i := 62) (by decide +kernel), by decide +kernel⟩
theorem fm_mw58 : fm_cw fm_m58 ∈ lw_tbl ∧ Cond.initialized fm_m58.1.cls ∈ lw_tbl ∧ (fm_m58.1.cls ≠ "java/lang/invoke/MethodHandle" ∧ fm_m58.1.cls ≠ "java/lang/invoke/VarHandle" ∧ (parseMethodDescriptor fm_m58.1.desc).map (fun d => d.parameters.length) = some fm_m58.2.2.2.2.2.1) := ⟨List.mem_of_getElem? (i := 467) (by decide +kernel), List.mem_of_getElem? (i := 62) (by decide +kernel), by decide +kernel⟩
theorem fm_mw59 : fm_cw fm_m59 ∈ lw_tbl ∧ Cond.initialized fm_m59.1.cls ∈ lw_tbl ∧ (fm_m59.1.cls ≠ "java/lang/invoke/MethodHandle" ∧ fm_m59.1.cls ≠ "java/lang/invoke/VarHandle" ∧ (parseMethodDescriptor fm_m59.1.desc).map (fun d => d.parameters.length) = some fm_m59.2.2.2.2.2.1) := ⟨List.mem_of_getElem? (i := 329) (by decide +kernel), List.mem_of_getElem? (i := 62) (by decide +kernel), by decide +kernel⟩
theorem fm_mw60 : fm_cw fm_m60 ∈ lw_tbl ∧ Cond.initialized fm_m60.1.cls ∈ lw_tbl ∧ (fm_m60.1.cls ≠ "java/lang/invoke/MethodHandle" ∧ fm_m60.1.cls ≠ "java/lang/invoke/VarHandle" ∧ (parseMethodDescriptor fm_m60.1.desc).map (fun d => d.parameters.length) = some fm_m60.2.2.2.2.2.1) := ⟨List.mem_of_getElem? (i := 332) (by decide +kernel), List.mem_of_getElem? (i := 62) (by decide +kernel), by decide +kernel⟩
theorem fm_mw61 : fm_cw fm_m61 ∈ lw_tbl ∧ Cond.initialized fm_m61.1.cls ∈ lw_tbl ∧ (fm_m61.1.cls ≠ "java/lang/invoke/MethodHandle" ∧ fm_m61.1.cls ≠ "java/lang/invoke/VarHandle" ∧ (parseMethodDescriptor fm_m61.1.desc).map (fun d => d.parameters.length) = some fm_m61.2.2.2.2.2.1) := ⟨List.mem_of_getElem? (i := 877) (by decide +kernel), List.mem_of_getElem? (i := 68) (by decide +kernel), by decide +kernel⟩
theorem fm_mw62 : fm_cw fm_m62 ∈ lw_tbl ∧ Cond.initialized fm_m62.1.cls ∈ lw_tbl ∧ (fm_m62.1.cls ≠ "java/lang/invoke/MethodHandle" ∧ fm_m62.1.cls ≠ "java/lang/invoke/VarHandle" ∧ (parseMethodDescriptor fm_m62.1.desc).map (fun d => d.parameters.length) = some fm_m62.2.2.2.2.2.1) := ⟨List.mem_of_getElem? (i := 982) (by decide +kernel), List.mem_of_getElem? (i := 68) (by decide +kernel), by decide +kernel⟩
theorem fm_mw63 : fm_cw fm_m63 ∈ lw_tbl ∧ Cond.initialized fm_m63.1.cls ∈ lw_tbl ∧ (fm_m63.1.cls ≠ "java/lang/invoke/MethodHandle" ∧ fm_m63.1.cls ≠ "java/lang/invoke/VarHandle" ∧ (parseMethodDescriptor fm_m63.1.desc).map (fun d => d.parameters.length) = some fm_m63.2.2.2.2.2.1) := ⟨List.mem_of_getElem? (i := 993) (by decide +kernel), List.mem_of_getElem? (i := 68) (by decide +kernel), by decide +kernel⟩
theorem fm_mw64 : fm_cw fm_m64 ∈ lw_tbl ∧ Cond.initialized fm_m64.1.cls ∈ lw_tbl ∧ (fm_m64.1.cls ≠ "java/lang/invoke/MethodHandle" ∧ fm_m64.1.cls ≠ "java/lang/invoke/VarHandle" ∧ (parseMethodDescriptor fm_m64.1.desc).map (fun d => d.parameters.length) = some fm_m64.2.2.2.2.2.1) := ⟨List.mem_of_getElem? (i := 997) (by decide +kernel), List.mem_of_getElem? (i := 68) (by decide +kernel), by decide +kernel⟩
theorem fm_mw65 : fm_cw fm_m65 ∈ lw_tbl ∧ Cond.initialized fm_m65.1.cls ∈ lw_tbl ∧ (fm_m65.1.cls ≠ "java/lang/invoke/MethodHandle" ∧ fm_m65.1.cls ≠ "java/lang/invoke/VarHandle" ∧ (parseMethodDescriptor fm_m65.1.desc).map (fun d => d.parameters.length) = some fm_m65.2.2.2.2.2.1) := ⟨List.mem_of_getElem? (i := 990) (by decide +kernel), List.mem_of_getElem? (i := 68) (by decide +kernel), by decide +kernel⟩
theorem fm_mw66 : fm_cw fm_m66 ∈ lw_tbl ∧ Cond.initialized fm_m66.1.cls ∈ lw_tbl ∧ (fm_m66.1.cls ≠ "java/lang/invoke/MethodHandle" ∧ fm_m66.1.cls ≠ "java/lang/invoke/VarHandle" ∧ (parseMethodDescriptor fm_m66.1.desc).map (fun d => d.parameters.length) = some fm_m66.2.2.2.2.2.1) := ⟨List.mem_of_getElem? (i := 986) (by decide +kernel), List.mem_of_getElem? (i := 68) (by decide +kernel), by decide +kernel⟩
theorem fm_mw67 : fm_cw fm_m67 ∈ lw_tbl ∧ Cond.initialized fm_m67.1.cls ∈ lw_tbl ∧ (fm_m67.1.cls ≠ "java/lang/invoke/MethodHandle" ∧ fm_m67.1.cls ≠ "java/lang/invoke/VarHandle" ∧ (parseMethodDescriptor fm_m67.1.desc).map (fun d => d.parameters.length) = some fm_m67.2.2.2.2.2.1) := ⟨List.mem_of_getElem? (i := 1001) (by decide +kernel), List.mem_of_getElem? (i := 68) (by decide +kernel), by decide +kernel⟩
theorem fm_mw68 : fm_cw fm_m68 ∈ lw_tbl ∧ Cond.initialized fm_m68.1.cls ∈ lw_tbl ∧ (fm_m68.1.cls ≠ "java/lang/invoke/MethodHandle" ∧ fm_m68.1.cls ≠ "java/lang/invoke/VarHandle" ∧ (parseMethodDescriptor fm_m68.1.desc).map (fun d => d.parameters.length) = some fm_m68.2.2.2.2.2.1) := ⟨List.mem_of_getElem? (i := 1005) (by decide +kernel), List.mem_of_getElem? (i := 68) (by decide +kernel), by decide +kernel⟩
theorem fm_mw69 : fm_cw fm_m69 ∈ lw_tbl ∧ Cond.initialized fm_m69.1.cls ∈ lw_tbl ∧ (fm_m69.1.cls ≠ "java/lang/invoke/MethodHandle" ∧ fm_m69.1.cls ≠ "java/lang/invoke/VarHandle" ∧ (parseMethodDescriptor fm_m69.1.desc).map (fun d => d.parameters.length) = some fm_m69.2.2.2.2.2.1) := ⟨List.mem_of_getElem? (i := 1009) (by decide +kernel), List.mem_of_getElem? (i := 68) (by decide +kernel), by decide +kernel⟩
theorem fm_mw70 : fm_cw fm_m70 ∈ lw_tbl ∧ Cond.initialized fm_m70.1.cls ∈ lw_tbl ∧ (fm_m70.1.cls ≠ "java/lang/invoke/MethodHandle" ∧ fm_m70.1.cls ≠ "java/lang/invoke/VarHandle" ∧ (parseMethodDescriptor fm_m70.1.desc).map (fun d => d.parameters.length) = some fm_m70.2.2.2.2.2.1) := ⟨List.mem_of_getElem? (i := 1013) (by decide +kernel), List.mem_of_getElem? (i := 68) (by decide +kernel), by decide +kernel⟩
theorem fm_mw71 : fm_cw fm_m71 ∈ lw_tbl ∧ Cond.initialized fm_m71.1.cls ∈ lw_tbl ∧ (fm_m71.1.cls ≠ "java/lang/invoke/MethodHandle" ∧ fm_m71.1.cls ≠ "java/lang/invoke/VarHandle" ∧ (parseMethodDescriptor fm_m71.1.desc).map (fun d => d.parameters.length) = some fm_m71.2.2.2.2.2.1) := ⟨List.mem_of_getElem? (i := 1017) (by decide +kernel), List.mem_of_getElem? (i := 68) (by decide +kernel), by decide +kernel⟩
theorem fm_mw72 : fm_cw fm_m72 ∈ lw_tbl ∧ Cond.initialized fm_m72.1.cls ∈ lw_tbl ∧ (fm_m72.1.cls ≠ "java/lang/invoke/MethodHandle" ∧ fm_m72.1.cls ≠ "java/lang/invoke/VarHandle" ∧ (parseMethodDescriptor fm_m72.1.desc).map (fun d => d.parameters.length) = some fm_m72.2.2.2.2.2.1) := ⟨List.mem_of_getElem? (i := 1021) (by decide +kernel), List.mem_of_getElem? (i := 68) (by decide +kernel), by decide +kernel⟩
theorem fm_mw73 : fm_cw fm_m73 ∈ lw_tbl ∧ Cond.initialized fm_m73.1.cls ∈ lw_tbl ∧ (fm_m73.1.cls ≠ "java/lang/invoke/MethodHandle" ∧ fm_m73.1.cls ≠ "java/lang/invoke/VarHandle" ∧ (parseMethodDescriptor fm_m73.1.desc).map (fun d => d.parameters.length) = some fm_m73.2.2.2.2.2.1) := ⟨List.mem_of_getElem? (i := 1029) (by decide +kernel), List.mem_of_getElem? (i := 68) (by decide +kernel), by decide +kernel⟩
theorem fm_mw74 : fm_cw fm_m74 ∈ lw_tbl ∧ Cond.initialized fm_m74.1.cls ∈ lw_tbl ∧ (fm_m74.1.cls ≠ "java/lang/invoke/MethodHandle" ∧ fm_m74.1.cls ≠ "java/lang/invoke/VarHandle" ∧ (parseMethodDescriptor fm_m74.1.desc).map (fun d => d.parameters.length) = some fm_m74.2.2.2.2.2.1) := ⟨List.mem_of_getElem? (i := 1025) (by decide +kernel), List.mem_of_getElem? (i := 68) (by decide +kernel), by decide +kernel⟩
theorem fm_mw75 : fm_cw fm_m75 ∈ lw_tbl ∧ Cond.initialized fm_m75.1.cls ∈ lw_tbl ∧ (fm_m75.1.cls ≠ "java/lang/invoke/MethodHandle" ∧ fm_m75.1.cls ≠ "java/lang/invoke/VarHandle" ∧ (parseMethodDescriptor fm_m75.1.desc).map (fun d => d.parameters.length) = some fm_m75.2.2.2.2.2.1) := ⟨List.mem_of_getElem? (i := 1033) (by decide +kernel), List.mem_of_getElem? (i := 68) (by decide +kernel), by decide +kernel⟩
theorem fm_mw76 : fm_cw fm_m76 ∈ lw_tbl ∧ Cond.initialized fm_m76.1.cls ∈ lw_tbl ∧ (fm_m76.1.cls ≠ "java/lang/invoke/MethodHandle" ∧ fm_m76.1.cls ≠ "java/lang/invoke/VarHandle" ∧ (parseMethodDescriptor fm_m76.1.desc).map (fun d => d.parameters.length) = some fm_m76.2.2.2.2.2.1) := ⟨List.mem_of_getElem? (i := 1041) (by decide +kernel), List.mem_of_getElem? (i := 68) (by decide +kernel), by decide +kernel⟩
theorem fm_mw77 : fm_cw fm_m77 ∈ lw_tbl ∧ Cond.initialized fm_m77.1.cls ∈ lw_tbl ∧ (fm_m77.1.cls ≠ "java/lang/invoke/MethodHandle" ∧ fm_m77.1.cls ≠ "java/lang/invoke/VarHandle" ∧ (parseMethodDescriptor fm_m77.1.desc).map (fun d => d.parameters.length) = some fm_m77.2.2.2.2.2.1) := ⟨List.mem_of_getElem? (i := 1037) (by decide +kernel), List.mem_of_getElem? (i := 68) (by decide +kernel), by decide +kernel⟩
theorem fm_mw78 : fm_cw fm_m78 ∈ lw_tbl ∧ Cond.initialized fm_m78.1.cls ∈ lw_tbl ∧ (fm_m78.1.cls ≠ "java/lang/invoke/MethodHandle" ∧ fm_m78.1.cls ≠ "java/lang/invoke/VarHandle" ∧ (parseMethodDescriptor fm_m78.1.desc).map (fun d => d.parameters.length) = some fm_m78.2.2.2.2.2.1) := ⟨List.mem_of_getElem? (i := 1062) (by decide +kernel), List.mem_of_getElem? (i := 68) (by decide +kernel), by decide +kernel⟩
theorem fm_mw79 : fm_cw fm_m79 ∈ lw_tbl ∧ Cond.initialized fm_m79.1.cls ∈ lw_tbl ∧ (fm_m79.1.cls ≠ "java/lang/invoke/MethodHandle" ∧ fm_m79.1.cls ≠ "java/lang/invoke/VarHandle" ∧ (parseMethodDescriptor fm_m79.1.desc).map (fun d => d.parameters.length) = some fm_m79.2.2.2.2.2.1) := ⟨List.mem_of_getElem? (i := 1058) (by decide +kernel), List.mem_of_getElem? (i := 68) (by decide +kernel), by decide +kernel⟩
theorem fm_mw80 : fm_cw fm_m80 ∈ lw_tbl ∧ Cond.initialized fm_m80.1.cls ∈ lw_tbl ∧ (fm_m80.1.cls ≠ "java/lang/invoke/MethodHandle" ∧ fm_m80.1.cls ≠ "java/lang/invoke/VarHandle" ∧ (parseMethodDescriptor fm_m80.1.desc).map (fun d => d.parameters.length) = some fm_m80.2.2.2.2.2.1) := ⟨List.mem_of_getElem? (i := 1054) (by decide +kernel), List.mem_of_getElem? (i := 68) (by decide +kernel), by decide +kernel⟩
theorem fm_mw81 : fm_cw fm_m81 ∈ lw_tbl ∧ Cond.initialized fm_m81.1.cls ∈ lw_tbl ∧ (fm_m81.1.cls ≠ "java/lang/invoke/MethodHandle" ∧ fm_m81.1.cls ≠ "java/lang/invoke/VarHandle" ∧ (parseMethodDescriptor fm_m81.1.desc).map (fun d => d.parameters.length) = some fm_m81.2.2.2.2.2.1) := ⟨List.mem_of_getElem? (i := 1074) (by decide +kernel), List.mem_of_getElem? (i := 68) (by decide +kernel), by decide +kernel⟩
theorem fm_mw82 : fm_cw fm_m82 ∈ lw_tbl ∧ Cond.initialized fm_m82.1.cls ∈ lw_tbl ∧ (fm_m82.1.cls ≠ "java/lang/invoke/MethodHandle" ∧ fm_m82.1.cls ≠ "java/lang/invoke/VarHandle" ∧ (parseMethodDescriptor fm_m82.1.desc).map (fun d => d.parameters.length) = some fm_m82.2.2.2.2.2.1) := ⟨List.mem_of_getElem? (i := 1070) (by decide +kernel), List.mem_of_getElem? (i := 68) (by decide +kernel), by decide +kernel⟩
theorem fm_mw83 : fm_cw fm_m83 ∈ lw_tbl ∧ Cond.initialized fm_m83.1.cls ∈ lw_tbl ∧ (fm_m83.1.cls ≠ "java/lang/invoke/MethodHandle" ∧ fm_m83.1.cls ≠ "java/lang/invoke/VarHandle" ∧ (parseMethodDescriptor fm_m83.1.desc).map (fun d => d.parameters.length) = some fm_m83.2.2.2.2.2.1) := ⟨List.mem_of_getElem? (i := 1108) (by decide +kernel), List.mem_of_getElem? (i := 68) (by decide +kernel), by decide +kernel⟩
theorem fm_mw84 : fm_cw fm_m84 ∈ lw_tbl ∧ Cond.initialized fm_m84.1.cls ∈ lw_tbl ∧ (fm_m84.1.cls ≠ "java/lang/invoke/MethodHandle" ∧ fm_m84.1.cls ≠ "java/lang/invoke/VarHandle" ∧ (parseMethodDescriptor fm_m84.1.desc).map (fun d => d.parameters.length) = some fm_m84.2.2.2.2.2.1) := ⟨List.mem_of_getElem? (i := 1066) (by decide +kernel), List.mem_of_getElem? (i := 68) (by decide +kernel), by decide +kernel⟩
theorem fm_mw85 : fm_cw fm_m85 ∈ lw_tbl ∧ Cond.initialized fm_m85.1.cls ∈ lw_tbl ∧ (fm_m85.1.cls ≠ "java/lang/invoke/MethodHandle" ∧ fm_m85.1.cls ≠ "java/lang/invoke/VarHandle" ∧ (parseMethodDescriptor fm_m85.1.desc).map (fun d => d.parameters.length) = some fm_m85.2.2.2.2.2.1) := ⟨List.mem_of_getElem? (i := 1050) (by decide +kernel), List.mem_of_getElem? (i := 68) (by decide +kernel), by decide +kernel⟩
theorem fm_mw86 : fm_cw fm_m86 ∈ lw_tbl ∧ Cond.initialized fm_m86.1.cls ∈ lw_tbl ∧ (fm_m86.1.cls ≠ "java/lang/invoke/MethodHandle" ∧ fm_m86.1.cls ≠ "java/lang/invoke/VarHandle" ∧ (parseMethodDescriptor fm_m86.1.desc).map (fun d => d.parameters.length) = some fm_m86.2.2.2.2.2.1) := ⟨List.mem_of_getElem? (i := 1046) (by decide +kernel), List.mem_of_getElem? (i := 68) (by decide +kernel), by decide +kernel⟩
theorem fm_mw87 : fm_cw fm_m87 ∈ lw_tbl ∧ Cond.initialized fm_m87.1.cls ∈ lw_tbl ∧ (fm_m87.1.cls ≠ "java/lang/invoke/MethodHandle" ∧ fm_m87.1.cls ≠ "java/lang/invoke/VarHandle" ∧ (parseMethodDescriptor fm_m87.1.desc).map (fun d => d.parameters.length) = some fm_m87.2.2.2.2.2.1) := ⟨List.mem_of_getElem? (i := 1080) (by decide +kernel), List.mem_of_getElem? (i := 68) (by decide +kernel), by decide +kernel⟩
theorem fm_mw88 : fm_cw fm_m88 ∈ lw_tbl ∧ Cond.initialized fm_m88.1.cls ∈ lw_tbl ∧ (fm_m88.1.cls ≠ "java/lang/invoke/MethodHandle" ∧ fm_m88.1.cls ≠ "java/lang/invoke/VarHandle" ∧ (parseMethodDescriptor fm_m88.1.desc).map (fun d => d.parameters.length) = some fm_m88.2.2.2.2.2.1) := ⟨List.mem_of_getElem? (i := 1084) (by decide +kernel), List.mem_of_getElem? (i := 68) (by decide +kernel), by decide +kernel⟩
theorem fm_mw89 : fm_cw fm_m89 ∈ lw_tbl ∧ Cond.initialized fm_m89.1.cls ∈ lw_tbl ∧ (fm_m89.1.cls ≠ "java/lang/invoke/MethodHandle" ∧ fm_m89.1.cls ≠ "java/lang/invoke/VarHandle" ∧ (parseMethodDescriptor fm_m89.1.desc).map (fun d => d.parameters.length) = some fm_m89.2.2.2.2.2.1) := ⟨List.mem_of_getElem? (i := 1088) (by decide +kernel), List.mem_of_getElem? (i := 68) (by decide +kernel), by decide +kernel⟩
theorem fm_mw90 : fm_cw fm_m90 ∈ lw_tbl ∧ Cond.initialized fm_m90.1.cls ∈ lw_tbl ∧ (fm_m90.1.cls ≠ "java/lang/invoke/MethodHandle" ∧ fm_m90.1.cls ≠ "java/lang/invoke/VarHandle" ∧ (parseMethodDescriptor fm_m90.1.desc).map (fun d => d.parameters.length) = some fm_m90.2.2.2.2.2.1) := ⟨List.mem_of_getElem? (i := 1092) (by decide +kernel), List.mem_of_getElem? (i := 68) (by decide +kernel), by decide +kernel⟩
theorem fm_mw91 : fm_cw fm_m91 ∈ lw_tbl ∧ Cond.initialized fm_m91.1.cls ∈ lw_tbl ∧ (fm_m91.1.cls ≠ "java/lang/invoke/MethodHandle" ∧ fm_m91.1.cls ≠ "java/lang/invoke/VarHandle" ∧ (parseMethodDescriptor fm_m91.1.desc).map (fun d => d.parameters.length) = some fm_m91.2.2.2.2.2.1) := ⟨List.mem_of_getElem? (i := 1096) (by decide +kernel), List.mem_of_getElem? (i := 68) (by decide +kernel), by decide +kernel⟩
theorem fm_mw92 : fm_cw fm_m92 ∈ lw_tbl ∧ Cond.initialized fm_m92.1.cls ∈ lw_tbl ∧ (fm_m92.1.cls ≠ "java/lang/invoke/MethodHandle" ∧ fm_m92.1.cls ≠ "java/lang/invoke/VarHandle" ∧ (parseMethodDescriptor fm_m92.1.desc).map (fun d => d.parameters.length) = some fm_m92.2.2.2.2.2.1) := ⟨List.mem_of_getElem? (i := 1104) (by decide +kernel), List.mem_of_getElem? (i := 68) (by decide +kernel), by decide +kernel⟩
theorem fm_mw93 : fm_cw fm_m93 ∈ lw_tbl ∧ Cond.initialized fm_m93.1.cls ∈ lw_tbl ∧ (fm_m93.1.cls ≠ "java/lang/invoke/MethodHandle" ∧ fm_m93.1.cls ≠ "java/lang/invoke/VarHandle" ∧ (parseMethodDescriptor fm_m93.1.desc).map (fun d => d.parameters.length) = some fm_m93.2.2.2.2.2.1) := ⟨List.mem_of_getElem? (i := 1100) (by decide +kernel), List.mem_of_getElem? (i := 68) (by decide +kernel), by decide +kernel⟩
theorem fm_mw94 : fm_cw fm_m94 ∈ lw_tbl ∧ Cond.initialized fm_m94.1.cls ∈ lw_tbl ∧ (fm_m94.1.cls ≠ "java/lang/invoke/MethodHandle" ∧ fm_m94.1.cls ≠ "java/lang/invoke/VarHandle" ∧ (parseMethodDescriptor fm_m94.1.desc).map (fun d => d.parameters.length) = some fm_m94.2.2.2.2.2.1) := ⟨List.mem_of_getElem? (i := 1112) (by decide +kernel), List.mem_of_getElem? (i := 68) (by decide +kernel), by decide +kernel⟩
theorem fm_mw95 : fm_cw fm_m95 ∈ lw_tbl ∧ Cond.initialized fm_m95.1.cls ∈ lw_tbl ∧ (fm_m95.1.cls ≠ "java/lang/invoke/MethodHandle" ∧ fm_m95.1.cls ≠ "java/lang/invoke/VarHandle" ∧ (parseMethodDescriptor fm_m95.1.desc).map (fun d => d.parameters.length) = some fm_m95.2.2.2.2.2.1) := ⟨List.mem_of_getElem? (i := 1116) (by decide +kernel), List.mem_of_getElem? (i := 68) (by decide +kernel), by decide +kernel⟩
theorem fm_mw96 : fm_cw fm_m96 ∈ lw_tbl ∧ Cond.initialized fm_m96.1.cls ∈ lw_tbl ∧ (fm_m96.1.cls ≠ "java/lang/invoke/MethodHandle" ∧ fm_m96.1.cls ≠ "java/lang/invoke/VarHandle" ∧ (parseMethodDescriptor fm_m96.1.desc).map (fun d => d.parameters.length) = some fm_m96.2.2.2.2.2.1) := ⟨List.mem_of_getElem? (i := 1120) (by decide +kernel), List.mem_of_getElem? (i := 68) (by decide +kernel), by decide +kernel⟩
theorem fm_mw97 : fm_cw fm_m97 ∈ lw_tbl ∧ Cond.initialized fm_m97.1.cls ∈ lw_tbl ∧ (fm_m97.1.cls ≠ "java/lang/invoke/MethodHandle" ∧ fm_m97.1.cls ≠ "java/lang/invoke/VarHandle" ∧ (parseMethodDescriptor fm_m97.1.desc).map (fun d => d.parameters.length) = some fm_m97.2.2.2.2.2.1) := ⟨List.mem_of_getElem? (i := 1124) (by decide +kernel), List.mem_of_getElem? (i := 68) (by decide +kernel), by decide +kernel⟩
theorem fm_mw98 : fm_cw fm_m98 ∈ lw_tbl ∧ Cond.initialized fm_m98.1.cls ∈ lw_tbl ∧ (fm_m98.1.cls ≠ "java/lang/invoke/MethodHandle" ∧ fm_m98.1.cls ≠ "java/lang/invoke/VarHandle" ∧ (parseMethodDescriptor fm_m98.1.desc).map (fun d => d.parameters.length) = some fm_m98.2.2.2.2.2.1) := ⟨List.mem_of_getElem? (i := 1129) (by decide +kernel), List.mem_of_getElem? (i := 68) (by decide +kernel), by decide +kernel⟩
theorem fm_mw99 : fm_cw fm_m99 ∈ lw_tbl ∧ Cond.initialized fm_m99.1.cls ∈ lw_tbl ∧ (fm_m99.1.cls ≠ "java/lang/invoke/MethodHandle" ∧ fm_m99.1.cls ≠ "java/lang/invoke/VarHandle" ∧ (parseMethodDescriptor fm_m99.1.desc).map (fun d => d.parameters.length) = some fm_m99.2.2.2.2.2.1) := ⟨List.mem_of_getElem? (i := 1133) (by decide +kernel), List.mem_of_getElem? (i := 68) (by decide +kernel), by decide +kernel⟩
theorem fm_mw100 : fm_cw fm_m100 ∈ lw_tbl ∧ Cond.initialized fm_m100.1.cls ∈ lw_tbl ∧ (fm_m100.1.cls ≠ "java/lang/invoke/MethodHandle" ∧ fm_m100.1.cls ≠ "java/lang/invoke/VarHandle" ∧ (parseMethodDescriptor fm_m100.1.desc).map (fun d => d.parameters.length) = some fm_m100.2.2.2.2.2.1) := ⟨List.mem_of_getElem? (i := 1137) (by decide +kernel), List.mem_of_getElem? (i := 68) (by decide +kernel), by decide +kernel⟩
theorem fm_mw101 : fm_cw fm_m101 ∈ lw_tbl ∧ Cond.initialized fm_m101.1.cls ∈ lw_tbl ∧ (fm_m101.1.cls ≠ "java/lang/invoke/MethodHandle" ∧ fm_m101.1.cls ≠ "java/lang/invoke/VarHandle" ∧ (parseMethodDescriptor fm_m101.1.desc).map (fun d => d.parameters.length) = some fm_m101.2.2.2.2.2.1) := ⟨List.mem_of_getElem? (i := 1141) (by decide +kernel), List.mem_of_getElem? (i := 68) (by decide +kernel), by decide +kernel⟩
theorem fm_mw102 : fm_cw fm_m102 ∈ lw_tbl ∧ Cond.initialized fm_m102.1.cls ∈ lw_tbl ∧ (fm_m102.1.cls ≠ "java/lang/invoke/MethodHandle" ∧ fm_m102.1.cls ≠ "java/lang/invoke/VarHandle" ∧ (parseMethodDescriptor fm_m102.1.desc).map (fun d => d.parameters.length) = some fm_m102.2.2.2.2.2.1) := ⟨List.mem_of_getElem? (i := 1145) (by decide +kernel), List.mem_of_getElem? (i := 68) (by decide +kernel), by decide +kernel⟩
theorem fm_mw103 : fm_cw fm_m103 ∈ lw_tbl ∧ Cond.initialized fm_m103.1.cls ∈ lw_tbl ∧ (fm_m103.1.cls ≠ "java/lang/invoke/MethodHandle" ∧ fm_m103.1.cls ≠ "java/lang/invoke/VarHandle" ∧ (parseMethodDescriptor fm_m103.1.desc).map (fun d => d.parameters.length) = some fm_m103.2.2.2.2.2.1) := ⟨List.mem_of_getElem? (i := 1153) (by decide +kernel), List.mem_of_getElem? (i := 68) (by decide +kernel), by decide +kernel⟩
theorem fm_mw104 : fm_cw fm_m104 ∈ lw_tbl ∧ Cond.initialized fm_m104.1.cls ∈ lw_tbl ∧ (fm_m104.1.cls ≠ "java/lang/invoke/MethodHandle" ∧ fm_m104.1.cls ≠ "java/lang/invoke/VarHandle" ∧ (parseMethodDescriptor fm_m104.1.desc).map (fun d => d.parameters.length) = some fm_m104.2.2.2.2.2.1) := ⟨List.mem_of_getElem? (i := 1149) (by decide +kernel), List.mem_of_getElem? (i := 68) (by decide +kernel), by decide +kernel⟩
theorem fm_mw105 : fm_cw fm_m105 ∈ lw_tbl ∧ Cond.initialized fm_m105.1.cls ∈ lw_tbl ∧ (fm_m105.1.cls ≠ "java/lang/invoke/MethodHandle" ∧ fm_m105.1.cls ≠ "java/lang/invoke/VarHandle" ∧ (parseMethodDescriptor fm_m105.1.desc).map (fun d => d.parameters.length) = some fm_m105.2.2.2.2.2.1) := ⟨List.mem_of_getElem? (i := 1158) (by decide +kernel), List.mem_of_getElem? (i := 68) (by decide +kernel), by decide +kernel⟩
theorem fm_mw106 : fm_cw fm_m106 ∈ lw_tbl ∧ Cond.initialized fm_m106.1.cls ∈ lw_tbl ∧ (fm_m106.1.cls ≠ "java/lang/invoke/MethodHandle" ∧ fm_m106.1.cls ≠ "java/lang/invoke/VarHandle" ∧ (parseMethodDescriptor fm_m106.1.desc).map (fun d => d.parameters.length) = some fm_m106.2.2.2.2.2.1) := ⟨List.mem_of_getElem? (i := 1167) (by decide +kernel), List.mem_of_getElem? (i := 68) (by decide +kernel), by decide +kernel⟩
theorem fm_mw107 : fm_cw fm_m107 ∈ lw_tbl ∧ Cond.initialized fm_m107.1.cls ∈ lw_tbl ∧ (fm_m107.1.cls ≠ "java/lang/invoke/MethodHandle" ∧ fm_m107.1.cls ≠ "java/lang/invoke/VarHandle" ∧ (parseMethodDescriptor fm_m107.1.desc).map (fun d => d.parameters.length) = some fm_m107.2.2.2.2.2.1) := ⟨List.mem_of_getElem? (i := 1163) (by decide +kernel), List.mem_of_getElem? (i := 68) (by decide +kernel), by decide +kernel⟩
theorem fm_mw108 : fm_cw fm_m108 ∈ lw_tbl ∧ Cond.initialized fm_m108.1.cls ∈ lw_tbl ∧ (fm_m108.1.cls ≠ "java/lang/invoke/MethodHandle" ∧ fm_m108.1.cls ≠ "java/lang/invoke/VarHandle" ∧ (parseMethodDescriptor fm_m108.1.desc).map (fun d => d.parameters.length) = some fm_m108.2.2.2.2.2.1) := ⟨List.mem_of_getElem? (i := 1171) (by decide +kernel), List.mem_of_getElem? (i := 68) (by decide +kernel), by decide +kernel⟩
theorem fm_mw109 : fm_cw fm_m109 ∈ lw_tbl ∧ Cond.initialized fm_m109.1.cls ∈ lw_tbl ∧ (fm_m109.1.cls ≠ "java/lang/invoke/MethodHandle" ∧ fm_m109.1.cls ≠ "java/lang/invoke/VarHandle" ∧ (parseMethodDescriptor fm_m109.1.desc).map (fun d => d.parameters.length) = some fm_m109.2.2.2.2.2.1) := ⟨List.mem_of_getElem? (i := 1175) (by decide +kernel), List.mem_of_getElem? (i := 68) (by decide +kernel), by decide +kernel⟩
theorem fm_mw110 : fm_cw fm_m110 ∈ lw_tbl ∧ Cond.initialized fm_m110.1.cls ∈ lw_tbl ∧ (fm_m110.1.cls ≠ "java/lang/invoke/MethodHandle" ∧ fm_m110.1.cls ≠ "java/lang/invoke/VarHandle" ∧ (parseMethodDescriptor fm_m110.1.desc).map (fun d => d.parameters.length) = some fm_m110.2.2.2.2.2.1) := ⟨List.mem_of_getElem? (i := 1179) (by decide +kernel), List.mem_of_getElem? (i := 68) (by decide +kernel), by decide +kernel⟩
theorem fm_mw111 : fm_cw fm_m111 ∈ lw_tbl ∧ Cond.initialized fm_m111.1.cls ∈ lw_tbl ∧ (fm_m111.1.cls ≠ "java/lang/invoke/MethodHandle" ∧ fm_m111.1.cls ≠ "java/lang/invoke/VarHandle" ∧ (parseMethodDescriptor fm_m111.1.desc).map (fun d => d.parameters.length) = some fm_m111.2.2.2.2.2.1) := ⟨List.mem_of_getElem? (i := 1183) (by decide +kernel), List.mem_of_getElem? (i := 68) (by decide +kernel), by decide +kernel⟩
theorem fm_mw112 : fm_cw fm_m112 ∈ lw_tbl ∧ Cond.initialized fm_m112.1.cls ∈ lw_tbl ∧ (fm_m112.1.cls ≠ "java/lang/invoke/MethodHandle" ∧ fm_m112.1.cls ≠ "java/lang/invoke/VarHandle" ∧ (parseMethodDescriptor fm_m112.1.desc).map (fun d => d.parameters.length) = some fm_m112.2.2.2.2.2.1) := ⟨List.mem_of_getElem? (i := 1187) (by decide +kernel), List.mem_of_getElem? (i := 68) (by decide +kernel), by decide +kernel⟩
theorem fm_mw113 : fm_cw fm_m113 ∈ lw_tbl ∧ Cond.initialized fm_m113.1.cls ∈ lw_tbl ∧ (fm_m113.1.cls ≠ "java/lang/invoke/MethodHandle" ∧ fm_m113.1.cls ≠ "java/lang/invoke/VarHandle" ∧ (parseMethodDescriptor fm_m113.1.desc).map (fun d => d.parameters.length) = some fm_m113.2.2.2.2.2.1) := ⟨List.mem_of_getElem? (i := 1191) (by decide +kernel), List.mem_of_getElem? (i := 68) (by decide +kernel), by decide +kernel⟩
theorem fm_mw114 : fm_cw fm_m114 ∈ lw_tbl ∧ Cond.initialized fm_m114.1.cls ∈ lw_tbl ∧ (fm_m114.1.cls ≠ "java/lang/invoke/MethodHandle" ∧ fm_m114.1.cls ≠ "java/lang/invoke/VarHandle" ∧ (parseMethodDescriptor fm_m114.1.desc).map (fun d => d.parameters.length) = some fm_m114.2.2.2.2.2.1) := ⟨List.mem_of_getElem? (i := 1195) (by decide +kernel), List.mem_of_getElem? (i := 68) (by decide +kernel), by decide +kernel⟩
theorem fm_mw115 : fm_cw fm_m115 ∈ lw_tbl ∧ Cond.initialized fm_m115.1.cls ∈ lw_tbl ∧ (fm_m115.1.cls ≠ "java/lang/invoke/MethodHandle" ∧ fm_m115.1.cls ≠ "java/lang/invoke/VarHandle" ∧ (parseMethodDescriptor fm_m115.1.desc).map (fun d => d.parameters.length) = some fm_m115.2.2.2.2.2.1) := ⟨List.mem_of_getElem? (i := 209) (by decide +kernel), List.mem_of_getElem? (i := 66) (by decide +kernel), by decide +kernel⟩
theorem fm_mw116 : fm_cw fm_m116 ∈ lw_tbl ∧ Cond.initialized fm_m116.1.cls ∈ lw_tbl ∧ (fm_m116.1.cls ≠ "java/lang/invoke/MethodHandle" ∧ fm_m116.1.cls ≠ "java/lang/invoke/VarHandle" ∧ (parseMethodDescriptor fm_m116.1.desc).map (fun d => d.parameters.length) = some fm_m116.2.2.2.2.2.1) := ⟨List.mem_of_getElem? (i := 310) (by decide +kernel), List.mem_of_getElem? (i := 66) (by decide +kernel), by decide +kernel⟩
theorem fm_mw117 : fm_cw fm_m117 ∈ lw_tbl ∧ Cond.initialized fm_m117.1.cls ∈ lw_tbl ∧ (fm_m117.1.cls ≠ "java/lang/invoke/MethodHandle" ∧ fm_m117.1.cls ≠ "java/lang/invoke/VarHandle" ∧ (parseMethodDescriptor fm_m117.1.desc).map (fun d => d.parameters.length) = some fm_m117.2.2.2.2.2.1) := ⟨List.mem_of_getElem? (i := 314) (by decide +kernel), List.mem_of_getElem? (i := 66) (by decide +kernel), by decide +kernel⟩
theorem fm_mw118 : fm_cw fm_m118 ∈ lw_tbl ∧ Cond.initialized fm_m118.1.cls ∈ lw_tbl ∧ (fm_m118.1.cls ≠ "java/lang/invoke/MethodHandle" ∧ fm_m118.1.cls ≠ "java/lang/invoke/VarHandle" ∧ (parseMethodDescriptor fm_m118.1.desc).map (fun d => d.parameters.length) = some fm_m118.2.2.2.2.2.1) := ⟨List.mem_of_getElem? (i := 475) (by decide +kernel), List.mem_of_getElem? (i := 66) (by decide +kernel), by decide +kernel⟩
theorem fm_mw119 : fm_cw fm_m119 ∈ lw_tbl ∧ Cond.initialized fm_m119.1.cls ∈ lw_tbl ∧ (fm_m119.1.cls ≠ "java/lang/invoke/MethodHandle" ∧ fm_m119.1.cls ≠ "java/lang/invoke/VarHandle" ∧ (parseMethodDescriptor fm_m119.1.desc).map (fun d => d.parameters.length) = some fm_m119.2.2.2.2.2.1) := ⟨List.mem_of_getElem? (i := 99) (by decide +kernel), List.mem_of_getElem? (i := 64) (by decide +kernel), by decide +kernel⟩
theorem fm_mw120 : fm_cw fm_m120 ∈ lw_tbl ∧ Cond.initialized fm_m120.1.cls ∈ lw_tbl ∧ (fm_m120.1.cls ≠ "java/lang/invoke/MethodHandle" ∧ fm_m120.1.cls ≠ "java/lang/invoke/VarHandle" ∧ (parseMethodDescriptor fm_m120.1.desc).map (fun d => d.parameters.length) = some fm_m120.2.2.2.2.2.1) := ⟨List.mem_of_getElem? (i := 364) (by decide +kernel), List.mem_of_getElem? (i := 64) (by decide +kernel), by decide +kernel⟩
theorem fm_mw121 : fm_cw fm_m121 ∈ lw_tbl ∧ Cond.initialized fm_m121.1.cls ∈ lw_tbl ∧ (fm_m121.1.cls ≠ "java/lang/invoke/MethodHandle" ∧ fm_m121.1.cls ≠ "java/lang/invoke/VarHandle" ∧ (parseMethodDescriptor fm_m121.1.desc).map (fun d => d.parameters.length) = some fm_m121.2.2.2.2.2.1) := ⟨List.mem_of_getElem? (i := 368) (by decide +kernel), List.mem_of_getElem? (i := 64) (by decide +kernel), by decide +kernel⟩
theorem fm_mw122 : fm_cw fm_m122 ∈ lw_tbl ∧ Cond.initialized fm_m122.1.cls ∈ lw_tbl ∧ (fm_m122.1.cls ≠ "java/lang/invoke/MethodHandle" ∧ fm_m122.1.cls ≠ "java/lang/invoke/VarHandle" ∧ (parseMethodDescriptor fm_m122.1.desc).map (fun d => d.parameters.length) = some fm_m122.2.2.2.2.2.1) := ⟨List.mem_of_getElem? (i := 372) (by decide +kernel), List.mem_of_getElem? (i := 64) (by decide +kernel), by decide +kernel⟩
theorem fm_mw123 : fm_cw fm_m123 ∈ lw_tbl ∧ Cond.initialized fm_m123.1.cls ∈ lw_tbl ∧ (fm_m123.1.cls ≠ "java/lang/invoke/MethodHandle" ∧ fm_m123.1.cls ≠ "java/lang/invoke/VarHandle" ∧ (parseMethodDescriptor fm_m123.1.desc).map (fun d => d.parameters.length) = some fm_m123.2.2.2.2.2.1) := ⟨List.mem_of_getElem? (i := 376) (by decide +kernel), List.mem_of_getElem? (i := 64) (by decide +kernel), by decide +kernel⟩
theorem fm_mw124 : fm_cw fm_m124 ∈ lw_tbl ∧ Cond.initialized fm_m124.1.cls ∈ lw_tbl ∧ (fm_m124.1.cls ≠ "java/lang/invoke/MethodHandle" ∧ fm_m124.1.cls ≠ "java/lang/invoke/VarHandle" ∧ (parseMethodDescriptor fm_m124.1.desc).map (fun d => d.parameters.length) = some fm_m124.2.2.2.2.2.1) := ⟨List.mem_of_getElem? (i := 380) (by decide +kernel), List.mem_of_getElem? (i := 64) (by decide +kernel), by decide +kernel⟩
theorem fm_mw125 : fm_cw fm_m125 ∈ lw_tbl ∧ Cond.initialized fm_m125.1.cls ∈ lw_tbl ∧ (fm_m125.1.cls ≠ "java/lang/invoke/MethodHandle" ∧ fm_m125.1.cls ≠ "java/lang/invoke/VarHandle" ∧ (parseMethodDescriptor fm_m125.1.desc).map (fun d => d.parameters.length) = some fm_m125.2.2.2.2.2.1) := ⟨List.mem_of_getElem? (i := 388) (by decide +kernel), List.mem_of_getElem? (i := 64) (by decide +kernel), by decide +kernel⟩
theorem fm_mw126 : fm_cw fm_m126 ∈ lw_tbl ∧ Cond.initialized fm_m126.1.cls ∈ lw_tbl ∧ (fm_m126.1.cls ≠ "java/lang/invoke/MethodHandle" ∧ fm_m126.1.cls ≠ "java/lang/invoke/VarHandle" ∧ (parseMethodDescriptor fm_m126.1.desc).map (fun d => d.parameters.length) = some fm_m126.2.2.2.2.2.1) := ⟨List.mem_of_getElem? (i := 392) (by decide +kernel), List.mem_of_getElem? (i := 64) (by decide +kernel), by decide +kernel⟩
theorem fm_mw127 : fm_cw fm_m127 ∈ lw_tbl ∧ Cond.initialized fm_m127.1.cls ∈ lw_tbl ∧ (fm_m127.1.cls ≠ "java/lang/invoke/MethodHandle" ∧ fm_m127.1.cls ≠ "java/lang/invoke/VarHandle" ∧ (parseMethodDescriptor fm_m127.1.desc).map (fun d => d.parameters.length) = some fm_m127.2.2.2.2.2.1) := ⟨List.mem_of_getElem? (i := 384) (by decide +kernel), List.mem_of_getElem? (i := 64) (by decide +kernel), by decide +kernel⟩
theorem fm_mw128 : fm_cw fm_m128 ∈ lw_tbl ∧ Cond.initialized fm_m128.1.cls ∈ lw_tbl ∧ (fm_m128.1.cls ≠ "java/lang/invoke/MethodHandle" ∧ fm_m128.1.cls ≠ "java/lang/invoke/VarHandle" ∧ (parseMethodDescriptor fm_m128.1.desc).map (fun d => d.parameters.length) = some fm_m128.2.2.2.2.2.1) := ⟨List.mem_of_getElem? (i := 396) (by decide +kernel), List.mem_of_getElem? (i := 64) (by decide +kernel), by decide +kernel⟩
theorem fm_mw129 : fm_cw fm_m129 ∈ lw_tbl ∧ Cond.initialized fm_m129.1.cls ∈ lw_tbl ∧ (fm_m129.1.cls ≠ "java/lang/invoke/MethodHandle" ∧ fm_m129.1.cls ≠ "java/lang/invoke/VarHandle" ∧ (parseMethodDescriptor fm_m129.1.desc).map (fun d => d.parameters.length) = some fm_m129.2.2.2.2.2.1) := ⟨List.mem_of_getElem? (i := 454) (by decide +kernel), List.mem_of_getElem? (i := 64) (by decide +kernel), by decide +kernel⟩
theorem fm_mw130 : fm_cw fm_m130 ∈ lw_tbl ∧ Cond.initialized fm_m130.1.cls ∈ lw_tbl ∧ (fm_m130.1.cls ≠ "java/lang/invoke/MethodHandle" ∧ fm_m130.1.cls ≠ "java/lang/invoke/VarHandle" ∧ (parseMethodDescriptor fm_m130.1.desc).map (fun d => d.parameters.length) = some fm_m130.2.2.2.2.2.1) := ⟨List.mem_of_getElem? (i := 93) (by decide +kernel), List.mem_of_getElem? (i := 63) (by decide +kernel), by decide +kernel⟩
theorem fm_mw131 : fm_cw fm_m131 ∈ lw_tbl ∧ Cond.initialized fm_m131.1.cls ∈ lw_tbl ∧ (fm_m131.1.cls ≠ "java/lang/invoke/MethodHandle" ∧ fm_m131.1.cls ≠ "java/lang/invoke/VarHandle" ∧ (parseMethodDescriptor fm_m131.1.desc).map (fun d => d.parameters.length) = some fm_m131.2.2.2.2.2.1) := ⟨List.mem_of_getElem? (i := 326) (by decide +kernel), List.mem_of_getElem? (i := 63) (by decide +kernel), by decide +kernel⟩
theorem fm_mw132 : fm_cw fm_m132 ∈ lw_tbl ∧ Cond.initialized fm_m132.1.cls ∈ lw_tbl ∧ (fm_m132.1.cls ≠ "java/lang/invoke/MethodHandle" ∧ fm_m132.1.cls ≠ "java/lang/invoke/VarHandle" ∧ (parseMethodDescriptor fm_m132.1.desc).map (fun d => d.parameters.length) = some fm_m132.2.2.2.2.2.1) := ⟨List.mem_of_getElem? (i := 340) (by decide +kernel), List.mem_of_getElem? (i := 63) (by decide +kernel), by decide +kernel⟩
theorem fm_mw133 : fm_cw fm_m133 ∈ lw_tbl ∧ Cond.initialized fm_m133.1.cls ∈ lw_tbl ∧ (fm_m133.1.cls ≠ "java/lang/invoke/MethodHandle" ∧ fm_m133.1.cls ≠ "java/lang/invoke/VarHandle" ∧ (parseMethodDescriptor fm_m133.1.desc).map (fun d => d.parameters.length) = some fm_m133.2.2.2.2.2.1) := ⟨List.mem_of_getElem? (i := 336) (by decide +kernel), List.mem_of_getElem? (i := 63) (by decide +kernel), by decide +kernel⟩
theorem fm_mw134 : fm_cw fm_m134 ∈ lw_tbl ∧ Cond.initialized fm_m134.1.cls ∈ lw_tbl ∧ (fm_m134.1.cls ≠ "java/lang/invoke/MethodHandle" ∧ fm_m134.1.cls ≠ "java/lang/invoke/VarHandle" ∧ (parseMethodDescriptor fm_m134.1.desc).map (fun d => d.parameters.length) = some fm_m134.2.2.2.2.2.1) := ⟨List.mem_of_getElem? (i := 105) (by decide +kernel), List.mem_of_getElem? (i := 65) (by decide +kernel), by decide +kernel⟩
theorem fm_mw135 : fm_cw fm_m135 ∈ lw_tbl ∧ Cond.initialized fm_m135.1.cls ∈ lw_tbl ∧ (fm_m135.1.cls ≠ "java/lang/invoke/MethodHandle" ∧ fm_m135.1.cls ≠ "java/lang/invoke/VarHandle" ∧ (parseMethodDescriptor fm_m135.1.desc).map (fun d => d.parameters.length) = some fm_m135.2.2.2.2.2.1) := ⟨List.mem_of_getElem? (i := 626) (by decide +kernel), List.mem_of_getElem? (i := 65) (by decide +kernel), by decide +kernel⟩
theorem fm_mw136 : fm_cw fm_m136 ∈ lw_tbl ∧ Cond.initialized fm_m136.1.cls ∈ lw_tbl ∧ (fm_m136.1.cls ≠ "java/lang/invoke/MethodHandle" ∧ fm_m136.1.cls ≠ "java/lang/invoke/VarHandle" ∧ (parseMethodDescriptor fm_m136.1.desc).map (fun d => d.parameters.length) = some fm_m136.2.2.2.2.2.1) := ⟨List.mem_of_getElem? (i := 639) (by decide +kernel), List.mem_of_getElem? (i := 65) (by decide +kernel), by decide +kernel⟩
theorem fm_mw137 : fm_cw fm_m137 ∈ lw_tbl ∧ Cond.initialized fm_m137.1.cls ∈ lw_tbl ∧ (fm_m137.1.cls ≠ "java/lang/invoke/MethodHandle" ∧ fm_m137.1.cls ≠ "java/lang/invoke/VarHandle" ∧ (parseMethodDescriptor fm_m137.1.desc).map (fun d => d.parameters.length) = some fm_m137.2.2.2.2.2.1) := ⟨List.mem_of_getElem? (i := 357) (by decide +kernel), List.mem_of_getElem? (i := 65) (by decide +kernel), by decide +kernel⟩
theorem fm_mw138 : fm_cw fm_m138 ∈ lw_tbl ∧ Cond.initialized fm_m138.1.cls ∈ lw_tbl ∧ (fm_m138.1.cls ≠ "java/lang/invoke/MethodHandle" ∧ fm_m138.1.cls ≠ "java/lang/invoke/VarHandle" ∧ (parseMethodDescriptor fm_m138.1.desc).map (fun d => d.parameters.length) = some fm_m138.2.2.2.2.2.1) := ⟨List.mem_of_getElem? (i := 237) (by decide +kernel), List.mem_of_getElem? (i := 67) (by decide +kernel), by decide +kernel⟩
theorem fm_mw139 : fm_cw fm_m139 ∈ lw_tbl ∧ Cond.initialized fm_m139.1.cls ∈ lw_tbl ∧ (fm_m139.1.cls ≠ "java/lang/invoke/MethodHandle" ∧ fm_m139.1.cls ≠ "java/lang/invoke/VarHandle" ∧ (parseMethodDescriptor fm_m139.1.desc).map (fun d => d.parameters.length) = some fm_m139.2.2.2.2.2.1) := ⟨List.mem_of_getElem? (i := 678) (by decide +kernel), List.mem_of_getElem? (i := 67) (by decide +kernel), by decide +kernel⟩
theorem fm_mw140 : fm_cw fm_m140 ∈ lw_tbl ∧ Cond.initialized fm_m140.1.cls ∈ lw_tbl ∧ (fm_m140.1.cls ≠ "java/lang/invoke/MethodHandle" ∧ fm_m140.1.cls ≠ "java/lang/invoke/VarHandle" ∧ (parseMethodDescriptor fm_m140.1.desc).map (fun d => d.parameters.length) = some fm_m140.2.2.2.2.2.1) := ⟨List.mem_of_getElem? (i := 694) (by decide +kernel), List.mem_of_getElem? (i := 67) (by decide +kernel), by decide +kernel⟩
theorem fm_mw141 : fm_cw fm_m141 ∈ lw_tbl ∧ Cond.initialized fm_m141.1.cls ∈ lw_tbl ∧ (fm_m141.1.cls ≠ "java/lang/invoke/MethodHandle" ∧ fm_m141.1.cls ≠ "java/lang/invoke/VarHandle" ∧ (parseMethodDescriptor fm_m141.1.desc).map (fun d => d.parameters.length) = some fm_m141.2.2.2.2.2.1) := ⟨List.mem_of_getElem? (i := 299) (by decide +kernel), List.mem_of_getElem? (i := 67) (by decide +kernel), by decide +kernel⟩
theorem fm_mw142 : fm_cw fm_m142 ∈ lw_tbl ∧ Cond.initialized fm_m142.1.cls ∈ lw_tbl ∧ (fm_m142.1.cls ≠ "java/lang/invoke/MethodHandle" ∧ fm_m142.1.cls ≠ "java/lang/invoke/VarHandle" ∧ (parseMethodDescriptor fm_m142.1.desc).map (fun d => d.parameters.length) = some fm_m142.2.2.2.2.2.1) := ⟨List.mem_of_getElem? (i := 484) (by decide +kernel), List.mem_of_getElem? (i := 61) (by decide +kernel), by decide +kernel⟩
theorem fm_mw143 : fm_cw fm_m143 ∈ lw_tbl ∧ Cond.initialized fm_m143.1.cls ∈ lw_tbl ∧ (fm_m143.1.cls ≠ "java/lang/invoke/MethodHandle" ∧ fm_m143.1.cls ≠ "java/lang/invoke/VarHandle" ∧ (parseMethodDescriptor fm_m143.1.desc).map (fun d => d.parameters.length) = some fm_m143.2.2.2.2.2.1) := ⟨List.mem_of_getElem? (i := 629) (by decide +kernel), List.mem_of_getElem? (i := 61) (by decide +kernel), by decide +kernel⟩
theorem fm_mw144 : fm_cw fm_m144 ∈ lw_tbl ∧ Cond.initialized fm_m144.1.cls ∈ lw_tbl ∧ (fm_m144.1.cls ≠ "java/lang/invoke/MethodHandle" ∧ fm_m144.1.cls ≠ "java/lang/invoke/VarHandle" ∧ (parseMethodDescriptor fm_m144.1.desc).map (fun d => d.parameters.length) = some fm_m144.2.2.2.2.2.1) := ⟨List.mem_of_getElem? (i := 642) (by decide +kernel), List.mem_of_getElem? (i := 61) (by decide +kernel), by decide +kernel⟩
theorem fm_mw145 : fm_cw fm_m145 ∈ lw_tbl ∧ Cond.initialized fm_m145.1.cls ∈ lw_tbl ∧ (fm_m145.1.cls ≠ "java/lang/invoke/MethodHandle" ∧ fm_m145.1.cls ≠ "java/lang/invoke/VarHandle" ∧ (parseMethodDescriptor fm_m145.1.desc).map (fun d => d.parameters.length) = some fm_m145.2.2.2.2.2.1) := ⟨List.mem_of_getElem? (i := 649) (by decide +kernel), List.mem_of_getElem? (i := 61) (by decide +kernel), by decide +kernel⟩
theorem fm_mw146 : fm_cw fm_m146 ∈ lw_tbl ∧ Cond.initialized fm_m146.1.cls ∈ lw_tbl ∧ (fm_m146.1.cls ≠ "java/lang/invoke/MethodHandle" ∧ fm_m146.1.cls ≠ "java/lang/invoke/VarHandle" ∧ (parseMethodDescriptor fm_m146.1.desc).map (fun d => d.parameters.length) = some fm_m146.2.2.2.2.2.1) := ⟨List.mem_of_getElem? (i := 656) (by decide +kernel), List.mem_of_getElem? (i := 61) (by decide +kernel), by decide +kernel⟩
theorem fm_mw147 : fm_cw fm_m147 ∈ lw_tbl ∧ Cond.initialized fm_m147.1.cls ∈ lw_tbl ∧ (fm_m147.1.cls ≠ "java/lang/invoke/MethodHandle" ∧ fm_m147.1.cls ≠ "java/lang/invoke/VarHandle" ∧ (parseMethodDescriptor fm_m147.1.desc).map (fun d => d.parameters.length) = some fm_m147.2.2.2.2.2.1) := ⟨List.mem_of_getElem? (i := 663) (by decide +kernel), List.mem_of_getElem? (i := 61) (by decide +kernel), by decide +kernel⟩
theorem fm_mw148 : fm_cw fm_m148 ∈ lw_tbl ∧ Cond.initialized fm_m148.1.cls ∈ lw_tbl ∧ (fm_m148.1.cls ≠ "java/lang/invoke/MethodHandle" ∧ fm_m148.1.cls ≠ "java/lang/invoke/VarHandle" ∧ (parseMethodDescriptor fm_m148.1.desc).map (fun d => d.parameters.length) = some fm_m148.2.2.2.2.2.1) := ⟨List.mem_of_getElem? (i := 670) (by decide +kernel), List.mem_of_getElem? (i := 61) (by decide +kernel), by decide +kernel⟩
theorem fm_mw149 : fm_cw fm_m149 ∈ lw_tbl ∧ Cond.initialized fm_m149.1.cls ∈ lw_tbl ∧ (fm_m149.1.cls ≠ "java/lang/invoke/MethodHandle" ∧ fm_m149.1.cls ≠ "java/lang/invoke/VarHandle" ∧ (parseMethodDescriptor fm_m149.1.desc).map (fun d => d.parameters.length) = some fm_m149.2.2.2.2.2.1) := ⟨List.mem_of_getElem? (i := 681) (by decide +kernel), List.mem_of_getElem? (i := 61) (by decide +kernel), by decide +kernel⟩
theorem fm_mw150 : fm_cw fm_m150 ∈ lw_tbl ∧ Cond.initialized fm_m150.1.cls ∈ lw_tbl ∧ (fm_m150.1.cls ≠ "java/lang/invoke/MethodHandle" ∧ fm_m150.1.cls ≠ "java/lang/invoke/VarHandle" ∧ (parseMethodDescriptor fm_m150.1.desc).map (fun d => d.parameters.length) = some fm_m150.2.2.2.2.2.1) := ⟨List.mem_of_getElem? (i := 697) (by decide +kernel), List.mem_of_getElem? (i := 61) (by decide +kernel), by decide +kernel⟩
theorem fm_mw151 : fm_cw fm_m151 ∈ lw_tbl ∧ Cond.initialized fm_m151.1.cls ∈ lw_tbl ∧ (fm_m151.1.cls ≠ "java/lang/invoke/MethodHandle" ∧ fm_m151.1.cls ≠ "java/lang/invoke/VarHandle" ∧ (parseMethodDescriptor fm_m151.1.desc).map (fun d => d.parameters.length) = some fm_m151.2.2.2.2.2.1) := ⟨List.mem_of_getElem? (i := 704) (by decide +kernel), List.mem_of_getElem? (i := 61) (by decide +kernel), by decide +kernel⟩
theorem fm_mw152 : fm_cw fm_m152 ∈ lw_tbl ∧ Cond.initialized fm_m152.1.cls ∈ lw_tbl ∧ (fm_m152.1.cls ≠ "java/lang/invoke/MethodHandle" ∧ fm_m152.1.cls ≠ "java/lang/invoke/VarHandle" ∧ (parseMethodDescriptor fm_m152.1.desc).map (fun d => d.parameters.length) = some fm_m152.2.2.2.2.2.1) := ⟨List.mem_of_getElem? (i := 711) (by decide +kernel), List.mem_of_getElem? (i := 61) (by decide +kernel), by decide +kernel⟩
theorem fm_mw153 : fm_cw fm_m153 ∈ lw_tbl ∧ Cond.initialized fm_m153.1.cls ∈ lw_tbl ∧ (fm_m153.1.cls ≠ "java/lang/invoke/MethodHandle" ∧ fm_m153.1.cls ≠ "java/lang/invoke/VarHandle" ∧ (parseMethodDescriptor fm_m153.1.desc).map (fun d => d.parameters.length) = some fm_m153.2.2.2.2.2.1) := ⟨List.mem_of_getElem? (i := 718) (by decide +kernel), List.mem_of_getElem? (i := 61) (by decide +kernel), by decide +kernel⟩
theorem fm_mw154 : fm_cw fm_m154 ∈ lw_tbl ∧ Cond.initialized fm_m154.1.cls ∈ lw_tbl ∧ (fm_m154.1.cls ≠ "java/lang/invoke/MethodHandle" ∧ fm_m154.1.cls ≠ "java/lang/invoke/VarHandle" ∧ (parseMethodDescriptor fm_m154.1.desc).map (fun d => d.parameters.length) = some fm_m154.2.2.2.2.2.1) := ⟨List.mem_of_getElem? (i := 727) (by decide +kernel), List.mem_of_getElem? (i := 61) (by decide +kernel), by decide +kernel⟩
theorem fm_mw155 : fm_cw fm_m155 ∈ lw_tbl ∧ Cond.initialized fm_m155.1.cls ∈ lw_tbl ∧ (fm_m155.1.cls ≠ "java/lang/invoke/MethodHandle" ∧ fm_m155.1.cls ≠ "java/lang/invoke/VarHandle" ∧ (parseMethodDescriptor fm_m155.1.desc).map (fun d => d.parameters.length) = some fm_m155.2.2.2.2.2.1) := ⟨List.mem_of_getElem? (i := 734) (by decide +kernel), List.mem_of_getElem? (i := 61) (by decide +kernel), by decide +kernel⟩
theorem fm_mw156 : fm_cw fm_m156 ∈ lw_tbl ∧ Cond.initialized fm_m156.1.cls ∈ lw_tbl ∧ (fm_m156.1.cls ≠ "java/lang/invoke/MethodHandle" ∧ fm_m156.1.cls ≠ "java/lang/invoke/VarHandle" ∧ (parseMethodDescriptor fm_m156.1.desc).map (fun d => d.parameters.length) = some fm_m156.2.2.2.2.2.1) := ⟨List.mem_of_getElem? (i := 767) (by decide +kernel), List.mem_of_getElem? (i := 61) (by decide +kernel), by decide +kernel⟩
theorem fm_mw157 : fm_cw fm_m157 ∈ lw_tbl ∧ Cond.initialized fm_m157.1.cls ∈ lw_tbl ∧ (fm_m157.1.cls ≠ "java/lang/invoke/MethodHandle" ∧ fm_m157.1.cls ≠ "java/lang/invoke/VarHandle" ∧ (parseMethodDescriptor fm_m157.1.desc).map (fun d => d.parameters.length) = some fm_m157.2.2.2.2.2.1) := ⟨List.mem_of_getElem? (i := 775) (by decide +kernel), List.mem_of_getElem? (i := 61) (by decide +kernel), by decide +kernel⟩
theorem fm_mw158 : fm_cw fm_m158 ∈ lw_tbl ∧ Cond.initialized fm_m158.1.cls ∈ lw_tbl ∧ (fm_m158.1.cls ≠ "java/lang/invoke/MethodHandle" ∧ fm_m158.1.cls ≠ "java/lang/invoke/VarHandle" ∧ (parseMethodDescriptor fm_m158.1.desc).map (fun d => d.parameters.length) = some fm_m158.2.2.2.2.2.1) := ⟨List.mem_of_getElem? (i := 782) (by decide +kernel), List.mem_of_getElem? (i := 61) (by decide +kernel), by decide +kernel⟩
theorem fm_mw159 : fm_cw fm_m159 ∈ lw_tbl ∧ Cond.initialized fm_m159.1.cls ∈ lw_tbl ∧ (fm_m159.1.cls ≠ "java/lang/invoke/MethodHandle" ∧ fm_m159.1.cls ≠ "java/lang/invoke/VarHandle" ∧ (parseMethodDescriptor fm_m159.1.desc).map (fun d => d.parameters.length) = some fm_m159.2.2.2.2.2.1) := ⟨List.mem_of_getElem? (i := 789) (by decide +kernel), List.mem_of_getElem? (i := 61) (by decide +kernel), by decide +kernel⟩
theorem fm_mw160 : fm_cw fm_m160 ∈ lw_tbl ∧ Cond.initialized fm_m160.1.cls ∈ lw_tbl ∧ (fm_m160.1.cls ≠ "java/lang/invoke/MethodHandle" ∧ fm_m160.1.cls ≠ "java/lang/invoke/VarHandle" ∧ (parseMethodDescriptor fm_m160.1.desc).map (fun d => d.parameters.length) = some fm_m160.2.2.2.2.2.1) := ⟨List.mem_of_getElem? (i := 796) (by decide +kernel), List.mem_of_getElem? (i := 61) (by decide +kernel), by decide +kernel⟩
theorem fm_mw161 : fm_cw fm_m161 ∈ lw_tbl ∧ Cond.initialized fm_m161.1.cls ∈ lw_tbl ∧ (fm_m161.1.cls ≠ "java/lang/invoke/MethodHandle" ∧ fm_m161.1.cls ≠ "java/lang/invoke/VarHandle" ∧ (parseMethodDescriptor fm_m161.1.desc).map (fun d => d.parameters.length) = some fm_m161.2.2.2.2.2.1) := ⟨List.mem_of_getElem? (i := 803) (by decide +kernel), List.mem_of_getElem? (i := 61) (by decide +kernel), by decide +kernel⟩
theorem fm_mw162 : fm_cw fm_m162 ∈ lw_tbl ∧ Cond.initialized fm_m162.1.cls ∈ lw_tbl ∧ (fm_m162.1.cls ≠ "java/lang/invoke/MethodHandle" ∧ fm_m162.1.cls ≠ "java/lang/invoke/VarHandle" ∧ (parseMethodDescriptor fm_m162.1.desc).map (fun d => d.parameters.length) = some fm_m162.2.2.2.2.2.1) := ⟨List.mem_of_getElem? (i := 810) (by decide +kernel), List.mem_of_getElem? (i := 61) (by decide +kernel), by decide +kernel⟩
theorem fm_mw163 : fm_cw fm_m163 ∈ lw_tbl ∧ Cond.initialized fm_m163.1.cls ∈ lw_tbl ∧ (fm_m163.1.cls ≠ "java/lang/invoke/MethodHandle" ∧ fm_m163.1.cls ≠ "java/lang/invoke/VarHandle" ∧ (parseMethodDescriptor fm_m163.1.desc).map (fun d => d.parameters.length) = some fm_m163.2.2.2.2.2.1) := ⟨List.mem_of_getElem? (i := 818) (by decide +kernel), List.mem_of_getElem? (i := 61) (by decide +kernel), by decide +kernel⟩
theorem fm_mw164 : fm_cw fm_m164 ∈ lw_tbl ∧ Cond.initialized fm_m164.1.cls ∈ lw_tbl ∧ (fm_m164.1.cls ≠ "java/lang/invoke/MethodHandle" ∧ fm_m164.1.cls ≠ "java/lang/invoke/VarHandle" ∧ (parseMethodDescriptor fm_m164.1.desc).map (fun d => d.parameters.length) = some fm_m164.2.2.2.2.2.1) := ⟨List.mem_of_getElem? (i := 826) (by decide +kernel), List.mem_of_getElem? (i := 61) (by decide +kernel), by decide +kernel⟩
theorem fm_mw165 : fm_cw fm_m165 ∈ lw_tbl ∧ Cond.initialized fm_m165.1.cls ∈ lw_tbl ∧ (fm_m165.1.cls ≠ "java/lang/invoke/MethodHandle" ∧ fm_m165.1.cls ≠ "java/lang/invoke/VarHandle" ∧ (parseMethodDescriptor fm_m165.1.desc).map (fun d => d.parameters.length) = some fm_m165.2.2.2.2.2.1) := ⟨List.mem_of_getElem? (i := 833) (by decide +kernel), List.mem_of_getElem? (i := 61) (by decide +kernel), by decide +kernel⟩
theorem fm_mw166 : fm_cw fm_m166 ∈ lw_tbl ∧ Cond.initialized fm_m166.1.cls ∈ lw_tbl ∧ (fm_m166.1.cls ≠ "java/lang/invoke/MethodHandle" ∧ fm_m166.1.cls ≠ "java/lang/invoke/VarHandle" ∧ (parseMethodDescriptor fm_m166.1.desc).map (fun d => d.parameters.length) = some fm_m166.2.2.2.2.2.1) := ⟨List.mem_of_getElem? (i := 844) (by decide +kernel), List.mem_of_getElem? (i := 61) (by decide +kernel), by decide +kernel⟩
theorem fm_mw167 : fm_cw fm_m167 ∈ lw_tbl ∧ Cond.initialized fm_m167.1.cls ∈ lw_tbl ∧ (fm_m167.1.cls ≠ "java/lang/invoke/MethodHandle" ∧ fm_m167.1.cls ≠ "java/lang/invoke/VarHandle" ∧ (parseMethodDescriptor fm_m167.1.desc).map (fun d => d.parameters.length) = some fm_m167.2.2.2.2.2.1) := ⟨List.mem_of_getElem? (i := 851) (by decide +kernel), List.mem_of_getElem? (i := 61) (by decide +kernel), by decide +kernel⟩
theorem fm_mw168 : fm_cw fm_m168 ∈ lw_tbl ∧ Cond.initialized fm_m168.1.cls ∈ lw_tbl ∧ (fm_m168.1.cls ≠ "java/lang/invoke/MethodHandle" ∧ fm_m168.1.cls ≠ "java/lang/invoke/VarHandle" ∧ (parseMethodDescriptor fm_m168.1.desc).map (fun d => d.parameters.length) = some fm_m168.2.2.2.2.2.1) := ⟨List.mem_of_getElem? (i := 399) (by decide +kernel), List.mem_of_getElem? (i := 78) (by decide +kernel), by decide +kernel⟩
theorem fm_mw169 : fm_cw fm_m169 ∈ lw_tbl ∧ Cond.initialized fm_m169.1.cls ∈ lw_tbl ∧ (fm_m169.1.cls ≠ "java/lang/invoke/MethodHandle" ∧ fm_m169.1.cls ≠ "java/lang/invoke/VarHandle" ∧ (parseMethodDescriptor fm_m169.1.desc).map (fun d => d.parameters.length) = some fm_m169.2.2.2.2.2.1) := ⟨List.mem_of_getElem? (i := 343) (by decide +kernel), List.mem_of_getElem? (i := 77) (by decide +kernel), by decide +kernel⟩
theorem fm_mw170 : fm_cw fm_m170 ∈ lw_tbl ∧ Cond.initialized fm_m170.1.cls ∈ lw_tbl ∧ (fm_m170.1.cls ≠ "java/lang/invoke/MethodHandle" ∧ fm_m170.1.cls ≠ "java/lang/invoke/VarHandle" ∧ (parseMethodDescriptor fm_m170.1.desc).map (fun d => d.parameters.length) = some fm_m170.2.2.2.2.2.1) := ⟨List.mem_of_getElem? (i := 360) (by decide +kernel), List.mem_of_getElem? (i := 77) (by decide +kernel), by decide +kernel⟩
theorem fm_mw171 : fm_cw fm_m171 ∈ lw_tbl ∧ Cond.initialized fm_m171.1.cls ∈ lw_tbl ∧ (fm_m171.1.cls ≠ "java/lang/invoke/MethodHandle" ∧ fm_m171.1.cls ≠ "java/lang/invoke/VarHandle" ∧ (parseMethodDescriptor fm_m171.1.desc).map (fun d => d.parameters.length) = some fm_m171.2.2.2.2.2.1) := ⟨List.mem_of_getElem? (i := 302) (by decide +kernel), List.mem_of_getElem? (i := 77) (by decide +kernel), by decide +kernel⟩
end
section
/-! what is checked of the tables: once and for all, by computing -/
abbrev fm_Pm (rec : fm_MR) : Prop := fm_cw rec ∈ lw_tbl ∧ Cond.initialized rec.1.cls ∈ lw_tbl ∧ (rec.1.cls ≠ "java/lang/invoke/MethodHandle" ∧ rec.1.cls ≠ "java/lang/invoke/VarHandle" ∧ (parseMethodDescriptor rec.1.desc).map (fun d => d.parameters.length) = some rec.2.2.2.2.2.1)
theorem fm_mA0 : ∀ rec ∈ [fm_m1, fm_m2, fm_m3, fm_m4, fm_m5, fm_m6, fm_m7, fm_m8, fm_m9, fm_m10, fm_m11, fm_m12, fm_m13, fm_m14, fm_m15], fm_Pm rec := List.forall_mem_cons.mpr ⟨fm_mw1, List.forall_mem_cons.mpr ⟨fm_mw2, List.forall_mem_cons.mpr ⟨fm_mw3, List.forall_mem_cons.mpr ⟨fm_mw4, List.forall_mem_cons.mpr ⟨fm_mw5, List.forall_mem_cons.mpr ⟨fm_mw6, List.forall_mem_cons.mpr ⟨fm_mw7, List.forall_mem_cons.mpr ⟨fm_mw8, List.forall_mem_cons.mpr ⟨fm_mw9, List.forall_mem_cons.mpr ⟨fm_mw10, List.forall_mem_cons.mpr ⟨fm_mw11, List.forall_mem_cons.mpr ⟨fm_mw12, List.forall_mem_cons.mpr ⟨fm_mw13, List.forall_mem_cons.mpr ⟨fm_mw14, List.forall_mem_cons.mpr ⟨fm_mw15, fun _ h => absurd h List.not_mem_nil⟩⟩⟩⟩⟩⟩⟩⟩⟩⟩⟩⟩⟩⟩⟩
theorem fm_mA1 : ∀ rec ∈ [fm_m16, fm_m17, fm_m18, fm_m19, fm_m20, fm_m21, fm_m22, fm_m23, fm_m24, fm_m25, fm_m26, fm_m27, fm_m28, fm_m29, fm_m30], fm_Pm rec := List.forall_mem_cons.mpr ⟨fm_mw16, List.forall_mem_cons.mpr ⟨fm_mw17, List.forall_mem_cons.mpr ⟨fm_mw18, List.forall_mem_cons.mpr ⟨fm_mw19, List.forall_mem_cons.mpr ⟨fm_mw20, List.forall_mem_cons.mpr ⟨fm_mw21, List.forall_mem_cons.mpr ⟨fm_mw22, List.forall_mem_cons.mpr ⟨fm_mw23, List.forall_mem_cons.mpr ⟨fm_mw24, List.forall_mem_cons.mpr ⟨fm_mw25, List.forall_mem_cons.mpr ⟨fm_mw26, List.forall_mem_cons.mpr ⟨fm_mw27, List.forall_mem_cons.mpr ⟨fm_mw28, List.forall_mem_cons.mpr ⟨fm_mw29, List.forall_mem_cons.mpr ⟨fm_mw30, fun _ h => absurd h List.not_mem_nil⟩⟩⟩⟩⟩⟩⟩⟩⟩⟩⟩⟩⟩⟩⟩
theorem fm_mA2 : ∀ rec ∈ [fm_m31, fm_m32, fm_m33, fm_m34, fm_m35, fm_m36, fm_m37, fm_m38, fm_m39, fm_m40, fm_m41, fm_m42, fm_m43, fm_m44, fm_m45], fm_Pm rec := List.forall_mem_cons.mpr ⟨fm_mw31, List.forall_mem_cons.mpr ⟨fm_mw32, List.forall_mem_cons.mpr ⟨fm_mw33, List.forall_mem_cons.mpr ⟨fm_mw34, List.forall_mem_cons.mpr ⟨fm_mw35, List.forall_mem_cons.mpr ⟨fm_mw36, List.forall_mem_cons.mpr ⟨fm_mw37, List.forall_mem_cons.mpr ⟨fm_mw38, List.forall_mem_cons.mpr ⟨fm_mw39, List.forall_mem_cons.mpr ⟨fm_mw40, List.forall_mem_cons.mpr ⟨fm_mw41, List.forall_mem_cons.mpr ⟨fm_mw42, List.forall_mem_cons.mpr ⟨fm_mw43, List.forall_mem_cons.mpr ⟨fm_mw44, List.forall_mem_cons.mpr ⟨fm_mw45, fun _ h => absurd h List.not_mem_nil⟩⟩⟩⟩⟩⟩⟩⟩⟩⟩⟩⟩⟩⟩⟩
theorem fm_mA3 : ∀ rec ∈ [fm_m46, fm_m47, fm_m48, fm_m49, fm_m50, fm_m51, fm_m52, fm_m53, fm_m54, fm_m55, fm_m56, fm_m57, fm_m58, fm_m59, fm_m60], fm_Pm rec := List.forall_mem_cons.mpr ⟨fm_mw46, List.forall_mem_cons.mpr ⟨fm_mw47, List.forall_mem_cons.mpr ⟨fm_mw48, List.forall_mem_cons.mpr ⟨fm_mw49, List.forall_mem_cons.mpr ⟨fm_mw50, List.forall_mem_cons.mpr ⟨fm_mw51, List.forall_mem_cons.mpr ⟨fm_mw52, List.forall_mem_cons.mpr ⟨fm_mw53, List.forall_mem_cons.mpr ⟨fm_mw54, List.forall_mem_cons.mpr ⟨fm_mw55, List.forall_mem_cons.mpr ⟨fm_mw56, List.forall_mem_cons.mpr ⟨fm_mw57, List.forall_mem_cons.mpr ⟨fm_mw58, List.forall_mem_cons.mpr ⟨fm_mw59, List.forall_mem_cons.mpr ⟨fm_mw60, fun _ h => absurd h List.not_mem_nil⟩⟩⟩⟩⟩⟩⟩⟩⟩⟩⟩⟩⟩⟩⟩
theorem fm_mA4 : ∀ rec ∈ [fm_m61, fm_m62, fm_m63, fm_m64, fm_m65, fm_m66, fm_m67, fm_m68, fm_m69, fm_m70, fm_m71, fm_m72, fm_m73, fm_m74, fm_m75], fm_Pm rec := List.forall_mem_cons.mpr ⟨fm_mw61, List.forall_mem_cons.mpr ⟨fm_mw62, List.forall_mem_cons.mpr ⟨fm_mw63, List.forall_mem_cons.mpr ⟨fm_mw64, List.forall_mem_cons.mpr ⟨fm_mw65, List.forall_mem_cons.mpr ⟨fm_mw66, List.forall_mem_cons.mpr ⟨fm_mw67, List.forall_mem_cons.mpr ⟨fm_mw68, List.forall_mem_cons.mpr ⟨fm_mw69, List.forall_mem_cons.mpr ⟨fm_mw70, List.forall_mem_cons.mpr ⟨fm_mw71, List.forall_mem_cons.mpr ⟨fm_mw72, List.forall_mem_cons.mpr ⟨fm_mw73, List.forall_mem_cons.mpr ⟨fm_mw74, List.forall_mem_cons.mpr ⟨fm_mw75, fun _ h => absurd h List.not_mem_nil⟩⟩⟩⟩⟩⟩⟩⟩⟩⟩⟩⟩⟩⟩⟩
theorem fm_mA5 : ∀ rec ∈ [fm_m76, fm_m77, fm_m78, fm_m79, fm_m80, fm_m81, fm_m82, fm_m83, fm_m84, fm_m85, fm_m86, fm_m87, fm_m88, fm_m89, fm_m90], fm_Pm rec := List.forall_mem_cons.mpr ⟨fm_mw76, List.forall_mem_cons.mpr ⟨fm_mw77, List.forall_mem_cons.mpr ⟨fm_mw78, List.forall_mem_cons.mpr ⟨fm_mw79, List.forall_mem_cons.mpr ⟨fm_mw80, List.forall_mem_cons.mpr ⟨fm_mw81, List.forall_mem_cons.mpr ⟨fm_mw82, List.forall_mem_cons.mpr ⟨fm_mw83, List.forall_mem_cons.mpr ⟨fm_mw84, List.forall_mem_cons.mpr ⟨fm_mw85, List.forall_mem_cons.mpr ⟨fm_mw86, List.forall_mem_cons.mpr ⟨fm_mw87, List.forall_mem_cons.mpr ⟨fm_mw88, List.forall_mem_cons.mpr ⟨fm_mw89, List.forall_mem_cons.mpr ⟨fm_mw90, fun _ h => absurd h List.not_mem_nil⟩⟩⟩⟩⟩⟩⟩⟩⟩⟩⟩⟩⟩⟩⟩
theorem fm_mA6 : ∀ rec ∈ [fm_m91, fm_m92, fm_m93, fm_m94, fm_m95, fm_m96, fm_m97, fm_m98, fm_m99, fm_m100, fm_m101, fm_m102, fm_m103, fm_m104, fm_m105], fm_Pm rec := List.forall_mem_cons.mpr ⟨fm_mw91, List.forall_mem_cons.mpr ⟨fm_mw92, List.forall_mem_cons.mpr ⟨fm_mw93, List.forall_mem_cons.mpr ⟨fm_mw94, List.forall_mem_cons.mpr ⟨fm_mw95, List.forall_mem_cons.mpr ⟨fm_mw96, List.forall_mem_cons.mpr ⟨fm_mw97, List.forall_mem_cons.mpr ⟨fm_mw98, List.forall_mem_cons.mpr ⟨fm_mw99, List.forall_mem_cons.mpr ⟨fm_mw100, List.forall_mem_cons.mpr ⟨fm_mw101, List.forall_mem_cons.mpr ⟨fm_mw102, List.forall_mem_cons.mpr ⟨fm_mw103, List.forall_mem_cons.mpr ⟨fm_mw104, List.forall_mem_cons.mpr ⟨fm_mw105, fun _ h => absurd h List.not_mem_nil⟩⟩⟩⟩⟩⟩⟩⟩⟩⟩⟩⟩⟩⟩⟩
theorem fm_mA7 : ∀ rec ∈ [fm_m106, fm_m107, fm_m108, fm_m109, fm_m110, fm_m111, fm_m112, fm_m113, fm_m114, fm_m115, fm_m116, fm_m117, fm_m118, fm_m119, fm_m120], fm_Pm rec := List.forall_mem_cons.mpr ⟨fm_mw106, List.forall_mem_cons.mpr ⟨fm_mw107, List.forall_mem_cons.mpr ⟨fm_mw108, List.forall_mem_cons.mpr ⟨fm_mw109, List.forall_mem_cons.mpr ⟨fm_mw110, List.forall_mem_cons.mpr ⟨fm_mw111, List.forall_mem_cons.mpr ⟨fm_mw112, List.forall_mem_cons.mpr ⟨fm_mw113, List.forall_mem_cons.mpr ⟨fm_mw114, List.forall_mem_cons.mpr ⟨fm_mw115, List.forall_mem_cons.mpr ⟨fm_mw116, List.forall_mem_cons.mpr ⟨fm_mw117, List.forall_mem_cons.mpr ⟨fm_mw118, List.forall_mem_cons.mpr ⟨fm_mw119, List.forall_mem_cons.mpr ⟨fm_mw120, fun _ h => absurd h List.not_mem_nil⟩⟩⟩⟩⟩⟩⟩⟩⟩⟩⟩⟩⟩⟩⟩
theorem fm_mA8 : ∀ rec ∈ [fm_m121, fm_m122, fm_m123, fm_m124, fm_m125, fm_m126, fm_m127, fm_m128, fm_m129, fm_m130, fm_m131, fm_m132, fm_m133, fm_m134, fm_m135], fm_Pm rec := List.forall_mem_cons.mpr ⟨fm_mw121, List.forall_mem_cons.mpr ⟨fm_mw122, List.forall_mem_cons.mpr ⟨fm_mw123, List.forall_mem_cons.mpr ⟨fm_mw124, List.forall_mem_cons.mpr ⟨fm_mw125, List.forall_mem_cons.mpr ⟨fm_mw126, List.forall_mem_cons.mpr ⟨fm_mw127, List.forall_mem_cons.mpr ⟨fm_mw128, List.forall_mem_cons.mpr ⟨fm_mw129, List.forall_mem_cons.mpr ⟨fm_mw130, List.forall_mem_cons.mpr ⟨fm_mw131, List.forall_mem_cons.mpr ⟨fm_mw132, List.forall_mem_cons.mpr ⟨fm_mw133, List.forall_mem_cons.mpr ⟨fm_mw134, List.forall_mem_cons.mpr ⟨fm_mw135, fun _ h => absurd h List.not_mem_nil⟩⟩⟩⟩⟩⟩⟩⟩⟩⟩⟩⟩⟩⟩⟩
theorem fm_mA9 : ∀ rec ∈ [fm_m136, fm_m137, fm_m138, fm_m139, fm_m140, fm_m141, fm_m142, fm_m143, fm_m144, fm_m145, fm_m146, fm_m147, fm_m148, fm_m149, fm_m150], fm_Pm rec := List.forall_mem_cons.mpr ⟨fm_mw136, List.forall_mem_cons.mpr ⟨fm_mw137, List.forall_mem_cons.mpr ⟨fm_mw138, List.forall_mem_cons.mpr ⟨fm_mw139, List.forall_mem_cons.mpr ⟨fm_mw140, List.forall_mem_cons.mpr ⟨fm_mw141, List.forall_mem_cons.mpr ⟨fm_mw142, List.forall_mem_cons.mpr ⟨fm_mw143, List.forall_mem_cons.mpr ⟨fm_mw144, List.forall_mem_cons.mpr ⟨fm_mw145, List.forall_mem_cons.mpr ⟨fm_mw146, List.forall_mem_cons.mpr ⟨fm_mw147, List.forall_mem_cons.mpr ⟨fm_mw148, List.forall_mem_cons.mpr ⟨fm_mw149, List.forall_mem_cons.mpr ⟨fm_mw150, fun _ h => absurd h List.not_mem_nil⟩⟩⟩⟩⟩⟩⟩⟩⟩⟩⟩⟩⟩⟩⟩
theorem fm_mA10 : ∀ rec ∈ [fm_m151, fm_m152, fm_m153, fm_m154, fm_m155, fm_m156, fm_m157, fm_m158, fm_m159, fm_m160, fm_m161, fm_m162, fm_m163, fm_m164, fm_m165], fm_Pm rec := List.forall_mem_cons.mpr ⟨fm_mw151, List.forall_mem_cons.mpr ⟨fm_mw152, List.forall_mem_cons.mpr ⟨fm_mw153, List.forall_mem_cons.mpr ⟨fm_mw154, List.forall_mem_cons.mpr ⟨fm_mw155, List.forall_mem_cons.mpr ⟨fm_mw156, List.forall_mem_cons.mpr ⟨fm_mw157, List.forall_mem_cons.mpr ⟨fm_mw158, List.forall_mem_cons.mpr ⟨fm_mw159, List.forall_mem_cons.mpr ⟨fm_mw160, List.forall_mem_cons.mpr ⟨fm_mw161, List.forall_mem_cons.mpr ⟨fm_mw162, List.forall_mem_cons.mpr ⟨fm_mw163, List.forall_mem_cons.mpr ⟨fm_mw164, List.forall_mem_cons.mpr ⟨fm_mw165, fun _ h => absurd h List.not_mem_nil⟩⟩⟩⟩⟩⟩⟩⟩⟩⟩⟩⟩⟩⟩⟩
theorem fm_mA11 : ∀ rec ∈ [fm_m166, fm_m167, fm_m168, fm_m169, fm_m170, fm_m171], fm_Pm rec := List.forall_mem_cons.mpr ⟨fm_mw166, List.forall_mem_cons.mpr ⟨fm_mw167, List.forall_mem_cons.mpr ⟨fm_mw168, List.forall_mem_cons.mpr ⟨fm_mw169, List.forall_mem_cons.mpr ⟨fm_mw170, List.forall_mem_cons.mpr ⟨fm_mw171, fun _ h => absurd h List.not_mem_nil⟩⟩⟩⟩⟩⟩
theorem fm_mA : ∀ rec ∈ [fm_m1, fm_m2, fm_m3, fm_m4, fm_m5, fm_m6, fm_m7, fm_m8, fm_m9, fm_m10, fm_m11, fm_m12, fm_m13, fm_m14, fm_m15] ++ ([fm_m16, fm_m17, fm_m18, fm_m19, fm_m20, fm_m21, fm_m22, fm_m23, fm_m24, fm_m25, fm_m26, fm_m27, fm_m28, fm_m29, fm_m30] ++ ([fm_m31, fm_m32, fm_m33, fm_m34, fm_m35, fm_m36, fm_m37, fm_m38, fm_m39, fm_m40, fm_m41, fm_m42, fm_m43, fm_m44, fm_m45] ++ ([fm_m46, fm_m47, fm_m48, fm_m49, fm_m50, fm_m51, fm_m52, fm_m53, fm_m54, fm_m55, fm_m56, fm_m57, fm_m58, fm_m59, fm_m60] ++ ([fm_m61, fm_m62, fm_m63, fm_m64, fm_m65, fm_m66, fm_m67, fm_m68, fm_m69, fm_m70, fm_m71, fm_m72, fm_m73, fm_m74, fm_m75] ++ ([fm_m76, fm_m77, fm_m78, fm_m79, fm_m80, fm_m81, fm_m82, fm_m83, fm_m84, fm_m85, fm_m86, fm_m87, fm_m88, fm_m89, fm_m90] ++ ([fm_m91, fm_m92, fm_m93, fm_m94, fm_m95, fm_m96, fm_m97, fm_m98, fm_m99, fm_m100, fm_m101, fm_m102, fm_m103, fm_m104, fm_m105] ++ ([fm_m106, fm_m107, fm_m108, fm_m109, fm_m110, fm_m111, fm_m112, fm_m113, fm_m114, fm_m115, fm_m116, fm_m117, fm_m118, fm_m119, fm_m120] ++ ([fm_m121, fm_m122, fm_m123, fm_m124, fm_m125, fm_m126, fm_m127, fm_m128, fm_m129, fm_m130, fm_m131, fm_m132, fm_m133, fm_m134, fm_m135] ++ ([fm_m136, fm_m137, fm_m138, fm_m139, fm_m140, fm_m141, fm_m142, fm_m143, fm_m144, fm_m145, fm_m146, fm_m147, fm_m148, fm_m149, fm_m150] ++ ([fm_m151, fm_m152, fm_m153, fm_m154, fm_m155, fm_m156, fm_m157, fm_m158, fm_m159, fm_m160, fm_m161, fm_m162, fm_m163, fm_m164, fm_m165] ++ ([fm_m166, fm_m167, fm_m168, fm_m169, fm_m170, fm_m171]))))))))))), fm_Pm rec := List.forall_mem_append.mpr ⟨fm_mA0, List.forall_mem_append.mpr ⟨fm_mA1, List.forall_mem_append.mpr ⟨fm_mA2, List.forall_mem_append.mpr ⟨fm_mA3, List.forall_mem_append.mpr ⟨fm_mA4, List.forall_mem_append.mpr ⟨fm_mA5, List.forall_mem_append.mpr ⟨fm_mA6, List.forall_mem_append.mpr ⟨fm_mA7, List.forall_mem_append.mpr ⟨fm_mA8, List.forall_mem_append.mpr ⟨fm_mA9, List.forall_mem_append.mpr ⟨fm_mA10, fm_mA11⟩⟩⟩⟩⟩⟩⟩⟩⟩⟩⟩
theorem fm_mAt {i : Nat} {rec : fm_MR} (h0 : 0 < i) (h : fm_ms[i]? = some rec) : fm_Pm rec := by
  refine fm_mA rec ?_
  cases i with
  | zero => cases h0
  | succ i => exact List.mem_of_getElem? (i := i) h
def fm_cB (z : (String × Nat × Nat × Nat × Option String) × List Nat) : Bool := Nat.blt 0 z.1.2.2.1 && (match fm_ms[z.1.2.2.1]? with
  | some r9 => (match z.1.2.2.2.2 with
      | none => fm_inT (z.2.getD 0 0) (Cond.methodLink z.1.1 z.1.2.1 r9.1)
      | some h => fm_inT (z.2.getD 0 0) (Cond.methodLinkNest z.1.1 z.1.2.1 r9.1 h)) &&
    (match z.1.2.2.2.1 with
      | 0 => fm_inT (z.2.getD 1 0) (Cond.instanceMethod r9.1) && fm_inT (z.2.getD 2 0) (Cond.selects r9.1.cls r9.1 r9.1) && r9.2.2.2.2.1.isEmpty
      | 1 => fm_inT (z.2.getD 1 0) (Cond.static r9.1) && (r9.2.2.2.2.1.isEmpty || z.1.2.2.2.2.isNone)
      | _ => decide (r9.1.name = "<init>") && fm_inT (z.2.getD 1 0) (Cond.instanceMethod r9.1) && r9.2.2.2.2.1.isEmpty && r9.2.2.2.1.isNone)
  | none => false)
theorem fm_cBA : fm_tI.all fm_cB = true := by decide +kernel
theorem fm_Cl0 : fm_CallOk fm_T0 fm_ms := by
  intro q hq rec hrec
  obtain ⟨z, hz, rfl⟩ := List.mem_map.mp (show q ∈ fm_tI.map Prod.fst from hq)
  have h := List.all_eq_true.mp fm_cBA z hz
  unfold fm_cB at h
  simp only [Bool.and_eq_true] at h
  obtain ⟨h0, h⟩ := h
  rw [hrec] at h
  simp only [Bool.and_eq_true] at h
  obtain ⟨h1, h2⟩ := h
  obtain ⟨m1, m2, m3⟩ := fm_mAt (by simpa using h0) hrec
  obtain ⟨⟨z1, z2, z3, z4, z5⟩, ix⟩ := z
  dsimp only at h1 h2 hrec ⊢
  refine ⟨m1, m2, m3, ?_, ?_⟩
  · cases z5 with
    | none => exact fm_inT_ok h1
    | some hst => exact fm_inT_ok h1
  · match z4, h2 with
    | 0, h2 =>
      simp only [Bool.and_eq_true] at h2
      exact ⟨fm_inT_ok h2.1.1, fm_inT_ok h2.1.2, List.isEmpty_iff.mp h2.2⟩
    | 1, h2 =>
      simp only [Bool.and_eq_true, Bool.or_eq_true] at h2
      exact ⟨fm_inT_ok h2.1, h2.2.elim (fun y => Or.inl (List.isEmpty_iff.mp y)) (fun y => Or.inr (Option.isNone_iff_eq_none.mp y))⟩
    | (_ + 2), h2 =>
      simp only [Bool.and_eq_true] at h2
      exact ⟨of_decide_eq_true h2.1.1.1, fm_inT_ok h2.1.1.2, List.isEmpty_iff.mp h2.1.2, Option.isNone_iff_eq_none.mp h2.2⟩
theorem fm_tFA : fm_tF.all (fun z => fm_inT z.2 (fm_fw z.1)) = true := by decide +kernel
theorem fm_Tb0 : fm_TbOk fm_T0 := by
  refine ⟨fun q hq => ?_, by decide +kernel, by decide +kernel, by decide +kernel, by decide +kernel, by decide +kernel, by decide +kernel, by decide +kernel, by decide +kernel, by decide +kernel, by decide +kernel⟩
  obtain ⟨z, hz, rfl⟩ := List.mem_map.mp (show q ∈ fm_tF.map Prod.fst from hq)
  exact fm_inT_ok (List.all_eq_true.mp fm_tFA z hz)
theorem fm_Ca0 : fm_CaOk := by
  unfold fm_CaOk
  decide +kernel
def fm_mckI (i : Nat) : Bool := match fm_ms[i]? with
  | some r9 => fm_mck fm_T0 fm_ms (fm_codes.getD i []) (fm_hnds.getD i []) (fm_maxL.getD i 0) r9
  | none => true
def fm_row0 (x : fm_En) : Bool := fm_dck fm_m0.2.1 x && fm_ck fm_T0 fm_c0 fm_m0.1.cls fm_m0.2.2.2.2.2.2.2.2 (decide (fm_m0.1.name = "<init>")) fm_m0.2.2.2.1 x && fm_ck2 fm_ms fm_m0.2.2.2.2.2.2.1 fm_m0.2.2.2.2.2.2.2.1 x
theorem fm_r0_0 : ((fm_c0.drop 0).take 25).all fm_row0 = true := by decide +kernel
theorem fm_r0_1 : ((fm_c0.drop 25).take 25).all fm_row0 = true := by decide +kernel
theorem fm_r0_2 : ((fm_c0.drop 50).take 25).all fm_row0 = true := by decide +kernel
theorem fm_r0_3 : ((fm_c0.drop 75).take 25).all fm_row0 = true := by decide +kernel
theorem fm_r0_4 : ((fm_c0.drop 100).take 25).all fm_row0 = true := by decide +kernel
theorem fm_r0_5 : ((fm_c0.drop 125).take 25).all fm_row0 = true := by decide +kernel
theorem fm_r0_6 : ((fm_c0.drop 150).take 25).all fm_row0 = true := by decide +kernel
theorem fm_r0_7 : ((fm_c0.drop 175).take 25).all fm_row0 = true := by decide +kernel
theorem fm_r0_8 : ((fm_c0.drop 200).take 25).all fm_row0 = true := by decide +kernel
theorem fm_r0_9 : ((fm_c0.drop 225).take 25).all fm_row0 = true := by decide +kernel
theorem fm_r0_10 : ((fm_c0.drop 250).take 25).all fm_row0 = true := by decide +kernel
theorem fm_r0_11 : ((fm_c0.drop 275).take 25).all fm_row0 = true := by decide +kernel
theorem fm_r0_12 : ((fm_c0.drop 300).take 25).all fm_row0 = true := by decide +kernel
theorem fm_r0_13 : ((fm_c0.drop 325).take 25).all fm_row0 = true := by decide +kernel
theorem fm_r0_14 : ((fm_c0.drop 350).take 25).all fm_row0 = true := by decide +kernel
theorem fm_r0_15 : ((fm_c0.drop 375).take 25).all fm_row0 = true := by decide +kernel
theorem fm_r0_16 : ((fm_c0.drop 400).take 25).all fm_row0 = true := by decide +kernel
theorem fm_r0_17 : ((fm_c0.drop 425).take 25).all fm_row0 = true := by decide +kernel
theorem fm_r0_18 : ((fm_c0.drop 450).take 25).all fm_row0 = true := by decide +kernel
theorem fm_r0_19 : ((fm_c0.drop 475).take 25).all fm_row0 = true := by decide +kernel
theorem fm_r0_20 : ((fm_c0.drop 500).take 25).all fm_row0 = true := by decide +kernel
theorem fm_r0_21 : ((fm_c0.drop 525).take 25).all fm_row0 = true := by decide +kernel
theorem fm_r0_22 : ((fm_c0.drop 550).take 25).all fm_row0 = true := by decide +kernel
theorem fm_r0_23 : ((fm_c0.drop 575).take 25).all fm_row0 = true := by decide +kernel
theorem fm_r0_24 : ((fm_c0.drop 600).take 25).all fm_row0 = true := by decide +kernel
theorem fm_r0_25 : ((fm_c0.drop 625).take 25).all fm_row0 = true := by decide +kernel
theorem fm_r0_26 : ((fm_c0.drop 650).take 25).all fm_row0 = true := by decide +kernel
theorem fm_r0_27 : ((fm_c0.drop 675).take 25).all fm_row0 = true := by decide +kernel
theorem fm_r0_28 : ((fm_c0.drop 700).take 25).all fm_row0 = true := by decide +kernel
theorem fm_r0_29 : ((fm_c0.drop 725).take 25).all fm_row0 = true := by decide +kernel
theorem fm_r0_30 : ((fm_c0.drop 750).take 25).all fm_row0 = true := by decide +kernel
theorem fm_r0_31 : ((fm_c0.drop 775).take 25).all fm_row0 = true := by decide +kernel
theorem fm_r0_32 : ((fm_c0.drop 800).take 25).all fm_row0 = true := by decide +kernel
theorem fm_r0_33 : ((fm_c0.drop 825).take 25).all fm_row0 = true := by decide +kernel
theorem fm_r0_34 : ((fm_c0.drop 850).take 25).all fm_row0 = true := by decide +kernel
theorem fm_r0_35 : ((fm_c0.drop 875).take 25).all fm_row0 = true := by decide +kernel
theorem fm_r0_36 : ((fm_c0.drop 900).take 25).all fm_row0 = true := by decide +kernel
theorem fm_r0_37 : ((fm_c0.drop 925).take 25).all fm_row0 = true := by decide +kernel
theorem fm_r0_38 : ((fm_c0.drop 950).take 25).all fm_row0 = true := by decide +kernel
theorem fm_r0_39 : ((fm_c0.drop 975).take 25).all fm_row0 = true := by decide +kernel
theorem fm_r0_40 : ((fm_c0.drop 1000).take 25).all fm_row0 = true := by decide +kernel
theorem fm_r0_41 : ((fm_c0.drop 1025).take 25).all fm_row0 = true := by decide +kernel
theorem fm_r0_42 : ((fm_c0.drop 1050).take 25).all fm_row0 = true := by decide +kernel
theorem fm_r0_43 : ((fm_c0.drop 1075).take 25).all fm_row0 = true := by decide +kernel
theorem fm_r0_44 : ((fm_c0.drop 1100).take 25).all fm_row0 = true := by decide +kernel
theorem fm_r0_45 : ((fm_c0.drop 1125).take 25).all fm_row0 = true := by decide +kernel
theorem fm_all_ch {α : Type} (f : α → Bool) (n : Nat) (l : List α) (h : ∀ k, ((l.drop (k * n)).take n).all f = true) (hn : 0 < n) : l.all f = true := by
  refine List.all_eq_true.mpr fun x hx => ?_
  obtain ⟨i, hi⟩ := List.mem_iff_getElem?.mp hx
  refine List.all_eq_true.mp (h (i / n)) x (List.mem_of_getElem? (i := i % n) ?_)
  rw [List.getElem?_take, if_pos (Nat.mod_lt _ hn), List.getElem?_drop, Nat.div_add_mod' i n]
  exact hi
theorem fm_c0_len : fm_c0.length = 1129 := by decide +kernel
theorem fm_r0 : fm_c0.all fm_row0 = true := by
  refine fm_all_ch fm_row0 25 fm_c0 (fun k => ?_) (by decide)
  match k with
  | 0 => exact fm_r0_0
  | 1 => exact fm_r0_1
  | 2 => exact fm_r0_2
  | 3 => exact fm_r0_3
  | 4 => exact fm_r0_4
  | 5 => exact fm_r0_5
  | 6 => exact fm_r0_6
  | 7 => exact fm_r0_7
  | 8 => exact fm_r0_8
  | 9 => exact fm_r0_9
  | 10 => exact fm_r0_10
  | 11 => exact fm_r0_11
  | 12 => exact fm_r0_12
  | 13 => exact fm_r0_13
  | 14 => exact fm_r0_14
  | 15 => exact fm_r0_15
  | 16 => exact fm_r0_16
  | 17 => exact fm_r0_17
  | 18 => exact fm_r0_18
  | 19 => exact fm_r0_19
  | 20 => exact fm_r0_20
  | 21 => exact fm_r0_21
  | 22 => exact fm_r0_22
  | 23 => exact fm_r0_23
  | 24 => exact fm_r0_24
  | 25 => exact fm_r0_25
  | 26 => exact fm_r0_26
  | 27 => exact fm_r0_27
  | 28 => exact fm_r0_28
  | 29 => exact fm_r0_29
  | 30 => exact fm_r0_30
  | 31 => exact fm_r0_31
  | 32 => exact fm_r0_32
  | 33 => exact fm_r0_33
  | 34 => exact fm_r0_34
  | 35 => exact fm_r0_35
  | 36 => exact fm_r0_36
  | 37 => exact fm_r0_37
  | 38 => exact fm_r0_38
  | 39 => exact fm_r0_39
  | 40 => exact fm_r0_40
  | 41 => exact fm_r0_41
  | 42 => exact fm_r0_42
  | 43 => exact fm_r0_43
  | 44 => exact fm_r0_44
  | 45 => exact fm_r0_45
  | k + 46 =>
    rw [List.drop_eq_nil_of_le (by rw [fm_c0_len]; omega)]
    rfl
theorem fm_mk0 : fm_mck fm_T0 fm_ms fm_c0 fm_h0 10 fm_m0 = true := by
  unfold fm_mck
  simp only [Bool.and_eq_true]
  exact ⟨⟨⟨⟨⟨fm_r0, by decide +kernel⟩, by decide +kernel⟩, by decide +kernel⟩, by decide +kernel⟩, by decide +kernel⟩
theorem fm_mk1 : [1, 2, 3, 4, 5, 6, 7, 8, 9].all fm_mckI = true := by decide +kernel
theorem fm_mk2 : [10, 11, 12, 13, 14, 15, 16, 17, 18].all fm_mckI = true := by decide +kernel
theorem fm_mk3 : [19, 20, 21, 22, 23, 24, 25, 26, 27].all fm_mckI = true := by decide +kernel
theorem fm_mk4 : [28, 29, 30, 31, 32, 33, 34, 35, 36].all fm_mckI = true := by decide +kernel
theorem fm_mk5 : [37, 38, 39, 40, 41, 42, 43, 44, 45].all fm_mckI = true := by decide +kernel
theorem fm_mk6 : [46, 47, 48, 49, 50, 51, 52, 53, 54].all fm_mckI = true := by decide +kernel
theorem fm_mk7 : [55, 56, 57, 58, 59, 60, 61, 62, 63].all fm_mckI = true := by decide +kernel
theorem fm_mk8 : [64, 65, 66, 67, 68, 69, 70, 71, 72].all fm_mckI = true := by decide +kernel
theorem fm_mk9 : [73, 74, 75, 76, 77, 78, 79, 80, 81].all fm_mckI = true := by decide +kernel
theorem fm_mk10 : [82, 83, 84, 85, 86, 87, 88, 89, 90].all fm_mckI = true := by decide +kernel
theorem fm_mk11 : [91, 92, 93, 94, 95, 96, 97, 98, 99].all fm_mckI = true := by decide +kernel
theorem fm_mk12 : [100, 101, 102, 103, 104, 105, 106, 107, 108].all fm_mckI = true := by decide +kernel
theorem fm_mk13 : [109, 110, 111, 112, 113, 114, 115, 116, 117].all fm_mckI = true := by decide +kernel
theorem fm_mk14 : [118, 119, 120, 121, 122, 123, 124, 125, 126].all fm_mckI = true := by decide +kernel
theorem fm_mk15 : [127, 128, 129, 130, 131, 132, 133, 134, 135].all fm_mckI = true := by decide +kernel
theorem fm_mk16 : [136, 137, 138, 139, 140, 141, 142, 143, 144].all fm_mckI = true := by decide +kernel
theorem fm_mk17 : [145, 146, 147, 148, 149, 150, 151, 152, 153].all fm_mckI = true := by decide +kernel
theorem fm_mk18 : [154, 155, 156, 157, 158, 159, 160, 161, 162].all fm_mckI = true := by decide +kernel
theorem fm_mk19 : [163, 164, 165, 166, 167, 168, 169, 170, 171].all fm_mckI = true := by decide +kernel
theorem fm_mkA {i : Nat} (hi : i < 172) : fm_mckI i = true := by
  match i, hi with
  | 0, _ => exact fm_mk0
  | 1, _ => exact List.all_eq_true.mp fm_mk1 1 (by decide)
  | 2, _ => exact List.all_eq_true.mp fm_mk1 2 (by decide)
  | 3, _ => exact List.all_eq_true.mp fm_mk1 3 (by decide)
  | 4, _ => exact List.all_eq_true.mp fm_mk1 4 (by decide)
  | 5, _ => exact List.all_eq_true.mp fm_mk1 5 (by decide)
  | 6, _ => exact List.all_eq_true.mp fm_mk1 6 (by decide)
  | 7, _ => exact List.all_eq_true.mp fm_mk1 7 (by decide)
  | 8, _ => exact List.all_eq_true.mp fm_mk1 8 (by decide)
  | 9, _ => exact List.all_eq_true.mp fm_mk1 9 (by decide)
  | 10, _ => exact List.all_eq_true.mp fm_mk2 10 (by decide)
  | 11, _ => exact List.all_eq_true.mp fm_mk2 11 (by decide)
  | 12, _ => exact List.all_eq_true.mp fm_mk2 12 (by decide)
  | 13, _ => exact List.all_eq_true.mp fm_mk2 13 (by decide)
  | 14, _ => exact List.all_eq_true.mp fm_mk2 14 (by decide)
  | 15, _ => exact List.all_eq_true.mp fm_mk2 15 (by decide)
  | 16, _ => exact List.all_eq_true.mp fm_mk2 16 (by decide)
  | 17, _ => exact List.all_eq_true.mp fm_mk2 17 (by decide)
  | 18, _ => exact List.all_eq_true.mp fm_mk2 18 (by decide)
  | 19, _ => exact List.all_eq_true.mp fm_mk3 19 (by decide)
  | 20, _ => exact List.all_eq_true.mp fm_mk3 20 (by decide)
  | 21, _ => exact List.all_eq_true.mp fm_mk3 21 (by decide)
  | 22, _ => exact List.all_eq_true.mp fm_mk3 22 (by decide)
  | 23, _ => exact List.all_eq_true.mp fm_mk3 23 (by decide)
  | 24, _ => exact List.all_eq_true.mp fm_mk3 24 (by decide)
  | 25, _ => exact List.all_eq_true.mp fm_mk3 25 (by decide)
  | 26, _ => exact List.all_eq_true.mp fm_mk3 26 (by decide)
  | 27, _ => exact List.all_eq_true.mp fm_mk3 27 (by decide)
  | 28, _ => exact List.all_eq_true.mp fm_mk4 28 (by decide)
  | 29, _ => exact List.all_eq_true.mp fm_mk4 29 (by decide)
  | 30, _ => exact List.all_eq_true.mp fm_mk4 30 (by decide)
  | 31, _ => exact List.all_eq_true.mp fm_mk4 31 (by decide)
  | 32, _ => exact List.all_eq_true.mp fm_mk4 32 (by decide)
  | 33, _ => exact List.all_eq_true.mp fm_mk4 33 (by decide)
  | 34, _ => exact List.all_eq_true.mp fm_mk4 34 (by decide)
  | 35, _ => exact List.all_eq_true.mp fm_mk4 35 (by decide)
  | 36, _ => exact List.all_eq_true.mp fm_mk4 36 (by decide)
  | 37, _ => exact List.all_eq_true.mp fm_mk5 37 (by decide)
  | 38, _ => exact List.all_eq_true.mp fm_mk5 38 (by decide)
  | 39, _ => exact List.all_eq_true.mp fm_mk5 39 (by decide)
  | 40, _ => exact List.all_eq_true.mp fm_mk5 40 (by decide)
  | 41, _ => exact List.all_eq_true.mp fm_mk5 41 (by decide)
  | 42, _ => exact List.all_eq_true.mp fm_mk5 42 (by decide)
  | 43, _ => exact List.all_eq_true.mp fm_mk5 43 (by decide)
  | 44, _ => exact List.all_eq_true.mp fm_mk5 44 (by decide)
  | 45, _ => exact List.all_eq_true.mp fm_mk5 45 (by decide)
  | 46, _ => exact List.all_eq_true.mp fm_mk6 46 (by decide)
  | 47, _ => exact List.all_eq_true.mp fm_mk6 47 (by decide)
  | 48, _ => exact List.all_eq_true.mp fm_mk6 48 (by decide)
  | 49, _ => exact List.all_eq_true.mp fm_mk6 49 (by decide)
  | 50, _ => exact List.all_eq_true.mp fm_mk6 50 (by decide)
  | 51, _ => exact List.all_eq_true.mp fm_mk6 51 (by decide)
  | 52, _ => exact List.all_eq_true.mp fm_mk6 52 (by decide)
  | 53, _ => exact List.all_eq_true.mp fm_mk6 53 (by decide)
  | 54, _ => exact List.all_eq_true.mp fm_mk6 54 (by decide)
  | 55, _ => exact List.all_eq_true.mp fm_mk7 55 (by decide)
  | 56, _ => exact List.all_eq_true.mp fm_mk7 56 (by decide)
  | 57, _ => exact List.all_eq_true.mp fm_mk7 57 (by decide)
  | 58, _ => exact List.all_eq_true.mp fm_mk7 58 (by decide)
  | 59, _ => exact List.all_eq_true.mp fm_mk7 59 (by decide)
  | 60, _ => exact List.all_eq_true.mp fm_mk7 60 (by decide)
  | 61, _ => exact List.all_eq_true.mp fm_mk7 61 (by decide)
  | 62, _ => exact List.all_eq_true.mp fm_mk7 62 (by decide)
  | 63, _ => exact List.all_eq_true.mp fm_mk7 63 (by decide)
  | 64, _ => exact List.all_eq_true.mp fm_mk8 64 (by decide)
  | 65, _ => exact List.all_eq_true.mp fm_mk8 65 (by decide)
  | 66, _ => exact List.all_eq_true.mp fm_mk8 66 (by decide)
  | 67, _ => exact List.all_eq_true.mp fm_mk8 67 (by decide)
  | 68, _ => exact List.all_eq_true.mp fm_mk8 68 (by decide)
  | 69, _ => exact List.all_eq_true.mp fm_mk8 69 (by decide)
  | 70, _ => exact List.all_eq_true.mp fm_mk8 70 (by decide)
  | 71, _ => exact List.all_eq_true.mp fm_mk8 71 (by decide)
  | 72, _ => exact List.all_eq_true.mp fm_mk8 72 (by decide)
  | 73, _ => exact List.all_eq_true.mp fm_mk9 73 (by decide)
  | 74, _ => exact List.all_eq_true.mp fm_mk9 74 (by decide)
  | 75, _ => exact List.all_eq_true.mp fm_mk9 75 (by decide)
  | 76, _ => exact List.all_eq_true.mp fm_mk9 76 (by decide)
  | 77, _ => exact List.all_eq_true.mp fm_mk9 77 (by decide)
  | 78, _ => exact List.all_eq_true.mp fm_mk9 78 (by decide)
  | 79, _ => exact List.all_eq_true.mp fm_mk9 79 (by decide)
  | 80, _ => exact List.all_eq_true.mp fm_mk9 80 (by decide)
  | 81, _ => exact List.all_eq_true.mp fm_mk9 81 (by decide)
  | 82, _ => exact List.all_eq_true.mp fm_mk10 82 (by decide)
  | 83, _ => exact List.all_eq_true.mp fm_mk10 83 (by decide)
  | 84, _ => exact List.all_eq_true.mp fm_mk10 84 (by decide)
  | 85, _ => exact List.all_eq_true.mp fm_mk10 85 (by decide)
  | 86, _ => exact List.all_eq_true.mp fm_mk10 86 (by decide)
  | 87, _ => exact List.all_eq_true.mp fm_mk10 87 (by decide)
  | 88, _ => exact List.all_eq_true.mp fm_mk10 88 (by decide)
  | 89, _ => exact List.all_eq_true.mp fm_mk10 89 (by decide)
  | 90, _ => exact List.all_eq_true.mp fm_mk10 90 (by decide)
  | 91, _ => exact List.all_eq_true.mp fm_mk11 91 (by decide)
  | 92, _ => exact List.all_eq_true.mp fm_mk11 92 (by decide)
  | 93, _ => exact List.all_eq_true.mp fm_mk11 93 (by decide)
  | 94, _ => exact List.all_eq_true.mp fm_mk11 94 (by decide)
  | 95, _ => exact List.all_eq_true.mp fm_mk11 95 (by decide)
  | 96, _ => exact List.all_eq_true.mp fm_mk11 96 (by decide)
  | 97, _ => exact List.all_eq_true.mp fm_mk11 97 (by decide)
  | 98, _ => exact List.all_eq_true.mp fm_mk11 98 (by decide)
  | 99, _ => exact List.all_eq_true.mp fm_mk11 99 (by decide)
  | 100, _ => exact List.all_eq_true.mp fm_mk12 100 (by decide)
  | 101, _ => exact List.all_eq_true.mp fm_mk12 101 (by decide)
  | 102, _ => exact List.all_eq_true.mp fm_mk12 102 (by decide)
  | 103, _ => exact List.all_eq_true.mp fm_mk12 103 (by decide)
  | 104, _ => exact List.all_eq_true.mp fm_mk12 104 (by decide)
  | 105, _ => exact List.all_eq_true.mp fm_mk12 105 (by decide)
  | 106, _ => exact List.all_eq_true.mp fm_mk12 106 (by decide)
  | 107, _ => exact List.all_eq_true.mp fm_mk12 107 (by decide)
  | 108, _ => exact List.all_eq_true.mp fm_mk12 108 (by decide)
  | 109, _ => exact List.all_eq_true.mp fm_mk13 109 (by decide)
  | 110, _ => exact List.all_eq_true.mp fm_mk13 110 (by decide)
  | 111, _ => exact List.all_eq_true.mp fm_mk13 111 (by decide)
  | 112, _ => exact List.all_eq_true.mp fm_mk13 112 (by decide)
  | 113, _ => exact List.all_eq_true.mp fm_mk13 113 (by decide)
  | 114, _ => exact List.all_eq_true.mp fm_mk13 114 (by decide)
  | 115, _ => exact List.all_eq_true.mp fm_mk13 115 (by decide)
  | 116, _ => exact List.all_eq_true.mp fm_mk13 116 (by decide)
  | 117, _ => exact List.all_eq_true.mp fm_mk13 117 (by decide)
  | 118, _ => exact List.all_eq_true.mp fm_mk14 118 (by decide)
  | 119, _ => exact List.all_eq_true.mp fm_mk14 119 (by decide)
  | 120, _ => exact List.all_eq_true.mp fm_mk14 120 (by decide)
  | 121, _ => exact List.all_eq_true.mp fm_mk14 121 (by decide)
  | 122, _ => exact List.all_eq_true.mp fm_mk14 122 (by decide)
  | 123, _ => exact List.all_eq_true.mp fm_mk14 123 (by decide)
  | 124, _ => exact List.all_eq_true.mp fm_mk14 124 (by decide)
  | 125, _ => exact List.all_eq_true.mp fm_mk14 125 (by decide)
  | 126, _ => exact List.all_eq_true.mp fm_mk14 126 (by decide)
  | 127, _ => exact List.all_eq_true.mp fm_mk15 127 (by decide)
  | 128, _ => exact List.all_eq_true.mp fm_mk15 128 (by decide)
  | 129, _ => exact List.all_eq_true.mp fm_mk15 129 (by decide)
  | 130, _ => exact List.all_eq_true.mp fm_mk15 130 (by decide)
  | 131, _ => exact List.all_eq_true.mp fm_mk15 131 (by decide)
  | 132, _ => exact List.all_eq_true.mp fm_mk15 132 (by decide)
  | 133, _ => exact List.all_eq_true.mp fm_mk15 133 (by decide)
  | 134, _ => exact List.all_eq_true.mp fm_mk15 134 (by decide)
  | 135, _ => exact List.all_eq_true.mp fm_mk15 135 (by decide)
  | 136, _ => exact List.all_eq_true.mp fm_mk16 136 (by decide)
  | 137, _ => exact List.all_eq_true.mp fm_mk16 137 (by decide)
  | 138, _ => exact List.all_eq_true.mp fm_mk16 138 (by decide)
  | 139, _ => exact List.all_eq_true.mp fm_mk16 139 (by decide)
  | 140, _ => exact List.all_eq_true.mp fm_mk16 140 (by decide)
  | 141, _ => exact List.all_eq_true.mp fm_mk16 141 (by decide)
  | 142, _ => exact List.all_eq_true.mp fm_mk16 142 (by decide)
  | 143, _ => exact List.all_eq_true.mp fm_mk16 143 (by decide)
  | 144, _ => exact List.all_eq_true.mp fm_mk16 144 (by decide)
  | 145, _ => exact List.all_eq_true.mp fm_mk17 145 (by decide)
  | 146, _ => exact List.all_eq_true.mp fm_mk17 146 (by decide)
  | 147, _ => exact List.all_eq_true.mp fm_mk17 147 (by decide)
  | 148, _ => exact List.all_eq_true.mp fm_mk17 148 (by decide)
  | 149, _ => exact List.all_eq_true.mp fm_mk17 149 (by decide)
  | 150, _ => exact List.all_eq_true.mp fm_mk17 150 (by decide)
  | 151, _ => exact List.all_eq_true.mp fm_mk17 151 (by decide)
  | 152, _ => exact List.all_eq_true.mp fm_mk17 152 (by decide)
  | 153, _ => exact List.all_eq_true.mp fm_mk17 153 (by decide)
  | 154, _ => exact List.all_eq_true.mp fm_mk18 154 (by decide)
  | 155, _ => exact List.all_eq_true.mp fm_mk18 155 (by decide)
  | 156, _ => exact List.all_eq_true.mp fm_mk18 156 (by decide)
  | 157, _ => exact List.all_eq_true.mp fm_mk18 157 (by decide)
  | 158, _ => exact List.all_eq_true.mp fm_mk18 158 (by decide)
  | 159, _ => exact List.all_eq_true.mp fm_mk18 159 (by decide)
  | 160, _ => exact List.all_eq_true.mp fm_mk18 160 (by decide)
  | 161, _ => exact List.all_eq_true.mp fm_mk18 161 (by decide)
  | 162, _ => exact List.all_eq_true.mp fm_mk18 162 (by decide)
  | 163, _ => exact List.all_eq_true.mp fm_mk19 163 (by decide)
  | 164, _ => exact List.all_eq_true.mp fm_mk19 164 (by decide)
  | 165, _ => exact List.all_eq_true.mp fm_mk19 165 (by decide)
  | 166, _ => exact List.all_eq_true.mp fm_mk19 166 (by decide)
  | 167, _ => exact List.all_eq_true.mp fm_mk19 167 (by decide)
  | 168, _ => exact List.all_eq_true.mp fm_mk19 168 (by decide)
  | 169, _ => exact List.all_eq_true.mp fm_mk19 169 (by decide)
  | 170, _ => exact List.all_eq_true.mp fm_mk19 170 (by decide)
  | 171, _ => exact List.all_eq_true.mp fm_mk19 171 (by decide)
  | i + 172, h => omega
theorem fm_All0 (X : Nat × (Nat → Int32)) : fm_All fm_T0 fm_ms (fm_PP X) := by
  intro mi rec h
  have hlt : mi < 172 := (List.getElem?_eq_some_iff.mp h).1
  have hk := fm_mkA hlt
  unfold fm_mckI at hk
  rw [h] at hk
  exact hk
end
section
/-! what the tables say of the throws -/
def fm_thB : List Cond → List Nat → Bool
  | [], _ => true
  | w :: r, i :: is => (!vx_no w || (fm_inT i w && (goodWord w || (fm_mv w && w.onTables)))) && fm_thB r is
  | _ :: _, [] => false
theorem fm_thB_ok : ∀ (l : List Cond) (is : List Nat), fm_thB l is = true → ∀ w ∈ l.filter vx_no, w ∈ lw_tbl ∧ (goodWord w || (fm_mv w && w.onTables)) = true := by
  intro l
  induction l with
  | nil => intro is _ w hw; cases hw
  | cons a r ih =>
    intro is h w hw
    cases is with
    | nil => cases h
    | cons i is =>
      unfold fm_thB at h
      rw [Bool.and_eq_true] at h
      obtain ⟨hw1, hw2⟩ := List.mem_filter.mp hw
      rcases List.mem_cons.mp hw1 with rfl | hw1
      · have h1 := h.1
        rw [hw2] at h1
        simp only [Bool.not_true, Bool.false_or, Bool.and_eq_true] at h1
        exact ⟨fm_inT_ok h1.1, h1.2⟩
      · exact ih is h.2 w (List.mem_filter.mpr ⟨hw1, hw2⟩)
def fm_thS (q : String × Nat × Nat × Nat × Nat × String) (i j : Nat) (is : List Nat) : Bool := fm_inT i (Cond.classLink q.1 q.2.1 (fm_ex q.2.2.2.2.1)) && fm_inT j (Cond.initialized (fm_ex q.2.2.2.2.1)) && fm_thB (vx_waX q.1 q.2.2.2.1 (fm_ex q.2.2.2.2.1) (fm_exI q.2.2.2.2.1) (fm_exB q.2.2.2.2.1) fm_exN) is
theorem fm_thS_ok {q : String × Nat × Nat × Nat × Nat × String} {i j : Nat} {is : List Nat} (h : fm_thS q i j is = true) : (Cond.classLink q.1 q.2.1 (fm_ex q.2.2.2.2.1)) ∈ lw_tbl ∧ (Cond.initialized (fm_ex q.2.2.2.2.1)) ∈ lw_tbl ∧ (∀ w ∈ vx_atX q.1 q.2.2.2.1 (fm_ex q.2.2.2.2.1) (fm_exI q.2.2.2.2.1) (fm_exB q.2.2.2.2.1) fm_exN, w ∈ lw_tbl ∧ (goodWord w || (fm_mv w && w.onTables)) = true) := by
  unfold fm_thS at h
  rw [Bool.and_eq_true, Bool.and_eq_true] at h
  exact ⟨fm_inT_ok h.1.1, fm_inT_ok h.1.2, fm_thB_ok _ _ h.2⟩
theorem fm_th0 : fm_thS ("Feederlight", 76, 78, 80, 2, "there are 12 nodes") 607 76 [69, 555, 507, 515, 518, 520, 556, 557, 87, 88, 501, 506, 516, 523, 549, 524, 550, 525, 551, 502, 0, 504, 0, 552, 499, 500, 522, 552, 618, 619, 620, 493, 543, 493, 494, 495, 496, 545, 496, 497, 498, 499, 547, 617, 608, 609, 610, 512, 611, 612, 613, 614, 615, 0, 0, 521, 553] = true := by decide +kernel
theorem fm_th1 : fm_thS ("Feederlight", 90, 92, 94, 1, "a tie links two nodes") 591 75 [69, 555, 507, 515, 518, 520, 556, 557, 87, 88, 501, 506, 516, 523, 549, 524, 550, 525, 551, 502, 0, 504, 0, 552, 499, 500, 522, 552, 602, 603, 604, 493, 543, 493, 494, 495, 496, 545, 496, 497, 498, 499, 547, 601, 592, 593, 594, 511, 595, 596, 597, 598, 599, 0, 0, 521, 553] = true := by decide +kernel
theorem fm_th2 : fm_thS ("Feederlight", 76, 98, 80, 2, "there are 4 ties") 607 76 [69, 555, 507, 515, 518, 520, 556, 557, 87, 88, 501, 506, 516, 523, 549, 524, 550, 525, 551, 502, 0, 504, 0, 552, 499, 500, 522, 552, 618, 619, 620, 493, 543, 493, 494, 495, 496, 545, 496, 497, 498, 499, 547, 617, 608, 609, 610, 512, 611, 612, 613, 614, 615, 0, 0, 521, 553] = true := by decide +kernel
theorem fm_th3 : fm_thS ("Feederlight", 76, 141, 80, 2, "node 0 has no cable") 607 76 [69, 555, 507, 515, 518, 520, 556, 557, 87, 88, 501, 506, 516, 523, 549, 524, 550, 525, 551, 502, 0, 504, 0, 552, 499, 500, 522, 552, 618, 619, 620, 493, 543, 493, 494, 495, 496, 545, 496, 497, 498, 499, 547, 617, 608, 609, 610, 512, 611, 612, 613, 614, 615, 0, 0, 521, 553] = true := by decide +kernel
theorem fm_th4 : fm_thS ("Feederlight", 76, 147, 80, 2, "the fuse is whole") 607 76 [69, 555, 507, 515, 518, 520, 556, 557, 87, 88, 501, 506, 516, 523, 549, 524, 550, 525, 551, 502, 0, 504, 0, 552, 499, 500, 522, 552, 618, 619, 620, 493, 543, 493, 494, 495, 496, 545, 496, 497, 498, 499, 547, 617, 608, 609, 610, 512, 611, 612, 613, 614, 615, 0, 0, 521, 553] = true := by decide +kernel
theorem fm_th5 : fm_thS ("Feederlight", 164, 166, 168, 3, "no such tie") 744 79 [69, 555, 507, 515, 518, 520, 556, 557, 87, 88, 501, 506, 516, 523, 549, 524, 550, 525, 551, 502, 0, 504, 0, 552, 499, 500, 522, 552, 755, 756, 757, 493, 543, 493, 494, 495, 496, 545, 496, 497, 498, 499, 547, 754, 745, 746, 747, 514, 748, 749, 750, 751, 752, 0, 0, 521, 553] = true := by decide +kernel
theorem fm_th6 : fm_thS ("Feederlight", 164, 199, 168, 3, "no such place") 744 79 [69, 555, 507, 515, 518, 520, 556, 557, 87, 88, 501, 506, 516, 523, 549, 524, 550, 525, 551, 502, 0, 504, 0, 552, 499, 500, 522, 552, 755, 756, 757, 493, 543, 493, 494, 495, 496, 545, 496, 497, 498, 499, 547, 754, 745, 746, 747, 514, 748, 749, 750, 751, 752, 0, 0, 521, 553] = true := by decide +kernel
theorem fm_th7 : fm_thS ("Feederlight", 164, 207, 168, 3, "no set keeps the limits") 744 79 [69, 555, 507, 515, 518, 520, 556, 557, 87, 88, 501, 506, 516, 523, 549, 524, 550, 525, 551, 502, 0, 504, 0, 552, 499, 500, 522, 552, 755, 756, 757, 493, 543, 493, 494, 495, 496, 545, 496, 497, 498, 499, 547, 754, 745, 746, 747, 514, 748, 749, 750, 751, 752, 0, 0, 521, 553] = true := by decide +kernel
theorem fm_th8 : fm_thS ("Feederlight", 218, 220, 222, 4, "no charger of more than 0 amperes") 870 80 [69, 555, 507, 515, 518, 520, 556, 557, 87, 88, 501, 506, 516, 523, 549, 524, 550, 525, 551, 502, 0, 504, 0, 552, 499, 500, 522, 552, 854, 855, 856, 493, 543, 493, 494, 495, 496, 545, 496, 497, 498, 499, 547, 872, 853, 864, 865, 509, 859, 860, 862, 858, 857, 0, 0, 521, 553] = true := by decide +kernel
theorem fm_th9 : fm_thS ("Feederlight", 229, 231, 233, 0, "no such node") 574 72 [69, 555, 507, 515, 518, 520, 556, 557, 87, 88, 501, 506, 516, 523, 549, 524, 550, 525, 551, 502, 0, 504, 0, 552, 499, 500, 522, 552, 490, 491, 492, 493, 543, 493, 494, 495, 496, 545, 496, 497, 498, 499, 547, 584, 575, 576, 577, 513, 578, 579, 580, 581, 582, 0, 0, 521, 553] = true := by decide +kernel
theorem fm_th10 : fm_thS ("Feederlight", 90, 234, 94, 1, "out of range") 591 75 [69, 555, 507, 515, 518, 520, 556, 557, 87, 88, 501, 506, 516, 523, 549, 524, 550, 525, 551, 502, 0, 504, 0, 552, 499, 500, 522, 552, 602, 603, 604, 493, 543, 493, 494, 495, 496, 545, 496, 497, 498, 499, 547, 601, 592, 593, 594, 511, 595, 596, 597, 598, 599, 0, 0, 521, 553] = true := by decide +kernel
theorem fm_th11 : fm_thS ("Feederlight", 76, 236, 80, 2, "4 layers were added") 607 76 [69, 555, 507, 515, 518, 520, 556, 557, 87, 88, 501, 506, 516, 523, 549, 524, 550, 525, 551, 502, 0, 504, 0, 552, 499, 500, 522, 552, 618, 619, 620, 493, 543, 493, 494, 495, 496, 545, 496, 497, 498, 499, 547, 617, 608, 609, 610, 512, 611, 612, 613, 614, 615, 0, 0, 521, 553] = true := by decide +kernel
theorem fm_th12 : fm_thS ("Feederlight", 164, 238, 168, 3, "the node is not fed") 744 79 [69, 555, 507, 515, 518, 520, 556, 557, 87, 88, 501, 506, 516, 523, 549, 524, 550, 525, 551, 502, 0, 504, 0, 552, 499, 500, 522, 552, 755, 756, 757, 493, 543, 493, 494, 495, 496, 545, 496, 497, 498, 499, 547, 754, 745, 746, 747, 514, 748, 749, 750, 751, 752, 0, 0, 521, 553] = true := by decide +kernel
theorem fm_th13 : fm_thS ("Feederlight", 164, 240, 168, 3, "no node feeds node 0") 744 79 [69, 555, 507, 515, 518, 520, 556, 557, 87, 88, 501, 506, 516, 523, 549, 524, 550, 525, 551, 502, 0, 504, 0, 552, 499, 500, 522, 552, 755, 756, 757, 493, 543, 493, 494, 495, 496, 545, 496, 497, 498, 499, 547, 754, 745, 746, 747, 514, 748, 749, 750, 751, 752, 0, 0, 521, 553] = true := by decide +kernel
theorem fm_th14 : fm_thS ("Feederlight", 164, 141, 168, 3, "node 0 has no cable") 744 79 [69, 555, 507, 515, 518, 520, 556, 557, 87, 88, 501, 506, 516, 523, 549, 524, 550, 525, 551, 502, 0, 504, 0, 552, 499, 500, 522, 552, 755, 756, 757, 493, 543, 493, 494, 495, 496, 545, 496, 497, 498, 499, 547, 754, 745, 746, 747, 514, 748, 749, 750, 751, 752, 0, 0, 521, 553] = true := by decide +kernel
theorem fm_Th0 : fm_ThOk fm_T0 := List.forall_mem_cons.mpr ⟨fun _ => fm_thS_ok fm_th0, List.forall_mem_cons.mpr ⟨fun _ => fm_thS_ok fm_th1, List.forall_mem_cons.mpr ⟨fun _ => fm_thS_ok fm_th2, List.forall_mem_cons.mpr ⟨fun _ => fm_thS_ok fm_th3, List.forall_mem_cons.mpr ⟨fun _ => fm_thS_ok fm_th4, List.forall_mem_cons.mpr ⟨fun _ => fm_thS_ok fm_th5, List.forall_mem_cons.mpr ⟨fun _ => fm_thS_ok fm_th6, List.forall_mem_cons.mpr ⟨fun _ => fm_thS_ok fm_th7, List.forall_mem_cons.mpr ⟨fun _ => fm_thS_ok fm_th8, List.forall_mem_cons.mpr ⟨fun _ => fm_thS_ok fm_th9, List.forall_mem_cons.mpr ⟨fun _ => fm_thS_ok fm_th10, List.forall_mem_cons.mpr ⟨fun _ => fm_thS_ok fm_th11, List.forall_mem_cons.mpr ⟨fun _ => fm_thS_ok fm_th12, List.forall_mem_cons.mpr ⟨fun _ => fm_thS_ok fm_th13, List.forall_mem_cons.mpr ⟨fun _ => fm_thS_ok fm_th14, fun _ h => absurd h List.not_mem_nil⟩⟩⟩⟩⟩⟩⟩⟩⟩⟩⟩⟩⟩⟩⟩
end
section
/-! small numbers as ints of the machine -/
theorem fz_t {n : Nat} (h : n < 2147483648) : (nI n).toNatClampNeg = n := nI_clamp h
theorem fz_lt {a b : Nat} (ha : a < 2147483648) (hb : b < 2147483648) : (nI a < nI b) = (a < b) := propext (nI_ltI ha hb)
theorem fz_le {a b : Nat} (ha : a < 2147483648) (hb : b < 2147483648) : (nI a ≤ nI b) = (a ≤ b) := propext (nI_leI ha hb)
theorem fz_eq {a b : Nat} (ha : a < 2147483648) (hb : b < 2147483648) : (nI a = nI b) = (a = b) := propext (nI_eq ha hb)
theorem fz_in {a n : Nat} (h : a < n) (ha : a < 2147483648) : fm_inb (nI a) n := by
  show ¬ (nI a < 0 ∨ n ≤ (nI a).toNatClampNeg)
  rw [fz_t ha]
  intro z
  rcases z with z | z
  · exact nI_pos ha z
  · omega
theorem fz_lt0 {a : Nat} (ha : a < 2147483648) : (nI a < 0) = False := eq_false (nI_pos ha)
/-- a truth as an int -/
def fz_b (b : Bool) : Int32 := nI (cond b 1 0)
theorem fz_b0 : fz_b false = nI 0 := rfl
theorem fz_b1 : fz_b true = nI 1 := rfl
theorem fz_be (b : Bool) : (fz_b b = nI 0) = (b = false) := by
  cases b
  · exact propext ⟨fun _ => rfl, fun _ => rfl⟩
  · exact propext ⟨fun h => absurd h (by decide), fun h => nomatch h⟩
theorem fz_b1e (b : Bool) : (fz_b b = nI 1) = (b = true) := by
  cases b
  · exact propext ⟨fun h => absurd h (by decide), fun h => nomatch h⟩
  · exact propext ⟨fun _ => rfl, fun _ => rfl⟩
theorem fz_bb (a b : Bool) : (fz_b a = fz_b b) = (a = b) := by
  cases a <;> cases b
  · exact propext ⟨fun _ => rfl, fun _ => rfl⟩
  · exact propext ⟨fun h => absurd h (by decide), fun h => nomatch h⟩
  · exact propext ⟨fun h => absurd h (by decide), fun h => nomatch h⟩
  · exact propext ⟨fun _ => rfl, fun _ => rfl⟩
theorem fz_nb0 : fm_nb (nI 0) = nI 0 := by decide +kernel
theorem fz_nb1 : fm_nb (nI 1) = nI 1 := by decide +kernel
theorem fz_ui {α : Type} (f : Nat → Nat → α) (c i : Nat) (v : α) (d j : Nat) : fm_uI f c i v d j = if d = c ∧ j = i then v else f d j := rfl
theorem fz_ne {α : Type} (f : Nat → Nat → α) {c i : Nat} (v : α) {d : Nat} (h : d ≠ c) : fm_uI f c i v d = f d := funext fun j => if_neg fun z => h z.1
theorem fz_at {α : Type} (f : Nat → Nat → α) (c i : Nat) (v : α) (j : Nat) : fm_uI f c i v c j = if j = i then v else f c j := by
  show (if c = c ∧ j = i then v else f c j) = _
  by_cases h : j = i
  · rw [if_pos ⟨rfl, h⟩, if_pos h]
  · rw [if_neg (fun z => h z.2), if_neg h]
/-- all but these cells is as it was -/
def fx_F (cs : List Nat) (N N' : fm_N) : Prop := (∀ c, cs.contains c = false → N'.1 c = N.1 c) ∧ N'.2 = N.2
theorem fx_F.rf (cs : List Nat) (N : fm_N) : fx_F cs N N := ⟨fun _ _ => rfl, rfl⟩
theorem fx_F.tr {cs : List Nat} {N N' N'' : fm_N} (h : fx_F cs N N') (k : fx_F cs N' N'') : fx_F cs N N'' := ⟨fun c hc => (k.1 c hc).trans (h.1 c hc), k.2.trans h.2⟩
theorem fx_F.wk {cs ds : List Nat} {N N' : fm_N} (h : fx_F cs N N') (k : ∀ c, ds.contains c = false → cs.contains c = false) : fx_F ds N N' := ⟨fun c hc => h.1 c (k c hc), h.2⟩
theorem fx_F.up {cs : List Nat} {N N' : fm_N} (h : fx_F cs N N') {c i : Nat} {v : Int32} (hc : cs.contains c = true) : fx_F cs N (fm_uI N'.1 c i v, N'.2) := by
  refine ⟨fun d hd => ?_, h.2⟩
  have hne : d ≠ c := fun z => by rw [z, hc] at hd; cases hd
  show fm_uI N'.1 c i v d = N.1 d
  rw [fz_ne _ _ hne]
  exact h.1 d hd
end
section
/-! who feeds whom: a net of nodes, cables and ties, without the machine -/
def fg_up {α : Type} (f : Nat → α) (i : Nat) (v : α) : Nat → α := fun j => if j = i then v else f j
theorem fg_up_eq {α : Type} (f : Nat → α) (i : Nat) (v : α) : fg_up f i v i = v := if_pos rfl
theorem fg_up_ne {α : Type} (f : Nat → α) {i j : Nat} (v : α) (h : j ≠ i) : fg_up f i v j = f j := if_neg h
/-- how many of the first m -/
def fg_cn (f : Nat → Bool) : Nat → Nat
  | 0 => 0
  | m + 1 => fg_cn f m + (if f m = true then 1 else 0)
theorem fg_cn_le (f : Nat → Bool) : ∀ m, fg_cn f m ≤ m := by
  intro m
  induction m with
  | zero => exact Nat.le_refl _
  | succ m ih => unfold fg_cn; split <;> omega
theorem fg_cn_congr {f g : Nat → Bool} : ∀ m, (∀ i, i < m → f i = g i) → fg_cn f m = fg_cn g m := by
  intro m
  induction m with
  | zero => intro _; rfl
  | succ m ih =>
    intro h
    unfold fg_cn
    rw [ih (fun i hi => h i (by omega)), h m (by omega)]
theorem fg_cn_up {f : Nat → Bool} {u : Nat} (hu : f u = false) : ∀ m, fg_cn (fg_up f u true) m = fg_cn f m + (if u < m then 1 else 0) := by
  intro m
  induction m with
  | zero => rfl
  | succ m ih =>
    unfold fg_cn
    rw [ih]
    by_cases h : m = u
    · subst h
      rw [fg_up_eq, hu, if_neg (Nat.lt_irrefl m), if_pos (Nat.lt_succ_self m)]
      simp
    · rw [fg_up_ne _ _ h]
      have e1 : (if u < m + 1 then 1 else 0 : Nat) = if u < m then 1 else 0 := by
        by_cases h2 : u < m
        · rw [if_pos h2, if_pos (by omega : u < m + 1)]
        · rw [if_neg h2, if_neg (by omega : ¬ u < m + 1)]
      rw [e1]
      omega
theorem fg_cn_lt {f : Nat → Bool} {u : Nat} (hu : f u = false) : ∀ m, u < m → fg_cn f m < m := by
  intro m hm
  have h1 := fg_cn_up hu m
  rw [if_pos hm] at h1
  have h2 := fg_cn_le (fg_up f u true) m
  omega
theorem fg_cn_all {f : Nat → Bool} {m : Nat} (h : fg_cn f m = m) (i : Nat) (hi : i < m) : f i = true := by
  cases hf : f i
  · have := fg_cn_lt hf m hi
    omega
  · rfl
theorem fg_cn_pos {f : Nat → Bool} : ∀ m, (∃ i, i < m ∧ f i = true) → 0 < fg_cn f m := by
  intro m
  induction m with
  | zero => rintro ⟨i, hi, _⟩; omega
  | succ m ih =>
    rintro ⟨i, hi, hf⟩
    unfold fg_cn
    by_cases h : i = m
    · subst h; rw [if_pos hf]; omega
    · have := ih ⟨i, by omega, hf⟩; omega
/-- a net: nodes, parents, whole cables, resistances; ties, their ends, their resistances -/
abbrev fg_G : Type := Nat × (Nat → Nat) × (Nat → Bool) × (Nat → Int32) × Nat × (Nat → Nat) × (Nat → Nat) × (Nat → Int32)
abbrev fg_n (G : fg_G) : Nat := G.1
abbrev fg_p (G : fg_G) : Nat → Nat := G.2.1
abbrev fg_w (G : fg_G) : Nat → Bool := G.2.2.1
abbrev fg_r (G : fg_G) : Nat → Int32 := G.2.2.2.1
abbrev fg_t (G : fg_G) : Nat := G.2.2.2.2.1
abbrev fg_a (G : fg_G) : Nat → Nat := G.2.2.2.2.2.1
abbrev fg_b (G : fg_G) : Nat → Nat := G.2.2.2.2.2.2.1
abbrev fg_x (G : fg_G) : Nat → Int32 := G.2.2.2.2.2.2.2
/-- who is fed, by which node, over which cable (0: a tie), its resistance; the closed ties; the marks: nodes above an entry, entries -/
abbrev fg_A : Type := (Nat → Bool) × (Nat → Nat) × (Nat → Nat) × (Nat → Int32) × (Nat → Bool) × (Nat → Prop) × (Nat → Prop)
abbrev fg_F (A : fg_A) : Nat → Bool := A.1
abbrev fg_D (A : fg_A) : Nat → Nat := A.2.1
abbrev fg_C (A : fg_A) : Nat → Nat := A.2.2.1
abbrev fg_S (A : fg_A) : Nat → Int32 := A.2.2.2.1
abbrev fg_K (A : fg_A) : Nat → Bool := A.2.2.2.2.1
abbrev fg_U (A : fg_A) : Nat → Prop := A.2.2.2.2.2.1
abbrev fg_E (A : fg_A) : Nat → Prop := A.2.2.2.2.2.2
def fg_ok (G : fg_G) : Prop := 1 ≤ fg_n G ∧ (∀ c, 1 ≤ c → c < fg_n G → fg_p G c < c) ∧ ∀ q, q < fg_t G → fg_a G q < fg_n G ∧ fg_b G q < fg_n G ∧ fg_a G q ≠ fg_b G q
/-- a whole cable -/
def fg_cb (G : fg_G) (c : Nat) : Prop := 1 ≤ c ∧ c < fg_n G ∧ fg_w G c = true
/-- what holds while cables are taken one by one -/
def fg_I (G : fg_G) (A : fg_A) : Prop :=
  (∀ c, fg_cb G c → fg_U A c → fg_U A (fg_p G c)) ∧
  (∀ c d, fg_cb G c → fg_cb G d → fg_U A c → fg_U A d → fg_p G c = fg_p G d → c = d) ∧
  (∀ e c, fg_E A e → fg_cb G c → fg_U A c → fg_p G c ≠ e) ∧
  (∀ e, fg_E A e → fg_cb G e → fg_U A e) ∧
  (∀ e, fg_E A e → fg_F A e = true) ∧
  (∀ c, fg_cb G c → fg_U A c → fg_F A (fg_p G c) = true → fg_F A c = true ∧ fg_D A (fg_p G c) = c ∧ fg_C A (fg_p G c) = c ∧ fg_S A (fg_p G c) = fg_r G c) ∧
  (∀ c, fg_cb G c → ¬ fg_U A c → fg_F A c = true → fg_F A (fg_p G c) = true ∧ fg_D A c = fg_p G c ∧ fg_C A c = c ∧ fg_S A c = fg_r G c) ∧
  (∀ u, fg_F A u = true → fg_E A u ∨ (∃ c, fg_cb G c ∧ fg_U A c ∧ fg_p G c = u) ∨ (fg_cb G u ∧ ¬ fg_U A u)) ∧
  (∀ u, fg_F A u = true → u < fg_n G)
def fg_feed (A : fg_A) (u f c : Nat) (r : Int32) : fg_A := (fg_up (fg_F A) u true, fg_up (fg_D A) u f, fg_up (fg_C A) u c, fg_up (fg_S A) u r, fg_K A, fg_U A, fg_E A)
theorem fg_step1 {G : fg_G} {A : fg_A} (ok : fg_ok G) (h : fg_I G A) {c : Nat} (hc : fg_cb G c) (hp : fg_F A (fg_p G c) = true) (hu : fg_F A c = false) : fg_I G (fg_feed A c (fg_p G c) c (fg_r G c)) := by
  obtain ⟨u1, u2, u3, u4, e1, ha, hb, hcc, hn⟩ := h
  have hpc : fg_p G c < c := ok.2.1 c hc.1 hc.2.1
  have hU : ¬ fg_U A c := fun z => by rw [(ha c hc z hp).1] at hu; cases hu
  refine ⟨u1, u2, u3, u4, fun e he => ?_, fun d hd hUd hf => ?_, fun d hd hUd hf => ?_, fun u hf => ?_, fun u hf => ?_⟩
  · show fg_up (fg_F A) c true e = true
    by_cases z : e = c
    · rw [z, fg_up_eq]
    · rw [fg_up_ne _ _ z]; exact e1 e he
  · have hne : fg_p G d ≠ c := fun z => hU (by rw [← z]; exact u1 d hd hUd)
    have hf' : fg_F A (fg_p G d) = true := by
      have hz : fg_up (fg_F A) c true (fg_p G d) = true := hf
      rw [fg_up_ne _ _ hne] at hz; exact hz
    obtain ⟨k1, k2, k3, k4⟩ := ha d hd hUd hf'
    have hdc : d ≠ c := fun z => hU (z ▸ hUd)
    exact ⟨(fg_up_ne _ _ hdc).trans k1, (fg_up_ne _ _ hne).trans k2, (fg_up_ne _ _ hne).trans k3, (fg_up_ne _ _ hne).trans k4⟩
  · by_cases z : d = c
    · subst z
      exact ⟨(fg_up_ne _ _ (by omega)).trans hp, fg_up_eq _ _ _, fg_up_eq _ _ _, fg_up_eq _ _ _⟩
    · have hf' : fg_F A d = true := by
        have hz : fg_up (fg_F A) c true d = true := hf
        rw [fg_up_ne _ _ z] at hz; exact hz
      obtain ⟨k1, k2, k3, k4⟩ := hb d hd hUd hf'
      refine ⟨?_, (fg_up_ne _ _ z).trans k2, (fg_up_ne _ _ z).trans k3, (fg_up_ne _ _ z).trans k4⟩
      show fg_up (fg_F A) c true (fg_p G d) = true
      by_cases z2 : fg_p G d = c
      · rw [z2, fg_up_eq]
      · rw [fg_up_ne _ _ z2]; exact k1
  · by_cases z : u = c
    · subst z; exact Or.inr (Or.inr ⟨hc, hU⟩)
    · have hz : fg_up (fg_F A) c true u = true := hf
      rw [fg_up_ne _ _ z] at hz
      exact hcc u hz
  · by_cases z : u = c
    · subst z; exact hc.2.1
    · have hz : fg_up (fg_F A) c true u = true := hf
      rw [fg_up_ne _ _ z] at hz
      exact hn u hz
theorem fg_step2 {G : fg_G} {A : fg_A} (ok : fg_ok G) (h : fg_I G A) {c : Nat} (hc : fg_cb G c) (hp : fg_F A (fg_p G c) = false) (hu : fg_F A c = true) : fg_I G (fg_feed A (fg_p G c) c c (fg_r G c)) := by
  obtain ⟨u1, u2, u3, u4, e1, ha, hb, hcc, hn⟩ := h
  have hpc : fg_p G c < c := ok.2.1 c hc.1 hc.2.1
  have hU : fg_U A c := Classical.byContradiction fun z => by rw [(hb c hc z hu).1] at hp; cases hp
  refine ⟨u1, u2, u3, u4, fun e he => ?_, fun d hd hUd hf => ?_, fun d hd hUd hf => ?_, fun u hf => ?_, fun u hf => ?_⟩
  · show fg_up (fg_F A) (fg_p G c) true e = true
    by_cases z : e = fg_p G c
    · rw [z, fg_up_eq]
    · rw [fg_up_ne _ _ z]; exact e1 e he
  · by_cases z : fg_p G d = fg_p G c
    · have hdc : d = c := u2 d c hd hc hUd hU z
      subst hdc
      exact ⟨(fg_up_ne _ _ (by omega)).trans hu, fg_up_eq _ _ _, fg_up_eq _ _ _, fg_up_eq _ _ _⟩
    · have hf' : fg_F A (fg_p G d) = true := by
        have hz : fg_up (fg_F A) (fg_p G c) true (fg_p G d) = true := hf
        rw [fg_up_ne _ _ z] at hz; exact hz
      obtain ⟨k1, k2, k3, k4⟩ := ha d hd hUd hf'
      refine ⟨?_, (fg_up_ne _ _ z).trans k2, (fg_up_ne _ _ z).trans k3, (fg_up_ne _ _ z).trans k4⟩
      show fg_up (fg_F A) (fg_p G c) true d = true
      by_cases z2 : d = fg_p G c
      · rw [z2, fg_up_eq]
      · rw [fg_up_ne _ _ z2]; exact k1
  · have hne : d ≠ fg_p G c := fun z => hUd (z ▸ u1 c hc hU)
    have hf' : fg_F A d = true := by
      have hz : fg_up (fg_F A) (fg_p G c) true d = true := hf
      rw [fg_up_ne _ _ hne] at hz; exact hz
    obtain ⟨k1, k2, k3, k4⟩ := hb d hd hUd hf'
    refine ⟨?_, (fg_up_ne _ _ hne).trans k2, (fg_up_ne _ _ hne).trans k3, (fg_up_ne _ _ hne).trans k4⟩
    show fg_up (fg_F A) (fg_p G c) true (fg_p G d) = true
    by_cases z2 : fg_p G d = fg_p G c
    · rw [z2, fg_up_eq]
    · rw [fg_up_ne _ _ z2]; exact k1
  · by_cases z : u = fg_p G c
    · exact Or.inr (Or.inl ⟨c, hc, hU, z.symm⟩)
    · have hz : fg_up (fg_F A) (fg_p G c) true u = true := hf
      rw [fg_up_ne _ _ z] at hz
      exact hcc u hz
  · by_cases z : u = fg_p G c
    · rw [z]; exact Nat.lt_trans hpc hc.2.1
    · have hz : fg_up (fg_F A) (fg_p G c) true u = true := hf
      rw [fg_up_ne _ _ z] at hz
      exact hn u hz
/-- nothing more to take -/
def fg_cl (G : fg_G) (A : fg_A) : Prop := ∀ c, fg_cb G c → fg_F A c = fg_F A (fg_p G c)
/-- A comes out of A0 by cables taken -/
def fg_Sq (G : fg_G) (A0 A : fg_A) : Prop := fg_I G A ∧ fg_U A = fg_U A0 ∧ fg_E A = fg_E A0 ∧ fg_K A = fg_K A0 ∧
  (∀ u, fg_F A0 u = true → fg_F A u = true ∧ fg_D A u = fg_D A0 u ∧ fg_C A u = fg_C A0 u ∧ fg_S A u = fg_S A0 u) ∧
  (∀ Z : Nat → Prop, (∀ c, fg_cb G c → (Z c ↔ Z (fg_p G c))) → (∀ u, fg_F A0 u = true → Z u) → ∀ u, fg_F A u = true → Z u)
theorem fg_Sq.rf {G : fg_G} {A : fg_A} (h : fg_I G A) : fg_Sq G A A := ⟨h, rfl, rfl, rfl, fun _ hu => ⟨hu, rfl, rfl, rfl⟩, fun _ _ h0 u hu => h0 u hu⟩
theorem fg_Sq.ext {G : fg_G} {A0 A : fg_A} (h : fg_Sq G A0 A) {u f c : Nat} {r : Int32} (hI : fg_I G (fg_feed A u f c r)) (hu : fg_F A u = false) (hZ : ∀ Z : Nat → Prop, (∀ c, fg_cb G c → (Z c ↔ Z (fg_p G c))) → (∀ u, fg_F A u = true → Z u) → Z u) : fg_Sq G A0 (fg_feed A u f c r) := by
  obtain ⟨_, h2, h3, h4, h5, h6⟩ := h
  refine ⟨hI, h2, h3, h4, fun v hv => ?_, fun Z hZc h0 v hv => ?_⟩
  · obtain ⟨k1, k2, k3, k4⟩ := h5 v hv
    have hne : v ≠ u := fun z => by rw [z, hu] at k1; cases k1
    exact ⟨(fg_up_ne _ _ hne).trans k1, (fg_up_ne _ _ hne).trans k2, (fg_up_ne _ _ hne).trans k3, (fg_up_ne _ _ hne).trans k4⟩
  · by_cases z : v = u
    · rw [z]; exact hZ Z hZc (h6 Z hZc h0)
    · have hz : fg_up (fg_F A) u true v = true := hv
      rw [fg_up_ne _ _ z] at hz
      exact h6 Z hZc h0 v hz
theorem fg_Sq.s1 {G : fg_G} {A0 A : fg_A} (ok : fg_ok G) (h : fg_Sq G A0 A) {c : Nat} (hc : fg_cb G c) (hp : fg_F A (fg_p G c) = true) (hu : fg_F A c = false) : fg_Sq G A0 (fg_feed A c (fg_p G c) c (fg_r G c)) :=
  h.ext (fg_step1 ok h.1 hc hp hu) hu fun _ hZ h0 => (hZ c hc).mpr (h0 _ hp)
theorem fg_Sq.s2 {G : fg_G} {A0 A : fg_A} (ok : fg_ok G) (h : fg_Sq G A0 A) {c : Nat} (hc : fg_cb G c) (hp : fg_F A (fg_p G c) = false) (hu : fg_F A c = true) : fg_Sq G A0 (fg_feed A (fg_p G c) c c (fg_r G c)) :=
  h.ext (fg_step2 ok h.1 hc hp hu) hp fun _ hZ h0 => (hZ c hc).mp (h0 _ hu)
/-- alike: the same are fed, and these alike -/
def fg_eq (A B : fg_A) : Prop := (∀ u, fg_F A u = fg_F B u) ∧ fg_U A = fg_U B ∧ fg_E A = fg_E B ∧ fg_K A = fg_K B ∧ ∀ u, fg_F A u = true → fg_D A u = fg_D B u ∧ fg_C A u = fg_C B u ∧ fg_S A u = fg_S B u
theorem fg_uniq {G : fg_G} {A0 B0 A B : fg_A} (hI : fg_I G A0) (h0 : fg_eq A0 B0) (hA : fg_Sq G A0 A) (cA : fg_cl G A) (hB : fg_Sq G B0 B) (cB : fg_cl G B) : fg_eq A B := by
  obtain ⟨a1, a2, a3, a4, a5, a6⟩ := hA
  obtain ⟨b1, b2, b3, b4, b5, b6⟩ := hB
  obtain ⟨z1, z2, z3, z4, z5⟩ := h0
  have hAB : ∀ u, fg_F A u = true → fg_F B u = true := a6 (fun u => fg_F B u = true) (fun c hc => by show _ = true ↔ _ = true; rw [cB c hc]) (fun u hu => (b5 u (by rw [← z1]; exact hu)).1)
  have hBA : ∀ u, fg_F B u = true → fg_F A u = true := b6 (fun u => fg_F A u = true) (fun c hc => by show _ = true ↔ _ = true; rw [cA c hc]) (fun u hu => (a5 u (by rw [z1]; exact hu)).1)
  have hU : fg_U A = fg_U B := by rw [a2, b2, z2]
  have hE : fg_E A = fg_E B := by rw [a3, b3, z3]
  refine ⟨fun u => ?_, hU, hE, by rw [a4, b4, z4], fun u hu => ?_⟩
  · cases hA9 : fg_F A u <;> cases hB9 : fg_F B u
    · rfl
    · rw [hBA u hB9] at hA9; cases hA9
    · rw [hAB u hA9] at hB9; cases hB9
    · rfl
  · have huB := hAB u hu
    rcases a1.2.2.2.2.2.2.2.1 u hu with he | ⟨c, hc, hUc, hpc⟩ | ⟨hc, hUc⟩
    · have h00 : fg_F A0 u = true := hI.2.2.2.2.1 u (by rw [← a3]; exact he)
      obtain ⟨_, k2, k3, k4⟩ := a5 u h00
      obtain ⟨_, l2, l3, l4⟩ := b5 u (by rw [← z1]; exact h00)
      obtain ⟨m2, m3, m4⟩ := z5 u h00
      exact ⟨by rw [k2, l2, m2], by rw [k3, l3, m3], by rw [k4, l4, m4]⟩
    · subst hpc
      obtain ⟨_, k2, k3, k4⟩ := a1.2.2.2.2.2.1 c hc hUc hu
      obtain ⟨_, l2, l3, l4⟩ := b1.2.2.2.2.2.1 c hc (hU ▸ hUc) huB
      exact ⟨by rw [k2, l2], by rw [k3, l3], by rw [k4, l4]⟩
    · obtain ⟨_, k2, k3, k4⟩ := a1.2.2.2.2.2.2.1 u hc hUc hu
      obtain ⟨_, l2, l3, l4⟩ := b1.2.2.2.2.2.2.1 u hc (hU ▸ hUc) huB
      exact ⟨by rw [k2, l2], by rw [k3, l3], by rw [k4, l4]⟩
/-- the way up from a node over whole cables -/
def fg_it (G : fg_G) : Nat → Nat → Nat → Prop
  | 0, y, c => c = y
  | k + 1, y, c => fg_cb G y ∧ fg_it G k (fg_p G y) c
def fg_ch (G : fg_G) (y c : Nat) : Prop := ∃ k, fg_it G k y c
theorem fg_it_snoc {G : fg_G} : ∀ k y c, fg_it G k y c → fg_cb G c → fg_it G (k + 1) y (fg_p G c) := by
  intro k
  induction k with
  | zero => intro y c h hc; have h : c = y := h; subst h; exact ⟨hc, rfl⟩
  | succ k ih => intro y c h hc; exact ⟨h.1, ih _ _ h.2 hc⟩
theorem fg_it_le {G : fg_G} (ok : fg_ok G) : ∀ k y c, fg_it G k y c → c ≤ y := by
  intro k
  induction k with
  | zero => intro y c h; have h : c = y := h; omega
  | succ k ih =>
    intro y c h
    have h1 := ih _ _ h.2
    have h2 := ok.2.1 y h.1.1 h.1.2.1
    omega
theorem fg_it_two {G : fg_G} (ok : fg_ok G) : ∀ k j y c d, fg_it G k y c → fg_it G j y d → fg_cb G c → fg_cb G d → fg_p G c = fg_p G d → c = d := by
  intro k
  induction k with
  | zero =>
    intro j y c d h h' hc hd he
    have h : c = y := h
    subst h
    cases j with
    | zero => exact (show d = c from h').symm
    | succ j =>
      have h1 := fg_it_le ok _ _ _ h'.2
      have h2 := ok.2.1 d hd.1 hd.2.1
      omega
  | succ k ih =>
    intro j y c d h h' hc hd he
    cases j with
    | zero =>
      have h' : d = y := h'
      subst h'
      have h1 := fg_it_le ok _ _ _ h.2
      have h2 := ok.2.1 c hc.1 hc.2.1
      omega
    | succ j => exact ih j _ c d h.2 h'.2 hc hd he
theorem fg_it_Z {G : fg_G} {Z : Nat → Prop} (hZ : ∀ c, fg_cb G c → (Z c ↔ Z (fg_p G c))) : ∀ k y c, fg_it G k y c → (Z y ↔ Z c) := by
  intro k
  induction k with
  | zero => intro y c h; have h : c = y := h; rw [h]
  | succ k ih => intro y c h; exact (hZ y h.1).trans (ih _ _ h.2)
theorem fg_cl_Z {G : fg_G} {A : fg_A} (h : fg_cl G A) {y c : Nat} (hc : fg_ch G y c) : fg_F A y = fg_F A c := by
  obtain ⟨k, hk⟩ := hc
  have := fg_it_Z (Z := fun u => fg_F A u = true) (fun c hc => by show _ = true ↔ _ = true; rw [h c hc]) k y c hk
  exact Bool.eq_iff_iff.mpr this
/-- the ties -/
def fg_df (G : fg_G) (A : fg_A) (q : Nat) : Prop := fg_F A (fg_a G q) ≠ fg_F A (fg_b G q)
def fg_fi (G : fg_G) (A : fg_A) (q : Nat) : Prop := q < fg_t G ∧ fg_df G A q ∧ ∀ r, r < q → ¬ fg_df G A r
def fg_nt (G : fg_G) (A : fg_A) : Prop := ∀ q, q < fg_t G → ¬ fg_df G A q
def fg_y (G : fg_G) (A : fg_A) (q : Nat) : Nat := if fg_F A (fg_a G q) = true then fg_b G q else fg_a G q
def fg_z (G : fg_G) (A : fg_A) (q : Nat) : Nat := if fg_F A (fg_a G q) = true then fg_a G q else fg_b G q
def fg_close (G : fg_G) (A : fg_A) (q : Nat) : fg_A := (fg_up (fg_F A) (fg_y G A q) true, fg_up (fg_D A) (fg_y G A q) (fg_z G A q), fg_up (fg_C A) (fg_y G A q) 0, fg_up (fg_S A) (fg_y G A q) (fg_x G q), fg_up (fg_K A) q true, fun c => fg_U A c ∨ fg_ch G (fg_y G A q) c, fun e => fg_E A e ∨ e = fg_y G A q)
theorem fg_y_un {G : fg_G} {A : fg_A} {q : Nat} (h : fg_df G A q) : fg_F A (fg_y G A q) = false ∧ fg_F A (fg_z G A q) = true := by
  unfold fg_df at h
  unfold fg_y fg_z
  cases ha : fg_F A (fg_a G q) <;> cases hb : fg_F A (fg_b G q) <;> simp_all
theorem fg_y_lt {G : fg_G} {A : fg_A} {q : Nat} (ok : fg_ok G) (h : q < fg_t G) : fg_y G A q < fg_n G ∧ fg_z G A q < fg_n G := by
  obtain ⟨h1, h2, h3⟩ := ok.2.2 q h
  unfold fg_y fg_z
  split <;> exact ⟨by assumption, by assumption⟩
/-- a full state -/
def fg_Fu (G : fg_G) (A : fg_A) : Prop := fg_I G A ∧ fg_cl G A ∧ ∀ u, fg_U A u → fg_F A u = true
theorem fg_close_I {G : fg_G} {A : fg_A} {q : Nat} (ok : fg_ok G) (h : fg_Fu G A) (hq : fg_fi G A q) : fg_I G (fg_close G A q) := by
  obtain ⟨⟨u1, u2, u3, u4, e1, ha, hb, hcc, hn⟩, hcl, hd⟩ := h
  obtain ⟨hy, hz⟩ := fg_y_un hq.2.1
  have hyn := (fg_y_lt (A := A) ok hq.1).1
  have hun : ∀ c, fg_ch G (fg_y G A q) c → fg_F A c = false := fun c hc => by rw [← fg_cl_Z hcl hc]; exact hy
  have hsn : ∀ c, fg_ch G (fg_y G A q) c → fg_cb G c → fg_ch G (fg_y G A q) (fg_p G c) := fun c ⟨k, hk⟩ hc => ⟨k + 1, fg_it_snoc k _ _ hk hc⟩
  have hle : ∀ c, fg_ch G (fg_y G A q) c → c ≤ fg_y G A q := fun c ⟨k, hk⟩ => fg_it_le ok k _ _ hk
  generalize hY : fg_y G A q = y at *
  have key : ∀ c, fg_cb G c → fg_U A c → fg_p G c ≠ y := fun c hc hUc z => by
    have h1 := hd c hUc
    rw [hcl c hc, z, hy] at h1
    cases h1
  unfold fg_close
  rw [hY]
  refine ⟨fun c hc hU => ?_, fun c d hc hd' hU hV he => ?_, fun e c hE hc hU => ?_, fun e hE hc => ?_, fun e hE => ?_, fun c hc hU hf => ?_, fun c hc hU hf => ?_, fun u hf => ?_, fun u hf => ?_⟩
  · rcases hU with hU | hU
    · exact Or.inl (u1 c hc hU)
    · exact Or.inr (hsn c hU hc)
  · rcases hU with hU | hU <;> rcases hV with hV | hV
    · exact u2 c d hc hd' hU hV he
    · exfalso
      have h1 := hd c hU
      rw [hcl c hc, he, hun _ (hsn d hV hd')] at h1
      cases h1
    · exfalso
      have h1 := hd d hV
      rw [hcl d hd', ← he, hun _ (hsn c hU hc)] at h1
      cases h1
    · obtain ⟨k, hk⟩ := hU
      obtain ⟨j, hj⟩ := hV
      exact fg_it_two ok k j y c d hk hj hc hd' he
  · rcases hE with hE | hE <;> rcases hU with hU | hU
    · exact u3 e c hE hc hU
    · intro z
      have h1 := e1 e hE
      rw [← z, hun _ (hsn c hU hc)] at h1
      cases h1
    · rw [hE]; exact key c hc hU
    · have h1 := hle c hU
      have h2 := ok.2.1 c hc.1 hc.2.1
      rw [hE]
      omega
  · rcases hE with hE | hE
    · exact Or.inl (u4 e hE hc)
    · exact Or.inr ⟨0, hE⟩
  · show fg_up (fg_F A) y true e = true
    rcases hE with hE | hE
    · by_cases z : e = y
      · rw [z, fg_up_eq]
      · rw [fg_up_ne _ _ z]; exact e1 e hE
    · rw [hE, fg_up_eq]
  · rcases hU with hU | hU
    · have hne := key c hc hU
      have hf' : fg_F A (fg_p G c) = true := by
        have h9 : fg_up (fg_F A) y true (fg_p G c) = true := hf
        rw [fg_up_ne _ _ hne] at h9; exact h9
      obtain ⟨k1, k2, k3, k4⟩ := ha c hc hU hf'
      refine ⟨?_, (fg_up_ne _ _ hne).trans k2, (fg_up_ne _ _ hne).trans k3, (fg_up_ne _ _ hne).trans k4⟩
      show fg_up (fg_F A) y true c = true
      by_cases z : c = y
      · rw [z, fg_up_eq]
      · rw [fg_up_ne _ _ z]; exact k1
    · exfalso
      have h1 := hle c hU
      have h2 := ok.2.1 c hc.1 hc.2.1
      have h9 : fg_up (fg_F A) y true (fg_p G c) = true := hf
      rw [fg_up_ne _ _ (by omega), hun _ (hsn c hU hc)] at h9
      cases h9
  · have hne : c ≠ y := fun z => hU (Or.inr ⟨0, z⟩)
    have hf' : fg_F A c = true := by
      have h9 : fg_up (fg_F A) y true c = true := hf
      rw [fg_up_ne _ _ hne] at h9; exact h9
    obtain ⟨k1, k2, k3, k4⟩ := hb c hc (fun z => hU (Or.inl z)) hf'
    refine ⟨?_, (fg_up_ne _ _ hne).trans k2, (fg_up_ne _ _ hne).trans k3, (fg_up_ne _ _ hne).trans k4⟩
    show fg_up (fg_F A) y true (fg_p G c) = true
    by_cases z : fg_p G c = y
    · rw [z, fg_up_eq]
    · rw [fg_up_ne _ _ z]; exact k1
  · by_cases z : u = y
    · exact Or.inl (Or.inr z)
    · have h9 : fg_up (fg_F A) y true u = true := hf
      rw [fg_up_ne _ _ z] at h9
      rcases hcc u h9 with h1 | ⟨c, h1, h2, h3⟩ | ⟨h1, h2⟩
      · exact Or.inl (Or.inl h1)
      · exact Or.inr (Or.inl ⟨c, h1, Or.inl h2, h3⟩)
      · refine Or.inr (Or.inr ⟨h1, fun h3 => ?_⟩)
        rcases h3 with h3 | h3
        · exact h2 h3
        · rw [hun u h3] at h9; cases h9
  · by_cases z : u = y
    · rw [z]; exact hyn
    · have h9 : fg_up (fg_F A) y true u = true := hf
      rw [fg_up_ne _ _ z] at h9
      exact hn u h9
def fg_init : fg_A := (fun u => decide (u = 0), fun _ => 0, fun _ => 0, fun _ => 0, fun _ => false, fun _ => False, fun e => e = 0)
theorem fg_init_I {G : fg_G} (ok : fg_ok G) : fg_I G fg_init := by
  refine ⟨fun c _ h => h.elim, fun c d _ _ h => h.elim, fun e c _ _ h => h.elim, fun e he hc => ?_, fun e he => decide_eq_true he, fun c _ h => h.elim, fun c hc _ hf => ?_, fun u hf => Or.inl (show u = 0 from of_decide_eq_true hf), fun u hf => ?_⟩
  · have he : e = 0 := he
    subst he
    have := hc.1
    omega
  · have h0 : c = 0 := of_decide_eq_true hf
    subst h0
    have := hc.1
    omega
  · have h0 : u = 0 := of_decide_eq_true hf
    have := ok.1
    omega
/-- after k closings -/
def fg_Re (G : fg_G) : Nat → fg_A → Prop
  | 0, A => fg_Sq G fg_init A ∧ fg_cl G A
  | k + 1, A => ∃ A0 q, fg_Re G k A0 ∧ fg_fi G A0 q ∧ fg_Sq G (fg_close G A0 q) A ∧ fg_cl G A
theorem fg_Re_Fu {G : fg_G} (ok : fg_ok G) : ∀ k A, fg_Re G k A → fg_Fu G A ∧ fg_F A 0 = true ∧ (∀ q, fg_K A q = true → q < fg_t G ∧ fg_F A (fg_a G q) = true ∧ fg_F A (fg_b G q) = true) ∧ fg_cn (fg_K A) (fg_t G) = k := by
  intro k
  induction k with
  | zero =>
    intro A h
    obtain ⟨⟨h1, h2, h3, h4, h5, h6⟩, hc⟩ := h
    refine ⟨⟨h1, hc, fun u hu => ?_⟩, (h5 0 rfl).1, fun q hq => ?_, ?_⟩
    · rw [h2] at hu; exact hu.elim
    · rw [h4] at hq; cases hq
    · rw [h4]
      have : ∀ m, fg_cn (fg_K fg_init) m = 0 := by
        intro m
        induction m with
        | zero => rfl
        | succ m ih => unfold fg_cn; rw [ih]; rfl
      exact this _
  | succ k ih =>
    intro A h
    obtain ⟨A0, q, h0, hq, ⟨h1, h2, h3, h4, h5, h6⟩, hc⟩ := h
    obtain ⟨⟨g1, g2, g3⟩, g4, g5, g6⟩ := ih A0 h0
    have hy := fg_y_un hq.2.1
    have hold : ∀ u, fg_F A0 u = true → fg_F A u = true := fun u hu => by
      refine (h5 u ?_).1
      show fg_up (fg_F A0) (fg_y G A0 q) true u = true
      unfold fg_up
      split
      · rfl
      · exact hu
    have hnew : fg_F A (fg_y G A0 q) = true := (h5 _ (fg_up_eq _ _ _)).1
    have hKq : fg_K A0 q = false := by
      cases hk : fg_K A0 q
      · rfl
      · obtain ⟨_, k1, k2⟩ := g5 q hk
        exact absurd (k1.trans k2.symm) hq.2.1
    refine ⟨⟨h1, hc, fun u hu => ?_⟩, hold 0 g4, fun r hr => ?_, ?_⟩
    · rw [h2] at hu
      rcases hu with hu | hu
      · exact hold u (g3 u hu)
      · rw [← fg_cl_Z hc hu]; exact hnew
    · rw [h4] at hr
      have hr' : fg_up (fg_K A0) q true r = true := hr
      by_cases z : r = q
      · subst z
        refine ⟨hq.1, ?_⟩
        unfold fg_y at hnew
        have hz := hold _ hy.2
        unfold fg_z at hz
        split at hnew
        · rename_i h9; rw [if_pos h9] at hz; exact ⟨hz, hnew⟩
        · rename_i h9; rw [if_neg h9] at hz; exact ⟨hnew, hz⟩
      · rw [fg_up_ne _ _ z] at hr'
        obtain ⟨k0, k1, k2⟩ := g5 r hr'
        exact ⟨k0, hold _ k1, hold _ k2⟩
    · rw [h4]
      show fg_cn (fg_up (fg_K A0) q true) (fg_t G) = k + 1
      rw [fg_cn_up hKq, g6, if_pos hq.1]
theorem fg_eq_df {G : fg_G} {A B : fg_A} (h : fg_eq A B) (q : Nat) : fg_df G A q ↔ fg_df G B q := by
  unfold fg_df
  rw [h.1, h.1]
theorem fg_eq_fi {G : fg_G} {A B : fg_A} (h : fg_eq A B) {q r : Nat} (hA : fg_fi G A q) (hB : fg_fi G B r) : q = r := by
  rcases Nat.lt_trichotomy q r with z | z | z
  · exact absurd ((fg_eq_df h q).mp hA.2.1) (hB.2.2 q z)
  · exact z
  · exact absurd ((fg_eq_df h r).mpr hB.2.1) (hA.2.2 r z)
theorem fg_eq_close {G : fg_G} {A B : fg_A} (h : fg_eq A B) (q : Nat) : fg_eq (fg_close G A q) (fg_close G B q) := by
  obtain ⟨h1, h2, h3, h4, h5⟩ := h
  have hy : fg_y G A q = fg_y G B q := by unfold fg_y; rw [h1]
  have hz : fg_z G A q = fg_z G B q := by unfold fg_z; rw [h1]
  unfold fg_close
  rw [hy, hz, h2, h3, h4]
  refine ⟨fun u => ?_, rfl, rfl, rfl, fun u hu => ?_⟩
  · show fg_up (fg_F A) _ true u = fg_up (fg_F B) _ true u
    unfold fg_up
    rw [h1]
  · show fg_up (fg_D A) _ _ u = fg_up (fg_D B) _ _ u ∧ fg_up (fg_C A) _ _ u = fg_up (fg_C B) _ _ u ∧ fg_up (fg_S A) _ _ u = fg_up (fg_S B) _ _ u
    have hu' : fg_up (fg_F A) (fg_y G B q) true u = true := hu
    by_cases z : u = fg_y G B q
    · rw [z, fg_up_eq, fg_up_eq, fg_up_eq, fg_up_eq, fg_up_eq, fg_up_eq]
      exact ⟨rfl, rfl, rfl⟩
    · rw [fg_up_ne _ _ z] at hu'
      obtain ⟨k1, k2, k3⟩ := h5 u hu'
      rw [fg_up_ne _ _ z, fg_up_ne _ _ z, fg_up_ne _ _ z, fg_up_ne _ _ z, fg_up_ne _ _ z, fg_up_ne _ _ z]
      exact ⟨k1, k2, k3⟩
theorem fg_eq.rf (A : fg_A) : fg_eq A A := ⟨fun _ => rfl, rfl, rfl, rfl, fun _ _ => ⟨rfl, rfl, rfl⟩⟩
theorem fg_Re_uniq {G : fg_G} (ok : fg_ok G) : ∀ k A B, fg_Re G k A → fg_Re G k B → fg_eq A B := by
  intro k
  induction k with
  | zero => intro A B hA hB; exact fg_uniq (fg_init_I ok) (fg_eq.rf _) hA.1 hA.2 hB.1 hB.2
  | succ k ih =>
    intro A B hA hB
    obtain ⟨A0, q, a1, a2, a3, a4⟩ := hA
    obtain ⟨B0, r, b1, b2, b3, b4⟩ := hB
    have h0 := ih A0 B0 a1 b1
    have hqr := fg_eq_fi h0 a2 b2
    subst hqr
    exact fg_uniq (fg_close_I ok (fg_Re_Fu ok k A0 a1).1 a2) (fg_eq_close h0 q) a3 a4 b3 b4
theorem fg_Re_below {G : fg_G} : ∀ j k B, fg_Re G (k + j + 1) B → ∃ B0 q, fg_Re G k B0 ∧ fg_fi G B0 q := by
  intro j
  induction j with
  | zero => intro k B h; obtain ⟨B0, q, h1, h2, _⟩ := h; exact ⟨B0, q, h1, h2⟩
  | succ j ih => intro k B h; obtain ⟨B0, q, h1, h2, _⟩ := h; exact ih k B0 h1
/-- what feeding gives -/
def fg_Fin (G : fg_G) (A : fg_A) : Prop := ∃ k, fg_Re G k A ∧ fg_nt G A
theorem fg_Fin_uniq {G : fg_G} (ok : fg_ok G) {A B : fg_A} (hA : fg_Fin G A) (hB : fg_Fin G B) : fg_eq A B := by
  obtain ⟨k, a1, a2⟩ := hA
  obtain ⟨j, b1, b2⟩ := hB
  rcases Nat.lt_trichotomy k j with z | z | z
  · exfalso
    obtain ⟨B0, q, h1, h2⟩ := fg_Re_below (j - k - 1) k B (by rw [show k + (j - k - 1) + 1 = j by omega]; exact b1)
    exact a2 q h2.1 ((fg_eq_df (fg_Re_uniq ok k A B0 a1 h1) q).mpr h2.2.1)
  · subst z; exact fg_Re_uniq ok k A B a1 b1
  · exfalso
    obtain ⟨B0, q, h1, h2⟩ := fg_Re_below (k - j - 1) j A (by rw [show j + (k - j - 1) + 1 = k by omega]; exact a1)
    exact b2 q h2.1 ((fg_eq_df (fg_Re_uniq ok j B B0 b1 h1) q).mpr h2.2.1)
theorem fg_Re_full {G : fg_G} (ok : fg_ok G) {A : fg_A} (h : fg_Re G (fg_t G) A) : fg_nt G A := by
  obtain ⟨_, _, h5, h6⟩ := fg_Re_Fu ok _ A h
  intro q hq hd
  obtain ⟨_, k1, k2⟩ := h5 q (fg_cn_all h6 q hq)
  exact hd (k1.trans k2.symm)
theorem fg_Re_lt {G : fg_G} (ok : fg_ok G) {k : Nat} {A : fg_A} (h : fg_Re G k A) {q : Nat} (hq : fg_fi G A q) : k < fg_t G := by
  obtain ⟨_, _, h5, h6⟩ := fg_Re_Fu ok _ A h
  have hK : fg_K A q = false := by
    cases hk : fg_K A q
    · rfl
    · obtain ⟨_, k1, k2⟩ := h5 q hk
      exact absurd (k1.trans k2.symm) hq.2.1
  have := fg_cn_lt hK (fg_t G) hq.1
  omega
end
