-- ===== PART A: goes FIRST, ahead of the names: the tables' words, and 'selects' of the private methods out of them =====
/-- a private method of a class that the tables say can be made, by its rows of tables_1 -/
def lw_okq (q : MethodName × Nat) : Prop := (q.1.cls ≠ "java/lang/invoke/MethodHandle" ∧ q.1.cls ≠ "java/lang/invoke/VarHandle") ∧ Cond.instantiable q.1.cls q.2 ∈ tables_1 ∧ Cond.privateMethod q.1 ∈ tables_1 ∧ Cond.instanceMethod q.1 ∈ tables_1
theorem lw_p0 : lw_okq (⟨"StopsByLetters", "refuse", "(I)I"⟩, 8) := ⟨⟨by decide +kernel, by decide +kernel⟩, List.mem_of_getElem? (i := 16) (by decide +kernel), List.mem_of_getElem? (i := 137) (by decide +kernel), List.mem_of_getElem? (i := 138) (by decide +kernel)⟩
theorem lw_p1 : lw_okq (⟨"StopsByLetters$Signs", "append", "(I)V"⟩, 2) := ⟨⟨by decide +kernel, by decide +kernel⟩, List.mem_of_getElem? (i := 55) (by decide +kernel), List.mem_of_getElem? (i := 141) (by decide +kernel), List.mem_of_getElem? (i := 142) (by decide +kernel)⟩
theorem lw_p2 : lw_okq (⟨"StopsByLetters", "readSigns", "()I"⟩, 8) := ⟨⟨by decide +kernel, by decide +kernel⟩, List.mem_of_getElem? (i := 16) (by decide +kernel), List.mem_of_getElem? (i := 149) (by decide +kernel), List.mem_of_getElem? (i := 150) (by decide +kernel)⟩
theorem lw_p3 : lw_okq (⟨"StopsByLetters$Signs", "firstUnreadable", "()I"⟩, 2) := ⟨⟨by decide +kernel, by decide +kernel⟩, List.mem_of_getElem? (i := 55) (by decide +kernel), List.mem_of_getElem? (i := 153) (by decide +kernel), List.mem_of_getElem? (i := 154) (by decide +kernel)⟩
theorem lw_p4 : lw_okq (⟨"StopsByLetters$Stations", "take", "(LStopsByLetters$Stations;)V"⟩, 5) := ⟨⟨by decide +kernel, by decide +kernel⟩, List.mem_of_getElem? (i := 24) (by decide +kernel), List.mem_of_getElem? (i := 256) (by decide +kernel), List.mem_of_getElem? (i := 257) (by decide +kernel)⟩
theorem lw_p5 : lw_okq (⟨"StopsByLetters$Stations", "takeOne", "(LStopsByLetters$Stations;II)V"⟩, 5) := ⟨⟨by decide +kernel, by decide +kernel⟩, List.mem_of_getElem? (i := 24) (by decide +kernel), List.mem_of_getElem? (i := 260) (by decide +kernel), List.mem_of_getElem? (i := 261) (by decide +kernel)⟩
theorem lw_p6 : lw_okq (⟨"StopsByLetters$Signs", "at", "(I)I"⟩, 2) := ⟨⟨by decide +kernel, by decide +kernel⟩, List.mem_of_getElem? (i := 55) (by decide +kernel), List.mem_of_getElem? (i := 267) (by decide +kernel), List.mem_of_getElem? (i := 268) (by decide +kernel)⟩
theorem lw_p7 : lw_okq (⟨"StopsByLetters$Stations", "obey", "(LStopsByLetters$Signs;II)Z"⟩, 5) := ⟨⟨by decide +kernel, by decide +kernel⟩, List.mem_of_getElem? (i := 24) (by decide +kernel), List.mem_of_getElem? (i := 271) (by decide +kernel), List.mem_of_getElem? (i := 272) (by decide +kernel)⟩
theorem lw_p8 : lw_okq (⟨"StopsByLetters$Stations", "append", "(LStopsByLetters$Signs;II)Z"⟩, 5) := ⟨⟨by decide +kernel, by decide +kernel⟩, List.mem_of_getElem? (i := 24) (by decide +kernel), List.mem_of_getElem? (i := 276) (by decide +kernel), List.mem_of_getElem? (i := 277) (by decide +kernel)⟩
theorem lw_p9 : lw_okq (⟨"StopsByLetters$Stations", "rename", "(ILStopsByLetters$Signs;II)Z"⟩, 5) := ⟨⟨by decide +kernel, by decide +kernel⟩, List.mem_of_getElem? (i := 24) (by decide +kernel), List.mem_of_getElem? (i := 281) (by decide +kernel), List.mem_of_getElem? (i := 282) (by decide +kernel)⟩
theorem lw_p10 : lw_okq (⟨"StopsByLetters$Stations", "has", "(I)Z"⟩, 5) := ⟨⟨by decide +kernel, by decide +kernel⟩, List.mem_of_getElem? (i := 24) (by decide +kernel), List.mem_of_getElem? (i := 285) (by decide +kernel), List.mem_of_getElem? (i := 286) (by decide +kernel)⟩
theorem lw_p11 : lw_okq (⟨"StopsByLetters$Stations", "ridesFrom", "(I)I"⟩, 5) := ⟨⟨by decide +kernel, by decide +kernel⟩, List.mem_of_getElem? (i := 24) (by decide +kernel), List.mem_of_getElem? (i := 295) (by decide +kernel), List.mem_of_getElem? (i := 296) (by decide +kernel)⟩
theorem lw_p12 : lw_okq (⟨"StopsByLetters$Stations", "stopsFrom", "(I)I"⟩, 5) := ⟨⟨by decide +kernel, by decide +kernel⟩, List.mem_of_getElem? (i := 24) (by decide +kernel), List.mem_of_getElem? (i := 299) (by decide +kernel), List.mem_of_getElem? (i := 300) (by decide +kernel)⟩
theorem lw_p13 : lw_okq (⟨"StopsByLetters$Stations", "vowelsOf", "(I)I"⟩, 5) := ⟨⟨by decide +kernel, by decide +kernel⟩, List.mem_of_getElem? (i := 24) (by decide +kernel), List.mem_of_getElem? (i := 303) (by decide +kernel), List.mem_of_getElem? (i := 304) (by decide +kernel)⟩
theorem lw_p14 : lw_okq (⟨"StopsByLetters$Stations", "lastLetterOf", "(I)I"⟩, 5) := ⟨⟨by decide +kernel, by decide +kernel⟩, List.mem_of_getElem? (i := 24) (by decide +kernel), List.mem_of_getElem? (i := 308) (by decide +kernel), List.mem_of_getElem? (i := 309) (by decide +kernel)⟩
theorem lw_p15 : lw_okq (⟨"StopsByLetters$Stations", "bitOf", "(I)I"⟩, 5) := ⟨⟨by decide +kernel, by decide +kernel⟩, List.mem_of_getElem? (i := 24) (by decide +kernel), List.mem_of_getElem? (i := 312) (by decide +kernel), List.mem_of_getElem? (i := 313) (by decide +kernel)⟩
def lw_privs_1 : List (MethodName × Nat) := [(⟨"StopsByLetters", "refuse", "(I)I"⟩, 8), (⟨"StopsByLetters$Signs", "append", "(I)V"⟩, 2), (⟨"StopsByLetters", "readSigns", "()I"⟩, 8), (⟨"StopsByLetters$Signs", "firstUnreadable", "()I"⟩, 2), (⟨"StopsByLetters$Stations", "take", "(LStopsByLetters$Stations;)V"⟩, 5), (⟨"StopsByLetters$Stations", "takeOne", "(LStopsByLetters$Stations;II)V"⟩, 5), (⟨"StopsByLetters$Signs", "at", "(I)I"⟩, 2), (⟨"StopsByLetters$Stations", "obey", "(LStopsByLetters$Signs;II)Z"⟩, 5), (⟨"StopsByLetters$Stations", "append", "(LStopsByLetters$Signs;II)Z"⟩, 5), (⟨"StopsByLetters$Stations", "rename", "(ILStopsByLetters$Signs;II)Z"⟩, 5), (⟨"StopsByLetters$Stations", "has", "(I)Z"⟩, 5), (⟨"StopsByLetters$Stations", "ridesFrom", "(I)I"⟩, 5), (⟨"StopsByLetters$Stations", "stopsFrom", "(I)I"⟩, 5), (⟨"StopsByLetters$Stations", "vowelsOf", "(I)I"⟩, 5), (⟨"StopsByLetters$Stations", "lastLetterOf", "(I)I"⟩, 5), (⟨"StopsByLetters$Stations", "bitOf", "(I)I"⟩, 5)]
theorem lw_r1 : ∀ q ∈ lw_privs_1, lw_okq q := List.forall_mem_cons.mpr ⟨lw_p0, List.forall_mem_cons.mpr ⟨lw_p1, List.forall_mem_cons.mpr ⟨lw_p2, List.forall_mem_cons.mpr ⟨lw_p3, List.forall_mem_cons.mpr ⟨lw_p4, List.forall_mem_cons.mpr ⟨lw_p5, List.forall_mem_cons.mpr ⟨lw_p6, List.forall_mem_cons.mpr ⟨lw_p7, List.forall_mem_cons.mpr ⟨lw_p8, List.forall_mem_cons.mpr ⟨lw_p9, List.forall_mem_cons.mpr ⟨lw_p10, List.forall_mem_cons.mpr ⟨lw_p11, List.forall_mem_cons.mpr ⟨lw_p12, List.forall_mem_cons.mpr ⟨lw_p13, List.forall_mem_cons.mpr ⟨lw_p14, List.forall_mem_cons.mpr ⟨lw_p15, fun _ h => absurd h List.not_mem_nil⟩⟩⟩⟩⟩⟩⟩⟩⟩⟩⟩⟩⟩⟩⟩⟩
theorem lw_p16 : lw_okq (⟨"StopsByLetters$Net", "lay", "(LStopsByLetters$Stations;)V"⟩, 5) := ⟨⟨by decide +kernel, by decide +kernel⟩, List.mem_of_getElem? (i := 84) (by decide +kernel), List.mem_of_getElem? (i := 339) (by decide +kernel), List.mem_of_getElem? (i := 340) (by decide +kernel)⟩
theorem lw_p17 : lw_okq (⟨"StopsByLetters$Net", "comes", "(II)Z"⟩, 5) := ⟨⟨by decide +kernel, by decide +kernel⟩, List.mem_of_getElem? (i := 84) (by decide +kernel), List.mem_of_getElem? (i := 344) (by decide +kernel), List.mem_of_getElem? (i := 345) (by decide +kernel)⟩
theorem lw_p18 : lw_okq (⟨"StopsByLetters$Net", "fewest", "(II)I"⟩, 5) := ⟨⟨by decide +kernel, by decide +kernel⟩, List.mem_of_getElem? (i := 84) (by decide +kernel), List.mem_of_getElem? (i := 348) (by decide +kernel), List.mem_of_getElem? (i := 349) (by decide +kernel)⟩
theorem lw_p19 : lw_okq (⟨"StopsByLetters$Net", "oneRideFrom", "(I)I"⟩, 5) := ⟨⟨by decide +kernel, by decide +kernel⟩, List.mem_of_getElem? (i := 84) (by decide +kernel), List.mem_of_getElem? (i := 352) (by decide +kernel), List.mem_of_getElem? (i := 353) (by decide +kernel)⟩
theorem lw_p20 : lw_okq (⟨"StopsByLetters", "refuseLong", "(I)J"⟩, 8) := ⟨⟨by decide +kernel, by decide +kernel⟩, List.mem_of_getElem? (i := 16) (by decide +kernel), List.mem_of_getElem? (i := 360) (by decide +kernel), List.mem_of_getElem? (i := 361) (by decide +kernel)⟩
theorem lw_p21 : lw_okq (⟨"StopsByLetters$Net", "waysBy", "(III)J"⟩, 5) := ⟨⟨by decide +kernel, by decide +kernel⟩, List.mem_of_getElem? (i := 84) (by decide +kernel), List.mem_of_getElem? (i := 365) (by decide +kernel), List.mem_of_getElem? (i := 366) (by decide +kernel)⟩
theorem lw_p22 : lw_okq (⟨"StopsByLetters$Net", "startAt", "(I)V"⟩, 5) := ⟨⟨by decide +kernel, by decide +kernel⟩, List.mem_of_getElem? (i := 84) (by decide +kernel), List.mem_of_getElem? (i := 369) (by decide +kernel), List.mem_of_getElem? (i := 370) (by decide +kernel)⟩
theorem lw_p23 : lw_okq (⟨"StopsByLetters$Net", "tallyInto", "(I)J"⟩, 5) := ⟨⟨by decide +kernel, by decide +kernel⟩, List.mem_of_getElem? (i := 84) (by decide +kernel), List.mem_of_getElem? (i := 373) (by decide +kernel), List.mem_of_getElem? (i := 374) (by decide +kernel)⟩
theorem lw_p24 : lw_okq (⟨"StopsByLetters$Net", "leads", "(II)Z"⟩, 5) := ⟨⟨by decide +kernel, by decide +kernel⟩, List.mem_of_getElem? (i := 84) (by decide +kernel), List.mem_of_getElem? (i := 377) (by decide +kernel), List.mem_of_getElem? (i := 378) (by decide +kernel)⟩
theorem lw_p25 : lw_okq (⟨"StopsByLetters$Net", "turn", "()V"⟩, 5) := ⟨⟨by decide +kernel, by decide +kernel⟩, List.mem_of_getElem? (i := 84) (by decide +kernel), List.mem_of_getElem? (i := 381) (by decide +kernel), List.mem_of_getElem? (i := 382) (by decide +kernel)⟩
theorem lw_p26 : lw_okq (⟨"StopsByLetters$Net", "comers", "(I)I"⟩, 5) := ⟨⟨by decide +kernel, by decide +kernel⟩, List.mem_of_getElem? (i := 84) (by decide +kernel), List.mem_of_getElem? (i := 393) (by decide +kernel), List.mem_of_getElem? (i := 394) (by decide +kernel)⟩
theorem lw_p27 : lw_okq (⟨"StopsByLetters$Net", "unvisited", "()I"⟩, 5) := ⟨⟨by decide +kernel, by decide +kernel⟩, List.mem_of_getElem? (i := 84) (by decide +kernel), List.mem_of_getElem? (i := 401) (by decide +kernel), List.mem_of_getElem? (i := 402) (by decide +kernel)⟩
theorem lw_p28 : lw_okq (⟨"StopsByLetters$Net", "unleft", "()I"⟩, 5) := ⟨⟨by decide +kernel, by decide +kernel⟩, List.mem_of_getElem? (i := 84) (by decide +kernel), List.mem_of_getElem? (i := 409) (by decide +kernel), List.mem_of_getElem? (i := 410) (by decide +kernel)⟩
theorem lw_p29 : lw_okq (⟨"StopsByLetters$Net", "partsInAll", "()I"⟩, 5) := ⟨⟨by decide +kernel, by decide +kernel⟩, List.mem_of_getElem? (i := 84) (by decide +kernel), List.mem_of_getElem? (i := 417) (by decide +kernel), List.mem_of_getElem? (i := 418) (by decide +kernel)⟩
theorem lw_p30 : lw_okq (⟨"StopsByLetters$Net", "partOf", "(I)I"⟩, 5) := ⟨⟨by decide +kernel, by decide +kernel⟩, List.mem_of_getElem? (i := 84) (by decide +kernel), List.mem_of_getElem? (i := 421) (by decide +kernel), List.mem_of_getElem? (i := 422) (by decide +kernel)⟩
theorem lw_p31 : lw_okq (⟨"StopsByLetters", "neverIn", "(LStopsByLetters$Stations;)I"⟩, 8) := ⟨⟨by decide +kernel, by decide +kernel⟩, List.mem_of_getElem? (i := 16) (by decide +kernel), List.mem_of_getElem? (i := 431) (by decide +kernel), List.mem_of_getElem? (i := 432) (by decide +kernel)⟩
def lw_privs_2 : List (MethodName × Nat) := [(⟨"StopsByLetters$Net", "lay", "(LStopsByLetters$Stations;)V"⟩, 5), (⟨"StopsByLetters$Net", "comes", "(II)Z"⟩, 5), (⟨"StopsByLetters$Net", "fewest", "(II)I"⟩, 5), (⟨"StopsByLetters$Net", "oneRideFrom", "(I)I"⟩, 5), (⟨"StopsByLetters", "refuseLong", "(I)J"⟩, 8), (⟨"StopsByLetters$Net", "waysBy", "(III)J"⟩, 5), (⟨"StopsByLetters$Net", "startAt", "(I)V"⟩, 5), (⟨"StopsByLetters$Net", "tallyInto", "(I)J"⟩, 5), (⟨"StopsByLetters$Net", "leads", "(II)Z"⟩, 5), (⟨"StopsByLetters$Net", "turn", "()V"⟩, 5), (⟨"StopsByLetters$Net", "comers", "(I)I"⟩, 5), (⟨"StopsByLetters$Net", "unvisited", "()I"⟩, 5), (⟨"StopsByLetters$Net", "unleft", "()I"⟩, 5), (⟨"StopsByLetters$Net", "partsInAll", "()I"⟩, 5), (⟨"StopsByLetters$Net", "partOf", "(I)I"⟩, 5), (⟨"StopsByLetters", "neverIn", "(LStopsByLetters$Stations;)I"⟩, 8)]
theorem lw_r2 : ∀ q ∈ lw_privs_2, lw_okq q := List.forall_mem_cons.mpr ⟨lw_p16, List.forall_mem_cons.mpr ⟨lw_p17, List.forall_mem_cons.mpr ⟨lw_p18, List.forall_mem_cons.mpr ⟨lw_p19, List.forall_mem_cons.mpr ⟨lw_p20, List.forall_mem_cons.mpr ⟨lw_p21, List.forall_mem_cons.mpr ⟨lw_p22, List.forall_mem_cons.mpr ⟨lw_p23, List.forall_mem_cons.mpr ⟨lw_p24, List.forall_mem_cons.mpr ⟨lw_p25, List.forall_mem_cons.mpr ⟨lw_p26, List.forall_mem_cons.mpr ⟨lw_p27, List.forall_mem_cons.mpr ⟨lw_p28, List.forall_mem_cons.mpr ⟨lw_p29, List.forall_mem_cons.mpr ⟨lw_p30, List.forall_mem_cons.mpr ⟨lw_p31, fun _ h => absurd h List.not_mem_nil⟩⟩⟩⟩⟩⟩⟩⟩⟩⟩⟩⟩⟩⟩⟩⟩
theorem lw_p32 : lw_okq (⟨"StopsByLetters$Net", "pairsApart", "()I"⟩, 5) := ⟨⟨by decide +kernel, by decide +kernel⟩, List.mem_of_getElem? (i := 84) (by decide +kernel), List.mem_of_getElem? (i := 435) (by decide +kernel), List.mem_of_getElem? (i := 436) (by decide +kernel)⟩
theorem lw_p33 : lw_okq (⟨"StopsByLetters", "refuseMore", "(I)I"⟩, 8) := ⟨⟨by decide +kernel, by decide +kernel⟩, List.mem_of_getElem? (i := 16) (by decide +kernel), List.mem_of_getElem? (i := 449) (by decide +kernel), List.mem_of_getElem? (i := 450) (by decide +kernel)⟩
theorem lw_p34 : lw_okq (⟨"StopsByLetters$Stations", "change", "(II)Z"⟩, 5) := ⟨⟨by decide +kernel, by decide +kernel⟩, List.mem_of_getElem? (i := 24) (by decide +kernel), List.mem_of_getElem? (i := 454) (by decide +kernel), List.mem_of_getElem? (i := 455) (by decide +kernel)⟩
theorem lw_p35 : lw_okq (⟨"StopsByLetters", "someChangeJoinsAll", "()Z"⟩, 8) := ⟨⟨by decide +kernel, by decide +kernel⟩, List.mem_of_getElem? (i := 16) (by decide +kernel), List.mem_of_getElem? (i := 466) (by decide +kernel), List.mem_of_getElem? (i := 467) (by decide +kernel)⟩
theorem lw_p36 : lw_okq (⟨"StopsByLetters", "someTwoChangesJoinAll", "()Z"⟩, 8) := ⟨⟨by decide +kernel, by decide +kernel⟩, List.mem_of_getElem? (i := 16) (by decide +kernel), List.mem_of_getElem? (i := 470) (by decide +kernel), List.mem_of_getElem? (i := 471) (by decide +kernel)⟩
theorem lw_p37 : lw_okq (⟨"StopsByLetters$Net", "lotsOf", "(III)J"⟩, 5) := ⟨⟨by decide +kernel, by decide +kernel⟩, List.mem_of_getElem? (i := 84) (by decide +kernel), List.mem_of_getElem? (i := 478) (by decide +kernel), List.mem_of_getElem? (i := 479) (by decide +kernel)⟩
theorem lw_p38 : lw_okq (⟨"StopsByLetters$Net", "shareOut", "(I)V"⟩, 5) := ⟨⟨by decide +kernel, by decide +kernel⟩, List.mem_of_getElem? (i := 84) (by decide +kernel), List.mem_of_getElem? (i := 482) (by decide +kernel), List.mem_of_getElem? (i := 483) (by decide +kernel)⟩
theorem lw_p39 : lw_okq (⟨"StopsByLetters$Stations", "insertBehind", "(II)V"⟩, 5) := ⟨⟨by decide +kernel, by decide +kernel⟩, List.mem_of_getElem? (i := 24) (by decide +kernel), List.mem_of_getElem? (i := 492) (by decide +kernel), List.mem_of_getElem? (i := 493) (by decide +kernel)⟩
theorem lw_p40 : lw_okq (⟨"StopsByLetters$Stations", "spell", "(II)V"⟩, 5) := ⟨⟨by decide +kernel, by decide +kernel⟩, List.mem_of_getElem? (i := 24) (by decide +kernel), List.mem_of_getElem? (i := 496) (by decide +kernel), List.mem_of_getElem? (i := 497) (by decide +kernel)⟩
theorem lw_p41 : lw_okq (⟨"StopsByLetters$Stations", "remove", "(I)V"⟩, 5) := ⟨⟨by decide +kernel, by decide +kernel⟩, List.mem_of_getElem? (i := 24) (by decide +kernel), List.mem_of_getElem? (i := 504) (by decide +kernel), List.mem_of_getElem? (i := 505) (by decide +kernel)⟩
theorem lw_p42 : lw_okq (⟨"StopsByLetters$Sights", "append", "(I)V"⟩, 2) := ⟨⟨by decide +kernel, by decide +kernel⟩, List.mem_of_getElem? (i := 69) (by decide +kernel), List.mem_of_getElem? (i := 516) (by decide +kernel), List.mem_of_getElem? (i := 517) (by decide +kernel)⟩
theorem lw_p43 : lw_okq (⟨"StopsByLetters$Net", "fit", "(LStopsByLetters$Sights;)V"⟩, 5) := ⟨⟨by decide +kernel, by decide +kernel⟩, List.mem_of_getElem? (i := 84) (by decide +kernel), List.mem_of_getElem? (i := 524) (by decide +kernel), List.mem_of_getElem? (i := 525) (by decide +kernel)⟩
theorem lw_p44 : lw_okq (⟨"StopsByLetters$Sights", "allows", "(II)Z"⟩, 2) := ⟨⟨by decide +kernel, by decide +kernel⟩, List.mem_of_getElem? (i := 69) (by decide +kernel), List.mem_of_getElem? (i := 528) (by decide +kernel), List.mem_of_getElem? (i := 529) (by decide +kernel)⟩
theorem lw_p45 : lw_okq (⟨"StopsByLetters$Sights", "at", "(I)I"⟩, 2) := ⟨⟨by decide +kernel, by decide +kernel⟩, List.mem_of_getElem? (i := 69) (by decide +kernel), List.mem_of_getElem? (i := 532) (by decide +kernel), List.mem_of_getElem? (i := 533) (by decide +kernel)⟩
theorem lw_p46 : lw_okq (⟨"StopsByLetters$Net", "tallyFrom", "(I)J"⟩, 5) := ⟨⟨by decide +kernel, by decide +kernel⟩, List.mem_of_getElem? (i := 84) (by decide +kernel), List.mem_of_getElem? (i := 536) (by decide +kernel), List.mem_of_getElem? (i := 537) (by decide +kernel)⟩
theorem lw_p47 : lw_okq (⟨"StopsByLetters$Net", "fittingStations", "()I"⟩, 5) := ⟨⟨by decide +kernel, by decide +kernel⟩, List.mem_of_getElem? (i := 84) (by decide +kernel), List.mem_of_getElem? (i := 540) (by decide +kernel), List.mem_of_getElem? (i := 541) (by decide +kernel)⟩
def lw_privs_3 : List (MethodName × Nat) := [(⟨"StopsByLetters$Net", "pairsApart", "()I"⟩, 5), (⟨"StopsByLetters", "refuseMore", "(I)I"⟩, 8), (⟨"StopsByLetters$Stations", "change", "(II)Z"⟩, 5), (⟨"StopsByLetters", "someChangeJoinsAll", "()Z"⟩, 8), (⟨"StopsByLetters", "someTwoChangesJoinAll", "()Z"⟩, 8), (⟨"StopsByLetters$Net", "lotsOf", "(III)J"⟩, 5), (⟨"StopsByLetters$Net", "shareOut", "(I)V"⟩, 5), (⟨"StopsByLetters$Stations", "insertBehind", "(II)V"⟩, 5), (⟨"StopsByLetters$Stations", "spell", "(II)V"⟩, 5), (⟨"StopsByLetters$Stations", "remove", "(I)V"⟩, 5), (⟨"StopsByLetters$Sights", "append", "(I)V"⟩, 2), (⟨"StopsByLetters$Net", "fit", "(LStopsByLetters$Sights;)V"⟩, 5), (⟨"StopsByLetters$Sights", "allows", "(II)Z"⟩, 2), (⟨"StopsByLetters$Sights", "at", "(I)I"⟩, 2), (⟨"StopsByLetters$Net", "tallyFrom", "(I)J"⟩, 5), (⟨"StopsByLetters$Net", "fittingStations", "()I"⟩, 5)]
theorem lw_r3 : ∀ q ∈ lw_privs_3, lw_okq q := List.forall_mem_cons.mpr ⟨lw_p32, List.forall_mem_cons.mpr ⟨lw_p33, List.forall_mem_cons.mpr ⟨lw_p34, List.forall_mem_cons.mpr ⟨lw_p35, List.forall_mem_cons.mpr ⟨lw_p36, List.forall_mem_cons.mpr ⟨lw_p37, List.forall_mem_cons.mpr ⟨lw_p38, List.forall_mem_cons.mpr ⟨lw_p39, List.forall_mem_cons.mpr ⟨lw_p40, List.forall_mem_cons.mpr ⟨lw_p41, List.forall_mem_cons.mpr ⟨lw_p42, List.forall_mem_cons.mpr ⟨lw_p43, List.forall_mem_cons.mpr ⟨lw_p44, List.forall_mem_cons.mpr ⟨lw_p45, List.forall_mem_cons.mpr ⟨lw_p46, List.forall_mem_cons.mpr ⟨lw_p47, fun _ h => absurd h List.not_mem_nil⟩⟩⟩⟩⟩⟩⟩⟩⟩⟩⟩⟩⟩⟩⟩⟩
theorem lw_p48 : lw_okq (⟨"StopsByLetters$Net", "fittingWays", "()J"⟩, 5) := ⟨⟨by decide +kernel, by decide +kernel⟩, List.mem_of_getElem? (i := 84) (by decide +kernel), List.mem_of_getElem? (i := 544) (by decide +kernel), List.mem_of_getElem? (i := 545) (by decide +kernel)⟩
theorem lw_p49 : lw_okq (⟨"StopsByLetters", "someWayFits", "(LStopsByLetters$Stations;)Z"⟩, 8) := ⟨⟨by decide +kernel, by decide +kernel⟩, List.mem_of_getElem? (i := 16) (by decide +kernel), List.mem_of_getElem? (i := 552) (by decide +kernel), List.mem_of_getElem? (i := 553) (by decide +kernel)⟩
theorem lw_p50 : lw_okq (⟨"StopsByLetters", "canBeMisspelt", "(I)Z"⟩, 8) := ⟨⟨by decide +kernel, by decide +kernel⟩, List.mem_of_getElem? (i := 16) (by decide +kernel), List.mem_of_getElem? (i := 556) (by decide +kernel), List.mem_of_getElem? (i := 557) (by decide +kernel)⟩
theorem lw_p51 : lw_okq (⟨"StopsByLetters$Net", "firstNoRide", "(LStopsByLetters$Sights;)I"⟩, 5) := ⟨⟨by decide +kernel, by decide +kernel⟩, List.mem_of_getElem? (i := 84) (by decide +kernel), List.mem_of_getElem? (i := 565) (by decide +kernel), List.mem_of_getElem? (i := 566) (by decide +kernel)⟩
theorem lw_p52 : lw_okq (⟨"StopsByLetters$Net", "drawn", "(III)I"⟩, 5) := ⟨⟨by decide +kernel, by decide +kernel⟩, List.mem_of_getElem? (i := 84) (by decide +kernel), List.mem_of_getElem? (i := 574) (by decide +kernel), List.mem_of_getElem? (i := 575) (by decide +kernel)⟩
theorem lw_p53 : lw_okq (⟨"StopsByLetters$Net", "rideOf", "(II)I"⟩, 5) := ⟨⟨by decide +kernel, by decide +kernel⟩, List.mem_of_getElem? (i := 84) (by decide +kernel), List.mem_of_getElem? (i := 581) (by decide +kernel), List.mem_of_getElem? (i := 582) (by decide +kernel)⟩
theorem lw_p54 : lw_okq (⟨"StopsByLetters$Stations", "sumOfSizes", "()I"⟩, 5) := ⟨⟨by decide +kernel, by decide +kernel⟩, List.mem_of_getElem? (i := 24) (by decide +kernel), List.mem_of_getElem? (i := 597) (by decide +kernel), List.mem_of_getElem? (i := 598) (by decide +kernel)⟩
theorem lw_p55 : lw_okq (⟨"StopsByLetters$Net", "sumOfRides", "()I"⟩, 5) := ⟨⟨by decide +kernel, by decide +kernel⟩, List.mem_of_getElem? (i := 84) (by decide +kernel), List.mem_of_getElem? (i := 601) (by decide +kernel), List.mem_of_getElem? (i := 602) (by decide +kernel)⟩
theorem lw_p56 : lw_okq (⟨"StopsByLettersModel", "no", "(I)I"⟩, 23) := ⟨⟨by decide +kernel, by decide +kernel⟩, List.mem_of_getElem? (i := 605) (by decide +kernel), List.mem_of_getElem? (i := 688) (by decide +kernel), List.mem_of_getElem? (i := 689) (by decide +kernel)⟩
theorem lw_p57 : lw_okq (⟨"StopsByLettersModel", "statement", "()Z"⟩, 23) := ⟨⟨by decide +kernel, by decide +kernel⟩, List.mem_of_getElem? (i := 605) (by decide +kernel), List.mem_of_getElem? (i := 696) (by decide +kernel), List.mem_of_getElem? (i := 697) (by decide +kernel)⟩
theorem lw_p58 : lw_okq (⟨"StopsByLettersModel", "next", "()I"⟩, 23) := ⟨⟨by decide +kernel, by decide +kernel⟩, List.mem_of_getElem? (i := 605) (by decide +kernel), List.mem_of_getElem? (i := 700) (by decide +kernel), List.mem_of_getElem? (i := 701) (by decide +kernel)⟩
theorem lw_p59 : lw_okq (⟨"StopsByLettersModel", "isNext", "(I)Z"⟩, 23) := ⟨⟨by decide +kernel, by decide +kernel⟩, List.mem_of_getElem? (i := 605) (by decide +kernel), List.mem_of_getElem? (i := 710) (by decide +kernel), List.mem_of_getElem? (i := 711) (by decide +kernel)⟩
theorem lw_p60 : lw_okq (⟨"StopsByLettersModel", "readsName", "()Z"⟩, 23) := ⟨⟨by decide +kernel, by decide +kernel⟩, List.mem_of_getElem? (i := 605) (by decide +kernel), List.mem_of_getElem? (i := 714) (by decide +kernel), List.mem_of_getElem? (i := 715) (by decide +kernel)⟩
theorem lw_p61 : lw_okq (⟨"StopsByLettersModel", "passesAll", "(IZ)V"⟩, 23) := ⟨⟨by decide +kernel, by decide +kernel⟩, List.mem_of_getElem? (i := 605) (by decide +kernel), List.mem_of_getElem? (i := 718) (by decide +kernel), List.mem_of_getElem? (i := 719) (by decide +kernel)⟩
theorem lw_p62 : lw_okq (⟨"StopsByLettersModel", "passes", "([I)V"⟩, 23) := ⟨⟨by decide +kernel, by decide +kernel⟩, List.mem_of_getElem? (i := 605) (by decide +kernel), List.mem_of_getElem? (i := 722) (by decide +kernel), List.mem_of_getElem? (i := 723) (by decide +kernel)⟩
theorem lw_p63 : lw_okq (⟨"StopsByLettersModel", "passOne", "(I)I"⟩, 23) := ⟨⟨by decide +kernel, by decide +kernel⟩, List.mem_of_getElem? (i := 605) (by decide +kernel), List.mem_of_getElem? (i := 726) (by decide +kernel), List.mem_of_getElem? (i := 727) (by decide +kernel)⟩
def lw_privs_4 : List (MethodName × Nat) := [(⟨"StopsByLetters$Net", "fittingWays", "()J"⟩, 5), (⟨"StopsByLetters", "someWayFits", "(LStopsByLetters$Stations;)Z"⟩, 8), (⟨"StopsByLetters", "canBeMisspelt", "(I)Z"⟩, 8), (⟨"StopsByLetters$Net", "firstNoRide", "(LStopsByLetters$Sights;)I"⟩, 5), (⟨"StopsByLetters$Net", "drawn", "(III)I"⟩, 5), (⟨"StopsByLetters$Net", "rideOf", "(II)I"⟩, 5), (⟨"StopsByLetters$Stations", "sumOfSizes", "()I"⟩, 5), (⟨"StopsByLetters$Net", "sumOfRides", "()I"⟩, 5), (⟨"StopsByLettersModel", "no", "(I)I"⟩, 23), (⟨"StopsByLettersModel", "statement", "()Z"⟩, 23), (⟨"StopsByLettersModel", "next", "()I"⟩, 23), (⟨"StopsByLettersModel", "isNext", "(I)Z"⟩, 23), (⟨"StopsByLettersModel", "readsName", "()Z"⟩, 23), (⟨"StopsByLettersModel", "passesAll", "(IZ)V"⟩, 23), (⟨"StopsByLettersModel", "passes", "([I)V"⟩, 23), (⟨"StopsByLettersModel", "passOne", "(I)I"⟩, 23)]
theorem lw_r4 : ∀ q ∈ lw_privs_4, lw_okq q := List.forall_mem_cons.mpr ⟨lw_p48, List.forall_mem_cons.mpr ⟨lw_p49, List.forall_mem_cons.mpr ⟨lw_p50, List.forall_mem_cons.mpr ⟨lw_p51, List.forall_mem_cons.mpr ⟨lw_p52, List.forall_mem_cons.mpr ⟨lw_p53, List.forall_mem_cons.mpr ⟨lw_p54, List.forall_mem_cons.mpr ⟨lw_p55, List.forall_mem_cons.mpr ⟨lw_p56, List.forall_mem_cons.mpr ⟨lw_p57, List.forall_mem_cons.mpr ⟨lw_p58, List.forall_mem_cons.mpr ⟨lw_p59, List.forall_mem_cons.mpr ⟨lw_p60, List.forall_mem_cons.mpr ⟨lw_p61, List.forall_mem_cons.mpr ⟨lw_p62, List.forall_mem_cons.mpr ⟨lw_p63, fun _ h => absurd h List.not_mem_nil⟩⟩⟩⟩⟩⟩⟩⟩⟩⟩⟩⟩⟩⟩⟩⟩
theorem lw_p64 : lw_okq (⟨"StopsByLettersModel", "comes", "(I)Z"⟩, 23) := ⟨⟨by decide +kernel, by decide +kernel⟩, List.mem_of_getElem? (i := 605) (by decide +kernel), List.mem_of_getElem? (i := 730) (by decide +kernel), List.mem_of_getElem? (i := 731) (by decide +kernel)⟩
theorem lw_p65 : lw_okq (⟨"StopsByLettersModel", "spells", "(II)V"⟩, 23) := ⟨⟨by decide +kernel, by decide +kernel⟩, List.mem_of_getElem? (i := 605) (by decide +kernel), List.mem_of_getElem? (i := 734) (by decide +kernel), List.mem_of_getElem? (i := 735) (by decide +kernel)⟩
theorem lw_p66 : lw_okq (⟨"StopsByLettersModel", "isStation", "(I)Z"⟩, 23) := ⟨⟨by decide +kernel, by decide +kernel⟩, List.mem_of_getElem? (i := 605) (by decide +kernel), List.mem_of_getElem? (i := 738) (by decide +kernel), List.mem_of_getElem? (i := 739) (by decide +kernel)⟩
theorem lw_p67 : lw_okq (⟨"StopsByLettersModel", "ridesOf", "(I)I"⟩, 23) := ⟨⟨by decide +kernel, by decide +kernel⟩, List.mem_of_getElem? (i := 605) (by decide +kernel), List.mem_of_getElem? (i := 754) (by decide +kernel), List.mem_of_getElem? (i := 755) (by decide +kernel)⟩
theorem lw_p68 : lw_okq (⟨"StopsByLettersModel", "stopsOf", "(I)I"⟩, 23) := ⟨⟨by decide +kernel, by decide +kernel⟩, List.mem_of_getElem? (i := 605) (by decide +kernel), List.mem_of_getElem? (i := 758) (by decide +kernel), List.mem_of_getElem? (i := 759) (by decide +kernel)⟩
theorem lw_p69 : lw_okq (⟨"StopsByLettersModel", "vowelsOf", "(I)I"⟩, 23) := ⟨⟨by decide +kernel, by decide +kernel⟩, List.mem_of_getElem? (i := 605) (by decide +kernel), List.mem_of_getElem? (i := 762) (by decide +kernel), List.mem_of_getElem? (i := 763) (by decide +kernel)⟩
theorem lw_p70 : lw_okq (⟨"StopsByLettersModel", "bitAt", "(II)I"⟩, 23) := ⟨⟨by decide +kernel, by decide +kernel⟩, List.mem_of_getElem? (i := 605) (by decide +kernel), List.mem_of_getElem? (i := 769) (by decide +kernel), List.mem_of_getElem? (i := 770) (by decide +kernel)⟩
theorem lw_p71 : lw_okq (⟨"StopsByLettersModel", "goesOn", "(I)I"⟩, 23) := ⟨⟨by decide +kernel, by decide +kernel⟩, List.mem_of_getElem? (i := 605) (by decide +kernel), List.mem_of_getElem? (i := 789) (by decide +kernel), List.mem_of_getElem? (i := 790) (by decide +kernel)⟩
theorem lw_p72 : lw_okq (⟨"StopsByLettersModel", "lowest", "(I)J"⟩, 23) := ⟨⟨by decide +kernel, by decide +kernel⟩, List.mem_of_getElem? (i := 605) (by decide +kernel), List.mem_of_getElem? (i := 797) (by decide +kernel), List.mem_of_getElem? (i := 798) (by decide +kernel)⟩
theorem lw_p73 : lw_okq (⟨"StopsByLettersModel", "beginsAt", "(I)V"⟩, 23) := ⟨⟨by decide +kernel, by decide +kernel⟩, List.mem_of_getElem? (i := 605) (by decide +kernel), List.mem_of_getElem? (i := 802) (by decide +kernel), List.mem_of_getElem? (i := 803) (by decide +kernel)⟩
theorem lw_p74 : lw_okq (⟨"StopsByLettersModel", "goesWays", "(Z)V"⟩, 23) := ⟨⟨by decide +kernel, by decide +kernel⟩, List.mem_of_getElem? (i := 605) (by decide +kernel), List.mem_of_getElem? (i := 806) (by decide +kernel), List.mem_of_getElem? (i := 807) (by decide +kernel)⟩
theorem lw_p75 : lw_okq (⟨"StopsByLettersModel", "whitherOf", "(I)I"⟩, 23) := ⟨⟨by decide +kernel, by decide +kernel⟩, List.mem_of_getElem? (i := 605) (by decide +kernel), List.mem_of_getElem? (i := 818) (by decide +kernel), List.mem_of_getElem? (i := 819) (by decide +kernel)⟩
theorem lw_p76 : lw_okq (⟨"StopsByLettersModel", "whenceOf", "(I)I"⟩, 23) := ⟨⟨by decide +kernel, by decide +kernel⟩, List.mem_of_getElem? (i := 605) (by decide +kernel), List.mem_of_getElem? (i := 826) (by decide +kernel), List.mem_of_getElem? (i := 827) (by decide +kernel)⟩
theorem lw_p77 : lw_okq (⟨"StopsByLettersModel", "neverNow", "()I"⟩, 23) := ⟨⟨by decide +kernel, by decide +kernel⟩, List.mem_of_getElem? (i := 605) (by decide +kernel), List.mem_of_getElem? (i := 846) (by decide +kernel), List.mem_of_getElem? (i := 847) (by decide +kernel)⟩
theorem lw_p78 : lw_okq (⟨"StopsByLettersModel", "lower", "(I)I"⟩, 23) := ⟨⟨by decide +kernel, by decide +kernel⟩, List.mem_of_getElem? (i := 605) (by decide +kernel), List.mem_of_getElem? (i := 854) (by decide +kernel), List.mem_of_getElem? (i := 855) (by decide +kernel)⟩
theorem lw_p79 : lw_okq (⟨"StopsByLettersModel", "canBe", "(II)Z"⟩, 23) := ⟨⟨by decide +kernel, by decide +kernel⟩, List.mem_of_getElem? (i := 605) (by decide +kernel), List.mem_of_getElem? (i := 859) (by decide +kernel), List.mem_of_getElem? (i := 860) (by decide +kernel)⟩
def lw_privs_5 : List (MethodName × Nat) := [(⟨"StopsByLettersModel", "comes", "(I)Z"⟩, 23), (⟨"StopsByLettersModel", "spells", "(II)V"⟩, 23), (⟨"StopsByLettersModel", "isStation", "(I)Z"⟩, 23), (⟨"StopsByLettersModel", "ridesOf", "(I)I"⟩, 23), (⟨"StopsByLettersModel", "stopsOf", "(I)I"⟩, 23), (⟨"StopsByLettersModel", "vowelsOf", "(I)I"⟩, 23), (⟨"StopsByLettersModel", "bitAt", "(II)I"⟩, 23), (⟨"StopsByLettersModel", "goesOn", "(I)I"⟩, 23), (⟨"StopsByLettersModel", "lowest", "(I)J"⟩, 23), (⟨"StopsByLettersModel", "beginsAt", "(I)V"⟩, 23), (⟨"StopsByLettersModel", "goesWays", "(Z)V"⟩, 23), (⟨"StopsByLettersModel", "whitherOf", "(I)I"⟩, 23), (⟨"StopsByLettersModel", "whenceOf", "(I)I"⟩, 23), (⟨"StopsByLettersModel", "neverNow", "()I"⟩, 23), (⟨"StopsByLettersModel", "lower", "(I)I"⟩, 23), (⟨"StopsByLettersModel", "canBe", "(II)Z"⟩, 23)]
theorem lw_r5 : ∀ q ∈ lw_privs_5, lw_okq q := List.forall_mem_cons.mpr ⟨lw_p64, List.forall_mem_cons.mpr ⟨lw_p65, List.forall_mem_cons.mpr ⟨lw_p66, List.forall_mem_cons.mpr ⟨lw_p67, List.forall_mem_cons.mpr ⟨lw_p68, List.forall_mem_cons.mpr ⟨lw_p69, List.forall_mem_cons.mpr ⟨lw_p70, List.forall_mem_cons.mpr ⟨lw_p71, List.forall_mem_cons.mpr ⟨lw_p72, List.forall_mem_cons.mpr ⟨lw_p73, List.forall_mem_cons.mpr ⟨lw_p74, List.forall_mem_cons.mpr ⟨lw_p75, List.forall_mem_cons.mpr ⟨lw_p76, List.forall_mem_cons.mpr ⟨lw_p77, List.forall_mem_cons.mpr ⟨lw_p78, List.forall_mem_cons.mpr ⟨lw_p79, fun _ h => absurd h List.not_mem_nil⟩⟩⟩⟩⟩⟩⟩⟩⟩⟩⟩⟩⟩⟩⟩⟩
theorem lw_p80 : lw_okq (⟨"StopsByLettersModel", "changes", "(II)V"⟩, 23) := ⟨⟨by decide +kernel, by decide +kernel⟩, List.mem_of_getElem? (i := 605) (by decide +kernel), List.mem_of_getElem? (i := 863) (by decide +kernel), List.mem_of_getElem? (i := 864) (by decide +kernel)⟩
theorem lw_p81 : lw_okq (⟨"StopsByLettersModel", "copies", "(II)V"⟩, 23) := ⟨⟨by decide +kernel, by decide +kernel⟩, List.mem_of_getElem? (i := 605) (by decide +kernel), List.mem_of_getElem? (i := 886) (by decide +kernel), List.mem_of_getElem? (i := 887) (by decide +kernel)⟩
theorem lw_p82 : lw_okq (⟨"StopsByLettersModel", "isCalled", "(II)V"⟩, 23) := ⟨⟨by decide +kernel, by decide +kernel⟩, List.mem_of_getElem? (i := 605) (by decide +kernel), List.mem_of_getElem? (i := 890) (by decide +kernel), List.mem_of_getElem? (i := 891) (by decide +kernel)⟩
theorem lw_p83 : lw_okq (⟨"StopsByLettersModel", "fitsAll", "()J"⟩, 23) := ⟨⟨by decide +kernel, by decide +kernel⟩, List.mem_of_getElem? (i := 605) (by decide +kernel), List.mem_of_getElem? (i := 910) (by decide +kernel), List.mem_of_getElem? (i := 911) (by decide +kernel)⟩
theorem lw_p84 : lw_okq (⟨"StopsByLettersModel", "fits", "(I)J"⟩, 23) := ⟨⟨by decide +kernel, by decide +kernel⟩, List.mem_of_getElem? (i := 605) (by decide +kernel), List.mem_of_getElem? (i := 914) (by decide +kernel), List.mem_of_getElem? (i := 915) (by decide +kernel)⟩
theorem lw_p85 : lw_okq (⟨"StopsByLettersModel", "wouldFit", "(I)Z"⟩, 23) := ⟨⟨by decide +kernel, by decide +kernel⟩, List.mem_of_getElem? (i := 605) (by decide +kernel), List.mem_of_getElem? (i := 922) (by decide +kernel), List.mem_of_getElem? (i := 923) (by decide +kernel)⟩
def lw_privs_6 : List (MethodName × Nat) := [(⟨"StopsByLettersModel", "changes", "(II)V"⟩, 23), (⟨"StopsByLettersModel", "copies", "(II)V"⟩, 23), (⟨"StopsByLettersModel", "isCalled", "(II)V"⟩, 23), (⟨"StopsByLettersModel", "fitsAll", "()J"⟩, 23), (⟨"StopsByLettersModel", "fits", "(I)J"⟩, 23), (⟨"StopsByLettersModel", "wouldFit", "(I)Z"⟩, 23)]
theorem lw_r6 : ∀ q ∈ lw_privs_6, lw_okq q := List.forall_mem_cons.mpr ⟨lw_p80, List.forall_mem_cons.mpr ⟨lw_p81, List.forall_mem_cons.mpr ⟨lw_p82, List.forall_mem_cons.mpr ⟨lw_p83, List.forall_mem_cons.mpr ⟨lw_p84, List.forall_mem_cons.mpr ⟨lw_p85, fun _ h => absurd h List.not_mem_nil⟩⟩⟩⟩⟩⟩
def lw_privs : List (MethodName × Nat) := lw_privs_1 ++ (lw_privs_2 ++ (lw_privs_3 ++ (lw_privs_4 ++ (lw_privs_5 ++ (lw_privs_6)))))
def lw_tbl : List Cond := k2_sels lw_privs ++ tables_1
theorem lw_privs_ok : ∀ q ∈ lw_privs, lw_okq q := by
  show ∀ q ∈ lw_privs_1 ++ (lw_privs_2 ++ (lw_privs_3 ++ (lw_privs_4 ++ (lw_privs_5 ++ (lw_privs_6))))), lw_okq q
  exact List.forall_mem_append.mpr ⟨lw_r1, List.forall_mem_append.mpr ⟨lw_r2, List.forall_mem_append.mpr ⟨lw_r3, List.forall_mem_append.mpr ⟨lw_r4, List.forall_mem_append.mpr ⟨lw_r5, lw_r6⟩⟩⟩⟩⟩
def RX0 : String := "StopsByLetters$Net"
def TX0 : u_T := fun k => match k with
  | 0 => ("StopsByLetters$Net", "rides", "[I", true)
  | 1 => ("StopsByLetters$Net", "reach", "[I", true)
  | 2 => ("StopsByLetters$Net", "tally", "[J", true)
  | 3 => ("StopsByLetters$Net", "next", "[J", true)
  | _ => ("StopsByLetters$Net", "size", "I", false)
def tyX0 : Nat → FieldType := fun k => match k with
  | 0 => .array .int
  | 1 => .array .int
  | 2 => .array .long
  | 3 => .array .long
  | _ => .int
theorem nmX0 : ∀ a, a < 5 → ∀ b, b < 5 → a ≠ b → (TX0 a).2.1 ≠ (TX0 b).2.1 := by decide +kernel
theorem tyX0_ok : ∀ k, k < 5 → parseFieldDescriptor (TX0 k).2.2.1 = some (tyX0 k) := by decide +kernel
abbrev cX0_init : ByteArray := prog_2_method_1_code
def yX0_init : MethodName := ⟨RX0, "<init>", "()V"⟩
abbrev cX0_lay : ByteArray := prog_2_method_2_code
def yX0_lay : MethodName := ⟨RX0, "lay", "(LStopsByLetters$Stations;)V"⟩
abbrev cX0_leads : ByteArray := prog_2_method_3_code
def yX0_leads : MethodName := ⟨RX0, "leads", "(II)Z"⟩
abbrev cX0_comes : ByteArray := prog_2_method_4_code
def yX0_comes : MethodName := ⟨RX0, "comes", "(II)Z"⟩
abbrev cX0_comers : ByteArray := prog_2_method_5_code
def yX0_comers : MethodName := ⟨RX0, "comers", "(I)I"⟩
abbrev cX0_fewest : ByteArray := prog_2_method_6_code
def yX0_fewest : MethodName := ⟨RX0, "fewest", "(II)I"⟩
abbrev cX0_oneRideFrom : ByteArray := prog_2_method_7_code
def yX0_oneRideFrom : MethodName := ⟨RX0, "oneRideFrom", "(I)I"⟩
abbrev cX0_unvisited : ByteArray := prog_2_method_8_code
def yX0_unvisited : MethodName := ⟨RX0, "unvisited", "()I"⟩
abbrev cX0_unleft : ByteArray := prog_2_method_9_code
def yX0_unleft : MethodName := ⟨RX0, "unleft", "()I"⟩
abbrev cX0_partOf : ByteArray := prog_2_method_10_code
def yX0_partOf : MethodName := ⟨RX0, "partOf", "(I)I"⟩
abbrev cX0_partsInAll : ByteArray := prog_2_method_11_code
def yX0_partsInAll : MethodName := ⟨RX0, "partsInAll", "()I"⟩
abbrev cX0_pairsApart : ByteArray := prog_2_method_12_code
def yX0_pairsApart : MethodName := ⟨RX0, "pairsApart", "()I"⟩
abbrev cX0_sumOfRides : ByteArray := prog_2_method_13_code
def yX0_sumOfRides : MethodName := ⟨RX0, "sumOfRides", "()I"⟩
abbrev cX0_startAt : ByteArray := prog_2_method_14_code
def yX0_startAt : MethodName := ⟨RX0, "startAt", "(I)V"⟩
abbrev cX0_waysBy : ByteArray := prog_2_method_15_code
def yX0_waysBy : MethodName := ⟨RX0, "waysBy", "(III)J"⟩
abbrev cX0_tallyInto : ByteArray := prog_2_method_16_code
def yX0_tallyInto : MethodName := ⟨RX0, "tallyInto", "(I)J"⟩
abbrev cX0_turn : ByteArray := prog_2_method_17_code
def yX0_turn : MethodName := ⟨RX0, "turn", "()V"⟩
abbrev cX0_lotsOf : ByteArray := prog_2_method_18_code
def yX0_lotsOf : MethodName := ⟨RX0, "lotsOf", "(III)J"⟩
abbrev cX0_shareOut : ByteArray := prog_2_method_19_code
def yX0_shareOut : MethodName := ⟨RX0, "shareOut", "(I)V"⟩
abbrev cX0_fit : ByteArray := prog_2_method_20_code
def yX0_fit : MethodName := ⟨RX0, "fit", "(LStopsByLetters$Sights;)V"⟩
abbrev cX0_tallyFrom : ByteArray := prog_2_method_21_code
def yX0_tallyFrom : MethodName := ⟨RX0, "tallyFrom", "(I)J"⟩
abbrev cX0_fittingStations : ByteArray := prog_2_method_22_code
def yX0_fittingStations : MethodName := ⟨RX0, "fittingStations", "()I"⟩
abbrev cX0_fittingWays : ByteArray := prog_2_method_23_code
def yX0_fittingWays : MethodName := ⟨RX0, "fittingWays", "()J"⟩
abbrev cX0_firstNoRide : ByteArray := prog_2_method_24_code
def yX0_firstNoRide : MethodName := ⟨RX0, "firstNoRide", "(LStopsByLetters$Sights;)I"⟩
abbrev cX0_drawn : ByteArray := prog_2_method_25_code
def yX0_drawn : MethodName := ⟨RX0, "drawn", "(III)I"⟩
abbrev cX0_rideOf : ByteArray := prog_2_method_26_code
def yX0_rideOf : MethodName := ⟨RX0, "rideOf", "(II)I"⟩
def RX1 : String := "StopsByLetters$Sights"
def TX1 : u_T := fun k => match k with
  | 0 => ("StopsByLetters$Sights", "seen", "[I", true)
  | _ => ("StopsByLetters$Sights", "size", "I", false)
def tyX1 : Nat → FieldType := fun k => match k with
  | 0 => .array .int
  | _ => .int
theorem nmX1 : ∀ a, a < 2 → ∀ b, b < 2 → a ≠ b → (TX1 a).2.1 ≠ (TX1 b).2.1 := by decide +kernel
theorem tyX1_ok : ∀ k, k < 2 → parseFieldDescriptor (TX1 k).2.2.1 = some (tyX1 k) := by decide +kernel
abbrev cX1_init : ByteArray := prog_3_method_1_code
def yX1_init : MethodName := ⟨RX1, "<init>", "()V"⟩
abbrev cX1_append : ByteArray := prog_3_method_2_code
def yX1_append : MethodName := ⟨RX1, "append", "(I)V"⟩
abbrev cX1_at : ByteArray := prog_3_method_3_code
def yX1_at : MethodName := ⟨RX1, "at", "(I)I"⟩
abbrev cX1_allows : ByteArray := prog_3_method_4_code
def yX1_allows : MethodName := ⟨RX1, "allows", "(II)Z"⟩
def RX2 : String := "StopsByLetters$Signs"
def TX2 : u_T := fun k => match k with
  | 0 => ("StopsByLetters$Signs", "row", "[I", true)
  | _ => ("StopsByLetters$Signs", "size", "I", false)
def tyX2 : Nat → FieldType := fun k => match k with
  | 0 => .array .int
  | _ => .int
theorem nmX2 : ∀ a, a < 2 → ∀ b, b < 2 → a ≠ b → (TX2 a).2.1 ≠ (TX2 b).2.1 := by decide +kernel
theorem tyX2_ok : ∀ k, k < 2 → parseFieldDescriptor (TX2 k).2.2.1 = some (tyX2 k) := by decide +kernel
abbrev cX2_init : ByteArray := prog_4_method_1_code
def yX2_init : MethodName := ⟨RX2, "<init>", "()V"⟩
abbrev cX2_append : ByteArray := prog_4_method_2_code
def yX2_append : MethodName := ⟨RX2, "append", "(I)V"⟩
abbrev cX2_at : ByteArray := prog_4_method_3_code
def yX2_at : MethodName := ⟨RX2, "at", "(I)I"⟩
abbrev cX2_firstUnreadable : ByteArray := prog_4_method_4_code
def yX2_firstUnreadable : MethodName := ⟨RX2, "firstUnreadable", "()I"⟩
abbrev cX2_next : ByteArray := prog_4_method_5_code
def yX2_next : MethodName := ⟨RX2, "next", "(II)I"⟩
abbrev cX2_begun : ByteArray := prog_4_method_6_code
def yX2_begun : MethodName := ⟨RX2, "begun", "(I)I"⟩
abbrev cX2_named : ByteArray := prog_4_method_7_code
def yX2_named : MethodName := ⟨RX2, "named", "(II)I"⟩
abbrev cX2_kindOf : ByteArray := prog_4_method_8_code
def yX2_kindOf : MethodName := ⟨RX2, "kindOf", "(I)I"⟩
def RX3 : String := "StopsByLetters$Stations"
def TX3 : u_T := fun k => match k with
  | 0 => ("StopsByLetters$Stations", "kinds", "[I", true)
  | 1 => ("StopsByLetters$Stations", "sizes", "[I", true)
  | 2 => ("StopsByLetters$Stations", "names", "[[I", true)
  | 3 => ("StopsByLetters$Stations", "known", "I", false)
  | _ => ("StopsByLetters$Stations", "isRing", "Z", false)
def tyX3 : Nat → FieldType := fun k => match k with
  | 0 => .array .int
  | 1 => .array .int
  | 2 => .array (.array .int)
  | 3 => .int
  | _ => .boolean
theorem nmX3 : ∀ a, a < 5 → ∀ b, b < 5 → a ≠ b → (TX3 a).2.1 ≠ (TX3 b).2.1 := by decide +kernel
theorem tyX3_ok : ∀ k, k < 5 → parseFieldDescriptor (TX3 k).2.2.1 = some (tyX3 k) := by decide +kernel
abbrev cX3_init : ByteArray := prog_5_method_1_code
def yX3_init : MethodName := ⟨RX3, "<init>", "()V"⟩
abbrev cX3_has : ByteArray := prog_5_method_2_code
def yX3_has : MethodName := ⟨RX3, "has", "(I)Z"⟩
abbrev cX3_take : ByteArray := prog_5_method_3_code
def yX3_take : MethodName := ⟨RX3, "take", "(LStopsByLetters$Stations;)V"⟩
abbrev cX3_takeOne : ByteArray := prog_5_method_4_code
def yX3_takeOne : MethodName := ⟨RX3, "takeOne", "(LStopsByLetters$Stations;II)V"⟩
abbrev cX3_obey : ByteArray := prog_5_method_5_code
def yX3_obey : MethodName := ⟨RX3, "obey", "(LStopsByLetters$Signs;II)Z"⟩
abbrev cX3_append : ByteArray := prog_5_method_6_code
def yX3_append : MethodName := ⟨RX3, "append", "(LStopsByLetters$Signs;II)Z"⟩
abbrev cX3_rename : ByteArray := prog_5_method_7_code
def yX3_rename : MethodName := ⟨RX3, "rename", "(ILStopsByLetters$Signs;II)Z"⟩
abbrev cX3_spell : ByteArray := prog_5_method_8_code
def yX3_spell : MethodName := ⟨RX3, "spell", "(II)V"⟩
abbrev cX3_change : ByteArray := prog_5_method_9_code
def yX3_change : MethodName := ⟨RX3, "change", "(II)Z"⟩
abbrev cX3_insertBehind : ByteArray := prog_5_method_10_code
def yX3_insertBehind : MethodName := ⟨RX3, "insertBehind", "(II)V"⟩
abbrev cX3_remove : ByteArray := prog_5_method_11_code
def yX3_remove : MethodName := ⟨RX3, "remove", "(I)V"⟩
abbrev cX3_sumOfSizes : ByteArray := prog_5_method_12_code
def yX3_sumOfSizes : MethodName := ⟨RX3, "sumOfSizes", "()I"⟩
abbrev cX3_stopsFrom : ByteArray := prog_5_method_13_code
def yX3_stopsFrom : MethodName := ⟨RX3, "stopsFrom", "(I)I"⟩
abbrev cX3_vowelsOf : ByteArray := prog_5_method_14_code
def yX3_vowelsOf : MethodName := ⟨RX3, "vowelsOf", "(I)I"⟩
abbrev cX3_lastLetterOf : ByteArray := prog_5_method_15_code
def yX3_lastLetterOf : MethodName := ⟨RX3, "lastLetterOf", "(I)I"⟩
abbrev cX3_ridesFrom : ByteArray := prog_5_method_16_code
def yX3_ridesFrom : MethodName := ⟨RX3, "ridesFrom", "(I)I"⟩
abbrev cX3_bitOf : ByteArray := prog_5_method_17_code
def yX3_bitOf : MethodName := ⟨RX3, "bitOf", "(I)I"⟩
def RX4 : String := "StopsByLetters"
def TX4 : u_T := fun k => match k with
  | 0 => ("StopsByLetters", "told", "LStopsByLetters$Stations;", true)
  | 1 => ("StopsByLetters", "tried", "LStopsByLetters$Stations;", true)
  | 2 => ("StopsByLetters", "kept", "LStopsByLetters$Stations;", true)
  | 3 => ("StopsByLetters", "signs", "LStopsByLetters$Signs;", true)
  | 4 => ("StopsByLetters", "sights", "LStopsByLetters$Sights;", true)
  | 5 => ("StopsByLetters", "net", "LStopsByLetters$Net;", true)
  | 6 => ("StopsByLetters", "refusals", "[I", true)
  | _ => ("StopsByLetters", "isKept", "Z", false)
def tyX4 : Nat → FieldType := fun k => match k with
  | 0 => .object "StopsByLetters$Stations"
  | 1 => .object "StopsByLetters$Stations"
  | 2 => .object "StopsByLetters$Stations"
  | 3 => .object "StopsByLetters$Signs"
  | 4 => .object "StopsByLetters$Sights"
  | 5 => .object "StopsByLetters$Net"
  | 6 => .array .int
  | _ => .boolean
theorem nmX4 : ∀ a, a < 8 → ∀ b, b < 8 → a ≠ b → (TX4 a).2.1 ≠ (TX4 b).2.1 := by decide +kernel
theorem tyX4_ok : ∀ k, k < 8 → parseFieldDescriptor (TX4 k).2.2.1 = some (tyX4 k) := by decide +kernel
abbrev cX4_init : ByteArray := prog_1_method_1_code
def yX4_init : MethodName := ⟨RX4, "<init>", "()V"⟩
abbrev cX4_letter : ByteArray := prog_1_method_2_code
def yX4_letter : MethodName := ⟨RX4, "letter", "(I)I"⟩
abbrev cX4_line : ByteArray := prog_1_method_3_code
def yX4_line : MethodName := ⟨RX4, "line", "()I"⟩
abbrev cX4_station : ByteArray := prog_1_method_4_code
def yX4_station : MethodName := ⟨RX4, "station", "(II)I"⟩
abbrev cX4_name : ByteArray := prog_1_method_5_code
def yX4_name : MethodName := ⟨RX4, "name", "(II)I"⟩
abbrev cX4_kind : ByteArray := prog_1_method_6_code
def yX4_kind : MethodName := ⟨RX4, "kind", "(II)I"⟩
abbrev cX4_form : ByteArray := prog_1_method_7_code
def yX4_form : MethodName := ⟨RX4, "form", "(I)I"⟩
abbrev cX4_few : ByteArray := prog_1_method_8_code
def yX4_few : MethodName := ⟨RX4, "few", "(II)I"⟩
abbrev cX4_ways : ByteArray := prog_1_method_9_code
def yX4_ways : MethodName := ⟨RX4, "ways", "(III)J"⟩
abbrev cX4_whither : ByteArray := prog_1_method_10_code
def yX4_whither : MethodName := ⟨RX4, "whither", "(I)I"⟩
abbrev cX4_whence : ByteArray := prog_1_method_11_code
def yX4_whence : MethodName := ⟨RX4, "whence", "(I)I"⟩
abbrev cX4_blind : ByteArray := prog_1_method_12_code
def yX4_blind : MethodName := ⟨RX4, "blind", "()I"⟩
abbrev cX4_dead : ByteArray := prog_1_method_13_code
def yX4_dead : MethodName := ⟨RX4, "dead", "()I"⟩
abbrev cX4_parts : ByteArray := prog_1_method_14_code
def yX4_parts : MethodName := ⟨RX4, "parts", "(I)I"⟩
abbrev cX4_never : ByteArray := prog_1_method_15_code
def yX4_never : MethodName := ⟨RX4, "never", "()I"⟩
abbrev cX4_more : ByteArray := prog_1_method_16_code
def yX4_more : MethodName := ⟨RX4, "more", "(II)I"⟩
abbrev cX4_worst : ByteArray := prog_1_method_17_code
def yX4_worst : MethodName := ⟨RX4, "worst", "(I)I"⟩
abbrev cX4_changed : ByteArray := prog_1_method_18_code
def yX4_changed : MethodName := ⟨RX4, "changed", "()I"⟩
abbrev cX4_luck : ByteArray := prog_1_method_19_code
def yX4_luck : MethodName := ⟨RX4, "luck", "(IIII)J"⟩
abbrev cX4_putIn : ByteArray := prog_1_method_20_code
def yX4_putIn : MethodName := ⟨RX4, "putIn", "(II)I"⟩
abbrev cX4_shut : ByteArray := prog_1_method_21_code
def yX4_shut : MethodName := ⟨RX4, "shut", "(I)I"⟩
abbrev cX4_alike : ByteArray := prog_1_method_22_code
def yX4_alike : MethodName := ⟨RX4, "alike", "(II)I"⟩
abbrev cX4_row : ByteArray := prog_1_method_23_code
def yX4_row : MethodName := ⟨RX4, "row", "(I)I"⟩
abbrev cX4_gotOn : ByteArray := prog_1_method_24_code
def yX4_gotOn : MethodName := ⟨RX4, "gotOn", "(I)J"⟩
abbrev cX4_misspelt : ByteArray := prog_1_method_25_code
def yX4_misspelt : MethodName := ⟨RX4, "misspelt", "()I"⟩
abbrev cX4_judge : ByteArray := prog_1_method_26_code
def yX4_judge : MethodName := ⟨RX4, "judge", "()I"⟩
abbrev cX4_seeds : ByteArray := prog_1_method_27_code
def yX4_seeds : MethodName := ⟨RX4, "seeds", "(III)I"⟩
abbrev cX4_image : ByteArray := prog_1_method_28_code
def yX4_image : MethodName := ⟨RX4, "image", "()I"⟩
abbrev cX4_on : ByteArray := prog_1_method_29_code
def yX4_on : MethodName := ⟨RX4, "on", "()I"⟩
abbrev cX4_count : ByteArray := prog_1_method_30_code
def yX4_count : MethodName := ⟨RX4, "count", "(I)I"⟩
abbrev cX4_isChoice : ByteArray := prog_1_method_31_code
def yX4_isChoice : MethodName := ⟨RX4, "isChoice", "(I)Z"⟩
abbrev cX4_refuse : ByteArray := prog_1_method_32_code
def yX4_refuse : MethodName := ⟨RX4, "refuse", "(I)I"⟩
abbrev cX4_refuseMore : ByteArray := prog_1_method_33_code
def yX4_refuseMore : MethodName := ⟨RX4, "refuseMore", "(I)I"⟩
abbrev cX4_refuseLong : ByteArray := prog_1_method_34_code
def yX4_refuseLong : MethodName := ⟨RX4, "refuseLong", "(I)J"⟩
abbrev cX4_neverIn : ByteArray := prog_1_method_35_code
def yX4_neverIn : MethodName := ⟨RX4, "neverIn", "(LStopsByLetters$Stations;)I"⟩
abbrev cX4_someWayFits : ByteArray := prog_1_method_36_code
def yX4_someWayFits : MethodName := ⟨RX4, "someWayFits", "(LStopsByLetters$Stations;)Z"⟩
abbrev cX4_someChangeJoinsAll : ByteArray := prog_1_method_37_code
def yX4_someChangeJoinsAll : MethodName := ⟨RX4, "someChangeJoinsAll", "()Z"⟩
abbrev cX4_someTwoChangesJoinAll : ByteArray := prog_1_method_38_code
def yX4_someTwoChangesJoinAll : MethodName := ⟨RX4, "someTwoChangesJoinAll", "()Z"⟩
abbrev cX4_canBeMisspelt : ByteArray := prog_1_method_39_code
def yX4_canBeMisspelt : MethodName := ⟨RX4, "canBeMisspelt", "(I)Z"⟩
abbrev cX4_readSigns : ByteArray := prog_1_method_40_code
def yX4_readSigns : MethodName := ⟨RX4, "readSigns", "()I"⟩
def RX5 : String := "StopsByLettersModel"
def TX5 : u_T := fun k => match k with
  | 0 => ("StopsByLettersModel", "refused", "[I", true)
  | 1 => ("StopsByLettersModel", "spelt", "[I", true)
  | 2 => ("StopsByLettersModel", "size", "[I", true)
  | 3 => ("StopsByLettersModel", "sort", "[I", true)
  | 4 => ("StopsByLettersModel", "stations", "I", false)
  | 5 => ("StopsByLettersModel", "ring", "I", false)
  | 6 => ("StopsByLettersModel", "tape", "[I", true)
  | 7 => ("StopsByLettersModel", "letter", "[I", true)
  | 8 => ("StopsByLettersModel", "letterAt", "[I", true)
  | 9 => ("StopsByLettersModel", "who", "[I", true)
  | 10 => ("StopsByLettersModel", "from", "[I", true)
  | 11 => ("StopsByLettersModel", "till", "[I", true)
  | 12 => ("StopsByLettersModel", "taped", "I", false)
  | 13 => ("StopsByLettersModel", "at", "I", false)
  | 14 => ("StopsByLettersModel", "statements", "I", false)
  | 15 => ("StopsByLettersModel", "kept", "[I", true)
  | 16 => ("StopsByLettersModel", "hasImage", "Z", false)
  | 17 => ("StopsByLettersModel", "isKeeping", "Z", false)
  | 18 => ("StopsByLettersModel", "cursor", "I", false)
  | 19 => ("StopsByLettersModel", "many", "[J", true)
  | 20 => ("StopsByLettersModel", "then", "[J", true)
  | 21 => ("StopsByLettersModel", "row", "[I", true)
  | _ => ("StopsByLettersModel", "rowMany", "I", false)
def tyX5 : Nat → FieldType := fun k => match k with
  | 0 => .array .int
  | 1 => .array .int
  | 2 => .array .int
  | 3 => .array .int
  | 4 => .int
  | 5 => .int
  | 6 => .array .int
  | 7 => .array .int
  | 8 => .array .int
  | 9 => .array .int
  | 10 => .array .int
  | 11 => .array .int
  | 12 => .int
  | 13 => .int
  | 14 => .int
  | 15 => .array .int
  | 16 => .boolean
  | 17 => .boolean
  | 18 => .int
  | 19 => .array .long
  | 20 => .array .long
  | 21 => .array .int
  | _ => .int
theorem nmX5 : ∀ a, a < 23 → ∀ b, b < 23 → a ≠ b → (TX5 a).2.1 ≠ (TX5 b).2.1 := by decide +kernel
theorem tyX5_ok : ∀ k, k < 23 → parseFieldDescriptor (TX5 k).2.2.1 = some (tyX5 k) := by decide +kernel
abbrev cX5_init : ByteArray := prog_7_method_1_code
def yX5_init : MethodName := ⟨RX5, "<init>", "()V"⟩
abbrev cX5_no : ByteArray := prog_7_method_2_code
def yX5_no : MethodName := ⟨RX5, "no", "(I)I"⟩
abbrev cX5_lower : ByteArray := prog_7_method_3_code
def yX5_lower : MethodName := ⟨RX5, "lower", "(I)I"⟩
abbrev cX5_lowest : ByteArray := prog_7_method_4_code
def yX5_lowest : MethodName := ⟨RX5, "lowest", "(I)J"⟩
abbrev cX5_isIn : ByteArray := prog_7_method_5_code
def yX5_isIn : MethodName := ⟨RX5, "isIn", "(III)Z"⟩
abbrev cX5_bound : ByteArray := prog_7_method_6_code
def yX5_bound : MethodName := ⟨RX5, "bound", "(III)I"⟩
abbrev cX5_isStation : ByteArray := prog_7_method_7_code
def yX5_isStation : MethodName := ⟨RX5, "isStation", "(I)Z"⟩
abbrev cX5_letter : ByteArray := prog_7_method_8_code
def yX5_letter : MethodName := ⟨RX5, "letter", "(I)I"⟩
abbrev cX5_next : ByteArray := prog_7_method_9_code
def yX5_next : MethodName := ⟨RX5, "next", "()I"⟩
abbrev cX5_isNext : ByteArray := prog_7_method_10_code
def yX5_isNext : MethodName := ⟨RX5, "isNext", "(I)Z"⟩
abbrev cX5_kindOf : ByteArray := prog_7_method_11_code
def yX5_kindOf : MethodName := ⟨RX5, "kindOf", "(I)I"⟩
abbrev cX5_readsName : ByteArray := prog_7_method_12_code
def yX5_readsName : MethodName := ⟨RX5, "readsName", "()Z"⟩
abbrev cX5_statement : ByteArray := prog_7_method_13_code
def yX5_statement : MethodName := ⟨RX5, "statement", "()Z"⟩
abbrev cX5_spells : ByteArray := prog_7_method_14_code
def yX5_spells : MethodName := ⟨RX5, "spells", "(II)V"⟩
abbrev cX5_comes : ByteArray := prog_7_method_15_code
def yX5_comes : MethodName := ⟨RX5, "comes", "(I)Z"⟩
abbrev cX5_line : ByteArray := prog_7_method_16_code
def yX5_line : MethodName := ⟨RX5, "line", "()I"⟩
abbrev cX5_passes : ByteArray := prog_7_method_17_code
def yX5_passes : MethodName := ⟨RX5, "passes", "([I)V"⟩
abbrev cX5_passOne : ByteArray := prog_7_method_18_code
def yX5_passOne : MethodName := ⟨RX5, "passOne", "(I)I"⟩
abbrev cX5_passesAll : ByteArray := prog_7_method_19_code
def yX5_passesAll : MethodName := ⟨RX5, "passesAll", "(IZ)V"⟩
abbrev cX5_image : ByteArray := prog_7_method_20_code
def yX5_image : MethodName := ⟨RX5, "image", "()I"⟩
abbrev cX5_on : ByteArray := prog_7_method_21_code
def yX5_on : MethodName := ⟨RX5, "on", "()I"⟩
abbrev cX5_isVowel : ByteArray := prog_7_method_22_code
def yX5_isVowel : MethodName := ⟨RX5, "isVowel", "(I)Z"⟩
abbrev cX5_vowelsOf : ByteArray := prog_7_method_23_code
def yX5_vowelsOf : MethodName := ⟨RX5, "vowelsOf", "(I)I"⟩
abbrev cX5_stopsOf : ByteArray := prog_7_method_24_code
def yX5_stopsOf : MethodName := ⟨RX5, "stopsOf", "(I)I"⟩
abbrev cX5_bitAt : ByteArray := prog_7_method_25_code
def yX5_bitAt : MethodName := ⟨RX5, "bitAt", "(II)I"⟩
abbrev cX5_ridesOf : ByteArray := prog_7_method_26_code
def yX5_ridesOf : MethodName := ⟨RX5, "ridesOf", "(I)I"⟩
abbrev cX5_station : ByteArray := prog_7_method_27_code
def yX5_station : MethodName := ⟨RX5, "station", "(II)I"⟩
abbrev cX5_name : ByteArray := prog_7_method_28_code
def yX5_name : MethodName := ⟨RX5, "name", "(II)I"⟩
abbrev cX5_kind : ByteArray := prog_7_method_29_code
def yX5_kind : MethodName := ⟨RX5, "kind", "(II)I"⟩
abbrev cX5_form : ByteArray := prog_7_method_30_code
def yX5_form : MethodName := ⟨RX5, "form", "(I)I"⟩
abbrev cX5_goesOn : ByteArray := prog_7_method_31_code
def yX5_goesOn : MethodName := ⟨RX5, "goesOn", "(I)I"⟩
abbrev cX5_few : ByteArray := prog_7_method_32_code
def yX5_few : MethodName := ⟨RX5, "few", "(II)I"⟩
abbrev cX5_goesWays : ByteArray := prog_7_method_33_code
def yX5_goesWays : MethodName := ⟨RX5, "goesWays", "(Z)V"⟩
abbrev cX5_beginsAt : ByteArray := prog_7_method_34_code
def yX5_beginsAt : MethodName := ⟨RX5, "beginsAt", "(I)V"⟩
abbrev cX5_ways : ByteArray := prog_7_method_35_code
def yX5_ways : MethodName := ⟨RX5, "ways", "(III)J"⟩
abbrev cX5_whitherOf : ByteArray := prog_7_method_36_code
def yX5_whitherOf : MethodName := ⟨RX5, "whitherOf", "(I)I"⟩
abbrev cX5_whither : ByteArray := prog_7_method_37_code
def yX5_whither : MethodName := ⟨RX5, "whither", "(I)I"⟩
abbrev cX5_whenceOf : ByteArray := prog_7_method_38_code
def yX5_whenceOf : MethodName := ⟨RX5, "whenceOf", "(I)I"⟩
abbrev cX5_whence : ByteArray := prog_7_method_39_code
def yX5_whence : MethodName := ⟨RX5, "whence", "(I)I"⟩
abbrev cX5_blind : ByteArray := prog_7_method_40_code
def yX5_blind : MethodName := ⟨RX5, "blind", "()I"⟩
abbrev cX5_dead : ByteArray := prog_7_method_41_code
def yX5_dead : MethodName := ⟨RX5, "dead", "()I"⟩
abbrev cX5_parts : ByteArray := prog_7_method_42_code
def yX5_parts : MethodName := ⟨RX5, "parts", "(I)I"⟩
abbrev cX5_bits : ByteArray := prog_7_method_43_code
def yX5_bits : MethodName := ⟨RX5, "bits", "(I)I"⟩
abbrev cX5_neverNow : ByteArray := prog_7_method_44_code
def yX5_neverNow : MethodName := ⟨RX5, "neverNow", "()I"⟩
abbrev cX5_never : ByteArray := prog_7_method_45_code
def yX5_never : MethodName := ⟨RX5, "never", "()I"⟩
abbrev cX5_canBe : ByteArray := prog_7_method_46_code
def yX5_canBe : MethodName := ⟨RX5, "canBe", "(II)Z"⟩
abbrev cX5_changes : ByteArray := prog_7_method_47_code
def yX5_changes : MethodName := ⟨RX5, "changes", "(II)V"⟩
abbrev cX5_more : ByteArray := prog_7_method_48_code
def yX5_more : MethodName := ⟨RX5, "more", "(II)I"⟩
abbrev cX5_worst : ByteArray := prog_7_method_49_code
def yX5_worst : MethodName := ⟨RX5, "worst", "(I)I"⟩
abbrev cX5_changed : ByteArray := prog_7_method_50_code
def yX5_changed : MethodName := ⟨RX5, "changed", "()I"⟩
abbrev cX5_divisor : ByteArray := prog_7_method_51_code
def yX5_divisor : MethodName := ⟨RX5, "divisor", "(JJ)J"⟩
abbrev cX5_luck : ByteArray := prog_7_method_52_code
def yX5_luck : MethodName := ⟨RX5, "luck", "(IIII)J"⟩
abbrev cX5_copies : ByteArray := prog_7_method_53_code
def yX5_copies : MethodName := ⟨RX5, "copies", "(II)V"⟩
abbrev cX5_isCalled : ByteArray := prog_7_method_54_code
def yX5_isCalled : MethodName := ⟨RX5, "isCalled", "(II)V"⟩
abbrev cX5_putIn : ByteArray := prog_7_method_55_code
def yX5_putIn : MethodName := ⟨RX5, "putIn", "(II)I"⟩
abbrev cX5_shut : ByteArray := prog_7_method_56_code
def yX5_shut : MethodName := ⟨RX5, "shut", "(I)I"⟩
abbrev cX5_alike : ByteArray := prog_7_method_57_code
def yX5_alike : MethodName := ⟨RX5, "alike", "(II)I"⟩
abbrev cX5_row : ByteArray := prog_7_method_58_code
def yX5_row : MethodName := ⟨RX5, "row", "(I)I"⟩
abbrev cX5_fits : ByteArray := prog_7_method_59_code
def yX5_fits : MethodName := ⟨RX5, "fits", "(I)J"⟩
abbrev cX5_fitsAll : ByteArray := prog_7_method_60_code
def yX5_fitsAll : MethodName := ⟨RX5, "fitsAll", "()J"⟩
abbrev cX5_gotOn : ByteArray := prog_7_method_61_code
def yX5_gotOn : MethodName := ⟨RX5, "gotOn", "(I)J"⟩
abbrev cX5_wouldFit : ByteArray := prog_7_method_62_code
def yX5_wouldFit : MethodName := ⟨RX5, "wouldFit", "(I)Z"⟩
abbrev cX5_misspelt : ByteArray := prog_7_method_63_code
def yX5_misspelt : MethodName := ⟨RX5, "misspelt", "()I"⟩
abbrev cX5_judge : ByteArray := prog_7_method_64_code
def yX5_judge : MethodName := ⟨RX5, "judge", "()I"⟩
abbrev cX5_seeds : ByteArray := prog_7_method_65_code
def yX5_seeds : MethodName := ⟨RX5, "seeds", "(III)I"⟩
abbrev cX5_count : ByteArray := prog_7_method_66_code
def yX5_count : MethodName := ⟨RX5, "count", "(I)I"⟩
def RJ6 : String := "java/lang/Integer"
abbrev cJ6_bitCount_0f7a4 : ByteArray := prog_9_method_49_code
def yJ6_bitCount_0f7a4 : MethodName := ⟨RJ6, "bitCount", "(I)I"⟩
def RJ9 : String := "java/lang/Math"
abbrev cJ9_floorMod_7cf53 : ByteArray := prog_10_method_50_code
def yJ9_floorMod_7cf53 : MethodName := ⟨RJ9, "floorMod", "(II)I"⟩
abbrev cJ9_max_7cf53 : ByteArray := prog_10_method_65_code
def yJ9_max_7cf53 : MethodName := ⟨RJ9, "max", "(II)I"⟩
abbrev cJ9_min_7cf53 : ByteArray := prog_10_method_69_code
def yJ9_min_7cf53 : MethodName := ⟨RJ9, "min", "(II)I"⟩
def RL : String := "StopsByLettersLaw"
/-- the words of the tables that go on holding -/
def TB : List Cond := lw_tbl.filter goodWord
def isNest : Cond → Bool
  | .fieldLinkNest .. => true
  | .methodLinkNest .. => true
  | _ => false
def NT : List Cond := lw_tbl.filter isNest
theorem tb_in {w : Cond} (i : Nat) (h : lw_tbl[i]? = some w) (g : goodWord w = true) : w ∈ TB := List.mem_filter.mpr ⟨List.mem_of_getElem? h, g⟩
theorem nt_in {w : Cond} (i : Nat) (h : lw_tbl[i]? = some w) (g : isNest w = true) : w ∈ NT := List.mem_filter.mpr ⟨List.mem_of_getElem? h, g⟩
theorem uwX0 : ∀ w ∈ u_ws RX0 TX0 5, w ∈ TB := by decide +kernel
theorem uwX1 : ∀ w ∈ u_ws RX1 TX1 2, w ∈ TB := by decide +kernel
theorem uwX2 : ∀ w ∈ u_ws RX2 TX2 2, w ∈ TB := by decide +kernel
theorem uwX3 : ∀ w ∈ u_ws RX3 TX3 5, w ∈ TB := by decide +kernel
theorem uwX4 : ∀ w ∈ u_ws RX4 TX4 8, w ∈ TB := by decide +kernel
theorem uwX5 : ∀ w ∈ u_ws RX5 TX5 23, w ∈ TB := by decide +kernel
