section
-- ===== PART A: goes FIRST, ahead of the names: the tables' words, and 'selects' of the private methods out of them =====
/-- a private method of a class that the tables say can be made, by its rows of tables_1 -/
def lw_okq (q : MethodName × Nat) : Prop := (q.1.cls ≠ "java/lang/invoke/MethodHandle" ∧ q.1.cls ≠ "java/lang/invoke/VarHandle") ∧ Cond.instantiable q.1.cls q.2 ∈ tables_1 ∧ Cond.privateMethod q.1 ∈ tables_1 ∧ Cond.instanceMethod q.1 ∈ tables_1
theorem lw_p0 : lw_okq (⟨"StopsByLetters", "refuse", "(I)I"⟩, 8) := ⟨⟨by decide +kernel, by decide +kernel⟩, List.mem_of_getElem? (i := 16) (by decide +kernel), List.mem_of_getElem? (i := 137) (by decide +kernel), List.mem_of_getElem? (i := 138) (by decide +kernel)⟩
theorem lw_p1 : lw_okq (⟨"StopsByLetters$Signs", "append", "(I)V"⟩, 2) := ⟨⟨by decide +kernel, by decide +kernel⟩, List.mem_of_getElem? (i := 55) (by decide +kernel), List.mem_of_getElem? (i := 141) (by decide +kernel), List.mem_of_getElem? (i := 142) (by decide +kernel)⟩
theorem lw_p2 : lw_okq (⟨"StopsByLetters", "readSigns", "()I"⟩, 8) := ⟨⟨by decide +kernel, by decide +kernel⟩, List.mem_of_getElem? (i := 16) (by decide +kernel), List.mem_of_getElem? (i := 149) (by decide +kernel), List.mem_of_getElem? (i := 150) (by decide +kernel)⟩
theorem lw_p3 : lw_okq (⟨"StopsByLetters$Signs", "firstUnreadable", "()I"⟩, 2) := ⟨⟨by decide +kernel, by decide +kernel⟩, List.mem_of_getElem? (i := 55) (by decide +kernel), List.mem_of_getElem? (i := 153) (by decide +kernel), List.mem_of_getElem? (i := 154) (by decide +kernel)⟩
theorem lw_p4 : lw_okq (⟨"StopsByLetters$Stations", "take", "(LStopsByLetters$Stations;)V"⟩, 5) := ⟨⟨by decide +kernel, by decide +kernel⟩, List.mem_of_getElem? (i := 24) (by decide +kernel), List.mem_of_getElem? (i := 256) (by decide +kernel), List.mem_of_getElem? (i := 257) (by decide +kernel)⟩
theorem lw_p5 : lw_okq (⟨"StopsByLetters$Stations", "takeOne", "(LStopsByLetters$Stations;II)V"⟩, 5) := ⟨⟨by decide +kernel, by decide +kernel⟩, List.mem_of_getElem? (i := 24) (by decide +kernel), List.mem_of_getElem? (i := 260) (by decide +kernel), List.mem_of_getElem? (i := 261) (by decide +kernel)⟩
theorem lw_p6 : lw_okq (⟨"StopsByLetters$Signs", "at", "(I)I"⟩, 2) := ⟨⟨by decide +kernel, by decide +kernel⟩, List.mem_of_getElem? (i := 55) (by decide +kernel), List.mem_of_getElem? (i := 267) (by decide +kernel), List.mem_of_getElem? (i := 268) (by decide +kernel)⟩
theorem lw_p7 : lw_okq (⟨"StopsByLetters$Stations", "obey", "(LStopsByLetters$Signs;II)Z"⟩, 5) := ⟨⟨by decide +kernel, by decide +kernel⟩, List.mem_of_getElem? (i := 24) (by decide +kernel), List.mem_of_getElem? (i := 271) (by decide +kernel), List.mem_of_getElem? (i := 272) (by decide +kernel)⟩
theorem lw_p8 : lw_okq (⟨"StopsByLetters$Stations", "append", "(LStopsByLetters$Signs;II)Z"⟩, 5) := ⟨⟨by decide +kernel, by decide +kernel⟩, List.mem_of_getElem? (i := 24) (by decide +kernel), List.mem_of_getElem? (i := 276) (by decide +kernel), List.mem_of_getElem? (i := 277) (by decide +kernel)⟩
theorem lw_p9 : lw_okq (⟨"StopsByLetters$Stations", "rename", "(ILStopsByLetters$Signs;II)Z"⟩, 5) := ⟨⟨by decide +kernel, by decide +kernel⟩, List.mem_of_getElem? (i := 24) (by decide +kernel), List.mem_of_getElem? (i := 281) (by decide +kernel), List.mem_of_getElem? (i := 282) (by decide +kernel)⟩
theorem lw_p10 : lw_okq (⟨"StopsByLetters$Stations", "has", "(I)Z"⟩, 5) := ⟨⟨by decide +kernel, by decide +kernel⟩, List.mem_of_getElem? (i := 24) (by decide +kernel), List.mem_of_getElem? (i := 285) (by decide +kernel), List.mem_of_getElem? (i := 286) (by decide +kernel)⟩
theorem lw_p11 : lw_okq (⟨"StopsByLetters$Stations", "ridesFrom", "(I)I"⟩, 5) := ⟨⟨by decide +kernel, by decide +kernel⟩, List.mem_of_getElem? (i := 24) (by decide +kernel), List.mem_of_getElem? (i := 295) (by decide +kernel), List.mem_of_getElem? (i := 296) (by decide +kernel)⟩
theorem lw_p12 : lw_okq (⟨"StopsByLetters$Stations", "stopsFrom", "(I)I"⟩, 5) := ⟨⟨by decide +kernel, by decide +kernel⟩, List.mem_of_getElem? (i := 24) (by decide +kernel), List.mem_of_getElem? (i := 299) (by decide +kernel), List.mem_of_getElem? (i := 300) (by decide +kernel)⟩
theorem lw_p13 : lw_okq (⟨"StopsByLetters$Stations", "vowelsOf", "(I)I"⟩, 5) := ⟨⟨by decide +kernel, by decide +kernel⟩, List.mem_of_getElem? (i := 24) (by decide +kernel), List.mem_of_getElem? (i := 303) (by decide +kernel), List.mem_of_getElem? (i := 304) (by decide +kernel)⟩
theorem lw_p14 : lw_okq (⟨"StopsByLetters$Stations", "lastLetterOf", "(I)I"⟩, 5) := ⟨⟨by decide +kernel, by decide +kernel⟩, List.mem_of_getElem? (i := 24) (by decide +kernel), List.mem_of_getElem? (i := 308) (by decide +kernel), List.mem_of_getElem? (i := 309) (by decide +kernel)⟩
theorem lw_p15 : lw_okq (⟨"StopsByLetters$Stations", "bitOf", "(I)I"⟩, 5) := ⟨⟨by decide +kernel, by decide +kernel⟩, List.mem_of_getElem? (i := 24) (by decide +kernel), List.mem_of_getElem? (i := 312) (by decide +kernel), List.mem_of_getElem? (i := 313) (by decide +kernel)⟩
def lw_privs_1 : List (MethodName × Nat) := [(⟨"StopsByLetters", "refuse", "(I)I"⟩, 8), (⟨"StopsByLetters$Signs", "append", "(I)V"⟩, 2), (⟨"StopsByLetters", "readSigns", "()I"⟩, 8), (⟨"StopsByLetters$Signs", "firstUnreadable", "()I"⟩, 2), (⟨"StopsByLetters$Stations", "take", "(LStopsByLetters$Stations;)V"⟩, 5), (⟨"StopsByLetters$Stations", "takeOne", "(LStopsByLetters$Stations;II)V"⟩, 5), (⟨"StopsByLetters$Signs", "at", "(I)I"⟩, 2), (⟨"StopsByLetters$Stations", "obey", "(LStopsByLetters$Signs;II)Z"⟩, 5), (⟨"StopsByLetters$Stations", "append", "(LStopsByLetters$Signs;II)Z"⟩, 5), (⟨"StopsByLetters$Stations", "rename", "(ILStopsByLetters$Signs;II)Z"⟩, 5), (⟨"StopsByLetters$Stations", "has", "(I)Z"⟩, 5), (⟨"StopsByLetters$Stations", "ridesFrom", "(I)I"⟩, 5), (⟨"StopsByLetters$Stations", "stopsFrom", "(I)I"⟩, 5), (⟨"StopsByLetters$Stations", "vowelsOf", "(I)I"⟩, 5), (⟨"StopsByLetters$Stations", "lastLetterOf", "(I)I"⟩, 5), (⟨"StopsByLetters$Stations", "bitOf", "(I)I"⟩, 5)]
theorem lw_r1 : ∀ q ∈ lw_privs_1, lw_okq q := List.forall_mem_cons.mpr ⟨lw_p0, List.forall_mem_cons.mpr ⟨lw_p1, List.forall_mem_cons.mpr ⟨lw_p2, List.forall_mem_cons.mpr ⟨lw_p3, List.forall_mem_cons.mpr ⟨lw_p4, List.forall_mem_cons.mpr ⟨lw_p5, List.forall_mem_cons.mpr ⟨lw_p6, List.forall_mem_cons.mpr ⟨lw_p7, List.forall_mem_cons.mpr ⟨lw_p8, List.forall_mem_cons.mpr ⟨lw_p9, List.forall_mem_cons.mpr ⟨lw_p10, List.forall_mem_cons.mpr ⟨lw_p11, List.forall_mem_cons.mpr ⟨lw_p12, List.forall_mem_cons.mpr ⟨lw_p13, List.forall_mem_cons.mpr ⟨lw_p14, List.forall_mem_cons.mpr ⟨lw_p15, fun _ h => absurd h List.not_mem_nil⟩⟩⟩⟩⟩⟩⟩⟩⟩⟩⟩⟩⟩⟩⟩⟩
theorem lw_p16 : lw_okq (⟨"StopsByLetters$Net", "lay", "(LStopsByLetters$Stations;)V"⟩, 5) := ⟨⟨by decide +kernel, by decide +kernel⟩, List.mem_of_getElem? (i := 84) (by decide +kernel), List.mem_of_getElem? (i := 339) (by decide +kernel), List.mem_of_getElem? (i := 340) (by decide +kernel)⟩
theorem lw_p17 : lw_okq (⟨"StopsByLetters$Net", "comes", "(II)Z"⟩, 5) := ⟨⟨by decide +kernel, by decide +kernel⟩, List.mem_of_getElem? (i := 84) (by decide +kernel), List.mem_of_getElem? (i := 344) (by decide +kernel), List.mem_of_getElem? (i := 345) (by decide +kernel)⟩
theorem lw_p18 : lw_okq (⟨"StopsByLetters$Net", "fewest", "(II)I"⟩, 5) := ⟨⟨by decide +kernel, by decide +kernel⟩, List.mem_of_getElem? (i := 84) (by decide +kernel), List.mem_of_getElem? (i := 348) (by decide +kernel), List.mem_of_getElem? (i := 349) (by decide +kernel)⟩
theorem lw_p19 : lw_okq (⟨"StopsByLetters$Net", "oneRideFrom", "(I)I"⟩, 5) := ⟨⟨by decide +kernel, by decide +kernel⟩, List.mem_of_getElem? (i := 84) (by decide +kernel), List.mem_of_getElem? (i := 352) (by decide +kernel), List.mem_of_getElem? (i := 353) (by decide +kernel)⟩
theorem lw_p20 : lw_okq (⟨"StopsByLetters", "refuseLong", "(I)J"⟩, 8) := ⟨⟨by decide +kernel, by decide +kernel⟩, List.mem_of_getElem? (i := 16) (by decide +kernel), List.mem_of_getElem? (i := 360) (by decide +kernel), List.mem_of_getElem? (i := 361) (by decide +kernel)⟩
theorem lw_p21 : lw_okq (⟨"StopsByLetters$Net", "waysBy", "(III)J"⟩, 5) := ⟨⟨by decide +kernel, by decide +kernel⟩, List.mem_of_getElem? (i := 84) (by decide +kernel), List.mem_of_getElem? (i := 365) (by decide +kernel), List.mem_of_getElem? (i := 366) (by decide +kernel)⟩
theorem lw_p22 : lw_okq (⟨"StopsByLetters$Net", "startAt", "(I)V"⟩, 5) := ⟨⟨by decide +kernel, by decide +kernel⟩, List.mem_of_getElem? (i := 84) (by decide +kernel), List.mem_of_getElem? (i := 369) (by decide +kernel), List.mem_of_getElem? (i := 370) (by decide +kernel)⟩
theorem lw_p23 : lw_okq (⟨"StopsByLetters$Net", "tallyInto", "(I)J"⟩, 5) := ⟨⟨by decide +kernel, by decide +kernel⟩, List.mem_of_getElem? (i := 84) (by decide +kernel), List.mem_of_getElem? (i := 373) (by decide +kernel), List.mem_of_getElem? (i := 374) (by decide +kernel)⟩
theorem lw_p24 : lw_okq (⟨"StopsByLetters$Net", "leads", "(II)Z"⟩, 5) := ⟨⟨by decide +kernel, by decide +kernel⟩, List.mem_of_getElem? (i := 84) (by decide +kernel), List.mem_of_getElem? (i := 377) (by decide +kernel), List.mem_of_getElem? (i := 378) (by decide +kernel)⟩
theorem lw_p25 : lw_okq (⟨"StopsByLetters$Net", "turn", "()V"⟩, 5) := ⟨⟨by decide +kernel, by decide +kernel⟩, List.mem_of_getElem? (i := 84) (by decide +kernel), List.mem_of_getElem? (i := 381) (by decide +kernel), List.mem_of_getElem? (i := 382) (by decide +kernel)⟩
theorem lw_p26 : lw_okq (⟨"StopsByLetters$Net", "comers", "(I)I"⟩, 5) := ⟨⟨by decide +kernel, by decide +kernel⟩, List.mem_of_getElem? (i := 84) (by decide +kernel), List.mem_of_getElem? (i := 393) (by decide +kernel), List.mem_of_getElem? (i := 394) (by decide +kernel)⟩
theorem lw_p27 : lw_okq (⟨"StopsByLetters$Net", "unvisited", "()I"⟩, 5) := ⟨⟨by decide +kernel, by decide +kernel⟩, List.mem_of_getElem? (i := 84) (by decide +kernel), List.mem_of_getElem? (i := 401) (by decide +kernel), List.mem_of_getElem? (i := 402) (by decide +kernel)⟩
theorem lw_p28 : lw_okq (⟨"StopsByLetters$Net", "unleft", "()I"⟩, 5) := ⟨⟨by decide +kernel, by decide +kernel⟩, List.mem_of_getElem? (i := 84) (by decide +kernel), List.mem_of_getElem? (i := 409) (by decide +kernel), List.mem_of_getElem? (i := 410) (by decide +kernel)⟩
theorem lw_p29 : lw_okq (⟨"StopsByLetters$Net", "partsInAll", "()I"⟩, 5) := ⟨⟨by decide +kernel, by decide +kernel⟩, List.mem_of_getElem? (i := 84) (by decide +kernel), List.mem_of_getElem? (i := 417) (by decide +kernel), List.mem_of_getElem? (i := 418) (by decide +kernel)⟩
theorem lw_p30 : lw_okq (⟨"StopsByLetters$Net", "partOf", "(I)I"⟩, 5) := ⟨⟨by decide +kernel, by decide +kernel⟩, List.mem_of_getElem? (i := 84) (by decide +kernel), List.mem_of_getElem? (i := 421) (by decide +kernel), List.mem_of_getElem? (i := 422) (by decide +kernel)⟩
theorem lw_p31 : lw_okq (⟨"StopsByLetters", "neverIn", "(LStopsByLetters$Stations;)I"⟩, 8) := ⟨⟨by decide +kernel, by decide +kernel⟩, List.mem_of_getElem? (i := 16) (by decide +kernel), List.mem_of_getElem? (i := 431) (by decide +kernel), List.mem_of_getElem? (i := 432) (by decide +kernel)⟩
def lw_privs_2 : List (MethodName × Nat) := [(⟨"StopsByLetters$Net", "lay", "(LStopsByLetters$Stations;)V"⟩, 5), (⟨"StopsByLetters$Net", "comes", "(II)Z"⟩, 5), (⟨"StopsByLetters$Net", "fewest", "(II)I"⟩, 5), (⟨"StopsByLetters$Net", "oneRideFrom", "(I)I"⟩, 5), (⟨"StopsByLetters", "refuseLong", "(I)J"⟩, 8), (⟨"StopsByLetters$Net", "waysBy", "(III)J"⟩, 5), (⟨"StopsByLetters$Net", "startAt", "(I)V"⟩, 5), (⟨"StopsByLetters$Net", "tallyInto", "(I)J"⟩, 5), (⟨"StopsByLetters$Net", "leads", "(II)Z"⟩, 5), (⟨"StopsByLetters$Net", "turn", "()V"⟩, 5), (⟨"StopsByLetters$Net", "comers", "(I)I"⟩, 5), (⟨"StopsByLetters$Net", "unvisited", "()I"⟩, 5), (⟨"StopsByLetters$Net", "unleft", "()I"⟩, 5), (⟨"StopsByLetters$Net", "partsInAll", "()I"⟩, 5), (⟨"StopsByLetters$Net", "partOf", "(I)I"⟩, 5), (⟨"StopsByLetters", "neverIn", "(LStopsByLetters$Stations;)I"⟩, 8)]
theorem lw_r2 : ∀ q ∈ lw_privs_2, lw_okq q := List.forall_mem_cons.mpr ⟨lw_p16, List.forall_mem_cons.mpr ⟨lw_p17, List.forall_mem_cons.mpr ⟨lw_p18, List.forall_mem_cons.mpr ⟨lw_p19, List.forall_mem_cons.mpr ⟨lw_p20, List.forall_mem_cons.mpr ⟨lw_p21, List.forall_mem_cons.mpr ⟨lw_p22, List.forall_mem_cons.mpr ⟨lw_p23, List.forall_mem_cons.mpr ⟨lw_p24, List.forall_mem_cons.mpr ⟨lw_p25, List.forall_mem_cons.mpr ⟨lw_p26, List.forall_mem_cons.mpr ⟨lw_p27, List.forall_mem_cons.mpr ⟨lw_p28, List.forall_mem_cons.mpr ⟨lw_p29, List.forall_mem_cons.mpr ⟨lw_p30, List.forall_mem_cons.mpr ⟨lw_p31, fun _ h => absurd h List.not_mem_nil⟩⟩⟩⟩⟩⟩⟩⟩⟩⟩⟩⟩⟩⟩⟩⟩
theorem lw_p32 : lw_okq (⟨"StopsByLetters$Net", "pairsApart", "()I"⟩, 5) := ⟨⟨by decide +kernel, by decide +kernel⟩, List.mem_of_getElem? (i := 84) (by decide +kernel), List.mem_of_getElem? (i := 435) (by decide +kernel), List.mem_of_getElem? (i := 436) (by decide +kernel)⟩
theorem lw_p33 : lw_okq (⟨"StopsByLetters", "refuseMore", "(I)I"⟩, 8) := ⟨⟨by decide +kernel, by decide +kernel⟩, List.mem_of_getElem? (i := 16) (by decide +kernel), List.mem_of_getElem? (i := 449) (by decide +kernel), List.mem_of_getElem? (i := 450) (by decide +kernel)⟩
theorem lw_p34 : lw_okq (⟨"StopsByLetters$Stations", "change", "(II)Z"⟩, 5) := ⟨⟨by decide +kernel, by decide +kernel⟩, List.mem_of_getElem? (i := 24) (by decide +kernel), List.mem_of_getElem? (i := 454) (by decide +kernel), List.mem_of_getElem? (i := 455) (by decide +kernel)⟩
theorem lw_p35 : lw_okq (⟨"StopsByLetters", "someChangeJoinsAll", "()Z"⟩, 8) := ⟨⟨by decide +kernel, by decide +kernel⟩, List.mem_of_getElem? (i := 16) (by decide +kernel), List.mem_of_getElem? (i := 466) (by decide +kernel), List.mem_of_getElem? (i := 467) (by decide +kernel)⟩
theorem lw_p36 : lw_okq (⟨"StopsByLetters", "someTwoChangesJoinAll", "()Z"⟩, 8) := ⟨⟨by decide +kernel, by decide +kernel⟩, List.mem_of_getElem? (i := 16) (by decide +kernel), List.mem_of_getElem? (i := 470) (by decide +kernel), List.mem_of_getElem? (i := 471) (by decide +kernel)⟩
theorem lw_p37 : lw_okq (⟨"StopsByLetters$Net", "lotsOf", "(III)J"⟩, 5) := ⟨⟨by decide +kernel, by decide +kernel⟩, List.mem_of_getElem? (i := 84) (by decide +kernel), List.mem_of_getElem? (i := 478) (by decide +kernel), List.mem_of_getElem? (i := 479) (by decide +kernel)⟩
theorem lw_p38 : lw_okq (⟨"StopsByLetters$Net", "shareOut", "(I)V"⟩, 5) := ⟨⟨by decide +kernel, by decide +kernel⟩, List.mem_of_getElem? (i := 84) (by decide +kernel), List.mem_of_getElem? (i := 482) (by decide +kernel), List.mem_of_getElem? (i := 483) (by decide +kernel)⟩
theorem lw_p39 : lw_okq (⟨"StopsByLetters$Stations", "insertBehind", "(II)V"⟩, 5) := ⟨⟨by decide +kernel, by decide +kernel⟩, List.mem_of_getElem? (i := 24) (by decide +kernel), List.mem_of_getElem? (i := 492) (by decide +kernel), List.mem_of_getElem? (i := 493) (by decide +kernel)⟩
theorem lw_p40 : lw_okq (⟨"StopsByLetters$Stations", "spell", "(II)V"⟩, 5) := ⟨⟨by decide +kernel, by decide +kernel⟩, List.mem_of_getElem? (i := 24) (by decide +kernel), List.mem_of_getElem? (i := 496) (by decide +kernel), List.mem_of_getElem? (i := 497) (by decide +kernel)⟩
theorem lw_p41 : lw_okq (⟨"StopsByLetters$Stations", "remove", "(I)V"⟩, 5) := ⟨⟨by decide +kernel, by decide +kernel⟩, List.mem_of_getElem? (i := 24) (by decide +kernel), List.mem_of_getElem? (i := 504) (by decide +kernel), List.mem_of_getElem? (i := 505) (by decide +kernel)⟩
theorem lw_p42 : lw_okq (⟨"StopsByLetters$Sights", "append", "(I)V"⟩, 2) := ⟨⟨by decide +kernel, by decide +kernel⟩, List.mem_of_getElem? (i := 69) (by decide +kernel), List.mem_of_getElem? (i := 516) (by decide +kernel), List.mem_of_getElem? (i := 517) (by decide +kernel)⟩
theorem lw_p43 : lw_okq (⟨"StopsByLetters$Net", "fit", "(LStopsByLetters$Sights;)V"⟩, 5) := ⟨⟨by decide +kernel, by decide +kernel⟩, List.mem_of_getElem? (i := 84) (by decide +kernel), List.mem_of_getElem? (i := 524) (by decide +kernel), List.mem_of_getElem? (i := 525) (by decide +kernel)⟩
theorem lw_p44 : lw_okq (⟨"StopsByLetters$Sights", "allows", "(II)Z"⟩, 2) := ⟨⟨by decide +kernel, by decide +kernel⟩, List.mem_of_getElem? (i := 69) (by decide +kernel), List.mem_of_getElem? (i := 528) (by decide +kernel), List.mem_of_getElem? (i := 529) (by decide +kernel)⟩
theorem lw_p45 : lw_okq (⟨"StopsByLetters$Sights", "at", "(I)I"⟩, 2) := ⟨⟨by decide +kernel, by decide +kernel⟩, List.mem_of_getElem? (i := 69) (by decide +kernel), List.mem_of_getElem? (i := 532) (by decide +kernel), List.mem_of_getElem? (i := 533) (by decide +kernel)⟩
theorem lw_p46 : lw_okq (⟨"StopsByLetters$Net", "tallyFrom", "(I)J"⟩, 5) := ⟨⟨by decide +kernel, by decide +kernel⟩, List.mem_of_getElem? (i := 84) (by decide +kernel), List.mem_of_getElem? (i := 536) (by decide +kernel), List.mem_of_getElem? (i := 537) (by decide +kernel)⟩
theorem lw_p47 : lw_okq (⟨"StopsByLetters$Net", "fittingStations", "()I"⟩, 5) := ⟨⟨by decide +kernel, by decide +kernel⟩, List.mem_of_getElem? (i := 84) (by decide +kernel), List.mem_of_getElem? (i := 540) (by decide +kernel), List.mem_of_getElem? (i := 541) (by decide +kernel)⟩
def lw_privs_3 : List (MethodName × Nat) := [(⟨"StopsByLetters$Net", "pairsApart", "()I"⟩, 5), (⟨"StopsByLetters", "refuseMore", "(I)I"⟩, 8), (⟨"StopsByLetters$Stations", "change", "(II)Z"⟩, 5), (⟨"StopsByLetters", "someChangeJoinsAll", "()Z"⟩, 8), (⟨"StopsByLetters", "someTwoChangesJoinAll", "()Z"⟩, 8), (⟨"StopsByLetters$Net", "lotsOf", "(III)J"⟩, 5), (⟨"StopsByLetters$Net", "shareOut", "(I)V"⟩, 5), (⟨"StopsByLetters$Stations", "insertBehind", "(II)V"⟩, 5), (⟨"StopsByLetters$Stations", "spell", "(II)V"⟩, 5), (⟨"StopsByLetters$Stations", "remove", "(I)V"⟩, 5), (⟨"StopsByLetters$Sights", "append", "(I)V"⟩, 2), (⟨"StopsByLetters$Net", "fit", "(LStopsByLetters$Sights;)V"⟩, 5), (⟨"StopsByLetters$Sights", "allows", "(II)Z"⟩, 2), (⟨"StopsByLetters$Sights", "at", "(I)I"⟩, 2), (⟨"StopsByLetters$Net", "tallyFrom", "(I)J"⟩, 5), (⟨"StopsByLetters$Net", "fittingStations", "()I"⟩, 5)]
theorem lw_r3 : ∀ q ∈ lw_privs_3, lw_okq q := List.forall_mem_cons.mpr ⟨lw_p32, List.forall_mem_cons.mpr ⟨lw_p33, List.forall_mem_cons.mpr ⟨lw_p34, List.forall_mem_cons.mpr ⟨lw_p35, List.forall_mem_cons.mpr ⟨lw_p36, List.forall_mem_cons.mpr ⟨lw_p37, List.forall_mem_cons.mpr ⟨lw_p38, List.forall_mem_cons.mpr ⟨lw_p39, List.forall_mem_cons.mpr ⟨lw_p40, List.forall_mem_cons.mpr ⟨lw_p41, List.forall_mem_cons.mpr ⟨lw_p42, List.forall_mem_cons.mpr ⟨lw_p43, List.forall_mem_cons.mpr ⟨lw_p44, List.forall_mem_cons.mpr ⟨lw_p45, List.forall_mem_cons.mpr ⟨lw_p46, List.forall_mem_cons.mpr ⟨lw_p47, fun _ h => absurd h List.not_mem_nil⟩⟩⟩⟩⟩⟩⟩⟩⟩⟩⟩⟩⟩⟩⟩⟩
theorem lw_p48 : lw_okq (⟨"StopsByLetters$Net", "fittingWays", "()J"⟩, 5) := ⟨⟨by decide +kernel, by decide +kernel⟩, List.mem_of_getElem? (i := 84) (by decide +kernel), List.mem_of_getElem? (i := 544) (by decide +kernel), List.mem_of_getElem? (i := 545) (by decide +kernel)⟩
theorem lw_p49 : lw_okq (⟨"StopsByLetters", "someWayFits", "(LStopsByLetters$Stations;)Z"⟩, 8) := ⟨⟨by decide +kernel, by decide +kernel⟩, List.mem_of_getElem? (i := 16) (by decide +kernel), List.mem_of_getElem? (i := 552) (by decide +kernel), List.mem_of_getElem? (i := 553) (by decide +kernel)⟩
theorem lw_p50 : lw_okq (⟨"StopsByLetters", "canBeMisspelt", "(I)Z"⟩, 8) := ⟨⟨by decide +kernel, by decide +kernel⟩, List.mem_of_getElem? (i := 16) (by decide +kernel), List.mem_of_getElem? (i := 556) (by decide +kernel), List.mem_of_getElem? (i := 557) (by decide +kernel)⟩
theorem lw_p51 : lw_okq (⟨"StopsByLetters$Net", "firstNoRide", "(LStopsByLetters$Sights;)I"⟩, 5) := ⟨⟨by decide +kernel, by decide +kernel⟩, List.mem_of_getElem? (i := 84) (by decide +kernel), List.mem_of_getElem? (i := 565) (by decide +kernel), List.mem_of_getElem? (i := 566) (by decide +kernel)⟩
theorem lw_p52 : lw_okq (⟨"StopsByLetters$Net", "drawn", "(III)I"⟩, 5) := ⟨⟨by decide +kernel, by decide +kernel⟩, List.mem_of_getElem? (i := 84) (by decide +kernel), List.mem_of_getElem? (i := 574) (by decide +kernel), List.mem_of_getElem? (i := 575) (by decide +kernel)⟩
theorem lw_p53 : lw_okq (⟨"StopsByLetters$Net", "rideOf", "(II)I"⟩, 5) := ⟨⟨by decide +kernel, by decide +kernel⟩, List.mem_of_getElem? (i := 84) (by decide +kernel), List.mem_of_getElem? (i := 581) (by decide +kernel), List.mem_of_getElem? (i := 582) (by decide +kernel)⟩
theorem lw_p54 : lw_okq (⟨"StopsByLetters$Stations", "sumOfSizes", "()I"⟩, 5) := ⟨⟨by decide +kernel, by decide +kernel⟩, List.mem_of_getElem? (i := 24) (by decide +kernel), List.mem_of_getElem? (i := 597) (by decide +kernel), List.mem_of_getElem? (i := 598) (by decide +kernel)⟩
theorem lw_p55 : lw_okq (⟨"StopsByLetters$Net", "sumOfRides", "()I"⟩, 5) := ⟨⟨by decide +kernel, by decide +kernel⟩, List.mem_of_getElem? (i := 84) (by decide +kernel), List.mem_of_getElem? (i := 601) (by decide +kernel), List.mem_of_getElem? (i := 602) (by decide +kernel)⟩
theorem lw_p56 : lw_okq (⟨"StopsByLettersModel", "no", "(I)I"⟩, 23) := ⟨⟨by decide +kernel, by decide +kernel⟩, List.mem_of_getElem? (i := 605) (by decide +kernel), List.mem_of_getElem? (i := 688) (by decide +kernel), List.mem_of_getElem? (i := 689) (by decide +kernel)⟩
theorem lw_p57 : lw_okq (⟨"StopsByLettersModel", "statement", "()Z"⟩, 23) := ⟨⟨by decide +kernel, by decide +kernel⟩, List.mem_of_getElem? (i := 605) (by decide +kernel), List.mem_of_getElem? (i := 696) (by decide +kernel), List.mem_of_getElem? (i := 697) (by decide +kernel)⟩
theorem lw_p58 : lw_okq (⟨"StopsByLettersModel", "next", "()I"⟩, 23) := ⟨⟨by decide +kernel, by decide +kernel⟩, List.mem_of_getElem? (i := 605) (by decide +kernel), List.mem_of_getElem? (i := 700) (by decide +kernel), List.mem_of_getElem? (i := 701) (by decide +kernel)⟩
theorem lw_p59 : lw_okq (⟨"StopsByLettersModel", "isNext", "(I)Z"⟩, 23) := ⟨⟨by decide +kernel, by decide +kernel⟩, List.mem_of_getElem? (i := 605) (by decide +kernel), List.mem_of_getElem? (i := 710) (by decide +kernel), List.mem_of_getElem? (i := 711) (by decide +kernel)⟩
theorem lw_p60 : lw_okq (⟨"StopsByLettersModel", "readsName", "()Z"⟩, 23) := ⟨⟨by decide +kernel, by decide +kernel⟩, List.mem_of_getElem? (i := 605) (by decide +kernel), List.mem_of_getElem? (i := 714) (by decide +kernel), List.mem_of_getElem? (i := 715) (by decide +kernel)⟩
theorem lw_p61 : lw_okq (⟨"StopsByLettersModel", "passesAll", "(IZ)V"⟩, 23) := ⟨⟨by decide +kernel, by decide +kernel⟩, List.mem_of_getElem? (i := 605) (by decide +kernel), List.mem_of_getElem? (i := 718) (by decide +kernel), List.mem_of_getElem? (i := 719) (by decide +kernel)⟩
theorem lw_p62 : lw_okq (⟨"StopsByLettersModel", "passes", "([I)V"⟩, 23) := ⟨⟨by decide +kernel, by decide +kernel⟩, List.mem_of_getElem? (i := 605) (by decide +kernel), List.mem_of_getElem? (i := 722) (by decide +kernel), List.mem_of_getElem? (i := 723) (by decide +kernel)⟩
theorem lw_p63 : lw_okq (⟨"StopsByLettersModel", "passOne", "(I)I"⟩, 23) := ⟨⟨by decide +kernel, by decide +kernel⟩, List.mem_of_getElem? (i := 605) (by decide +kernel), List.mem_of_getElem? (i := 726) (by decide +kernel), List.mem_of_getElem? (i := 727) (by decide +kernel)⟩
def lw_privs_4 : List (MethodName × Nat) := [(⟨"StopsByLetters$Net", "fittingWays", "()J"⟩, 5), (⟨"StopsByLetters", "someWayFits", "(LStopsByLetters$Stations;)Z"⟩, 8), (⟨"StopsByLetters", "canBeMisspelt", "(I)Z"⟩, 8), (⟨"StopsByLetters$Net", "firstNoRide", "(LStopsByLetters$Sights;)I"⟩, 5), (⟨"StopsByLetters$Net", "drawn", "(III)I"⟩, 5), (⟨"StopsByLetters$Net", "rideOf", "(II)I"⟩, 5), (⟨"StopsByLetters$Stations", "sumOfSizes", "()I"⟩, 5), (⟨"StopsByLetters$Net", "sumOfRides", "()I"⟩, 5), (⟨"StopsByLettersModel", "no", "(I)I"⟩, 23), (⟨"StopsByLettersModel", "statement", "()Z"⟩, 23), (⟨"StopsByLettersModel", "next", "()I"⟩, 23), (⟨"StopsByLettersModel", "isNext", "(I)Z"⟩, 23), (⟨"StopsByLettersModel", "readsName", "()Z"⟩, 23), (⟨"StopsByLettersModel", "passesAll", "(IZ)V"⟩, 23), (⟨"StopsByLettersModel", "passes", "([I)V"⟩, 23), (⟨"StopsByLettersModel", "passOne", "(I)I"⟩, 23)]
theorem lw_r4 : ∀ q ∈ lw_privs_4, lw_okq q := List.forall_mem_cons.mpr ⟨lw_p48, List.forall_mem_cons.mpr ⟨lw_p49, List.forall_mem_cons.mpr ⟨lw_p50, List.forall_mem_cons.mpr ⟨lw_p51, List.forall_mem_cons.mpr ⟨lw_p52, List.forall_mem_cons.mpr ⟨lw_p53, List.forall_mem_cons.mpr ⟨lw_p54, List.forall_mem_cons.mpr ⟨lw_p55, List.forall_mem_cons.mpr ⟨lw_p56, List.forall_mem_cons.mpr ⟨lw_p57, List.forall_mem_cons.mpr ⟨lw_p58, List.forall_mem_cons.mpr ⟨lw_p59, List.forall_mem_cons.mpr ⟨lw_p60, List.forall_mem_cons.mpr ⟨lw_p61, List.forall_mem_cons.mpr ⟨lw_p62, List.forall_mem_cons.mpr ⟨lw_p63, fun _ h => absurd h List.not_mem_nil⟩⟩⟩⟩⟩⟩⟩⟩⟩⟩⟩⟩⟩⟩⟩⟩
theorem lw_p64 : lw_okq (⟨"StopsByLettersModel", "comes", "(I)Z"⟩, 23) := ⟨⟨by decide +kernel, by decide +kernel⟩, List.mem_of_getElem? (i := 605) (by decide +kernel), List.mem_of_getElem? (i := 730) (by decide +kernel), List.mem_of_getElem? (i := 731) (by decide +kernel)⟩
theorem lw_p65 : lw_okq (⟨"StopsByLettersModel", "spells", "(II)V"⟩, 23) := ⟨⟨by decide +kernel, by decide +kernel⟩, List.mem_of_getElem? (i := 605) (by decide +kernel), List.mem_of_getElem? (i := 734) (by decide +kernel), List.mem_of_getElem? (i := 735) (by decide +kernel)⟩
theorem lw_p66 : lw_okq (⟨"StopsByLettersModel", "isStation", "(I)Z"⟩, 23) := ⟨⟨by decide +kernel, by decide +kernel⟩, List.mem_of_getElem? (i := 605) (by decide +kernel), List.mem_of_getElem? (i := 738) (by decide +kernel), List.mem_of_getElem? (i := 739) (by decide +kernel)⟩
theorem lw_p67 : lw_okq (⟨"StopsByLettersModel", "ridesOf", "(I)I"⟩, 23) := ⟨⟨by decide +kernel, by decide +kernel⟩, List.mem_of_getElem? (i := 605) (by decide +kernel), List.mem_of_getElem? (i := 754) (by decide +kernel), List.mem_of_getElem? (i := 755) (by decide +kernel)⟩
theorem lw_p68 : lw_okq (⟨"StopsByLettersModel", "stopsOf", "(I)I"⟩, 23) := ⟨⟨by decide +kernel, by decide +kernel⟩, List.mem_of_getElem? (i := 605) (by decide +kernel), List.mem_of_getElem? (i := 758) (by decide +kernel), List.mem_of_getElem? (i := 759) (by decide +kernel)⟩
theorem lw_p69 : lw_okq (⟨"StopsByLettersModel", "vowelsOf", "(I)I"⟩, 23) := ⟨⟨by decide +kernel, by decide +kernel⟩, List.mem_of_getElem? (i := 605) (by decide +kernel), List.mem_of_getElem? (i := 762) (by decide +kernel), List.mem_of_getElem? (i := 763) (by decide +kernel)⟩
theorem lw_p70 : lw_okq (⟨"StopsByLettersModel", "bitAt", "(II)I"⟩, 23) := ⟨⟨by decide +kernel, by decide +kernel⟩, List.mem_of_getElem? (i := 605) (by decide +kernel), List.mem_of_getElem? (i := 769) (by decide +kernel), List.mem_of_getElem? (i := 770) (by decide +kernel)⟩
theorem lw_p71 : lw_okq (⟨"StopsByLettersModel", "goesOn", "(I)I"⟩, 23) := ⟨⟨by decide +kernel, by decide +kernel⟩, List.mem_of_getElem? (i := 605) (by decide +kernel), List.mem_of_getElem? (i := 789) (by decide +kernel), List.mem_of_getElem? (i := 790) (by decide +kernel)⟩
theorem lw_p72 : lw_okq (⟨"StopsByLettersModel", "lowest", "(I)J"⟩, 23) := ⟨⟨by decide +kernel, by decide +kernel⟩, List.mem_of_getElem? (i := 605) (by decide +kernel), List.mem_of_getElem? (i := 797) (by decide +kernel), List.mem_of_getElem? (i := 798) (by decide +kernel)⟩
theorem lw_p73 : lw_okq (⟨"StopsByLettersModel", "beginsAt", "(I)V"⟩, 23) := ⟨⟨by decide +kernel, by decide +kernel⟩, List.mem_of_getElem? (i := 605) (by decide +kernel), List.mem_of_getElem? (i := 802) (by decide +kernel), List.mem_of_getElem? (i := 803) (by decide +kernel)⟩
theorem lw_p74 : lw_okq (⟨"StopsByLettersModel", "goesWays", "(Z)V"⟩, 23) := ⟨⟨by decide +kernel, by decide +kernel⟩, List.mem_of_getElem? (i := 605) (by decide +kernel), List.mem_of_getElem? (i := 806) (by decide +kernel), List.mem_of_getElem? (i := 807) (by decide +kernel)⟩
theorem lw_p75 : lw_okq (⟨"StopsByLettersModel", "whitherOf", "(I)I"⟩, 23) := ⟨⟨by decide +kernel, by decide +kernel⟩, List.mem_of_getElem? (i := 605) (by decide +kernel), List.mem_of_getElem? (i := 818) (by decide +kernel), List.mem_of_getElem? (i := 819) (by decide +kernel)⟩
theorem lw_p76 : lw_okq (⟨"StopsByLettersModel", "whenceOf", "(I)I"⟩, 23) := ⟨⟨by decide +kernel, by decide +kernel⟩, List.mem_of_getElem? (i := 605) (by decide +kernel), List.mem_of_getElem? (i := 826) (by decide +kernel), List.mem_of_getElem? (i := 827) (by decide +kernel)⟩
theorem lw_p77 : lw_okq (⟨"StopsByLettersModel", "neverNow", "()I"⟩, 23) := ⟨⟨by decide +kernel, by decide +kernel⟩, List.mem_of_getElem? (i := 605) (by decide +kernel), List.mem_of_getElem? (i := 846) (by decide +kernel), List.mem_of_getElem? (i := 847) (by decide +kernel)⟩
theorem lw_p78 : lw_okq (⟨"StopsByLettersModel", "lower", "(I)I"⟩, 23) := ⟨⟨by decide +kernel, by decide +kernel⟩, List.mem_of_getElem? (i := 605) (by decide +kernel), List.mem_of_getElem? (i := 854) (by decide +kernel), List.mem_of_getElem? (i := 855) (by decide +kernel)⟩
theorem lw_p79 : lw_okq (⟨"StopsByLettersModel", "canBe", "(II)Z"⟩, 23) := ⟨⟨by decide +kernel, by decide +kernel⟩, List.mem_of_getElem? (i := 605) (by decide +kernel), List.mem_of_getElem? (i := 859) (by decide +kernel), List.mem_of_getElem? (i := 860) (by decide +kernel)⟩
def lw_privs_5 : List (MethodName × Nat) := [(⟨"StopsByLettersModel", "comes", "(I)Z"⟩, 23), (⟨"StopsByLettersModel", "spells", "(II)V"⟩, 23), (⟨"StopsByLettersModel", "isStation", "(I)Z"⟩, 23), (⟨"StopsByLettersModel", "ridesOf", "(I)I"⟩, 23), (⟨"StopsByLettersModel", "stopsOf", "(I)I"⟩, 23), (⟨"StopsByLettersModel", "vowelsOf", "(I)I"⟩, 23), (⟨"StopsByLettersModel", "bitAt", "(II)I"⟩, 23), (⟨"StopsByLettersModel", "goesOn", "(I)I"⟩, 23), (⟨"StopsByLettersModel", "lowest", "(I)J"⟩, 23), (⟨"StopsByLettersModel", "beginsAt", "(I)V"⟩, 23), (⟨"StopsByLettersModel", "goesWays", "(Z)V"⟩, 23), (⟨"StopsByLettersModel", "whitherOf", "(I)I"⟩, 23), (⟨"StopsByLettersModel", "whenceOf", "(I)I"⟩, 23), (⟨"StopsByLettersModel", "neverNow", "()I"⟩, 23), (⟨"StopsByLettersModel", "lower", "(I)I"⟩, 23), (⟨"StopsByLettersModel", "canBe", "(II)Z"⟩, 23)]
theorem lw_r5 : ∀ q ∈ lw_privs_5, lw_okq q := List.forall_mem_cons.mpr ⟨lw_p64, List.forall_mem_cons.mpr ⟨lw_p65, List.forall_mem_cons.mpr ⟨lw_p66, List.forall_mem_cons.mpr ⟨lw_p67, List.forall_mem_cons.mpr ⟨lw_p68, List.forall_mem_cons.mpr ⟨lw_p69, List.forall_mem_cons.mpr ⟨lw_p70, List.forall_mem_cons.mpr ⟨lw_p71, List.forall_mem_cons.mpr ⟨lw_p72, List.forall_mem_cons.mpr ⟨lw_p73, List.forall_mem_cons.mpr ⟨lw_p74, List.forall_mem_cons.mpr ⟨lw_p75, List.forall_mem_cons.mpr ⟨lw_p76, List.forall_mem_cons.mpr ⟨lw_p77, List.forall_mem_cons.mpr ⟨lw_p78, List.forall_mem_cons.mpr ⟨lw_p79, fun _ h => absurd h List.not_mem_nil⟩⟩⟩⟩⟩⟩⟩⟩⟩⟩⟩⟩⟩⟩⟩⟩
theorem lw_p80 : lw_okq (⟨"StopsByLettersModel", "changes", "(II)V"⟩, 23) := ⟨⟨by decide +kernel, by decide +kernel⟩, List.mem_of_getElem? (i := 605) (by decide +kernel), List.mem_of_getElem? (i := 863) (by decide +kernel), List.mem_of_getElem? (i := 864) (by decide +kernel)⟩
theorem lw_p81 : lw_okq (⟨"StopsByLettersModel", "copies", "(II)V"⟩, 23) := ⟨⟨by decide +kernel, by decide +kernel⟩, List.mem_of_getElem? (i := 605) (by decide +kernel), List.mem_of_getElem? (i := 886) (by decide +kernel), List.mem_of_getElem? (i := 887) (by decide +kernel)⟩
theorem lw_p82 : lw_okq (⟨"StopsByLettersModel", "isCalled", "(II)V"⟩, 23) := ⟨⟨by decide +kernel, by decide +kernel⟩, List.mem_of_getElem? (i := 605) (by decide +kernel), List.mem_of_getElem? (i := 890) (by decide +kernel), List.mem_of_getElem? (i := 891) (by decide +kernel)⟩
theorem lw_p83 : lw_okq (⟨"StopsByLettersModel", "fitsAll", "()J"⟩, 23) := ⟨⟨by decide +kernel, by decide +kernel⟩, List.mem_of_getElem? (i := 605) (by decide +kernel), List.mem_of_getElem? (i := 910) (by decide +kernel), List.mem_of_getElem? (i := 911) (by decide +kernel)⟩
theorem lw_p84 : lw_okq (⟨"StopsByLettersModel", "fits", "(I)J"⟩, 23) := ⟨⟨by decide +kernel, by decide +kernel⟩, List.mem_of_getElem? (i := 605) (by decide +kernel), List.mem_of_getElem? (i := 914) (by decide +kernel), List.mem_of_getElem? (i := 915) (by decide +kernel)⟩
theorem lw_p85 : lw_okq (⟨"StopsByLettersModel", "wouldFit", "(I)Z"⟩, 23) := ⟨⟨by decide +kernel, by decide +kernel⟩, List.mem_of_getElem? (i := 605) (by decide +kernel), List.mem_of_getElem? (i := 922) (by decide +kernel), List.mem_of_getElem? (i := 923) (by decide +kernel)⟩
def lw_privs_6 : List (MethodName × Nat) := [(⟨"StopsByLettersModel", "changes", "(II)V"⟩, 23), (⟨"StopsByLettersModel", "copies", "(II)V"⟩, 23), (⟨"StopsByLettersModel", "isCalled", "(II)V"⟩, 23), (⟨"StopsByLettersModel", "fitsAll", "()J"⟩, 23), (⟨"StopsByLettersModel", "fits", "(I)J"⟩, 23), (⟨"StopsByLettersModel", "wouldFit", "(I)Z"⟩, 23)]
theorem lw_r6 : ∀ q ∈ lw_privs_6, lw_okq q := List.forall_mem_cons.mpr ⟨lw_p80, List.forall_mem_cons.mpr ⟨lw_p81, List.forall_mem_cons.mpr ⟨lw_p82, List.forall_mem_cons.mpr ⟨lw_p83, List.forall_mem_cons.mpr ⟨lw_p84, List.forall_mem_cons.mpr ⟨lw_p85, fun _ h => absurd h List.not_mem_nil⟩⟩⟩⟩⟩⟩
def lw_privs : List (MethodName × Nat) := lw_privs_1 ++ (lw_privs_2 ++ (lw_privs_3 ++ (lw_privs_4 ++ (lw_privs_5 ++ (lw_privs_6)))))
def lw_tbl : List Cond := k2_sels lw_privs ++ tables_1
theorem lw_privs_ok : ∀ q ∈ lw_privs, lw_okq q := by
  show ∀ q ∈ lw_privs_1 ++ (lw_privs_2 ++ (lw_privs_3 ++ (lw_privs_4 ++ (lw_privs_5 ++ (lw_privs_6))))), lw_okq q
  exact List.forall_mem_append.mpr ⟨lw_r1, List.forall_mem_append.mpr ⟨lw_r2, List.forall_mem_append.mpr ⟨lw_r3, List.forall_mem_append.mpr ⟨lw_r4, List.forall_mem_append.mpr ⟨lw_r5, lw_r6⟩⟩⟩⟩⟩
def RX0 : String := "StopsByLetters$Net"
def TX0 : u_T := fun k => match k with
  | 0 => ("StopsByLetters$Net", "rides", "[I", true)
  | 1 => ("StopsByLetters$Net", "reach", "[I", true)
  | 2 => ("StopsByLetters$Net", "tally", "[J", true)
  | 3 => ("StopsByLetters$Net", "next", "[J", true)
  | _ => ("StopsByLetters$Net", "size", "I", false)
def tyX0 : Nat → FieldType := fun k => match k with
  | 0 => .array .int
  | 1 => .array .int
  | 2 => .array .long
  | 3 => .array .long
  | _ => .int
theorem nmX0 : ∀ a, a < 5 → ∀ b, b < 5 → a ≠ b → (TX0 a).2.1 ≠ (TX0 b).2.1 := by decide +kernel
theorem tyX0_ok : ∀ k, k < 5 → parseFieldDescriptor (TX0 k).2.2.1 = some (tyX0 k) := by decide +kernel
abbrev cX0_init : ByteArray := prog_2_method_1_code
def yX0_init : MethodName := ⟨RX0, "<init>", "()V"⟩
abbrev cX0_lay : ByteArray := prog_2_method_2_code
def yX0_lay : MethodName := ⟨RX0, "lay", "(LStopsByLetters$Stations;)V"⟩
abbrev cX0_leads : ByteArray := prog_2_method_3_code
def yX0_leads : MethodName := ⟨RX0, "leads", "(II)Z"⟩
abbrev cX0_comes : ByteArray := prog_2_method_4_code
def yX0_comes : MethodName := ⟨RX0, "comes", "(II)Z"⟩
abbrev cX0_comers : ByteArray := prog_2_method_5_code
def yX0_comers : MethodName := ⟨RX0, "comers", "(I)I"⟩
abbrev cX0_fewest : ByteArray := prog_2_method_6_code
def yX0_fewest : MethodName := ⟨RX0, "fewest", "(II)I"⟩
abbrev cX0_oneRideFrom : ByteArray := prog_2_method_7_code
def yX0_oneRideFrom : MethodName := ⟨RX0, "oneRideFrom", "(I)I"⟩
abbrev cX0_unvisited : ByteArray := prog_2_method_8_code
def yX0_unvisited : MethodName := ⟨RX0, "unvisited", "()I"⟩
abbrev cX0_unleft : ByteArray := prog_2_method_9_code
def yX0_unleft : MethodName := ⟨RX0, "unleft", "()I"⟩
abbrev cX0_partOf : ByteArray := prog_2_method_10_code
def yX0_partOf : MethodName := ⟨RX0, "partOf", "(I)I"⟩
abbrev cX0_partsInAll : ByteArray := prog_2_method_11_code
def yX0_partsInAll : MethodName := ⟨RX0, "partsInAll", "()I"⟩
abbrev cX0_pairsApart : ByteArray := prog_2_method_12_code
def yX0_pairsApart : MethodName := ⟨RX0, "pairsApart", "()I"⟩
abbrev cX0_sumOfRides : ByteArray := prog_2_method_13_code
def yX0_sumOfRides : MethodName := ⟨RX0, "sumOfRides", "()I"⟩
abbrev cX0_startAt : ByteArray := prog_2_method_14_code
def yX0_startAt : MethodName := ⟨RX0, "startAt", "(I)V"⟩
abbrev cX0_waysBy : ByteArray := prog_2_method_15_code
def yX0_waysBy : MethodName := ⟨RX0, "waysBy", "(III)J"⟩
abbrev cX0_tallyInto : ByteArray := prog_2_method_16_code
def yX0_tallyInto : MethodName := ⟨RX0, "tallyInto", "(I)J"⟩
abbrev cX0_turn : ByteArray := prog_2_method_17_code
def yX0_turn : MethodName := ⟨RX0, "turn", "()V"⟩
abbrev cX0_lotsOf : ByteArray := prog_2_method_18_code
def yX0_lotsOf : MethodName := ⟨RX0, "lotsOf", "(III)J"⟩
abbrev cX0_shareOut : ByteArray := prog_2_method_19_code
def yX0_shareOut : MethodName := ⟨RX0, "shareOut", "(I)V"⟩
abbrev cX0_fit : ByteArray := prog_2_method_20_code
def yX0_fit : MethodName := ⟨RX0, "fit", "(LStopsByLetters$Sights;)V"⟩
abbrev cX0_tallyFrom : ByteArray := prog_2_method_21_code
def yX0_tallyFrom : MethodName := ⟨RX0, "tallyFrom", "(I)J"⟩
abbrev cX0_fittingStations : ByteArray := prog_2_method_22_code
def yX0_fittingStations : MethodName := ⟨RX0, "fittingStations", "()I"⟩
abbrev cX0_fittingWays : ByteArray := prog_2_method_23_code
def yX0_fittingWays : MethodName := ⟨RX0, "fittingWays", "()J"⟩
abbrev cX0_firstNoRide : ByteArray := prog_2_method_24_code
def yX0_firstNoRide : MethodName := ⟨RX0, "firstNoRide", "(LStopsByLetters$Sights;)I"⟩
abbrev cX0_drawn : ByteArray := prog_2_method_25_code
def yX0_drawn : MethodName := ⟨RX0, "drawn", "(III)I"⟩
abbrev cX0_rideOf : ByteArray := prog_2_method_26_code
def yX0_rideOf : MethodName := ⟨RX0, "rideOf", "(II)I"⟩
def RX1 : String := "StopsByLetters$Sights"
def TX1 : u_T := fun k => match k with
  | 0 => ("StopsByLetters$Sights", "seen", "[I", true)
  | _ => ("StopsByLetters$Sights", "size", "I", false)
def tyX1 : Nat → FieldType := fun k => match k with
  | 0 => .array .int
  | _ => .int
theorem nmX1 : ∀ a, a < 2 → ∀ b, b < 2 → a ≠ b → (TX1 a).2.1 ≠ (TX1 b).2.1 := by decide +kernel
theorem tyX1_ok : ∀ k, k < 2 → parseFieldDescriptor (TX1 k).2.2.1 = some (tyX1 k) := by decide +kernel
abbrev cX1_init : ByteArray := prog_3_method_1_code
def yX1_init : MethodName := ⟨RX1, "<init>", "()V"⟩
abbrev cX1_append : ByteArray := prog_3_method_2_code
def yX1_append : MethodName := ⟨RX1, "append", "(I)V"⟩
abbrev cX1_at : ByteArray := prog_3_method_3_code
def yX1_at : MethodName := ⟨RX1, "at", "(I)I"⟩
abbrev cX1_allows : ByteArray := prog_3_method_4_code
def yX1_allows : MethodName := ⟨RX1, "allows", "(II)Z"⟩
def RX2 : String := "StopsByLetters$Signs"
def TX2 : u_T := fun k => match k with
  | 0 => ("StopsByLetters$Signs", "row", "[I", true)
  | _ => ("StopsByLetters$Signs", "size", "I", false)
def tyX2 : Nat → FieldType := fun k => match k with
  | 0 => .array .int
  | _ => .int
theorem nmX2 : ∀ a, a < 2 → ∀ b, b < 2 → a ≠ b → (TX2 a).2.1 ≠ (TX2 b).2.1 := by decide +kernel
theorem tyX2_ok : ∀ k, k < 2 → parseFieldDescriptor (TX2 k).2.2.1 = some (tyX2 k) := by decide +kernel
abbrev cX2_init : ByteArray := prog_4_method_1_code
def yX2_init : MethodName := ⟨RX2, "<init>", "()V"⟩
abbrev cX2_append : ByteArray := prog_4_method_2_code
def yX2_append : MethodName := ⟨RX2, "append", "(I)V"⟩
abbrev cX2_at : ByteArray := prog_4_method_3_code
def yX2_at : MethodName := ⟨RX2, "at", "(I)I"⟩
abbrev cX2_firstUnreadable : ByteArray := prog_4_method_4_code
def yX2_firstUnreadable : MethodName := ⟨RX2, "firstUnreadable", "()I"⟩
abbrev cX2_next : ByteArray := prog_4_method_5_code
def yX2_next : MethodName := ⟨RX2, "next", "(II)I"⟩
abbrev cX2_begun : ByteArray := prog_4_method_6_code
def yX2_begun : MethodName := ⟨RX2, "begun", "(I)I"⟩
abbrev cX2_named : ByteArray := prog_4_method_7_code
def yX2_named : MethodName := ⟨RX2, "named", "(II)I"⟩
abbrev cX2_kindOf : ByteArray := prog_4_method_8_code
def yX2_kindOf : MethodName := ⟨RX2, "kindOf", "(I)I"⟩
def RX3 : String := "StopsByLetters$Stations"
def TX3 : u_T := fun k => match k with
  | 0 => ("StopsByLetters$Stations", "kinds", "[I", true)
  | 1 => ("StopsByLetters$Stations", "sizes", "[I", true)
  | 2 => ("StopsByLetters$Stations", "names", "[[I", true)
  | 3 => ("StopsByLetters$Stations", "known", "I", false)
  | _ => ("StopsByLetters$Stations", "isRing", "Z", false)
def tyX3 : Nat → FieldType := fun k => match k with
  | 0 => .array .int
  | 1 => .array .int
  | 2 => .array (.array .int)
  | 3 => .int
  | _ => .boolean
theorem nmX3 : ∀ a, a < 5 → ∀ b, b < 5 → a ≠ b → (TX3 a).2.1 ≠ (TX3 b).2.1 := by decide +kernel
theorem tyX3_ok : ∀ k, k < 5 → parseFieldDescriptor (TX3 k).2.2.1 = some (tyX3 k) := by decide +kernel
abbrev cX3_init : ByteArray := prog_5_method_1_code
def yX3_init : MethodName := ⟨RX3, "<init>", "()V"⟩
abbrev cX3_has : ByteArray := prog_5_method_2_code
def yX3_has : MethodName := ⟨RX3, "has", "(I)Z"⟩
abbrev cX3_take : ByteArray := prog_5_method_3_code
def yX3_take : MethodName := ⟨RX3, "take", "(LStopsByLetters$Stations;)V"⟩
abbrev cX3_takeOne : ByteArray := prog_5_method_4_code
def yX3_takeOne : MethodName := ⟨RX3, "takeOne", "(LStopsByLetters$Stations;II)V"⟩
abbrev cX3_obey : ByteArray := prog_5_method_5_code
def yX3_obey : MethodName := ⟨RX3, "obey", "(LStopsByLetters$Signs;II)Z"⟩
abbrev cX3_append : ByteArray := prog_5_method_6_code
def yX3_append : MethodName := ⟨RX3, "append", "(LStopsByLetters$Signs;II)Z"⟩
abbrev cX3_rename : ByteArray := prog_5_method_7_code
def yX3_rename : MethodName := ⟨RX3, "rename", "(ILStopsByLetters$Signs;II)Z"⟩
abbrev cX3_spell : ByteArray := prog_5_method_8_code
def yX3_spell : MethodName := ⟨RX3, "spell", "(II)V"⟩
abbrev cX3_change : ByteArray := prog_5_method_9_code
def yX3_change : MethodName := ⟨RX3, "change", "(II)Z"⟩
abbrev cX3_insertBehind : ByteArray := prog_5_method_10_code
def yX3_insertBehind : MethodName := ⟨RX3, "insertBehind", "(II)V"⟩
abbrev cX3_remove : ByteArray := prog_5_method_11_code
def yX3_remove : MethodName := ⟨RX3, "remove", "(I)V"⟩
abbrev cX3_sumOfSizes : ByteArray := prog_5_method_12_code
def yX3_sumOfSizes : MethodName := ⟨RX3, "sumOfSizes", "()I"⟩
abbrev cX3_stopsFrom : ByteArray := prog_5_method_13_code
def yX3_stopsFrom : MethodName := ⟨RX3, "stopsFrom", "(I)I"⟩
abbrev cX3_vowelsOf : ByteArray := prog_5_method_14_code
def yX3_vowelsOf : MethodName := ⟨RX3, "vowelsOf", "(I)I"⟩
abbrev cX3_lastLetterOf : ByteArray := prog_5_method_15_code
def yX3_lastLetterOf : MethodName := ⟨RX3, "lastLetterOf", "(I)I"⟩
abbrev cX3_ridesFrom : ByteArray := prog_5_method_16_code
def yX3_ridesFrom : MethodName := ⟨RX3, "ridesFrom", "(I)I"⟩
abbrev cX3_bitOf : ByteArray := prog_5_method_17_code
def yX3_bitOf : MethodName := ⟨RX3, "bitOf", "(I)I"⟩
def RX4 : String := "StopsByLetters"
def TX4 : u_T := fun k => match k with
  | 0 => ("StopsByLetters", "told", "LStopsByLetters$Stations;", true)
  | 1 => ("StopsByLetters", "tried", "LStopsByLetters$Stations;", true)
  | 2 => ("StopsByLetters", "kept", "LStopsByLetters$Stations;", true)
  | 3 => ("StopsByLetters", "signs", "LStopsByLetters$Signs;", true)
  | 4 => ("StopsByLetters", "sights", "LStopsByLetters$Sights;", true)
  | 5 => ("StopsByLetters", "net", "LStopsByLetters$Net;", true)
  | 6 => ("StopsByLetters", "refusals", "[I", true)
  | _ => ("StopsByLetters", "isKept", "Z", false)
def tyX4 : Nat → FieldType := fun k => match k with
  | 0 => .object "StopsByLetters$Stations"
  | 1 => .object "StopsByLetters$Stations"
  | 2 => .object "StopsByLetters$Stations"
  | 3 => .object "StopsByLetters$Signs"
  | 4 => .object "StopsByLetters$Sights"
  | 5 => .object "StopsByLetters$Net"
  | 6 => .array .int
  | _ => .boolean
theorem nmX4 : ∀ a, a < 8 → ∀ b, b < 8 → a ≠ b → (TX4 a).2.1 ≠ (TX4 b).2.1 := by decide +kernel
theorem tyX4_ok : ∀ k, k < 8 → parseFieldDescriptor (TX4 k).2.2.1 = some (tyX4 k) := by decide +kernel
abbrev cX4_init : ByteArray := prog_1_method_1_code
def yX4_init : MethodName := ⟨RX4, "<init>", "()V"⟩
abbrev cX4_letter : ByteArray := prog_1_method_2_code
def yX4_letter : MethodName := ⟨RX4, "letter", "(I)I"⟩
abbrev cX4_line : ByteArray := prog_1_method_3_code
def yX4_line : MethodName := ⟨RX4, "line", "()I"⟩
abbrev cX4_station : ByteArray := prog_1_method_4_code
def yX4_station : MethodName := ⟨RX4, "station", "(II)I"⟩
abbrev cX4_name : ByteArray := prog_1_method_5_code
def yX4_name : MethodName := ⟨RX4, "name", "(II)I"⟩
abbrev cX4_kind : ByteArray := prog_1_method_6_code
def yX4_kind : MethodName := ⟨RX4, "kind", "(II)I"⟩
abbrev cX4_form : ByteArray := prog_1_method_7_code
def yX4_form : MethodName := ⟨RX4, "form", "(I)I"⟩
abbrev cX4_few : ByteArray := prog_1_method_8_code
def yX4_few : MethodName := ⟨RX4, "few", "(II)I"⟩
abbrev cX4_ways : ByteArray := prog_1_method_9_code
def yX4_ways : MethodName := ⟨RX4, "ways", "(III)J"⟩
abbrev cX4_whither : ByteArray := prog_1_method_10_code
def yX4_whither : MethodName := ⟨RX4, "whither", "(I)I"⟩
abbrev cX4_whence : ByteArray := prog_1_method_11_code
def yX4_whence : MethodName := ⟨RX4, "whence", "(I)I"⟩
abbrev cX4_blind : ByteArray := prog_1_method_12_code
def yX4_blind : MethodName := ⟨RX4, "blind", "()I"⟩
abbrev cX4_dead : ByteArray := prog_1_method_13_code
def yX4_dead : MethodName := ⟨RX4, "dead", "()I"⟩
abbrev cX4_parts : ByteArray := prog_1_method_14_code
def yX4_parts : MethodName := ⟨RX4, "parts", "(I)I"⟩
abbrev cX4_never : ByteArray := prog_1_method_15_code
def yX4_never : MethodName := ⟨RX4, "never", "()I"⟩
abbrev cX4_more : ByteArray := prog_1_method_16_code
def yX4_more : MethodName := ⟨RX4, "more", "(II)I"⟩
abbrev cX4_worst : ByteArray := prog_1_method_17_code
def yX4_worst : MethodName := ⟨RX4, "worst", "(I)I"⟩
abbrev cX4_changed : ByteArray := prog_1_method_18_code
def yX4_changed : MethodName := ⟨RX4, "changed", "()I"⟩
abbrev cX4_luck : ByteArray := prog_1_method_19_code
def yX4_luck : MethodName := ⟨RX4, "luck", "(IIII)J"⟩
abbrev cX4_putIn : ByteArray := prog_1_method_20_code
def yX4_putIn : MethodName := ⟨RX4, "putIn", "(II)I"⟩
abbrev cX4_shut : ByteArray := prog_1_method_21_code
def yX4_shut : MethodName := ⟨RX4, "shut", "(I)I"⟩
abbrev cX4_alike : ByteArray := prog_1_method_22_code
def yX4_alike : MethodName := ⟨RX4, "alike", "(II)I"⟩
abbrev cX4_row : ByteArray := prog_1_method_23_code
def yX4_row : MethodName := ⟨RX4, "row", "(I)I"⟩
abbrev cX4_gotOn : ByteArray := prog_1_method_24_code
def yX4_gotOn : MethodName := ⟨RX4, "gotOn", "(I)J"⟩
abbrev cX4_misspelt : ByteArray := prog_1_method_25_code
def yX4_misspelt : MethodName := ⟨RX4, "misspelt", "()I"⟩
abbrev cX4_judge : ByteArray := prog_1_method_26_code
def yX4_judge : MethodName := ⟨RX4, "judge", "()I"⟩
abbrev cX4_seeds : ByteArray := prog_1_method_27_code
def yX4_seeds : MethodName := ⟨RX4, "seeds", "(III)I"⟩
abbrev cX4_image : ByteArray := prog_1_method_28_code
def yX4_image : MethodName := ⟨RX4, "image", "()I"⟩
abbrev cX4_on : ByteArray := prog_1_method_29_code
def yX4_on : MethodName := ⟨RX4, "on", "()I"⟩
abbrev cX4_count : ByteArray := prog_1_method_30_code
def yX4_count : MethodName := ⟨RX4, "count", "(I)I"⟩
abbrev cX4_isChoice : ByteArray := prog_1_method_31_code
def yX4_isChoice : MethodName := ⟨RX4, "isChoice", "(I)Z"⟩
abbrev cX4_refuse : ByteArray := prog_1_method_32_code
def yX4_refuse : MethodName := ⟨RX4, "refuse", "(I)I"⟩
abbrev cX4_refuseMore : ByteArray := prog_1_method_33_code
def yX4_refuseMore : MethodName := ⟨RX4, "refuseMore", "(I)I"⟩
abbrev cX4_refuseLong : ByteArray := prog_1_method_34_code
def yX4_refuseLong : MethodName := ⟨RX4, "refuseLong", "(I)J"⟩
abbrev cX4_neverIn : ByteArray := prog_1_method_35_code
def yX4_neverIn : MethodName := ⟨RX4, "neverIn", "(LStopsByLetters$Stations;)I"⟩
abbrev cX4_someWayFits : ByteArray := prog_1_method_36_code
def yX4_someWayFits : MethodName := ⟨RX4, "someWayFits", "(LStopsByLetters$Stations;)Z"⟩
abbrev cX4_someChangeJoinsAll : ByteArray := prog_1_method_37_code
def yX4_someChangeJoinsAll : MethodName := ⟨RX4, "someChangeJoinsAll", "()Z"⟩
abbrev cX4_someTwoChangesJoinAll : ByteArray := prog_1_method_38_code
def yX4_someTwoChangesJoinAll : MethodName := ⟨RX4, "someTwoChangesJoinAll", "()Z"⟩
abbrev cX4_canBeMisspelt : ByteArray := prog_1_method_39_code
def yX4_canBeMisspelt : MethodName := ⟨RX4, "canBeMisspelt", "(I)Z"⟩
abbrev cX4_readSigns : ByteArray := prog_1_method_40_code
def yX4_readSigns : MethodName := ⟨RX4, "readSigns", "()I"⟩
def RX5 : String := "StopsByLettersModel"
def TX5 : u_T := fun k => match k with
  | 0 => ("StopsByLettersModel", "refused", "[I", true)
  | 1 => ("StopsByLettersModel", "spelt", "[I", true)
  | 2 => ("StopsByLettersModel", "size", "[I", true)
  | 3 => ("StopsByLettersModel", "sort", "[I", true)
  | 4 => ("StopsByLettersModel", "stations", "I", false)
  | 5 => ("StopsByLettersModel", "ring", "I", false)
  | 6 => ("StopsByLettersModel", "tape", "[I", true)
  | 7 => ("StopsByLettersModel", "letter", "[I", true)
  | 8 => ("StopsByLettersModel", "letterAt", "[I", true)
  | 9 => ("StopsByLettersModel", "who", "[I", true)
  | 10 => ("StopsByLettersModel", "from", "[I", true)
  | 11 => ("StopsByLettersModel", "till", "[I", true)
  | 12 => ("StopsByLettersModel", "taped", "I", false)
  | 13 => ("StopsByLettersModel", "at", "I", false)
  | 14 => ("StopsByLettersModel", "statements", "I", false)
  | 15 => ("StopsByLettersModel", "kept", "[I", true)
  | 16 => ("StopsByLettersModel", "hasImage", "Z", false)
  | 17 => ("StopsByLettersModel", "isKeeping", "Z", false)
  | 18 => ("StopsByLettersModel", "cursor", "I", false)
  | 19 => ("StopsByLettersModel", "many", "[J", true)
  | 20 => ("StopsByLettersModel", "then", "[J", true)
  | 21 => ("StopsByLettersModel", "row", "[I", true)
  | _ => ("StopsByLettersModel", "rowMany", "I", false)
def tyX5 : Nat → FieldType := fun k => match k with
  | 0 => .array .int
  | 1 => .array .int
  | 2 => .array .int
  | 3 => .array .int
  | 4 => .int
  | 5 => .int
  | 6 => .array .int
  | 7 => .array .int
  | 8 => .array .int
  | 9 => .array .int
  | 10 => .array .int
  | 11 => .array .int
  | 12 => .int
  | 13 => .int
  | 14 => .int
  | 15 => .array .int
  | 16 => .boolean
  | 17 => .boolean
  | 18 => .int
  | 19 => .array .long
  | 20 => .array .long
  | 21 => .array .int
  | _ => .int
theorem nmX5 : ∀ a, a < 23 → ∀ b, b < 23 → a ≠ b → (TX5 a).2.1 ≠ (TX5 b).2.1 := by decide +kernel
theorem tyX5_ok : ∀ k, k < 23 → parseFieldDescriptor (TX5 k).2.2.1 = some (tyX5 k) := by decide +kernel
abbrev cX5_init : ByteArray := prog_7_method_1_code
def yX5_init : MethodName := ⟨RX5, "<init>", "()V"⟩
abbrev cX5_no : ByteArray := prog_7_method_2_code
def yX5_no : MethodName := ⟨RX5, "no", "(I)I"⟩
abbrev cX5_lower : ByteArray := prog_7_method_3_code
def yX5_lower : MethodName := ⟨RX5, "lower", "(I)I"⟩
abbrev cX5_lowest : ByteArray := prog_7_method_4_code
def yX5_lowest : MethodName := ⟨RX5, "lowest", "(I)J"⟩
abbrev cX5_isIn : ByteArray := prog_7_method_5_code
def yX5_isIn : MethodName := ⟨RX5, "isIn", "(III)Z"⟩
abbrev cX5_bound : ByteArray := prog_7_method_6_code
def yX5_bound : MethodName := ⟨RX5, "bound", "(III)I"⟩
abbrev cX5_isStation : ByteArray := prog_7_method_7_code
def yX5_isStation : MethodName := ⟨RX5, "isStation", "(I)Z"⟩
abbrev cX5_letter : ByteArray := prog_7_method_8_code
def yX5_letter : MethodName := ⟨RX5, "letter", "(I)I"⟩
abbrev cX5_next : ByteArray := prog_7_method_9_code
def yX5_next : MethodName := ⟨RX5, "next", "()I"⟩
abbrev cX5_isNext : ByteArray := prog_7_method_10_code
def yX5_isNext : MethodName := ⟨RX5, "isNext", "(I)Z"⟩
abbrev cX5_kindOf : ByteArray := prog_7_method_11_code
def yX5_kindOf : MethodName := ⟨RX5, "kindOf", "(I)I"⟩
abbrev cX5_readsName : ByteArray := prog_7_method_12_code
def yX5_readsName : MethodName := ⟨RX5, "readsName", "()Z"⟩
abbrev cX5_statement : ByteArray := prog_7_method_13_code
def yX5_statement : MethodName := ⟨RX5, "statement", "()Z"⟩
abbrev cX5_spells : ByteArray := prog_7_method_14_code
def yX5_spells : MethodName := ⟨RX5, "spells", "(II)V"⟩
abbrev cX5_comes : ByteArray := prog_7_method_15_code
def yX5_comes : MethodName := ⟨RX5, "comes", "(I)Z"⟩
abbrev cX5_line : ByteArray := prog_7_method_16_code
def yX5_line : MethodName := ⟨RX5, "line", "()I"⟩
abbrev cX5_passes : ByteArray := prog_7_method_17_code
def yX5_passes : MethodName := ⟨RX5, "passes", "([I)V"⟩
abbrev cX5_passOne : ByteArray := prog_7_method_18_code
def yX5_passOne : MethodName := ⟨RX5, "passOne", "(I)I"⟩
abbrev cX5_passesAll : ByteArray := prog_7_method_19_code
def yX5_passesAll : MethodName := ⟨RX5, "passesAll", "(IZ)V"⟩
abbrev cX5_image : ByteArray := prog_7_method_20_code
def yX5_image : MethodName := ⟨RX5, "image", "()I"⟩
abbrev cX5_on : ByteArray := prog_7_method_21_code
def yX5_on : MethodName := ⟨RX5, "on", "()I"⟩
abbrev cX5_isVowel : ByteArray := prog_7_method_22_code
def yX5_isVowel : MethodName := ⟨RX5, "isVowel", "(I)Z"⟩
abbrev cX5_vowelsOf : ByteArray := prog_7_method_23_code
def yX5_vowelsOf : MethodName := ⟨RX5, "vowelsOf", "(I)I"⟩
abbrev cX5_stopsOf : ByteArray := prog_7_method_24_code
def yX5_stopsOf : MethodName := ⟨RX5, "stopsOf", "(I)I"⟩
abbrev cX5_bitAt : ByteArray := prog_7_method_25_code
def yX5_bitAt : MethodName := ⟨RX5, "bitAt", "(II)I"⟩
abbrev cX5_ridesOf : ByteArray := prog_7_method_26_code
def yX5_ridesOf : MethodName := ⟨RX5, "ridesOf", "(I)I"⟩
abbrev cX5_station : ByteArray := prog_7_method_27_code
def yX5_station : MethodName := ⟨RX5, "station", "(II)I"⟩
abbrev cX5_name : ByteArray := prog_7_method_28_code
def yX5_name : MethodName := ⟨RX5, "name", "(II)I"⟩
abbrev cX5_kind : ByteArray := prog_7_method_29_code
def yX5_kind : MethodName := ⟨RX5, "kind", "(II)I"⟩
abbrev cX5_form : ByteArray := prog_7_method_30_code
def yX5_form : MethodName := ⟨RX5, "form", "(I)I"⟩
abbrev cX5_goesOn : ByteArray := prog_7_method_31_code
def yX5_goesOn : MethodName := ⟨RX5, "goesOn", "(I)I"⟩
abbrev cX5_few : ByteArray := prog_7_method_32_code
def yX5_few : MethodName := ⟨RX5, "few", "(II)I"⟩
abbrev cX5_goesWays : ByteArray := prog_7_method_33_code
def yX5_goesWays : MethodName := ⟨RX5, "goesWays", "(Z)V"⟩
abbrev cX5_beginsAt : ByteArray := prog_7_method_34_code
def yX5_beginsAt : MethodName := ⟨RX5, "beginsAt", "(I)V"⟩
abbrev cX5_ways : ByteArray := prog_7_method_35_code
def yX5_ways : MethodName := ⟨RX5, "ways", "(III)J"⟩
abbrev cX5_whitherOf : ByteArray := prog_7_method_36_code
def yX5_whitherOf : MethodName := ⟨RX5, "whitherOf", "(I)I"⟩
abbrev cX5_whither : ByteArray := prog_7_method_37_code
def yX5_whither : MethodName := ⟨RX5, "whither", "(I)I"⟩
abbrev cX5_whenceOf : ByteArray := prog_7_method_38_code
def yX5_whenceOf : MethodName := ⟨RX5, "whenceOf", "(I)I"⟩
abbrev cX5_whence : ByteArray := prog_7_method_39_code
def yX5_whence : MethodName := ⟨RX5, "whence", "(I)I"⟩
abbrev cX5_blind : ByteArray := prog_7_method_40_code
def yX5_blind : MethodName := ⟨RX5, "blind", "()I"⟩
abbrev cX5_dead : ByteArray := prog_7_method_41_code
def yX5_dead : MethodName := ⟨RX5, "dead", "()I"⟩
abbrev cX5_parts : ByteArray := prog_7_method_42_code
def yX5_parts : MethodName := ⟨RX5, "parts", "(I)I"⟩
abbrev cX5_bits : ByteArray := prog_7_method_43_code
def yX5_bits : MethodName := ⟨RX5, "bits", "(I)I"⟩
abbrev cX5_neverNow : ByteArray := prog_7_method_44_code
def yX5_neverNow : MethodName := ⟨RX5, "neverNow", "()I"⟩
abbrev cX5_never : ByteArray := prog_7_method_45_code
def yX5_never : MethodName := ⟨RX5, "never", "()I"⟩
abbrev cX5_canBe : ByteArray := prog_7_method_46_code
def yX5_canBe : MethodName := ⟨RX5, "canBe", "(II)Z"⟩
abbrev cX5_changes : ByteArray := prog_7_method_47_code
def yX5_changes : MethodName := ⟨RX5, "changes", "(II)V"⟩
abbrev cX5_more : ByteArray := prog_7_method_48_code
def yX5_more : MethodName := ⟨RX5, "more", "(II)I"⟩
abbrev cX5_worst : ByteArray := prog_7_method_49_code
def yX5_worst : MethodName := ⟨RX5, "worst", "(I)I"⟩
abbrev cX5_changed : ByteArray := prog_7_method_50_code
def yX5_changed : MethodName := ⟨RX5, "changed", "()I"⟩
abbrev cX5_divisor : ByteArray := prog_7_method_51_code
def yX5_divisor : MethodName := ⟨RX5, "divisor", "(JJ)J"⟩
abbrev cX5_luck : ByteArray := prog_7_method_52_code
def yX5_luck : MethodName := ⟨RX5, "luck", "(IIII)J"⟩
abbrev cX5_copies : ByteArray := prog_7_method_53_code
def yX5_copies : MethodName := ⟨RX5, "copies", "(II)V"⟩
abbrev cX5_isCalled : ByteArray := prog_7_method_54_code
def yX5_isCalled : MethodName := ⟨RX5, "isCalled", "(II)V"⟩
abbrev cX5_putIn : ByteArray := prog_7_method_55_code
def yX5_putIn : MethodName := ⟨RX5, "putIn", "(II)I"⟩
abbrev cX5_shut : ByteArray := prog_7_method_56_code
def yX5_shut : MethodName := ⟨RX5, "shut", "(I)I"⟩
abbrev cX5_alike : ByteArray := prog_7_method_57_code
def yX5_alike : MethodName := ⟨RX5, "alike", "(II)I"⟩
abbrev cX5_row : ByteArray := prog_7_method_58_code
def yX5_row : MethodName := ⟨RX5, "row", "(I)I"⟩
abbrev cX5_fits : ByteArray := prog_7_method_59_code
def yX5_fits : MethodName := ⟨RX5, "fits", "(I)J"⟩
abbrev cX5_fitsAll : ByteArray := prog_7_method_60_code
def yX5_fitsAll : MethodName := ⟨RX5, "fitsAll", "()J"⟩
abbrev cX5_gotOn : ByteArray := prog_7_method_61_code
def yX5_gotOn : MethodName := ⟨RX5, "gotOn", "(I)J"⟩
abbrev cX5_wouldFit : ByteArray := prog_7_method_62_code
def yX5_wouldFit : MethodName := ⟨RX5, "wouldFit", "(I)Z"⟩
abbrev cX5_misspelt : ByteArray := prog_7_method_63_code
def yX5_misspelt : MethodName := ⟨RX5, "misspelt", "()I"⟩
abbrev cX5_judge : ByteArray := prog_7_method_64_code
def yX5_judge : MethodName := ⟨RX5, "judge", "()I"⟩
abbrev cX5_seeds : ByteArray := prog_7_method_65_code
def yX5_seeds : MethodName := ⟨RX5, "seeds", "(III)I"⟩
abbrev cX5_count : ByteArray := prog_7_method_66_code
def yX5_count : MethodName := ⟨RX5, "count", "(I)I"⟩
def RJ6 : String := "java/lang/Integer"
abbrev cJ6_bitCount_0f7a4 : ByteArray := prog_9_method_49_code
def yJ6_bitCount_0f7a4 : MethodName := ⟨RJ6, "bitCount", "(I)I"⟩
def RJ9 : String := "java/lang/Math"
abbrev cJ9_floorMod_7cf53 : ByteArray := prog_10_method_50_code
def yJ9_floorMod_7cf53 : MethodName := ⟨RJ9, "floorMod", "(II)I"⟩
abbrev cJ9_max_7cf53 : ByteArray := prog_10_method_65_code
def yJ9_max_7cf53 : MethodName := ⟨RJ9, "max", "(II)I"⟩
abbrev cJ9_min_7cf53 : ByteArray := prog_10_method_69_code
def yJ9_min_7cf53 : MethodName := ⟨RJ9, "min", "(II)I"⟩
def RL : String := "StopsByLettersLaw"
/-- the words of the tables that go on holding -/
def TB : List Cond := lw_tbl.filter goodWord
def isNest : Cond → Bool
  | .fieldLinkNest .. => true
  | .methodLinkNest .. => true
  | _ => false
def NT : List Cond := lw_tbl.filter isNest
theorem tb_in {w : Cond} (i : Nat) (h : lw_tbl[i]? = some w) (g : goodWord w = true) : w ∈ TB := List.mem_filter.mpr ⟨List.mem_of_getElem? h, g⟩
theorem nt_in {w : Cond} (i : Nat) (h : lw_tbl[i]? = some w) (g : isNest w = true) : w ∈ NT := List.mem_filter.mpr ⟨List.mem_of_getElem? h, g⟩
theorem uwX0 : ∀ w ∈ u_ws RX0 TX0 5, w ∈ TB := by decide +kernel
theorem uwX1 : ∀ w ∈ u_ws RX1 TX1 2, w ∈ TB := by decide +kernel
theorem uwX2 : ∀ w ∈ u_ws RX2 TX2 2, w ∈ TB := by decide +kernel
theorem uwX3 : ∀ w ∈ u_ws RX3 TX3 5, w ∈ TB := by decide +kernel
theorem uwX4 : ∀ w ∈ u_ws RX4 TX4 8, w ∈ TB := by decide +kernel
theorem uwX5 : ∀ w ∈ u_ws RX5 TX5 23, w ∈ TB := by decide +kernel
end
section
/-! ===== the memory of both systems: cells by number ===== -/
def NC : Nat := 62
/-- what a cell is: 0 an int array, 1 a long array, 2 an array of the cells behind it, 3 + c an object of class c -/
def lay : Nat → Nat × Nat
  | 0 => (7, 0)
  | 1 => (0, 7)
  | 2 => (6, 0)
  | 3 => (0, 8)
  | 4 => (0, 8)
  | 5 => (2, 8)
  | 6 => (0, 10)
  | 7 => (0, 10)
  | 8 => (0, 10)
  | 9 => (0, 10)
  | 10 => (0, 10)
  | 11 => (0, 10)
  | 12 => (0, 10)
  | 13 => (0, 10)
  | 14 => (6, 0)
  | 15 => (0, 8)
  | 16 => (0, 8)
  | 17 => (2, 8)
  | 18 => (0, 10)
  | 19 => (0, 10)
  | 20 => (0, 10)
  | 21 => (0, 10)
  | 22 => (0, 10)
  | 23 => (0, 10)
  | 24 => (0, 10)
  | 25 => (0, 10)
  | 26 => (6, 0)
  | 27 => (0, 8)
  | 28 => (0, 8)
  | 29 => (2, 8)
  | 30 => (0, 10)
  | 31 => (0, 10)
  | 32 => (0, 10)
  | 33 => (0, 10)
  | 34 => (0, 10)
  | 35 => (0, 10)
  | 36 => (0, 10)
  | 37 => (0, 10)
  | 38 => (5, 0)
  | 39 => (0, 96)
  | 40 => (4, 0)
  | 41 => (0, 12)
  | 42 => (3, 0)
  | 43 => (0, 8)
  | 44 => (0, 8)
  | 45 => (1, 8)
  | 46 => (1, 8)
  | 47 => (8, 0)
  | 48 => (0, 7)
  | 49 => (0, 90)
  | 50 => (0, 9)
  | 51 => (0, 9)
  | 52 => (0, 96)
  | 53 => (0, 50)
  | 54 => (0, 50)
  | 55 => (0, 50)
  | 56 => (0, 50)
  | 57 => (0, 50)
  | 58 => (0, 240)
  | 59 => (1, 9)
  | 60 => (1, 9)
  | 61 => (0, 12)
  | _ => (0, 0)
def off : Nat → Nat → Option Nat
  | 0, 0 => some 1
  | 0, 1 => some 2
  | 0, 2 => some 3
  | 0, 3 => some 4
  | 1, 0 => some 1
  | 2, 0 => some 1
  | 3, 0 => some 1
  | 3, 1 => some 2
  | 3, 2 => some 3
  | 4, 0 => some 2
  | 4, 1 => some 14
  | 4, 2 => some 26
  | 4, 3 => some 38
  | 4, 4 => some 40
  | 4, 5 => some 42
  | 4, 6 => some 1
  | 5, 0 => some 1
  | 5, 1 => some 2
  | 5, 2 => some 3
  | 5, 3 => some 4
  | 5, 6 => some 5
  | 5, 7 => some 6
  | 5, 8 => some 7
  | 5, 9 => some 8
  | 5, 10 => some 9
  | 5, 11 => some 10
  | 5, 15 => some 11
  | 5, 19 => some 12
  | 5, 20 => some 13
  | 5, 21 => some 14
  | _, _ => none
def nf : Nat → Nat
  | 0 => 5
  | 1 => 2
  | 2 => 2
  | 3 => 5
  | 4 => 8
  | 5 => 23
  | _ => 0
abbrev cls : List vw_C := [(RX0, TX0, 5), (RX1, TX1, 2), (RX2, TX2, 2), (RX3, TX3, 5), (RX4, TX4, 8), (RX5, TX5, 23)]

abbrev Mem : Type := (Nat → Nat → Int32) × (Nat → Nat → Int64)
def setI (μ : Mem) (a k : Nat) (v : Int32) : Mem := (fun x => if x = a then upd (μ.1 x) k v else μ.1 x, μ.2)
def setJ (μ : Mem) (a k : Nat) (v : Int64) : Mem := (μ.1, fun x => if x = a then vp_updL (μ.2 x) k v else μ.2 x)
def cpyI (μ : Mem) (a b sp dp n : Nat) : Mem := (fun x => if x = b then va_cpy (μ.1 a) (μ.1 b) sp dp n else μ.1 x, μ.2)
def bnd {α β : Type} (e : α) (k : α → β) : β := k e
def gd {α : Type} (b : Bool) (x : Option α) : Option α := match b with | true => x | false => none
def bd {ρ σ : Type} (y : Option (ρ × Mem)) (z : ρ → Mem → Option (σ × Mem)) : Option (σ × Mem) := match y with | none => none | some q => z q.1 q.2
def inb (i : Int32) (n : Nat) : Bool := decide (¬ (i < 0 ∨ n ≤ i.toNatClampNeg))
def isB (v : Int32) : Bool := decide (v = 0 ∨ v = 1)
theorem inb_in {i : Int32} {n : Nat} (h : inb i n = true) : vp_in i n := (of_decide_eq_true (p := ¬ (i < 0 ∨ n ≤ i.toNatClampNeg)) h : ¬ (i < 0 ∨ n ≤ i.toNatClampNeg))
def fv (ad : Nat → Nat) (μ : Mem) (k c f : Nat) : Value := match off c f with | some d => .ref (ad (k + d)) | none => .int (μ.1 k f)
def ce (tc : Nat → ClassId) (ad : Nat → Nat) (μ : Mem) (k : Nat) : va_E := match (lay k).1 with
  | 0 => .inl (tc 0, (lay k).2, .inl (μ.1 k))
  | 1 => .inl (tc 1, (lay k).2, .inr (.inl (μ.2 k)))
  | 2 => .inl (tc 2, (lay k).2, .inr (.inr (.inr (.inr (fun i => if i < (lay k).2 then some (ad (k + 1 + i)) else none)))))
  | n + 3 => .inr (n, (List.range (nf n)).map (fv ad μ k n))
def wl (tc : Nat → ClassId) (ad : Nat → Nat) (μ : Mem) : va_W := (List.range NC).map (fun k => (ad k, ce tc ad μ k))
theorem wl_at {tc : Nat → ClassId} {ad : Nat → Nat} {μ : Mem} {k : Nat} (h : k < NC) : (wl tc ad μ)[k]? = some (ad k, ce tc ad μ k) := by
  simp [wl, List.getElem?_map, List.getElem?_range, h]
theorem wl_len {tc : Nat → ClassId} {ad : Nat → Nat} {μ : Mem} : (wl tc ad μ).length = NC := by simp [wl]
theorem ce_eq {tc : Nat → ClassId} {ad : Nat → Nat} {μ ν : Mem} {k : Nat} (h1 : μ.1 k = ν.1 k) (h2 : μ.2 k = ν.2 k) : ce tc ad μ k = ce tc ad ν k := by
  have hf : fv ad μ k = fv ad ν k := by
    funext c f
    unfold fv
    rw [h1]
  unfold ce
  rw [h1, h2, hf]
theorem wl_set {tc : Nat → ClassId} {ad : Nat → Nat} {μ ν : Mem} {k : Nat} {e : va_E} (he : ce tc ad ν k = e) (h1 : ∀ j, j ≠ k → μ.1 j = ν.1 j) (h2 : ∀ j, j ≠ k → μ.2 j = ν.2 j) : (wl tc ad μ).set k (ad k, e) = wl tc ad ν := by
  apply List.ext_getElem?
  intro i
  by_cases hi : i < NC
  · rw [List.getElem?_set, wl_len, wl_at hi, wl_at hi]
    by_cases h : k = i
    · subst h
      simp [hi, he]
    · rw [if_neg h, ce_eq (h1 i (fun q => h q.symm)) (h2 i (fun q => h q.symm))]
  · rw [List.getElem?_eq_none (by rw [List.length_set, wl_len]; omega), List.getElem?_eq_none (by rw [wl_len]; omega)]
def A62 (ad : Nat → Nat) : Nat → Prop := fun q => ∃ k, k < NC ∧ q = ad k
def Ka (D : va_G) (tc : Nat → ClassId) (U : State) : Prop := va_K D cls [(tc 0, .int), (tc 1, .long), (tc 2, .array .int)] U ∧ ∀ w ∈ NT, va_Nw w U
theorem Ka.warm {D : va_G} {tc : Nat → ClassId} {s U : State} (hW : s.WarmedH U.vm) (h : Ka D tc s) : Ka D tc U := by
  refine ⟨va_K.moved hW.alike h.1, fun w hw => ?_⟩
  have h1 := h.2 w hw
  have hn : isNest w = true := (List.mem_filter.mp hw).2
  cases w <;> first | exact va_Nw.warmF hW h1 | exact va_Nw.warmM hW h1 | (exact absurd hn (by simp [isNest]))
theorem Ka.same {D : va_G} {tc : Nat → ClassId} {s U : State} (hW : s.vm = U.vm) (h : Ka D tc s) : Ka D tc U := by
  refine ⟨va_K.moved (u := s) (U := U) (by rw [hW]; exact Vm.Alike.refl U.vm) h.1, fun w hw => ?_⟩
  have h1 := h.2 w hw
  have hn : isNest w = true := (List.mem_filter.mp hw).2
  cases w <;> first | exact va_Nw.same rfl hW h1 | (exact absurd hn (by simp [isNest]))
/-- the text of the kinds, and that texts are compact: cells that nobody writes -/
def TX (A : Nat → Prop) (U : State) (H : Heap) : Prop := va_Z "java/lang/String" "COMPACT_STRINGS" "Z" (.int 1) A U H ∧ ∃ adK adV : Nat → Nat, vk_S 1 [6] [[115, 102, 118, 106, 101, 108]] adK adV A U H ∧ vk_R RX2 33 "sfvjel" (adK 0) U
theorem TX.narrow {A B : Nat → Prop} {U : State} {H : Heap} (h : TX A U H) (hAB : ∀ q, B q → A q) : TX B U H := by
  obtain ⟨h1, adK, adV, h2, h3⟩ := h
  exact ⟨h1.narrow hAB, adK, adV, h2.narrow hAB, h3⟩
theorem TX.go {A : Nat → Prop} {s U : State} {H : Heap} {locs : List Loc} (h : TX A s s.heap) (hS : va_S A s.heap H locs) (hU : U.heap = H) (hW : s.WarmedH U.vm) : TX A U U.heap := by
  obtain ⟨h1, adK, adV, h2, h3⟩ := h
  rw [hU]
  exact ⟨va_Z.moved hW.alike (h1.kept hS.2.1), adK, adV, vk_S.moved hW.alike (h2.kept hS.2.1), vk_R.warm hW h3⟩
theorem TX.same {A : Nat → Prop} {s U : State} (h : TX A s s.heap) (hv : s.vm = U.vm) (hH : s.heap = U.heap) : TX A U U.heap := by
  obtain ⟨h1, adK, adV, h2, h3⟩ := h
  have ha : s.vm.Alike U.vm := by rw [hv]; exact Vm.Alike.refl U.vm
  rw [← hH]
  exact ⟨va_Z.moved ha h1, adK, adV, vk_S.moved ha h2, vk_R.same hv.symm h3⟩
def rmd (d : Nat) : Room := { frames := d, cells := 0, slots := 0, locals := 39 * d }
/-- a method: its class, code, locals, answer's type, how deep it calls -/
abbrev Cfg : Type := String × ByteArray × Nat × Option FieldType × Nat
def Qr (D : va_G) (tc : Nat → ClassId) (ad : Nat → Nat) {ρ : Type} (enc : ρ → Option Value) (r : ρ) (μ : Mem) : Array Value → State → Outcome → State → Prop := fun _ st oc t =>
  oc = .returned (enc r) ∧ va_P D cls (wl tc ad μ) t.heap ∧ va_F (A62 ad) st t
def Cx (C : Cfg) (D : va_G) (tc : Nat → ClassId) (ad : Nat → Nat) (p : Program) (R : Room) (s : State) (m : MethodId) (args : Array Value) (meth : Method) (c : Code) : Prop :=
  p.tables.exec = Jvm.exec ∧ c.code = C.2.1 ∧ c.maxLocals = C.2.2.1 ∧ s.vm.findClass C.1 = some m.cls ∧ (∀ w ∈ TB, w.before args s = true) ∧ Ka D tc s ∧ meth.sig.returnType = C.2.2.2.1 ∧ meth.locks = false ∧ R = rmd C.2.2.2.2 ∧ TX (A62 ad) s s.heap
def G (C : Cfg) (ad : Nat → Nat) {ρ : Type} (enc : ρ → Option Value) (pc : Nat) (L : List (Nat × Value)) (st : List Value) (μ : Mem) (X : Option (ρ × Mem)) : Prop :=
  ∀ (p : Program) (l : Launch) (e : Env) (R : Room) (s : State) (m : MethodId) (args : Array Value) (below : List Frame) (meth : Method) (c : Code) (H : Heap) (locs : List Loc) (D : va_G) (tc : Nat → ClassId) (ls : Array Slot) (r : ρ) (ν : Mem),
    Cx C D tc ad p R s m args meth c → va_P D cls (wl tc ad μ) H → va_D (A62 ad) (wl tc ad μ) → va_S (A62 ad) s.heap H locs → lv_has ls C.2.2.1 L → X = some (r, ν) →
    W p l e R s m args below meth c H locs 0 0 (MQ below (Qr D tc ad enc r ν) args s 0 0 (A62 ad)) (F0 m pc ls st)
def encI (v : Int32) : Option Value := some (.int v)
def encJ (v : Int64) : Option Value := some (.long v)
def encV (_ : Unit) : Option Value := none
/-- a method's contract: where the function has an answer, the method has it -/
def Ct (y : MethodName) (C : Cfg) (ad : Nat → Nat) {ρ : Type} (enc : ρ → Option Value) (av : List Value) (μ : Mem) (X : Option (ρ × Mem)) : Prop :=
  ∀ (l : Launch) (D : va_G) (tc : Nat → ClassId) (r : ρ) (ν : Mem), X = some (r, ν) →
    Met l y (.code y C.2.1 C.2.2.1 C.2.2.2.1 :: TB) (rmd C.2.2.2.2) (va_Pc av (fun U => va_P D cls (wl tc ad μ) U.heap ∧ va_D (A62 ad) (wl tc ad μ) ∧ Ka D tc U ∧ TX (A62 ad) U U.heap)) (Qr D tc ad enc r ν) 0 0 (A62 ad)
theorem met_ofWF {l : Launch} {y : MethodName} {ws ws' : List Cond} {rm : Room} {Pc : Array Value → State → Prop} {Qc : Array Value → State → Outcome → State → Prop} {mc ms : Nat} {free : Addr → Prop} {cc : ByteArray} {maxL : Nat} {ret : Option FieldType}
    (hy : plainFor y = true) (hw : ws = Cond.code y cc maxL ret :: ws')
    (body : ∀ p e s m args below meth c s₁, BodyLoose p l y (headSpec ws rm) cc maxL ret e s m args below meth c s₁ → c.maxLocals = maxL → Pc args s →
      W p l e (headSpec ws rm).room s m args below meth c s.heap [] 0 0 (MQ below Qc args s mc ms free) (entryFrame m args maxL)) : Met l y ws rm Pc Qc mc ms free := by
  refine MetFree.of_bodySF (code := cc) (maxLocals := maxL) (ret := ret) hy ?_ ?_
  · intro args s m h hn
    obtain ⟨meth, c, h1, h2, h3, h4, h5, h6, -, -⟩ := Cond.code_spec hn (atoms_spec (ws := ws) h _ (by rw [hw]; exact List.mem_cons_self))
    exact ⟨meth, c, h1, h2, h3, h4, h5, h6⟩
  · intro p e s m args below meth c s₁ B hml hP _
    have hh0 : s₁.heap = s.heap := by rw [B.state]; rfl
    obtain ⟨t, a1, o, b1, b2, b3⟩ := body p e s m args below meth c s₁ B hml hP s₁ hh0 (Stand.of_body B)
    exact ⟨t, o, a1, b1, b2, ⟨b3.1, b3.2⟩⟩
theorem Ct.of {y : MethodName} {C : Cfg} {ad : Nat → Nat} {ρ : Type} {enc : ρ → Option Value} {av : List Value} {μ : Mem} {X : Option (ρ × Mem)} (hy : plainFor y = true) (hc : y.cls = C.1) (hn : (lg_sl av).length ≤ C.2.2.1) (h : G C ad enc 0 (lv_args 0 av) [] μ X) : Ct y C ad enc av μ X := by
  intro l D tc r ν hX
  refine met_ofWF (cc := C.2.1) (maxL := C.2.2.1) (ret := C.2.2.2.1) hy rfl ?_
  intro p e s m args below meth c s₁ B hml hv
  obtain ⟨rfl, hP, hD, hK, hTX⟩ := hv
  have hts := atoms_spec (ws := (Cond.code y C.2.1 C.2.2.1 C.2.2.2.1 :: TB)) B.pre
  have hown : s.vm.findClass C.1 = some m.cls := by rw [← hc]; exact findClass_of_methodNamed B.named
  have hl := lv_entry av (n := C.2.2.1) hn
  rw [lg_entry_eq]
  exact h p l e _ s m _ below meth c s.heap [] D tc _ r ν ⟨B.exec, B.bytes, hml, hown, fun w hw => hts w (List.mem_cons_of_mem _ hw), hK, B.returns, B.notSynchronized, rfl, hTX⟩ hP hD va_S.rf hl hX
section GR
variable {C : Cfg} {ad : Nat → Nat} {ρ : Type} {enc : ρ → Option Value} {pc : Nat} {L : List (Nat × Value)} {st : List Value} {μ : Mem} {X : Option (ρ × Mem)}
theorem g_none : G C ad enc pc L st μ none := by
  intro p l e R s m args below meth c H locs D tc ls r ν hc hP hD hS hl hX
  cases hX
theorem g_ite {q : Prop} [hd : Decidable q] {Y : Option (ρ × Mem)} (ht : q → G C ad enc pc L st μ X) (hf : ¬ q → G C ad enc pc L st μ Y) : G C ad enc pc L st μ (if q then X else Y) := by
  by_cases h : q
  · rw [if_pos h]; exact ht h
  · rw [if_neg h]; exact hf h
theorem g_gd {b : Bool} (h : b = true → G C ad enc pc L st μ X) : G C ad enc pc L st μ (gd b X) := by
  cases b with
  | true => exact h rfl
  | false => exact g_none
theorem g_sub (ks : List Nat) {L' : List (Nat × Value)} (hL : lv_pick L ks = L') (h : G C ad enc pc L' st μ X) : G C ad enc pc L st μ X := by
  intro p l e R s m args below meth c H locs D tc ls r ν hc hP hD hS hl hX
  exact h p l e R s m args below meth c H locs D tc ls r ν hc hP hD hS (lv_sub hl ks hL) hX
theorem g_bnd {α : Type} {v : α} {k : α → Option (ρ × Mem)} (h : ∀ z, G C ad enc pc L st μ (k z)) : G C ad enc pc L st μ (bnd v k) := h v

theorem g_iload_n (j : Nat) {f : Fin 4} {i : Nat} {x : Int32} (d : decode C.2.1 pc = .ok (.iload_n f, 1)) (hi : (f : Nat) = i) (hk : L[j]? = some (i, .int x)) (k : G C ad enc (pc + 1) L (.int x :: st) μ X) : G C ad enc pc L (st) μ X := by
  intro p l e R s m args below meth c H locs D tc ls r ν hc hP hD hS hl hX
  exact lv_iload_n hc.1 hc.2.1 d hi (lv_at hl j hk) (k p l e R s m args below meth c H locs D tc ls r ν hc hP hD hS hl hX)
theorem g_iload (j : Nat) {i : Nat} {x : Int32} (d : decode C.2.1 pc = .ok (.iload i, 2)) (hk : L[j]? = some (i, .int x)) (k : G C ad enc (pc + 2) L (.int x :: st) μ X) : G C ad enc pc L (st) μ X := by
  intro p l e R s m args below meth c H locs D tc ls r ν hc hP hD hS hl hX
  exact lv_iload hc.1 hc.2.1 d (lv_at hl j hk) (k p l e R s m args below meth c H locs D tc ls r ν hc hP hD hS hl hX)
theorem g_lload_n (j : Nat) {f : Fin 4} {i : Nat} {x : Int64} (d : decode C.2.1 pc = .ok (.lload_n f, 1)) (hi : (f : Nat) = i) (hk : L[j]? = some (i, .long x)) (k : G C ad enc (pc + 1) L (.long x :: st) μ X) : G C ad enc pc L (st) μ X := by
  intro p l e R s m args below meth c H locs D tc ls r ν hc hP hD hS hl hX
  exact lv_lload_n hc.1 hc.2.1 d hi (lv_at hl j hk) (k p l e R s m args below meth c H locs D tc ls r ν hc hP hD hS hl hX)
theorem g_lload (j : Nat) {i : Nat} {x : Int64} (d : decode C.2.1 pc = .ok (.lload i, 2)) (hk : L[j]? = some (i, .long x)) (k : G C ad enc (pc + 2) L (.long x :: st) μ X) : G C ad enc pc L (st) μ X := by
  intro p l e R s m args below meth c H locs D tc ls r ν hc hP hD hS hl hX
  exact lv_lload hc.1 hc.2.1 d (lv_at hl j hk) (k p l e R s m args below meth c H locs D tc ls r ν hc hP hD hS hl hX)
theorem g_aload_n (j : Nat) {f : Fin 4} {i : Nat} {x : Nat} (d : decode C.2.1 pc = .ok (.aload_n f, 1)) (hi : (f : Nat) = i) (hk : L[j]? = some (i, .ref x)) (k : G C ad enc (pc + 1) L (.ref x :: st) μ X) : G C ad enc pc L (st) μ X := by
  intro p l e R s m args below meth c H locs D tc ls r ν hc hP hD hS hl hX
  exact lv_aload_n hc.1 hc.2.1 d hi (lv_at hl j hk) (k p l e R s m args below meth c H locs D tc ls r ν hc hP hD hS hl hX)
theorem g_aload (j : Nat) {i : Nat} {x : Nat} (d : decode C.2.1 pc = .ok (.aload i, 2)) (hk : L[j]? = some (i, .ref x)) (k : G C ad enc (pc + 2) L (.ref x :: st) μ X) : G C ad enc pc L (st) μ X := by
  intro p l e R s m args below meth c H locs D tc ls r ν hc hP hD hS hl hX
  exact lv_aload hc.1 hc.2.1 d (lv_at hl j hk) (k p l e R s m args below meth c H locs D tc ls r ν hc hP hD hS hl hX)
theorem g_iconst (v : Int32) {n : Int} (d : decode C.2.1 pc = .ok (.iconst n, 1)) (hv : Int32.ofInt n = v) (k : G C ad enc (pc + 1) L (.int v :: st) μ X) : G C ad enc pc L (st) μ X := by
  intro p l e R s m args below meth c H locs D tc ls r ν hc hP hD hS hl hX
  exact lv_iconst hc.1 hc.2.1 d hv (k p l e R s m args below meth c H locs D tc ls r ν hc hP hD hS hl hX)
theorem g_bipush (v : Int32) {n : Int} (d : decode C.2.1 pc = .ok (.bipush n, 2)) (hv : (Int8.ofInt n).toInt32 = v) (k : G C ad enc (pc + 2) L (.int v :: st) μ X) : G C ad enc pc L (st) μ X := by
  intro p l e R s m args below meth c H locs D tc ls r ν hc hP hD hS hl hX
  exact lv_bipush hc.1 hc.2.1 d hv (k p l e R s m args below meth c H locs D tc ls r ν hc hP hD hS hl hX)
theorem g_sipush (v : Int32) {n : Int} (d : decode C.2.1 pc = .ok (.sipush n, 3)) (hv : (Int16.ofInt n).toInt32 = v) (k : G C ad enc (pc + 3) L (.int v :: st) μ X) : G C ad enc pc L (st) μ X := by
  intro p l e R s m args below meth c H locs D tc ls r ν hc hP hD hS hl hX
  exact lv_sipush hc.1 hc.2.1 d hv (k p l e R s m args below meth c H locs D tc ls r ν hc hP hD hS hl hX)
theorem g_lconst (v : Int64) {n : Fin 2} (d : decode C.2.1 pc = .ok (.lconst n, 1)) (hv : Int64.ofNat (n : Nat) = v) (k : G C ad enc (pc + 1) L (.long v :: st) μ X) : G C ad enc pc L (st) μ X := by
  intro p l e R s m args below meth c H locs D tc ls r ν hc hP hD hS hl hX
  exact lv_lconst hc.1 hc.2.1 d hv (k p l e R s m args below meth c H locs D tc ls r ν hc hP hD hS hl hX)
theorem g_ldc {i : Nat} {v : Int32} (d : decode C.2.1 pc = .ok (.ldc i, 2)) (hw : Cond.constant C.1 i v ∈ TB) (k : G C ad enc (pc + 2) L (.int v :: st) μ X) : G C ad enc pc L (st) μ X := by
  intro p l e R s m args below meth c H locs D tc ls r ν hc hP hD hS hl hX
  exact lv_ldc hc.1 hc.2.1 hc.2.2.2.1 (hc.2.2.2.2.1 _ hw) d (k p l e R s m args below meth c H locs D tc ls r ν hc hP hD hS hl hX)
theorem g_ldcw {i : Nat} {v : Int32} (d : decode C.2.1 pc = .ok (.ldc_w i, 3)) (hw : Cond.constant C.1 i v ∈ TB) (k : G C ad enc (pc + 3) L (.int v :: st) μ X) : G C ad enc pc L (st) μ X := by
  intro p l e R s m args below meth c H locs D tc ls r ν hc hP hD hS hl hX
  exact lv_ldcw hc.1 hc.2.1 hc.2.2.2.1 (hc.2.2.2.2.1 _ hw) d (k p l e R s m args below meth c H locs D tc ls r ν hc hP hD hS hl hX)
theorem g_ldc2 {i : Nat} {v : Int64} (d : decode C.2.1 pc = .ok (.ldc2_w i, 3)) (hw : Cond.constantLong C.1 i v ∈ TB) (k : G C ad enc (pc + 3) L (.long v :: st) μ X) : G C ad enc pc L (st) μ X := by
  intro p l e R s m args below meth c H locs D tc ls r ν hc hP hD hS hl hX
  exact lv_ldc2 hc.1 hc.2.1 hc.2.2.2.1 (hc.2.2.2.2.1 _ hw) d (k p l e R s m args below meth c H locs D tc ls r ν hc hP hD hS hl hX)
theorem g_iadd {x y : Int32} (d : decode C.2.1 pc = .ok (.iadd, 1)) (k : G C ad enc (pc + 1) L (.int (x + y) :: st) μ X) : G C ad enc pc L (.int y :: .int x :: st) μ X := by
  intro p l e R s m args below meth c H locs D tc ls r ν hc hP hD hS hl hX
  exact lv_iadd hc.1 hc.2.1 d (k p l e R s m args below meth c H locs D tc ls r ν hc hP hD hS hl hX)
theorem g_isub {x y : Int32} (d : decode C.2.1 pc = .ok (.isub, 1)) (k : G C ad enc (pc + 1) L (.int (x - y) :: st) μ X) : G C ad enc pc L (.int y :: .int x :: st) μ X := by
  intro p l e R s m args below meth c H locs D tc ls r ν hc hP hD hS hl hX
  exact lv_isub hc.1 hc.2.1 d (k p l e R s m args below meth c H locs D tc ls r ν hc hP hD hS hl hX)
theorem g_imul {x y : Int32} (d : decode C.2.1 pc = .ok (.imul, 1)) (k : G C ad enc (pc + 1) L (.int (x * y) :: st) μ X) : G C ad enc pc L (.int y :: .int x :: st) μ X := by
  intro p l e R s m args below meth c H locs D tc ls r ν hc hP hD hS hl hX
  exact lv_imul hc.1 hc.2.1 d (k p l e R s m args below meth c H locs D tc ls r ν hc hP hD hS hl hX)
theorem g_iand {x y : Int32} (d : decode C.2.1 pc = .ok (.iand, 1)) (k : G C ad enc (pc + 1) L (.int (x &&& y) :: st) μ X) : G C ad enc pc L (.int y :: .int x :: st) μ X := by
  intro p l e R s m args below meth c H locs D tc ls r ν hc hP hD hS hl hX
  exact lv_iand hc.1 hc.2.1 d (k p l e R s m args below meth c H locs D tc ls r ν hc hP hD hS hl hX)
theorem g_ior {x y : Int32} (d : decode C.2.1 pc = .ok (.ior, 1)) (k : G C ad enc (pc + 1) L (.int (x ||| y) :: st) μ X) : G C ad enc pc L (.int y :: .int x :: st) μ X := by
  intro p l e R s m args below meth c H locs D tc ls r ν hc hP hD hS hl hX
  exact lv_ior hc.1 hc.2.1 d (k p l e R s m args below meth c H locs D tc ls r ν hc hP hD hS hl hX)
theorem g_ixor {x y : Int32} (d : decode C.2.1 pc = .ok (.ixor, 1)) (k : G C ad enc (pc + 1) L (.int (x ^^^ y) :: st) μ X) : G C ad enc pc L (.int y :: .int x :: st) μ X := by
  intro p l e R s m args below meth c H locs D tc ls r ν hc hP hD hS hl hX
  exact lv_ixor hc.1 hc.2.1 d (k p l e R s m args below meth c H locs D tc ls r ν hc hP hD hS hl hX)
theorem g_ishl {x y : Int32} (d : decode C.2.1 pc = .ok (.ishl, 1)) (k : G C ad enc (pc + 1) L (.int (x <<< (y &&& 31)) :: st) μ X) : G C ad enc pc L (.int y :: .int x :: st) μ X := by
  intro p l e R s m args below meth c H locs D tc ls r ν hc hP hD hS hl hX
  exact lv_ishl hc.1 hc.2.1 d (k p l e R s m args below meth c H locs D tc ls r ν hc hP hD hS hl hX)
theorem g_ishr {x y : Int32} (d : decode C.2.1 pc = .ok (.ishr, 1)) (k : G C ad enc (pc + 1) L (.int (x >>> (y &&& 31)) :: st) μ X) : G C ad enc pc L (.int y :: .int x :: st) μ X := by
  intro p l e R s m args below meth c H locs D tc ls r ν hc hP hD hS hl hX
  exact lv_ishr hc.1 hc.2.1 d (k p l e R s m args below meth c H locs D tc ls r ν hc hP hD hS hl hX)
theorem g_ladd {x y : Int64} (d : decode C.2.1 pc = .ok (.ladd, 1)) (k : G C ad enc (pc + 1) L (.long (x + y) :: st) μ X) : G C ad enc pc L (.long y :: .long x :: st) μ X := by
  intro p l e R s m args below meth c H locs D tc ls r ν hc hP hD hS hl hX
  exact lv_ladd hc.1 hc.2.1 d (k p l e R s m args below meth c H locs D tc ls r ν hc hP hD hS hl hX)
theorem g_lsub {x y : Int64} (d : decode C.2.1 pc = .ok (.lsub, 1)) (k : G C ad enc (pc + 1) L (.long (x - y) :: st) μ X) : G C ad enc pc L (.long y :: .long x :: st) μ X := by
  intro p l e R s m args below meth c H locs D tc ls r ν hc hP hD hS hl hX
  exact lv_lsub hc.1 hc.2.1 d (k p l e R s m args below meth c H locs D tc ls r ν hc hP hD hS hl hX)
theorem g_lmul {x y : Int64} (d : decode C.2.1 pc = .ok (.lmul, 1)) (k : G C ad enc (pc + 1) L (.long (x * y) :: st) μ X) : G C ad enc pc L (.long y :: .long x :: st) μ X := by
  intro p l e R s m args below meth c H locs D tc ls r ν hc hP hD hS hl hX
  exact lv_lmul hc.1 hc.2.1 d (k p l e R s m args below meth c H locs D tc ls r ν hc hP hD hS hl hX)
theorem g_ineg {x : Int32} (d : decode C.2.1 pc = .ok (.ineg, 1)) (k : G C ad enc (pc + 1) L (.int (-x) :: st) μ X) : G C ad enc pc L (.int x :: st) μ X := by
  intro p l e R s m args below meth c H locs D tc ls r ν hc hP hD hS hl hX
  exact lv_ineg hc.1 hc.2.1 d (k p l e R s m args below meth c H locs D tc ls r ν hc hP hD hS hl hX)
theorem g_iushr {x y : Int32} (d : decode C.2.1 pc = .ok (.iushr, 1)) (k : G C ad enc (pc + 1) L (.int ((x.toUInt32 >>> (y.toUInt32 &&& Int32.toUInt32 31)).toInt32) :: st) μ X) : G C ad enc pc L (.int y :: .int x :: st) μ X := by
  intro p l e R s m args below meth c H locs D tc ls r ν hc hP hD hS hl hX
  exact lv_iushr hc.1 hc.2.1 d rfl (k p l e R s m args below meth c H locs D tc ls r ν hc hP hD hS hl hX)
theorem g_idiv {x y : Int32} (d : decode C.2.1 pc = .ok (.idiv, 1)) (h0 : ¬ y = 0) (k : G C ad enc (pc + 1) L (.int (x / y) :: st) μ X) : G C ad enc pc L (.int y :: .int x :: st) μ X := by
  intro p l e R s m args below meth c H locs D tc ls r ν hc hP hD hS hl hX
  exact lv_idiv hc.1 hc.2.1 d h0 (k p l e R s m args below meth c H locs D tc ls r ν hc hP hD hS hl hX)
theorem g_irem {x y : Int32} (d : decode C.2.1 pc = .ok (.irem, 1)) (h0 : ¬ y = 0) (k : G C ad enc (pc + 1) L (.int (x - x / y * y) :: st) μ X) : G C ad enc pc L (.int y :: .int x :: st) μ X := by
  intro p l e R s m args below meth c H locs D tc ls r ν hc hP hD hS hl hX
  exact lv_irem hc.1 hc.2.1 d h0 (k p l e R s m args below meth c H locs D tc ls r ν hc hP hD hS hl hX)
theorem g_ldiv {x y : Int64} (d : decode C.2.1 pc = .ok (.ldiv, 1)) (h0 : ¬ y = 0) (k : G C ad enc (pc + 1) L (.long (x / y) :: st) μ X) : G C ad enc pc L (.long y :: .long x :: st) μ X := by
  intro p l e R s m args below meth c H locs D tc ls r ν hc hP hD hS hl hX
  exact lv_ldiv hc.1 hc.2.1 d h0 (k p l e R s m args below meth c H locs D tc ls r ν hc hP hD hS hl hX)
theorem g_lrem {x y : Int64} (d : decode C.2.1 pc = .ok (.lrem, 1)) (h0 : ¬ y = 0) (k : G C ad enc (pc + 1) L (.long (x - x / y * y) :: st) μ X) : G C ad enc pc L (.long y :: .long x :: st) μ X := by
  intro p l e R s m args below meth c H locs D tc ls r ν hc hP hD hS hl hX
  exact lv_lrem hc.1 hc.2.1 d h0 (k p l e R s m args below meth c H locs D tc ls r ν hc hP hD hS hl hX)
theorem g_lshl {x : Int64} {y : Int32} (d : decode C.2.1 pc = .ok (.lshl, 1)) (k : G C ad enc (pc + 1) L (.long (x <<< (y.toInt64 &&& 63)) :: st) μ X) : G C ad enc pc L (.int y :: .long x :: st) μ X := by
  intro p l e R s m args below meth c H locs D tc ls r ν hc hP hD hS hl hX
  exact lv_lshl hc.1 hc.2.1 d rfl (k p l e R s m args below meth c H locs D tc ls r ν hc hP hD hS hl hX)
theorem g_i2l {x : Int32} (d : decode C.2.1 pc = .ok (.i2l, 1)) (k : G C ad enc (pc + 1) L (.long x.toInt64 :: st) μ X) : G C ad enc pc L (.int x :: st) μ X := by
  intro p l e R s m args below meth c H locs D tc ls r ν hc hP hD hS hl hX
  exact lv_i2l hc.1 hc.2.1 d rfl (k p l e R s m args below meth c H locs D tc ls r ν hc hP hD hS hl hX)
theorem g_l2i {x : Int64} (d : decode C.2.1 pc = .ok (.l2i, 1)) (k : G C ad enc (pc + 1) L (.int x.toInt32 :: st) μ X) : G C ad enc pc L (.long x :: st) μ X := by
  intro p l e R s m args below meth c H locs D tc ls r ν hc hP hD hS hl hX
  exact lv_l2i hc.1 hc.2.1 d rfl (k p l e R s m args below meth c H locs D tc ls r ν hc hP hD hS hl hX)
theorem g_lcmp {x y : Int64} (d : decode C.2.1 pc = .ok (.lcmp, 1)) (k : G C ad enc (pc + 1) L (.int (lg_cmp x y) :: st) μ X) : G C ad enc pc L (.long y :: .long x :: st) μ X := by
  intro p l e R s m args below meth c H locs D tc ls r ν hc hP hD hS hl hX
  exact W.lcmp hc.1 hc.2.1 d (k p l e R s m args below meth c H locs D tc ls r ν hc hP hD hS hl hX)
theorem g_dup {v : Value} (d : decode C.2.1 pc = .ok (.dup, 1)) (hv : v.category = 1) (k : G C ad enc (pc + 1) L (v :: v :: st) μ X) : G C ad enc pc L (v :: st) μ X := by
  intro p l e R s m args below meth c H locs D tc ls r ν hc hP hD hS hl hX
  exact lv_dup hc.1 hc.2.1 d hv (k p l e R s m args below meth c H locs D tc ls r ν hc hP hD hS hl hX)
theorem g_dup2 {v u : Value} (d : decode C.2.1 pc = .ok (.dup2, 1)) (hv : v.category = 1) (hu : u.category = 1) (k : G C ad enc (pc + 1) L (v :: u :: v :: u :: st) μ X) : G C ad enc pc L (v :: u :: st) μ X := by
  intro p l e R s m args below meth c H locs D tc ls r ν hc hP hD hS hl hX
  exact lv_dup2_11 hc.1 hc.2.1 d hv hu (k p l e R s m args below meth c H locs D tc ls r ν hc hP hD hS hl hX)
theorem g_goto (tgt : Nat) {off : Int} (d : decode C.2.1 pc = .ok (.goto off, 3)) (ht : (pc : Int) + off = (tgt : Int)) (k : G C ad enc tgt L st μ X) : G C ad enc pc L st μ X := by
  intro p l e R s m args below meth c H locs D tc ls r ν hc hP hD hS hl hX
  exact lv_goto hc.1 hc.2.1 d ht (k p l e R s m args below meth c H locs D tc ls r ν hc hP hD hS hl hX)
theorem g_icmp_eq (tgt : Nat) {x y : Int32} {off : Int} {Y : Option (ρ × Mem)} (d : decode C.2.1 pc = .ok (.if_icmp .eq off, 3)) (ht : (pc : Int) + off = (tgt : Int)) (k1 : G C ad enc tgt L st μ X) (k2 : G C ad enc (pc + 3) L st μ Y) : G C ad enc pc L (.int y :: .int x :: st) μ (if x = y then X else Y) := by
  intro p l e R s m args below meth c H locs D tc ls r ν hc hP hD hS hl hX
  exact lv_icmp_eq hc.1 hc.2.1 d ht (fun q => k1 p l e R s m args below meth c H locs D tc ls r ν hc hP hD hS hl (by rw [if_pos q] at hX; exact hX)) (fun q => k2 p l e R s m args below meth c H locs D tc ls r ν hc hP hD hS hl (by rw [if_neg q] at hX; exact hX))
theorem g_icmp_ne (tgt : Nat) {x y : Int32} {off : Int} {Y : Option (ρ × Mem)} (d : decode C.2.1 pc = .ok (.if_icmp .ne off, 3)) (ht : (pc : Int) + off = (tgt : Int)) (k1 : G C ad enc tgt L st μ X) (k2 : G C ad enc (pc + 3) L st μ Y) : G C ad enc pc L (.int y :: .int x :: st) μ (if x = y then Y else X) := by
  intro p l e R s m args below meth c H locs D tc ls r ν hc hP hD hS hl hX
  exact lv_icmp_ne hc.1 hc.2.1 d ht (fun q => k1 p l e R s m args below meth c H locs D tc ls r ν hc hP hD hS hl (by rw [if_neg q] at hX; exact hX)) (fun q => k2 p l e R s m args below meth c H locs D tc ls r ν hc hP hD hS hl (by rw [if_pos q] at hX; exact hX))
theorem g_icmp_lt (tgt : Nat) {x y : Int32} {off : Int} {Y : Option (ρ × Mem)} (d : decode C.2.1 pc = .ok (.if_icmp .lt off, 3)) (ht : (pc : Int) + off = (tgt : Int)) (k1 : G C ad enc tgt L st μ X) (k2 : G C ad enc (pc + 3) L st μ Y) : G C ad enc pc L (.int y :: .int x :: st) μ (if x < y then X else Y) := by
  intro p l e R s m args below meth c H locs D tc ls r ν hc hP hD hS hl hX
  exact lv_icmp_lt hc.1 hc.2.1 d ht (fun q => k1 p l e R s m args below meth c H locs D tc ls r ν hc hP hD hS hl (by rw [if_pos q] at hX; exact hX)) (fun q => k2 p l e R s m args below meth c H locs D tc ls r ν hc hP hD hS hl (by rw [if_neg q] at hX; exact hX))
theorem g_icmp_ge (tgt : Nat) {x y : Int32} {off : Int} {Y : Option (ρ × Mem)} (d : decode C.2.1 pc = .ok (.if_icmp .ge off, 3)) (ht : (pc : Int) + off = (tgt : Int)) (k1 : G C ad enc tgt L st μ X) (k2 : G C ad enc (pc + 3) L st μ Y) : G C ad enc pc L (.int y :: .int x :: st) μ (if y ≤ x then X else Y) := by
  intro p l e R s m args below meth c H locs D tc ls r ν hc hP hD hS hl hX
  exact lv_icmp_ge hc.1 hc.2.1 d ht (fun q => k1 p l e R s m args below meth c H locs D tc ls r ν hc hP hD hS hl (by rw [if_pos q] at hX; exact hX)) (fun q => k2 p l e R s m args below meth c H locs D tc ls r ν hc hP hD hS hl (by rw [if_neg q] at hX; exact hX))
theorem g_icmp_gt (tgt : Nat) {x y : Int32} {off : Int} {Y : Option (ρ × Mem)} (d : decode C.2.1 pc = .ok (.if_icmp .gt off, 3)) (ht : (pc : Int) + off = (tgt : Int)) (k1 : G C ad enc tgt L st μ X) (k2 : G C ad enc (pc + 3) L st μ Y) : G C ad enc pc L (.int y :: .int x :: st) μ (if y < x then X else Y) := by
  intro p l e R s m args below meth c H locs D tc ls r ν hc hP hD hS hl hX
  exact lv_icmp_gt hc.1 hc.2.1 d ht (fun q => k1 p l e R s m args below meth c H locs D tc ls r ν hc hP hD hS hl (by rw [if_pos q] at hX; exact hX)) (fun q => k2 p l e R s m args below meth c H locs D tc ls r ν hc hP hD hS hl (by rw [if_neg q] at hX; exact hX))
theorem g_icmp_le (tgt : Nat) {x y : Int32} {off : Int} {Y : Option (ρ × Mem)} (d : decode C.2.1 pc = .ok (.if_icmp .le off, 3)) (ht : (pc : Int) + off = (tgt : Int)) (k1 : G C ad enc tgt L st μ X) (k2 : G C ad enc (pc + 3) L st μ Y) : G C ad enc pc L (.int y :: .int x :: st) μ (if x ≤ y then X else Y) := by
  intro p l e R s m args below meth c H locs D tc ls r ν hc hP hD hS hl hX
  exact lv_icmp_le hc.1 hc.2.1 d ht (fun q => k1 p l e R s m args below meth c H locs D tc ls r ν hc hP hD hS hl (by rw [if_pos q] at hX; exact hX)) (fun q => k2 p l e R s m args below meth c H locs D tc ls r ν hc hP hD hS hl (by rw [if_neg q] at hX; exact hX))
theorem g_if_eq (tgt : Nat) {x : Int32} {off : Int} {Y : Option (ρ × Mem)} (d : decode C.2.1 pc = .ok (.ifCond .eq off, 3)) (ht : (pc : Int) + off = (tgt : Int)) (k1 : G C ad enc tgt L st μ X) (k2 : G C ad enc (pc + 3) L st μ Y) : G C ad enc pc L (.int x :: st) μ (if x = 0 then X else Y) := by
  intro p l e R s m args below meth c H locs D tc ls r ν hc hP hD hS hl hX
  exact lv_if_eq hc.1 hc.2.1 d ht (fun q => k1 p l e R s m args below meth c H locs D tc ls r ν hc hP hD hS hl (by rw [if_pos q] at hX; exact hX)) (fun q => k2 p l e R s m args below meth c H locs D tc ls r ν hc hP hD hS hl (by rw [if_neg q] at hX; exact hX))
theorem g_if_ne (tgt : Nat) {x : Int32} {off : Int} {Y : Option (ρ × Mem)} (d : decode C.2.1 pc = .ok (.ifCond .ne off, 3)) (ht : (pc : Int) + off = (tgt : Int)) (k1 : G C ad enc tgt L st μ X) (k2 : G C ad enc (pc + 3) L st μ Y) : G C ad enc pc L (.int x :: st) μ (if x = 0 then Y else X) := by
  intro p l e R s m args below meth c H locs D tc ls r ν hc hP hD hS hl hX
  exact lv_if_ne hc.1 hc.2.1 d ht (fun q => k1 p l e R s m args below meth c H locs D tc ls r ν hc hP hD hS hl (by rw [if_neg q] at hX; exact hX)) (fun q => k2 p l e R s m args below meth c H locs D tc ls r ν hc hP hD hS hl (by rw [if_pos q] at hX; exact hX))
theorem g_if_lt (tgt : Nat) {x : Int32} {off : Int} {Y : Option (ρ × Mem)} (d : decode C.2.1 pc = .ok (.ifCond .lt off, 3)) (ht : (pc : Int) + off = (tgt : Int)) (k1 : G C ad enc tgt L st μ X) (k2 : G C ad enc (pc + 3) L st μ Y) : G C ad enc pc L (.int x :: st) μ (if x < 0 then X else Y) := by
  intro p l e R s m args below meth c H locs D tc ls r ν hc hP hD hS hl hX
  exact lv_if_lt hc.1 hc.2.1 d ht (fun q => k1 p l e R s m args below meth c H locs D tc ls r ν hc hP hD hS hl (by rw [if_pos q] at hX; exact hX)) (fun q => k2 p l e R s m args below meth c H locs D tc ls r ν hc hP hD hS hl (by rw [if_neg q] at hX; exact hX))
theorem g_if_ge (tgt : Nat) {x : Int32} {off : Int} {Y : Option (ρ × Mem)} (d : decode C.2.1 pc = .ok (.ifCond .ge off, 3)) (ht : (pc : Int) + off = (tgt : Int)) (k1 : G C ad enc tgt L st μ X) (k2 : G C ad enc (pc + 3) L st μ Y) : G C ad enc pc L (.int x :: st) μ (if 0 ≤ x then X else Y) := by
  intro p l e R s m args below meth c H locs D tc ls r ν hc hP hD hS hl hX
  exact lv_if_ge hc.1 hc.2.1 d ht (fun q => k1 p l e R s m args below meth c H locs D tc ls r ν hc hP hD hS hl (by rw [if_pos q] at hX; exact hX)) (fun q => k2 p l e R s m args below meth c H locs D tc ls r ν hc hP hD hS hl (by rw [if_neg q] at hX; exact hX))
theorem g_if_gt (tgt : Nat) {x : Int32} {off : Int} {Y : Option (ρ × Mem)} (d : decode C.2.1 pc = .ok (.ifCond .gt off, 3)) (ht : (pc : Int) + off = (tgt : Int)) (k1 : G C ad enc tgt L st μ X) (k2 : G C ad enc (pc + 3) L st μ Y) : G C ad enc pc L (.int x :: st) μ (if 0 < x then X else Y) := by
  intro p l e R s m args below meth c H locs D tc ls r ν hc hP hD hS hl hX
  exact lv_if_gt hc.1 hc.2.1 d ht (fun q => k1 p l e R s m args below meth c H locs D tc ls r ν hc hP hD hS hl (by rw [if_pos q] at hX; exact hX)) (fun q => k2 p l e R s m args below meth c H locs D tc ls r ν hc hP hD hS hl (by rw [if_neg q] at hX; exact hX))
theorem g_if_le (tgt : Nat) {x : Int32} {off : Int} {Y : Option (ρ × Mem)} (d : decode C.2.1 pc = .ok (.ifCond .le off, 3)) (ht : (pc : Int) + off = (tgt : Int)) (k1 : G C ad enc tgt L st μ X) (k2 : G C ad enc (pc + 3) L st μ Y) : G C ad enc pc L (.int x :: st) μ (if x ≤ 0 then X else Y) := by
  intro p l e R s m args below meth c H locs D tc ls r ν hc hP hD hS hl hX
  exact lv_if_le hc.1 hc.2.1 d ht (fun q => k1 p l e R s m args below meth c H locs D tc ls r ν hc hP hD hS hl (by rw [if_pos q] at hX; exact hX)) (fun q => k2 p l e R s m args below meth c H locs D tc ls r ν hc hP hD hS hl (by rw [if_neg q] at hX; exact hX))
theorem g_istore_n (L' : List (Nat × Value)) {f : Fin 4} {i : Nat} {x : Int32} (d : decode C.2.1 pc = .ok (.istore_n f, 1)) (hi : (f : Nat) = i) (hn : i < C.2.2.1) (hL : (i, Value.int x) :: L.filter (fun q => !(q.1 == i) && !(q.1 + 1 == i && q.2.category == 2)) = L') (k : G C ad enc (pc + 1) L' st μ X) : G C ad enc pc L (.int x :: st) μ X := by
  intro p l e R s m args below meth c H locs D tc ls r ν hc hP hD hS hl hX
  exact lv_istore_n hc.1 hc.2.1 d hi hl hn hL (fun ls hl => k p l e R s m args below meth c H locs D tc ls r ν hc hP hD hS hl hX)
theorem g_istore_nB (L' : Int32 → List (Nat × Value)) {f : Fin 4} {i : Nat} {x : Int32} {Z : Int32 → Option (ρ × Mem)} (d : decode C.2.1 pc = .ok (.istore_n f, 1)) (hi : (f : Nat) = i) (hn : i < C.2.2.1) (hL : ∀ x, (i, Value.int x) :: L.filter (fun q => !(q.1 == i) && !(q.1 + 1 == i && q.2.category == 2)) = L' x) (k : ∀ x, G C ad enc (pc + 1) (L' x) st μ (Z x)) : G C ad enc pc L (.int x :: st) μ (bnd x Z) :=
  g_istore_n (L' x) d hi hn (hL x) (k x)
theorem g_istore (L' : List (Nat × Value)) {i : Nat} {x : Int32} (d : decode C.2.1 pc = .ok (.istore i, 2)) (hn : i < C.2.2.1) (hL : (i, Value.int x) :: L.filter (fun q => !(q.1 == i) && !(q.1 + 1 == i && q.2.category == 2)) = L') (k : G C ad enc (pc + 2) L' st μ X) : G C ad enc pc L (.int x :: st) μ X := by
  intro p l e R s m args below meth c H locs D tc ls r ν hc hP hD hS hl hX
  exact lv_istore hc.1 hc.2.1 d hl hn hL (fun ls hl => k p l e R s m args below meth c H locs D tc ls r ν hc hP hD hS hl hX)
theorem g_istoreB (L' : Int32 → List (Nat × Value)) {i : Nat} {x : Int32} {Z : Int32 → Option (ρ × Mem)} (d : decode C.2.1 pc = .ok (.istore i, 2)) (hn : i < C.2.2.1) (hL : ∀ x, (i, Value.int x) :: L.filter (fun q => !(q.1 == i) && !(q.1 + 1 == i && q.2.category == 2)) = L' x) (k : ∀ x, G C ad enc (pc + 2) (L' x) st μ (Z x)) : G C ad enc pc L (.int x :: st) μ (bnd x Z) :=
  g_istore (L' x) d hn (hL x) (k x)
theorem g_lstore_n (L' : List (Nat × Value)) {f : Fin 4} {i : Nat} {x : Int64} (d : decode C.2.1 pc = .ok (.lstore_n f, 1)) (hi : (f : Nat) = i) (hn : i + 1 < C.2.2.1) (hL : (i, Value.long x) :: L.filter (fun q => !(q.1 == i) && (!(q.1 == i + 1) && !(q.1 + 1 == i && q.2.category == 2))) = L') (k : G C ad enc (pc + 1) L' st μ X) : G C ad enc pc L (.long x :: st) μ X := by
  intro p l e R s m args below meth c H locs D tc ls r ν hc hP hD hS hl hX
  exact lv_lstore_n hc.1 hc.2.1 d hi hl hn hL (fun ls hl => k p l e R s m args below meth c H locs D tc ls r ν hc hP hD hS hl hX)
theorem g_lstore_nB (L' : Int64 → List (Nat × Value)) {f : Fin 4} {i : Nat} {x : Int64} {Z : Int64 → Option (ρ × Mem)} (d : decode C.2.1 pc = .ok (.lstore_n f, 1)) (hi : (f : Nat) = i) (hn : i + 1 < C.2.2.1) (hL : ∀ x, (i, Value.long x) :: L.filter (fun q => !(q.1 == i) && (!(q.1 == i + 1) && !(q.1 + 1 == i && q.2.category == 2))) = L' x) (k : ∀ x, G C ad enc (pc + 1) (L' x) st μ (Z x)) : G C ad enc pc L (.long x :: st) μ (bnd x Z) :=
  g_lstore_n (L' x) d hi hn (hL x) (k x)
theorem g_lstore (L' : List (Nat × Value)) {i : Nat} {x : Int64} (d : decode C.2.1 pc = .ok (.lstore i, 2)) (hn : i + 1 < C.2.2.1) (hL : (i, Value.long x) :: L.filter (fun q => !(q.1 == i) && (!(q.1 == i + 1) && !(q.1 + 1 == i && q.2.category == 2))) = L') (k : G C ad enc (pc + 2) L' st μ X) : G C ad enc pc L (.long x :: st) μ X := by
  intro p l e R s m args below meth c H locs D tc ls r ν hc hP hD hS hl hX
  exact lv_lstore hc.1 hc.2.1 d hl hn hL (fun ls hl => k p l e R s m args below meth c H locs D tc ls r ν hc hP hD hS hl hX)
theorem g_lstoreB (L' : Int64 → List (Nat × Value)) {i : Nat} {x : Int64} {Z : Int64 → Option (ρ × Mem)} (d : decode C.2.1 pc = .ok (.lstore i, 2)) (hn : i + 1 < C.2.2.1) (hL : ∀ x, (i, Value.long x) :: L.filter (fun q => !(q.1 == i) && (!(q.1 == i + 1) && !(q.1 + 1 == i && q.2.category == 2))) = L' x) (k : ∀ x, G C ad enc (pc + 2) (L' x) st μ (Z x)) : G C ad enc pc L (.long x :: st) μ (bnd x Z) :=
  g_lstore (L' x) d hn (hL x) (k x)
theorem g_astore_n (L' : List (Nat × Value)) {f : Fin 4} {i : Nat} {x : Nat} (d : decode C.2.1 pc = .ok (.astore_n f, 1)) (hi : (f : Nat) = i) (hn : i < C.2.2.1) (hL : (i, Value.ref x) :: L.filter (fun q => !(q.1 == i) && !(q.1 + 1 == i && q.2.category == 2)) = L') (k : G C ad enc (pc + 1) L' st μ X) : G C ad enc pc L (.ref x :: st) μ X := by
  intro p l e R s m args below meth c H locs D tc ls r ν hc hP hD hS hl hX
  exact lv_astore_n hc.1 hc.2.1 d hi hl hn hL (fun ls hl => k p l e R s m args below meth c H locs D tc ls r ν hc hP hD hS hl hX)
theorem g_astore (L' : List (Nat × Value)) {i : Nat} {x : Nat} (d : decode C.2.1 pc = .ok (.astore i, 2)) (hn : i < C.2.2.1) (hL : (i, Value.ref x) :: L.filter (fun q => !(q.1 == i) && !(q.1 + 1 == i && q.2.category == 2)) = L') (k : G C ad enc (pc + 2) L' st μ X) : G C ad enc pc L (.ref x :: st) μ X := by
  intro p l e R s m args below meth c H locs D tc ls r ν hc hP hD hS hl hX
  exact lv_astore hc.1 hc.2.1 d hl hn hL (fun ls hl => k p l e R s m args below meth c H locs D tc ls r ν hc hP hD hS hl hX)
theorem g_iincB (j : Nat) (n : Int) (w : Int32) (L' : Int32 → List (Nat × Value)) {i : Nat} {x : Int32} {Z : Int32 → Option (ρ × Mem)} (d : decode C.2.1 pc = .ok (.iinc i n, 3)) (hk : L[j]? = some (i, .int x)) (hw : Int32.ofInt n = w) (hn : i < C.2.2.1) (hL : ∀ v, (i, Value.int v) :: L.filter (fun q => !(q.1 == i) && !(q.1 + 1 == i && q.2.category == 2)) = L' v) (k : ∀ v, G C ad enc (pc + 3) (L' v) st μ (Z v)) : G C ad enc pc L st μ (bnd (x + w) Z) := by
  intro p l e R s m args below meth c H locs D tc ls r ν hc hP hD hS hl hX
  subst hw
  exact lv_iinc hc.1 hc.2.1 d hl hk rfl hn (hL _) (fun ls hl => k _ p l e R s m args below meth c H locs D tc ls r ν hc hP hD hS hl hX)
theorem g_ireturn {v : Int32} (d : decode C.2.1 pc = .ok (.ireturn, 1)) (hr : C.2.2.2.1 = some .int) : G C ad encI pc L [.int v] μ (some (v, μ)) := by
  intro p l e R s m args below meth c H locs D tc ls r ν hc hP hD hS hl hX
  cases hX
  exact W.iret hc.1 hc.2.1 (hc.2.2.2.2.2.2.1.trans hr) (fun t ht hW => ⟨rfl, by rw [ht]; exact hP, hS.F ht⟩) hS.2.2 d hc.2.2.2.2.2.2.2.1
theorem g_lreturn {v : Int64} (d : decode C.2.1 pc = .ok (.lreturn, 1)) (hr : C.2.2.2.1 = some .long) : G C ad encJ pc L [.long v] μ (some (v, μ)) := by
  intro p l e R s m args below meth c H locs D tc ls r ν hc hP hD hS hl hX
  cases hX
  exact W.lret hc.1 hc.2.1 (hc.2.2.2.2.2.2.1.trans hr) (fun t ht hW => ⟨rfl, by rw [ht]; exact hP, hS.F ht⟩) hS.2.2 d hc.2.2.2.2.2.2.2.1
theorem g_return (d : decode C.2.1 pc = .ok (.return_, 1)) (hr : C.2.2.2.1 = none) : G C ad encV pc L [] μ (some ((), μ)) := by
  intro p l e R s m args below meth c H locs D tc ls r ν hc hP hD hS hl hX
  cases hX
  exact W.vret hc.1 hc.2.1 (hc.2.2.2.2.2.2.1.trans hr) (fun t ht hW => ⟨rfl, by rw [ht]; exact hP, hS.F ht⟩) hS.2.2 d hc.2.2.2.2.2.2.2.1
theorem isB_nar {v : Int32} (h : isB v = true) : narrow .boolean (.int v) = .int v := by
  rcases of_decide_eq_true h with rfl | rfl <;> rfl
theorem g_zreturn {v : Int32} (hb : isB v = true) (d : decode C.2.1 pc = .ok (.ireturn, 1)) (hr : C.2.2.2.1 = some .boolean) : G C ad encI pc L [.int v] μ (some (v, μ)) := by
  intro p l e R s m args below meth c H locs D tc ls r ν hc hP hD hS hl hX
  cases hX
  exact W.zret hc.1 hc.2.1 (hc.2.2.2.2.2.2.1.trans hr) (isB_nar hb) (fun t ht hW => ⟨rfl, by rw [ht]; exact hP, hS.F ht⟩) hS.2.2 d hc.2.2.2.2.2.2.2.1
theorem g_zreturnG {v : Int32} (d : decode C.2.1 pc = .ok (.ireturn, 1)) (hr : C.2.2.2.1 = some .boolean) : G C ad encI pc L [.int v] μ (gd (isB v) (some (v, μ))) := g_gd (fun h => g_zreturn h d hr)
theorem g_tabIn (tgt : Nat) (off : Int) {dflt lo hi : Int} {offs : Array Int} {len : Nat} {x : Int32} (d : decode C.2.1 pc = .ok (.tableswitch dflt lo hi offs, len)) (h : (¬ x.toInt < lo ∧ ¬ hi < x.toInt) ∧ offs[(x.toInt - lo).toNat]? = some off ∧ (pc : Int) + off = (tgt : Int)) (k : G C ad enc tgt L st μ X) : G C ad enc pc L (.int x :: st) μ X := by
  intro p l e R s m args below meth c H locs D tc ls r ν hc hP hD hS hl hX
  exact lv_tableIn hc.1 hc.2.1 d h.1.1 h.1.2 h.2.1 h.2.2 (k p l e R s m args below meth c H locs D tc ls r ν hc hP hD hS hl hX)
theorem g_tabOut (tgt : Nat) {dflt lo hi : Int} {offs : Array Int} {len : Nat} {x : Int32} (d : decode C.2.1 pc = .ok (.tableswitch dflt lo hi offs, len)) (h : x.toInt < lo ∨ hi < x.toInt) (ht : (pc : Int) + dflt = (tgt : Int)) (k : G C ad enc tgt L st μ X) : G C ad enc pc L (.int x :: st) μ X := by
  intro p l e R s m args below meth c H locs D tc ls r ν hc hP hD hS hl hX
  exact lv_tableOut hc.1 hc.2.1 d h ht (k p l e R s m args below meth c H locs D tc ls r ν hc hP hD hS hl hX)
theorem g_look (tgt : Nat) (off : Int) {dflt : Int} {ps : Array (Int × Int)} {len : Nat} {x : Int32} (d : decode C.2.1 pc = .ok (.lookupswitch dflt ps, len)) (hp : (ps.toList.zip (ps.toList.drop 1)).all (fun (a, next) => a.1 < next.1) = true) (ho : Op.lookupswitch.offset ps.toList dflt x.toInt = off) (ht : (pc : Int) + off = (tgt : Int)) (k : G C ad enc tgt L st μ X) : G C ad enc pc L (.int x :: st) μ X := by
  intro p l e R s m args below meth c H locs D tc ls r ν hc hP hD hS hl hX
  exact lv_lookup hc.1 hc.2.1 d hp ho ht (k p l e R s m args below meth c H locs D tc ls r ν hc hP hD hS hl hX)
end GR
end
section
/-! ===== rows over the memory: fields, arrays, calls ===== -/
theorem set1_other {μ : Mem} {a k : Nat} {v : Int32} : ∀ j, j ≠ a → μ.1 j = (setI μ a k v).1 j := fun j h => by simp [setI, h]
theorem set1_other2 {μ : Mem} {a k : Nat} {v : Int32} : ∀ j, j ≠ a → μ.2 j = (setI μ a k v).2 j := fun j h => rfl
theorem set2_other {μ : Mem} {a k : Nat} {v : Int64} : ∀ j, j ≠ a → μ.1 j = (setJ μ a k v).1 j := fun j h => rfl
theorem set2_other2 {μ : Mem} {a k : Nat} {v : Int64} : ∀ j, j ≠ a → μ.2 j = (setJ μ a k v).2 j := fun j h => by simp [setJ, h]
theorem lay_lt {k c n : Nat} (h : lay k = (c, n)) (hc : c ≠ 0 ∨ n ≠ 0) : k < NC := by
  by_cases hk : k < 62
  · exact hk
  · obtain ⟨j, rfl⟩ : ∃ j, k = j + 62 := ⟨k - 62, by omega⟩
    have h1 : lay (j + 62) = (0, 0) := rfl
    rw [h1] at h
    cases h
    simp at hc
theorem ce_int {tc : Nat → ClassId} {ad : Nat → Nat} {μ : Mem} {k n : Nat} (h : lay k = (0, n)) : ce tc ad μ k = .inl (tc 0, n, .inl (μ.1 k)) := by unfold ce; rw [h]
theorem ce_long {tc : Nat → ClassId} {ad : Nat → Nat} {μ : Mem} {k n : Nat} (h : lay k = (1, n)) : ce tc ad μ k = .inl (tc 1, n, .inr (.inl (μ.2 k))) := by unfold ce; rw [h]
theorem ce_out {tc : Nat → ClassId} {ad : Nat → Nat} {μ : Mem} {k n : Nat} (h : lay k = (2, n)) : ce tc ad μ k = .inl (tc 2, n, .inr (.inr (.inr (.inr (fun i => if i < n then some (ad (k + 1 + i)) else none))))) := by unfold ce; rw [h]
theorem ce_obj {tc : Nat → ClassId} {ad : Nat → Nat} {μ : Mem} {k c : Nat} (h : lay k = (c + 3, 0)) : ce tc ad μ k = .inr (c, (List.range (nf c)).map (fv ad μ k c)) := by unfold ce; rw [h]
theorem wl_in {tc : Nat → ClassId} {ad : Nat → Nat} {μ : Mem} {k : Nat} {e : va_E} (h : k < NC) (he : ce tc ad μ k = e) : (wl tc ad μ)[k]? = some (ad k, e) := by rw [wl_at h, he]
theorem fs_at {ad : Nat → Nat} {μ : Mem} {k c f : Nat} (h : f < nf c) : ((List.range (nf c)).map (fv ad μ k c))[f]? = some (fv ad μ k c f) := by simp [h]
theorem ce_objset {tc : Nat → ClassId} {ad : Nat → Nat} {μ : Mem} {k c f : Nat} {v : Int32} (h : lay k = (c + 3, 0)) (hf : f < nf c) (ho : off c f = none) : ce tc ad (setI μ k f v) k = .inr (c, ((List.range (nf c)).map (fv ad μ k c)).set f (.int v)) := by
  rw [ce_obj h]
  congr 2
  apply List.ext_getElem?
  intro i
  by_cases hi : i < nf c
  · rw [fs_at hi, List.getElem?_set]
    by_cases e : f = i
    · subst e
      simp [fv, ho, setI, upd, hi]
    · rw [if_neg e, fs_at hi]
      unfold fv
      cases off c i with
      | some d => rfl
      | none => simp [setI, upd, show ¬ i = f from fun q => e q.symm]
  · rw [List.getElem?_eq_none (by simp; omega), List.getElem?_eq_none (by simp; omega)]
section GM
variable {C : Cfg} {ad : Nat → Nat} {ρ : Type} {enc : ρ → Option Value} {pc : Nat} {L : List (Nat × Value)} {st : List Value} {μ : Mem} {X : Option (ρ × Mem)}
/-- a field of a class, as the table has it -/
def Fo (c : Nat) (R : String) (T : u_T) (N f : Nat) (own : String) (i : Nat) : Prop :=
  cls[c]? = some (R, T, N) ∧ f < N ∧ nf c = N ∧ (∀ w ∈ u_ws R T N, w ∈ TB) ∧ (T f).1 = R ∧ (Cond.fieldLink own i R (T f).2.1 (T f).2.2.1 ∈ TB ∨ ∃ host, Cond.fieldLinkNest own i R (T f).2.1 (T f).2.2.1 host ∈ NT)
theorem g_get {k c f i N : Nat} {R : String} {T : u_T} {v : Value} (hk : lay k = (c + 3, 0)) (F : Fo c R T N f C.1 i) (hv : fv ad μ k c f = v) (d : decode C.2.1 pc = .ok (.getfield i, 3)) (kk : G C ad enc (pc + 3) L (v :: st) μ X) : G C ad enc pc L (.ref (ad k) :: st) μ X := by
  obtain ⟨F1, F2, F3, F4, F5, F6⟩ := F
  intro p l e R' s m args below meth c' H locs D tc ls r ν hc hP hD hS hl hX
  have he := wl_in (tc := tc) (ad := ad) (μ := μ) (lay_lt hk (Or.inl (by omega))) (ce_obj hk)
  have hf : f < nf c := by rw [F3]; exact F2
  rcases F6 with F6 | ⟨host, F6⟩
  · exact va_get hc.1 hc.2.1 hc.2.2.2.2.1 F4 hc.2.2.2.1 hc.2.2.2.2.2.1.1 hP k he F1 f F2 (hc.2.2.2.2.1 _ F6) (fun x h => by rw [F5] at h; exact h) (by rw [fs_at hf, hv]) d (kk p l e R' s m args below meth c' H locs D tc ls r ν hc hP hD hS hl hX)
  · exact va_getN hc.1 hc.2.1 hc.2.2.2.2.1 F4 hc.2.2.2.1 hc.2.2.2.2.2.1.1 hP k he F1 f F2 (va_Nw.use rfl (hc.2.2.2.2.2.1.2 _ F6)) (fun x h => by rw [F5] at h; exact h) (by rw [fs_at hf, hv]) d (kk p l e R' s m args below meth c' H locs D tc ls r ν hc hP hD hS hl hX)
/-- what a put needs of its class -/
def Fp (T : u_T) (N : Nat) (tys : Nat → FieldType) (f : Nat) : Prop :=
  (∀ k, k < N → parseFieldDescriptor (T k).2.2.1 = some (tys k)) ∧ (∀ a, a < N → ∀ b, b < N → a ≠ b → (T a).2.1 ≠ (T b).2.1) ∧ (T f).2.2.2 = false
theorem g_putG {k c f i N : Nat} {R : String} {T : u_T} {v : Int32} {tys : Nat → FieldType} {Z : Mem → Option (ρ × Mem)} (hk : lay k = (c + 3, 0)) (F : Fo c R T N f C.1 i) (F' : Fp T N tys f) (ho : off c f = none) (hn : narrow (tys f) (.int v) = .int v) (hfit : fits (tys f) (.int v) = true) (d : decode C.2.1 pc = .ok (.putfield i, 3)) (kk : ∀ μ', G C ad enc (pc + 3) L st μ' (Z μ')) : G C ad enc pc L (.int v :: .ref (ad k) :: st) μ (bnd (setI μ k f v) Z) := by
  obtain ⟨F1, F2, F3, F4, F5, F6⟩ := F
  intro p l e R' s m args below meth c' H locs D tc ls r ν hc hP hD hS hl hX
  have hlt := lay_lt hk (Or.inl (by omega))
  have he := wl_in (tc := tc) (ad := ad) (μ := μ) hlt (ce_obj hk)
  have hf : f < nf c := by rw [F3]; exact F2
  have hset := wl_set (tc := tc) (ad := ad) (ce_objset (tc := tc) (ad := ad) (μ := μ) (v := v) hk hf ho) set1_other set1_other2
  rcases F6 with F6 | ⟨host, F6⟩
  · refine va_put hc.1 hc.2.1 hc.2.2.2.2.1 F4 tys F'.1 F'.2.1 hc.2.2.2.1 hc.2.2.2.2.2.1.1 hP hD hS k he F1 f F2 (hc.2.2.2.2.1 _ F6) (fun x h => by rw [F5] at h; exact h) F'.2.2 (F'.1 f F2) hn hfit (by simp [hf]) d (fun H1 locs1 hP1 hD1 hS1 => ?_)
    rw [hset] at hP1 hD1
    exact kk _ p l e R' s m args below meth c' H1 locs1 D tc ls r ν hc hP1 hD1 hS1 hl hX
  · refine va_putN hc.1 hc.2.1 hc.2.2.2.2.1 F4 tys F'.1 F'.2.1 hc.2.2.2.1 hc.2.2.2.2.2.1.1 hP hD hS k he F1 f F2 (va_Nw.use rfl (hc.2.2.2.2.2.1.2 _ F6)) (fun x h => by rw [F5] at h; exact h) F'.2.2 (F'.1 f F2) hn hfit (by simp [hf]) d (fun H1 locs1 hP1 hD1 hS1 => ?_)
    rw [hset] at hP1 hD1
    exact kk _ p l e R' s m args below meth c' H1 locs1 D tc ls r ν hc hP1 hD1 hS1 hl hX
theorem g_put {k c f i N : Nat} {R : String} {T : u_T} {v : Int32} {tys : Nat → FieldType} {Z : Mem → Option (ρ × Mem)} (hk : lay k = (c + 3, 0)) (F : Fo c R T N f C.1 i) (F' : Fp T N tys f) (ho : off c f = none) (ht : tys f = .int) (d : decode C.2.1 pc = .ok (.putfield i, 3)) (kk : ∀ μ', G C ad enc (pc + 3) L st μ' (Z μ')) : G C ad enc pc L (.int v :: .ref (ad k) :: st) μ (bnd (setI μ k f v) Z) :=
  g_putG hk F F' ho (by rw [ht]; rfl) (by rw [ht]; rfl) d kk
theorem g_putZ {k c f i N : Nat} {R : String} {T : u_T} {v : Int32} {tys : Nat → FieldType} {Z : Mem → Option (ρ × Mem)} (hb : isB v = true) (hk : lay k = (c + 3, 0)) (F : Fo c R T N f C.1 i) (F' : Fp T N tys f) (ho : off c f = none) (ht : tys f = .boolean) (d : decode C.2.1 pc = .ok (.putfield i, 3)) (kk : ∀ μ', G C ad enc (pc + 3) L st μ' (Z μ')) : G C ad enc pc L (.int v :: .ref (ad k) :: st) μ (bnd (setI μ k f v) Z) :=
  g_putG hk F F' ho (by rw [ht]; exact isB_nar hb) (by rw [ht]; rcases of_decide_eq_true hb with rfl | rfl <;> rfl) d kk
theorem g_putZG {k c f i N : Nat} {R : String} {T : u_T} {v : Int32} {tys : Nat → FieldType} {Z : Mem → Option (ρ × Mem)} (hk : lay k = (c + 3, 0)) (F : Fo c R T N f C.1 i) (F' : Fp T N tys f) (ho : off c f = none) (ht : tys f = .boolean) (d : decode C.2.1 pc = .ok (.putfield i, 3)) (kk : ∀ μ', G C ad enc (pc + 3) L st μ' (Z μ')) : G C ad enc pc L (.int v :: .ref (ad k) :: st) μ (gd (isB v) (bnd (setI μ k f v) Z)) :=
  g_gd (fun h => g_putZ h hk F F' ho ht d kk)
theorem g_iald {k n : Nat} {i : Int32} (hk : lay k = (0, n)) (hn : n ≠ 0) (d : decode C.2.1 pc = .ok (.iaload, 1)) (kk : G C ad enc (pc + 1) L (.int (μ.1 k i.toNatClampNeg) :: st) μ X) : G C ad enc pc L (.int i :: .ref (ad k) :: st) μ (gd (inb i n) X) := g_gd (fun h => by
  intro p l e R' s m args below meth c' H locs D tc ls r ν hc hP hD hS hl hX
  exact va_iald hc.1 hc.2.1 hc.2.2.2.2.2.1.1 hP k 0 (wl_in (lay_lt hk (Or.inr hn)) (ce_int hk)) rfl (inb_in h) d (kk p l e R' s m args below meth c' H locs D tc ls r ν hc hP hD hS hl hX))
theorem g_lald {k n : Nat} {i : Int32} (hk : lay k = (1, n)) (d : decode C.2.1 pc = .ok (.laload, 1)) (kk : G C ad enc (pc + 1) L (.long (μ.2 k i.toNatClampNeg) :: st) μ X) : G C ad enc pc L (.int i :: .ref (ad k) :: st) μ (gd (inb i n) X) := g_gd (fun h => by
  intro p l e R' s m args below meth c' H locs D tc ls r ν hc hP hD hS hl hX
  exact va_lald hc.1 hc.2.1 hc.2.2.2.2.2.1.1 hP k 1 (wl_in (lay_lt hk (Or.inl (by omega))) (ce_long hk)) rfl (inb_in h) d (kk p l e R' s m args below meth c' H locs D tc ls r ν hc hP hD hS hl hX))
theorem g_aald {k n : Nat} {i : Int32} (hk : lay k = (2, n)) (d : decode C.2.1 pc = .ok (.aaload, 1)) (kk : i.toNatClampNeg < n → G C ad enc (pc + 1) L (.ref (ad (k + 1 + i.toNatClampNeg)) :: st) μ X) : G C ad enc pc L (.int i :: .ref (ad k) :: st) μ (gd (inb i n) X) := g_gd (fun h => by
  have hin : vp_in i n := inb_in h
  have hlt : i.toNatClampNeg < n := Nat.not_le.mp fun q => hin (Or.inr q)
  intro p l e R' s m args below meth c' H locs D tc ls r ν hc hP hD hS hl hX
  have he := wl_in (tc := tc) (ad := ad) (μ := μ) (lay_lt hk (Or.inl (by omega))) (ce_out hk)
  refine W.aald (v := .ref (ad (k + 1 + i.toNatClampNeg))) (ty := .array .int) hc.1 hc.2.1 (hP k _ he) ((hc.2.2.2.2.2.1.1.2 2 _ rfl).1 n (fun j => va_rf (if j < n then some (ad (k + 1 + j)) else none))) rfl (fun q => by cases q) (by show ¬ (i < 0 ∨ (arrV _ _ _).slots.size ≤ _); rw [arrV_size]; exact hin) ?_ rfl rfl d (kk hlt p l e R' s m args below meth c' H locs D tc ls r ν hc hP hD hS hl hX)
  show (arrV _ _ _).slots[_]? = _
  rw [arrV_read _ _ hlt]
  simp [va_rf, hlt])
theorem g_alen {k n : Nat} {v : Int32} (hk : lay k = (0, n)) (hn : n ≠ 0) (hv : Int32.ofNat n = v) (d : decode C.2.1 pc = .ok (.arraylength, 1)) (kk : G C ad enc (pc + 1) L (.int v :: st) μ X) : G C ad enc pc L (.ref (ad k) :: st) μ X := by
  intro p l e R' s m args below meth c' H locs D tc ls r ν hc hP hD hS hl hX
  exact va_alen hc.1 hc.2.1 hc.2.2.2.2.2.1.1 hP k 0 (wl_in (lay_lt hk (Or.inr hn)) (ce_int hk)) rfl hv d (kk p l e R' s m args below meth c' H locs D tc ls r ν hc hP hD hS hl hX)
theorem g_iast {k n : Nat} {i v : Int32} {Z : Mem → Option (ρ × Mem)} (hk : lay k = (0, n)) (hn : n ≠ 0) (d : decode C.2.1 pc = .ok (.iastore, 1)) (kk : ∀ μ', G C ad enc (pc + 1) L st μ' (Z μ')) : G C ad enc pc L (.int v :: .int i :: .ref (ad k) :: st) μ (gd (inb i n) (bnd (setI μ k i.toNatClampNeg v) Z)) := g_gd (fun h => by
  intro p l e R' s m args below meth c' H locs D tc ls r ν hc hP hD hS hl hX
  refine va_iast hc.1 hc.2.1 hc.2.2.2.2.2.1.1 hP hD hS k 0 (wl_in (lay_lt hk (Or.inr hn)) (ce_int hk)) rfl (inb_in h) d (fun H1 locs1 hP1 hD1 hS1 => ?_)
  rw [wl_set (ν := setI μ k i.toNatClampNeg v) (by rw [ce_int hk]; simp [setI]) set1_other set1_other2] at hP1 hD1
  exact kk _ p l e R' s m args below meth c' H1 locs1 D tc ls r ν hc hP1 hD1 hS1 hl hX)
theorem g_last {k n : Nat} {i : Int32} {v : Int64} {Z : Mem → Option (ρ × Mem)} (hk : lay k = (1, n)) (d : decode C.2.1 pc = .ok (.lastore, 1)) (kk : ∀ μ', G C ad enc (pc + 1) L st μ' (Z μ')) : G C ad enc pc L (.long v :: .int i :: .ref (ad k) :: st) μ (gd (inb i n) (bnd (setJ μ k i.toNatClampNeg v) Z)) := g_gd (fun h => by
  intro p l e R' s m args below meth c' H locs D tc ls r ν hc hP hD hS hl hX
  refine va_last hc.1 hc.2.1 hc.2.2.2.2.2.1.1 hP hD hS k 1 (wl_in (lay_lt hk (Or.inl (by omega))) (ce_long hk)) rfl (inb_in h) d (fun H1 locs1 hP1 hD1 hS1 => ?_)
  rw [wl_set (ν := setJ μ k i.toNatClampNeg v) (by rw [ce_long hk]; simp [setJ]) set2_other set2_other2] at hP1 hD1
  exact kk _ p l e R' s m args below meth c' H1 locs1 D tc ls r ν hc hP1 hD1 hS1 hl hX)
def cpok (sp dp n : Int32) (N0 N1 : Nat) : Bool := decide (¬ sp < 0 ∧ ¬ dp < 0 ∧ ¬ n < 0 ∧ sp.toNatClampNeg + n.toNatClampNeg ≤ N0 ∧ dp.toNatClampNeg + n.toNatClampNeg ≤ N1)
theorem g_copy {k j n0 n1 i q : Nat} {sp dp n : Int32} {Z : Mem → Option (ρ × Mem)} (hC : C.2.2.2.2 = q + 1) (hk : lay j = (0, n0)) (hn : n0 ≠ 0) (hk1 : lay k = (0, n1)) (hn1 : n1 ≠ 0)
    (hw : Cond.methodLink C.1 i arraycopyName ∈ TB ∧ Cond.native arraycopyName ∈ TB ∧ Cond.static arraycopyName ∈ TB ∧ Cond.initialized "java/lang/System" ∈ TB) (d : decode C.2.1 pc = .ok (.invokestatic i, 3)) (kk : ∀ μ', G C ad enc (pc + 3) L [] μ' (Z μ')) :
    G C ad enc pc L [.int n, .int dp, .ref (ad k), .int sp, .ref (ad j)] μ (gd (cpok sp dp n n0 n1) (bnd (cpyI μ j k sp.toNatClampNeg dp.toNatClampNeg n.toNatClampNeg) Z)) := g_gd (fun h => by
  obtain ⟨h1, h2, h3, h4, h5⟩ := of_decide_eq_true h
  intro p l e R' s m args below meth c' H locs D tc ls r ν hc hP hD hS hl hX
  have hR := hc.2.2.2.2.2.2.2.2.1
  have hfr : 1 ≤ R'.frames := by rw [hR, hC]; simp [rmd]
  have hlo : (([] : List Value).map fun v => v.category).sum + (nativeFrameWords "java/lang/System" "arraycopy" 5 + 11) ≤ R'.locals := by
    have h9 : nativeFrameWords "java/lang/System" "arraycopy" 5 + 11 ≤ 39 := by decide +kernel
    rw [hR, hC]
    simp only [rmd, List.map_nil, List.sum_nil]
    omega
  refine va_copyi hc.1 hc.2.1 (by rw [hc.2.2.1]; exact hl.1.symm) hc.2.2.2.1 (hc.2.2.2.2.1 _ hw.1) (hc.2.2.2.2.1 _ hw.2.1) (hc.2.2.2.2.1 _ hw.2.2.1) (hc.2.2.2.2.1 _ hw.2.2.2) hc.2.2.2.2.2.1.1 hP hD hS j k 0 0 (wl_in (lay_lt hk (Or.inr hn)) (ce_int hk)) (wl_in (lay_lt hk1 (Or.inr hn1)) (ce_int hk1)) rfl rfl rfl h1 h2 h3 h4 h5 (fun _ _ => rfl) hfr hlo d (fun H1 locs1 hP1 hD1 hS1 => ?_)
  rw [wl_set (μ := μ) (ν := cpyI μ j k sp.toNatClampNeg dp.toNatClampNeg n.toNatClampNeg) (by rw [ce_int hk1]; simp [cpyI]) (fun j h => by simp [cpyI, h]) (fun j h => rfl)] at hP1 hD1
  exact kk _ p l e R' s m args below meth c' H1 locs1 D tc ls r ν hc hP1 hD1 hS1 hl hX)
/-- what a call needs of the callee -/
def Mo (y : MethodName) (C' : Cfg) (n : Nat) : Prop := Cond.code y C'.2.1 C'.2.2.1 C'.2.2.2.1 ∈ TB ∧ Cond.initialized y.cls ∈ TB ∧ (y.cls ≠ "java/lang/invoke/MethodHandle" ∧ y.cls ≠ "java/lang/invoke/VarHandle") ∧ (parseMethodDescriptor y.desc).map (fun d => d.parameters.length) = some n
def Mv (y : MethodName) (C' : Cfg) (n : Nat) : Prop := Mo y C' n ∧ Cond.instanceMethod y ∈ TB ∧ Cond.selects y.cls y y ∈ TB
def Ms (y : MethodName) (C' : Cfg) (n : Nat) : Prop := Mo y C' n ∧ Cond.static y ∈ TB
def Ln (own : String) (i : Nat) (y : MethodName) : Prop := Cond.methodLink own i y ∈ TB ∨ ∃ host, Cond.methodLinkNest own i y host ∈ NT
theorem tb_good {y : MethodName} {C' : Cfg} (h : Cond.code y C'.2.1 C'.2.2.1 C'.2.2.2.1 ∈ TB) : GoodIn TB (.code y C'.2.1 C'.2.2.1 C'.2.2.2.1 :: TB) := by
  intro w hw
  rcases List.mem_cons.mp hw with rfl | hw
  · exact ⟨h, good_of_word (List.mem_filter.mp h).2⟩
  · exact ⟨hw, good_of_word (List.mem_filter.mp hw).2⟩
theorem mo_len {y : MethodName} {n : Nat} (h2 : (parseMethodDescriptor y.desc).map (fun d => d.parameters.length) = some n) : ∀ sig, parseMethodDescriptor y.desc = some sig → n = sig.parameters.length := fun sig h => by
  rw [h] at h2
  exact (Option.some.inj h2).symm
theorem blind {D : va_G} {tc : Nat → ClassId} {μ : Mem} {av : List Value} : FrameBlind (va_Pc av (fun U => va_P D cls (wl tc ad μ) U.heap ∧ va_D (A62 ad) (wl tc ad μ) ∧ Ka D tc U ∧ TX (A62 ad) U U.heap)) :=
  fun a U g mk q => ⟨q.1, q.2.1, q.2.2.1, Ka.same (s := U) (U := U.calling g mk a) rfl q.2.2.2.1, TX.same (s := U) (U := U.calling g mk a) q.2.2.2.2 rfl rfl⟩
variable {σ : Type} {enc2 : σ → Option Value}
/-- behind a call -/
theorem g_back {p : Program} {l : Launch} {e : Env} {R : Room} {s : State} {m : MethodId} {args : Array Value} {below : List Frame} {meth : Method} {c : Code} {H : Heap} {locs : List Loc} {D : va_G} {tc : Nat → ClassId} {ls : Array Slot} {r : ρ} {ν ν2 : Mem} {r2 : σ} {st2 : List Value}
    (hc : Cx C D tc ad p R s m args meth c) (hD : va_D (A62 ad) (wl tc ad μ)) (hS : va_S (A62 ad) s.heap H locs) (hl : lv_has ls C.2.2.1 L) (hX : X = some (r, ν)) {a : Array Value} {st1 : List Value}
    (hr : va_Run p l e R s m args below meth c H locs 0 0 0 0 (F0 m pc ls st1) st2 (Qr D tc ad enc2 r2 ν2 a) (A62 ad)) (kk : G C ad enc (pc + 3) L ((enc2 r2).toList ++ st2) ν2 X) :
    W p l e R s m args below meth c H locs 0 0 (MQ below (Qr D tc ad enc r ν) args s 0 0 (A62 ad)) (F0 m pc ls st1) := by
  intro T hT XX
  obtain ⟨v, st₀, t, T', L', h0, X', hL, e1, e2, ⟨hv, hb, hz, hk⟩, stp⟩ := hr T hT XX
  cases hv
  rw [h0] at hz hk
  have hS' : va_S (A62 ad) s.heap T'.heap (locs ++ L') := ⟨Nat.le_trans hS.1 (by rw [e1]; exact hz), fun q h1 h2 => by rw [e1, hk q (Nat.lt_of_lt_of_le h1 hS.1) h2]; exact hS.2.1 q h1 h2, fun q hq => by
      rcases List.mem_append.mp hq with h | h
      · exact hS.2.2 q h
      · exact hL q h⟩
  have hD' : va_D (A62 ad) (wl tc ad ν2) := by
    have key : ∀ (i : Nat) (x : Nat × va_E), (wl tc ad ν2)[i]? = some x → ∃ y, (wl tc ad μ)[i]? = some y ∧ y.1 = x.1 := by
      intro i x hx
      have hi : i < NC := by have := (List.getElem?_eq_some_iff.mp hx).1; rwa [wl_len] at this
      rw [wl_at hi] at hx
      cases hx
      exact ⟨_, wl_at hi, rfl⟩
    refine ⟨fun i j x y hi hj hxy => ?_, fun k q hk => ?_⟩
    · obtain ⟨x0, h1, h2⟩ := key i x hi
      obtain ⟨y0, h3, h4⟩ := key j y hj
      exact hD.1 i j x0 y0 h1 h3 (h2.trans (hxy.trans h4.symm))
    · obtain ⟨q0, h1, h2⟩ := key k q hk
      rw [← h2]
      exact hD.2 k q0 h1
  obtain ⟨t2, a1, b1⟩ := kk p l e R s m args below meth c T'.heap (locs ++ L') D tc ls r ν hc (by rw [e1]; exact hb) hD' hS' hl hX T' rfl X'
  exact ⟨t2, stp t2 a1, b1⟩
theorem g_callV0 {k c f i n N : Nat} {T : u_T} {y : MethodName} {C' : Cfg} {As : List Value} {st1 : List Value} {r2 : σ} {ν2 : Mem} {Y : Option (σ × Mem)} (hk : lay k = (c + 3, 0)) (hcl : cls[c]? = some (y.cls, T, N)) (hM : Mv y C' n) (hL : Ln C.1 i y) (hct : Ct y C' ad enc2 (.ref (ad k) :: As) μ Y) (hY : Y = some (r2, ν2)) (hn : As.length = n) (hdep : C'.2.2.2.2 + 1 ≤ C.2.2.2.2 ∧ C'.2.2.1 ≤ 20) (hst : st1 = As.reverse ++ .ref (ad k) :: st) (hW : (st.map fun v => v.category).sum ≤ 8) (d : decode C.2.1 pc = .ok (.invokevirtual i, 3)) (kk : G C ad enc (pc + 3) L ((enc2 r2).toList ++ st) ν2 X) : G C ad enc pc L st1 μ X := by
  obtain ⟨⟨M1, M2, M3, M4⟩, M5, M6⟩ := hM
  intro p l e R' s m args below meth c' H locs D tc ls r ν hc hP hD hS hl hX
  have hts := hc.2.2.2.2.1
  have hR := hc.2.2.2.2.2.2.2.2.1
  have he := wl_in (tc := tc) (ad := ad) (μ := μ) (lay_lt hk (Or.inl (by omega))) (ce_obj hk)
  have hroom : (rmd C'.2.2.2.2).frames + 1 ≤ R'.frames ∧ 8 + (C'.2.2.1 + 11) + (rmd C'.2.2.2.2).locals ≤ R'.locals := by rw [hR]; simp only [rmd]; omega
  have hpre : PreV s H y.cls (ad k) (va_Pc (.ref (ad k) :: As) (fun U => va_P D cls (wl tc ad μ) U.heap ∧ va_D (A62 ad) (wl tc ad μ) ∧ Ka D tc U ∧ TX (A62 ad) U U.heap)) As := ⟨blind, va_recv hc.2.2.2.2.2.1.1 hP hcl he, fun U hU hW => ⟨rfl, by rw [hU]; exact hP, hD, hc.2.2.2.2.2.1.warm hW, hc.2.2.2.2.2.2.2.2.2.go hS hU hW⟩⟩
  subst hst
  refine g_back hc hD hS hl hX (a := (Value.ref (ad k) :: As).toArray) (st2 := st) ?_ kk
  have hfix : CallFix p m c' C.2.1 C.2.2.1 s args TB C.1 := ⟨hc.1, hc.2.1, hc.2.2.1, hc.2.2.2.1, hts⟩
  rcases hL with hL | ⟨host, hL⟩
  · exact va_runV hfix (hct l D tc r2 ν2 hY) ⟨⟨rfl, rfl, hroom.1, hroom.2, pay_in hts (tb_good M1), List.mem_cons_self, hts _ M1, hts _ M2, M3, mo_len M4, hts _ hL⟩, hts _ M5, hts _ M6⟩ hpre rfl hn hl.1 rfl (lv_room hW) d ⟨Nat.zero_le _, Nat.zero_le _⟩
  · exact va_runVN hfix (hct l D tc r2 ν2 hY) ⟨⟨⟨rfl, rfl, hroom.1, hroom.2, pay_in hts (tb_good M1), List.mem_cons_self⟩, hts _ M1, hts _ M2, M3, mo_len M4, va_Nw.use rfl (hc.2.2.2.2.2.1.2 _ hL)⟩, hts _ M5, hts _ M6⟩ hpre rfl hn hl.1 rfl (lv_room hW) d ⟨Nat.zero_le _, Nat.zero_le _⟩
theorem g_callS0 {i n : Nat} {y : MethodName} {C' : Cfg} {As : List Value} {st1 : List Value} {r2 : σ} {ν2 : Mem} {Y : Option (σ × Mem)} (hM : Ms y C' n) (hL : Ln C.1 i y) (hct : Ct y C' ad enc2 As μ Y) (hY : Y = some (r2, ν2)) (hn : As.length = n) (hdep : C'.2.2.2.2 + 1 ≤ C.2.2.2.2 ∧ C'.2.2.1 ≤ 20) (hst : st1 = As.reverse ++ st) (hW : (st.map fun v => v.category).sum ≤ 8) (d : decode C.2.1 pc = .ok (.invokestatic i, 3)) (kk : G C ad enc (pc + 3) L ((enc2 r2).toList ++ st) ν2 X) : G C ad enc pc L st1 μ X := by
  obtain ⟨⟨M1, M2, M3, M4⟩, M5⟩ := hM
  intro p l e R' s m args below meth c' H locs D tc ls r ν hc hP hD hS hl hX
  have hts := hc.2.2.2.2.1
  have hR := hc.2.2.2.2.2.2.2.2.1
  have hroom : (rmd C'.2.2.2.2).frames + 1 ≤ R'.frames ∧ 8 + (C'.2.2.1 + 11) + (rmd C'.2.2.2.2).locals ≤ R'.locals := by rw [hR]; simp only [rmd]; omega
  have hpre : PreS s H (va_Pc As (fun U => va_P D cls (wl tc ad μ) U.heap ∧ va_D (A62 ad) (wl tc ad μ) ∧ Ka D tc U ∧ TX (A62 ad) U U.heap)) As := ⟨blind, fun U hU hW => ⟨rfl, by rw [hU]; exact hP, hD, hc.2.2.2.2.2.1.warm hW, hc.2.2.2.2.2.2.2.2.2.go hS hU hW⟩⟩
  subst hst
  refine g_back hc hD hS hl hX (a := As.toArray) (st2 := st) ?_ kk
  have hfix : CallFix p m c' C.2.1 C.2.2.1 s args TB C.1 := ⟨hc.1, hc.2.1, hc.2.2.1, hc.2.2.2.1, hts⟩
  rcases hL with hL | ⟨host, hL⟩
  · exact va_runS hfix (hct l D tc r2 ν2 hY) ⟨⟨rfl, rfl, hroom.1, hroom.2, pay_in hts (tb_good M1), List.mem_cons_self, hts _ M1, hts _ M2, M3, mo_len M4, hts _ hL⟩, hts _ M5⟩ hpre rfl hn hl.1 rfl (lv_room hW) d ⟨Nat.zero_le _, Nat.zero_le _⟩
  · exact va_runSN hfix (hct l D tc r2 ν2 hY) ⟨⟨⟨rfl, rfl, hroom.1, hroom.2, pay_in hts (tb_good M1), List.mem_cons_self⟩, hts _ M1, hts _ M2, M3, mo_len M4, va_Nw.use rfl (hc.2.2.2.2.2.1.2 _ hL)⟩, hts _ M5, trivial⟩ hpre rfl hn hl.1 rfl (lv_room hW) d ⟨Nat.zero_le _, Nat.zero_le _⟩
theorem g_bd {Y : Option (σ × Mem)} {Z : σ → Mem → Option (ρ × Mem)} (h : ∀ r2 ν2, Y = some (r2, ν2) → G C ad enc pc L st μ (Z r2 ν2)) : G C ad enc pc L st μ (bd Y Z) := by
  cases Y with
  | none => exact g_none
  | some q => exact h q.1 q.2 rfl
theorem g_cVI {k c i n N : Nat} {T : u_T} {y : MethodName} {C' : Cfg} {st1 : List Value} {Y : Option (Int32 × Mem)} {Z : Int32 → Mem → Option (ρ × Mem)} (As : List Value) (hk : lay k = (c + 3, 0)) (hcl : cls[c]? = some (y.cls, T, N)) (hM : Mv y C' n) (hL : Ln C.1 i y) (hct : Ct y C' ad encI (.ref (ad k) :: As) μ Y) (hn : As.length = n) (hdep : C'.2.2.2.2 + 1 ≤ C.2.2.2.2 ∧ C'.2.2.1 ≤ 20) (hst : st1 = As.reverse ++ .ref (ad k) :: st) (hW : (st.map fun v => v.category).sum ≤ 8) (d : decode C.2.1 pc = .ok (.invokevirtual i, 3)) (kk : ∀ r2 ν2, G C ad enc (pc + 3) L (.int r2 :: st) ν2 (Z r2 ν2)) : G C ad enc pc L st1 μ (bd Y Z) :=
  g_bd (fun r2 ν2 h => g_callV0 (f := 0) hk hcl hM hL hct h hn hdep hst hW d (kk r2 ν2))
theorem g_cVJ {k c i n N : Nat} {T : u_T} {y : MethodName} {C' : Cfg} {st1 : List Value} {Y : Option (Int64 × Mem)} {Z : Int64 → Mem → Option (ρ × Mem)} (As : List Value) (hk : lay k = (c + 3, 0)) (hcl : cls[c]? = some (y.cls, T, N)) (hM : Mv y C' n) (hL : Ln C.1 i y) (hct : Ct y C' ad encJ (.ref (ad k) :: As) μ Y) (hn : As.length = n) (hdep : C'.2.2.2.2 + 1 ≤ C.2.2.2.2 ∧ C'.2.2.1 ≤ 20) (hst : st1 = As.reverse ++ .ref (ad k) :: st) (hW : (st.map fun v => v.category).sum ≤ 8) (d : decode C.2.1 pc = .ok (.invokevirtual i, 3)) (kk : ∀ r2 ν2, G C ad enc (pc + 3) L (.long r2 :: st) ν2 (Z r2 ν2)) : G C ad enc pc L st1 μ (bd Y Z) :=
  g_bd (fun r2 ν2 h => g_callV0 (f := 0) hk hcl hM hL hct h hn hdep hst hW d (kk r2 ν2))
theorem g_cVV {k c i n N : Nat} {T : u_T} {y : MethodName} {C' : Cfg} {st1 : List Value} {Y : Option (Unit × Mem)} {Z : Unit → Mem → Option (ρ × Mem)} (As : List Value) (hk : lay k = (c + 3, 0)) (hcl : cls[c]? = some (y.cls, T, N)) (hM : Mv y C' n) (hL : Ln C.1 i y) (hct : Ct y C' ad encV (.ref (ad k) :: As) μ Y) (hn : As.length = n) (hdep : C'.2.2.2.2 + 1 ≤ C.2.2.2.2 ∧ C'.2.2.1 ≤ 20) (hst : st1 = As.reverse ++ .ref (ad k) :: st) (hW : (st.map fun v => v.category).sum ≤ 8) (d : decode C.2.1 pc = .ok (.invokevirtual i, 3)) (kk : ∀ r2 ν2, G C ad enc (pc + 3) L st ν2 (Z r2 ν2)) : G C ad enc pc L st1 μ (bd Y Z) :=
  g_bd (fun r2 ν2 h => g_callV0 (f := 0) hk hcl hM hL hct h hn hdep hst hW d (kk r2 ν2))
theorem g_cSI {i n : Nat} {y : MethodName} {C' : Cfg} {st1 : List Value} {Y : Option (Int32 × Mem)} {Z : Int32 → Mem → Option (ρ × Mem)} (As : List Value) (hM : Ms y C' n) (hL : Ln C.1 i y) (hct : Ct y C' ad encI As μ Y) (hn : As.length = n) (hdep : C'.2.2.2.2 + 1 ≤ C.2.2.2.2 ∧ C'.2.2.1 ≤ 20) (hst : st1 = As.reverse ++ st) (hW : (st.map fun v => v.category).sum ≤ 8) (d : decode C.2.1 pc = .ok (.invokestatic i, 3)) (kk : ∀ r2 ν2, G C ad enc (pc + 3) L (.int r2 :: st) ν2 (Z r2 ν2)) : G C ad enc pc L st1 μ (bd Y Z) :=
  g_bd (fun r2 ν2 h => g_callS0 hM hL hct h hn hdep hst hW d (kk r2 ν2))
theorem g_cSJ {i n : Nat} {y : MethodName} {C' : Cfg} {st1 : List Value} {Y : Option (Int64 × Mem)} {Z : Int64 → Mem → Option (ρ × Mem)} (As : List Value) (hM : Ms y C' n) (hL : Ln C.1 i y) (hct : Ct y C' ad encJ As μ Y) (hn : As.length = n) (hdep : C'.2.2.2.2 + 1 ≤ C.2.2.2.2 ∧ C'.2.2.1 ≤ 20) (hst : st1 = As.reverse ++ st) (hW : (st.map fun v => v.category).sum ≤ 8) (d : decode C.2.1 pc = .ok (.invokestatic i, 3)) (kk : ∀ r2 ν2, G C ad enc (pc + 3) L (.long r2 :: st) ν2 (Z r2 ν2)) : G C ad enc pc L st1 μ (bd Y Z) :=
  g_bd (fun r2 ν2 h => g_callS0 hM hL hct h hn hdep hst hW d (kk r2 ν2))
end GM
end
section
/-! ===== more rows ===== -/
def jrem (x y : Int32) : Int32 := x - x / y * y
def jremL (x y : Int64) : Int64 := x - x / y * y
def jshl (x y : Int32) : Int32 := x <<< (y &&& 31)
def jshr (x y : Int32) : Int32 := x >>> (y &&& 31)
def jushr (x y : Int32) : Int32 := (x.toUInt32 >>> (y.toUInt32 &&& Int32.toUInt32 31)).toInt32
def jlshl (x : Int64) (y : Int32) : Int64 := x <<< (y.toInt64 &&& 63)
def nz (y : Int32) : Bool := decide (¬ y = 0)
def nzL (y : Int64) : Bool := decide (¬ y = 0)
def St (k : Nat) : Prop := k = 2 ∨ k = 14 ∨ k = 26
theorem sT2 : St 2 := Or.inl rfl
theorem sT14 : St 14 := Or.inr (Or.inl rfl)
theorem sT26 : St 26 := Or.inr (Or.inr rfl)
theorem st_o {k : Nat} (h : St k) : lay k = (6, 0) := by rcases h with rfl | rfl | rfl <;> rfl
theorem st_1 {k : Nat} (h : St k) : lay (k + 1) = (0, 8) := by rcases h with rfl | rfl | rfl <;> rfl
theorem st_2 {k : Nat} (h : St k) : lay (k + 2) = (0, 8) := by rcases h with rfl | rfl | rfl <;> rfl
theorem st_3 {k : Nat} (h : St k) : lay (k + 3) = (2, 8) := by rcases h with rfl | rfl | rfl <;> rfl
theorem st_i {k i : Nat} (h : St k) (hi : i < 8) : lay (k + 3 + 1 + i) = (0, 10) := by
  have key : ∀ a, a < 8 → lay (2 + 3 + 1 + a) = (0, 10) ∧ lay (14 + 3 + 1 + a) = (0, 10) ∧ lay (26 + 3 + 1 + a) = (0, 10) := by decide +kernel
  rcases h with rfl | rfl | rfl
  · exact (key i hi).1
  · exact (key i hi).2.1
  · exact (key i hi).2.2
def allne : List Int32 → Int32 → Prop
  | [], _ => True
  | v :: vs, x => ¬ x = v ∧ allne vs x
def tcov (vs : List Int32) (lo hi : Int) (offs : Array Int) (dflt : Int) : Bool := (List.range (hi - lo + 1).toNat).all (fun i => vs.any (fun v => v.toInt == lo + i) || decide (offs[i]? = some dflt))
theorem allne_any {vs : List Int32} {x : Int32} (h : allne vs x) : vs.any (fun v => v.toInt == x.toInt) = false := by
  induction vs with
  | nil => rfl
  | cons v vs ih =>
    rw [List.any_cons, ih h.2, Bool.or_false]
    apply Bool.eq_false_iff.mpr
    intro q
    exact h.1 (Int32.toInt_inj.mp (by simpa using q)).symm
section GX
variable {C : Cfg} {ad : Nat → Nat} {ρ : Type} {enc : ρ → Option Value} {pc : Nat} {L : List (Nat × Value)} {st : List Value} {μ : Mem} {X : Option (ρ × Mem)}
theorem g_ishl' {x y : Int32} (d : decode C.2.1 pc = .ok (.ishl, 1)) (k : G C ad enc (pc + 1) L (.int (jshl x y) :: st) μ X) : G C ad enc pc L (.int y :: .int x :: st) μ X := g_ishl d k
theorem g_ishr' {x y : Int32} (d : decode C.2.1 pc = .ok (.ishr, 1)) (k : G C ad enc (pc + 1) L (.int (jshr x y) :: st) μ X) : G C ad enc pc L (.int y :: .int x :: st) μ X := g_ishr d k
theorem g_iushr' {x y : Int32} (d : decode C.2.1 pc = .ok (.iushr, 1)) (k : G C ad enc (pc + 1) L (.int (jushr x y) :: st) μ X) : G C ad enc pc L (.int y :: .int x :: st) μ X := g_iushr d k
theorem g_lshl' {x : Int64} {y : Int32} (d : decode C.2.1 pc = .ok (.lshl, 1)) (k : G C ad enc (pc + 1) L (.long (jlshl x y) :: st) μ X) : G C ad enc pc L (.int y :: .long x :: st) μ X := g_lshl d k
theorem g_irem' {x y : Int32} (d : decode C.2.1 pc = .ok (.irem, 1)) (h0 : ¬ y = 0) (k : G C ad enc (pc + 1) L (.int (jrem x y) :: st) μ X) : G C ad enc pc L (.int y :: .int x :: st) μ X := g_irem d h0 k
theorem g_lrem' {x y : Int64} (d : decode C.2.1 pc = .ok (.lrem, 1)) (h0 : ¬ y = 0) (k : G C ad enc (pc + 1) L (.long (jremL x y) :: st) μ X) : G C ad enc pc L (.long y :: .long x :: st) μ X := g_lrem d h0 k
theorem g_iremG {x y : Int32} (d : decode C.2.1 pc = .ok (.irem, 1)) (k : G C ad enc (pc + 1) L (.int (jrem x y) :: st) μ X) : G C ad enc pc L (.int y :: .int x :: st) μ (gd (nz y) X) := g_gd (fun h => g_irem' d (of_decide_eq_true h) k)
theorem g_lremG {x y : Int64} (d : decode C.2.1 pc = .ok (.lrem, 1)) (k : G C ad enc (pc + 1) L (.long (jremL x y) :: st) μ X) : G C ad enc pc L (.long y :: .long x :: st) μ (gd (nzL y) X) := g_gd (fun h => g_lrem' d (of_decide_eq_true h) k)
theorem g_idivG {x y : Int32} (d : decode C.2.1 pc = .ok (.idiv, 1)) (k : G C ad enc (pc + 1) L (.int (x / y) :: st) μ X) : G C ad enc pc L (.int y :: .int x :: st) μ (gd (nz y) X) := g_gd (fun h => g_idiv d (of_decide_eq_true h) k)
theorem g_ldivG {x y : Int64} (d : decode C.2.1 pc = .ok (.ldiv, 1)) (k : G C ad enc (pc + 1) L (.long (x / y) :: st) μ X) : G C ad enc pc L (.long y :: .long x :: st) μ (gd (nzL y) X) := g_gd (fun h => g_ldiv d (of_decide_eq_true h) k)
theorem g_join {α : Type} {f : α} {Z : α → Option (ρ × Mem)} (R : α → Prop) (h1 : R f) (h2 : ∀ kb, R kb → G C ad enc pc L st μ (Z kb)) : G C ad enc pc L st μ (bnd f Z) := h2 f h1
theorem g_swx {x : Int32} {Z : Int32 → Option (ρ × Mem)} (h : ∀ z, G C ad enc pc L (.int z :: st) μ (Z z)) : G C ad enc pc L (.int x :: st) μ (bnd x Z) := h x
theorem g_tabD (tgt : Nat) {dflt lo hi : Int} {offs : Array Int} {len : Nat} {x : Int32} (d : decode C.2.1 pc = .ok (.tableswitch dflt lo hi offs, len)) (vs : List Int32) (hc : tcov vs lo hi offs dflt = true) (hne : allne vs x) (ht : (pc : Int) + dflt = (tgt : Int)) (k : G C ad enc tgt L st μ X) : G C ad enc pc L (.int x :: st) μ X := by
  by_cases h : x.toInt < lo ∨ hi < x.toInt
  · exact g_tabOut tgt d h ht k
  · refine g_tabIn tgt dflt d ⟨⟨fun q => h (Or.inl q), fun q => h (Or.inr q)⟩, ?_, ht⟩ k
    have h1 : ¬ x.toInt < lo := fun q => h (Or.inl q)
    have h2 : ¬ hi < x.toInt := fun q => h (Or.inr q)
    have h3 := List.all_eq_true.mp hc (x.toInt - lo).toNat (List.mem_range.mpr (by omega))
    rw [show lo + ((x.toInt - lo).toNat : Int) = x.toInt by omega, allne_any hne, Bool.false_or] at h3
    exact of_decide_eq_true h3
theorem look_def2 {a b oa ob dflt : Int} {x : Int32} {va vb : Int32} (ha : va.toInt = a) (hb : vb.toInt = b) (h1 : ¬ x = va) (h2 : ¬ x = vb) : Op.lookupswitch.offset [(a, oa), (b, ob)] dflt x.toInt = dflt := by
  have e1 : ¬ a = x.toInt := fun q => h1 (Int32.toInt_inj.mp (ha.trans q)).symm
  have e2 : ¬ b = x.toInt := fun q => h2 (Int32.toInt_inj.mp (hb.trans q)).symm
  simp [Op.lookupswitch.offset, e1, e2, Ne.symm e1, Ne.symm e2]
end GX
end
section
-- StopsByLetters$Stations.vowelsOf(I)I
abbrev kX3_vowelsOf : Cfg := (RX3, cX3_vowelsOf, 4, (some .int), 0)
theorem dX3_vowelsOf_0 : decode cX3_vowelsOf 0 = .ok (.iconst 0, 1) := by decide +kernel
theorem dX3_vowelsOf_1 : decode cX3_vowelsOf 1 = .ok (.istore_n 2, 1) := by decide +kernel
theorem dX3_vowelsOf_2 : decode cX3_vowelsOf 2 = .ok (.iconst 0, 1) := by decide +kernel
theorem dX3_vowelsOf_3 : decode cX3_vowelsOf 3 = .ok (.istore_n 3, 1) := by decide +kernel
theorem dX3_vowelsOf_4 : decode cX3_vowelsOf 4 = .ok (.iload_n 3, 1) := by decide +kernel
theorem dX3_vowelsOf_5 : decode cX3_vowelsOf 5 = .ok (.aload_n 0, 1) := by decide +kernel
theorem dX3_vowelsOf_6 : decode cX3_vowelsOf 6 = .ok (.getfield 15, 3) := by decide +kernel
theorem dX3_vowelsOf_9 : decode cX3_vowelsOf 9 = .ok (.iload_n 1, 1) := by decide +kernel
theorem dX3_vowelsOf_10 : decode cX3_vowelsOf 10 = .ok (.iaload, 1) := by decide +kernel
theorem dX3_vowelsOf_11 : decode cX3_vowelsOf 11 = .ok (.if_icmp .ge 25, 3) := by decide +kernel
theorem dX3_vowelsOf_14 : decode cX3_vowelsOf 14 = .ok (.iload_n 2, 1) := by decide +kernel
theorem dX3_vowelsOf_15 : decode cX3_vowelsOf 15 = .ok (.ldc 72, 2) := by decide +kernel
theorem dX3_vowelsOf_17 : decode cX3_vowelsOf 17 = .ok (.aload_n 0, 1) := by decide +kernel
theorem dX3_vowelsOf_18 : decode cX3_vowelsOf 18 = .ok (.getfield 20, 3) := by decide +kernel
theorem dX3_vowelsOf_21 : decode cX3_vowelsOf 21 = .ok (.iload_n 1, 1) := by decide +kernel
theorem dX3_vowelsOf_22 : decode cX3_vowelsOf 22 = .ok (.aaload, 1) := by decide +kernel
theorem dX3_vowelsOf_23 : decode cX3_vowelsOf 23 = .ok (.iload_n 3, 1) := by decide +kernel
theorem dX3_vowelsOf_24 : decode cX3_vowelsOf 24 = .ok (.iaload, 1) := by decide +kernel
theorem dX3_vowelsOf_25 : decode cX3_vowelsOf 25 = .ok (.ishr, 1) := by decide +kernel
theorem dX3_vowelsOf_26 : decode cX3_vowelsOf 26 = .ok (.iconst 1, 1) := by decide +kernel
theorem dX3_vowelsOf_27 : decode cX3_vowelsOf 27 = .ok (.iand, 1) := by decide +kernel
theorem dX3_vowelsOf_28 : decode cX3_vowelsOf 28 = .ok (.iadd, 1) := by decide +kernel
theorem dX3_vowelsOf_29 : decode cX3_vowelsOf 29 = .ok (.istore_n 2, 1) := by decide +kernel
theorem dX3_vowelsOf_30 : decode cX3_vowelsOf 30 = .ok (.iinc 3 1, 3) := by decide +kernel
theorem dX3_vowelsOf_33 : decode cX3_vowelsOf 33 = .ok (.goto (-29), 3) := by decide +kernel
theorem dX3_vowelsOf_36 : decode cX3_vowelsOf 36 = .ok (.iload_n 2, 1) := by decide +kernel
theorem dX3_vowelsOf_37 : decode cX3_vowelsOf 37 = .ok (.ireturn, 1) := by decide +kernel
theorem foX3_15 : Fo 3 RX3 TX3 5 1 RX3 15 := ⟨rfl, by decide, rfl, uwX3, rfl, Or.inl (tb_in 119 (by decide +kernel) rfl)⟩
theorem cwX3_72 : Cond.constant RX3 72 (1065233 : Int32) ∈ TB := tb_in 392 (by decide +kernel) rfl
theorem foX3_20 : Fo 3 RX3 TX3 5 2 RX3 20 := ⟨rfl, by decide, rfl, uwX3, rfl, Or.inl (tb_in 121 (by decide +kernel) rfl)⟩
def fX3_vowelsOf_L4 (n : Nat) (k0 : Nat) (v1 : Int32) : Nat → Int32 → Int32 → Mem → Option (Int32 × Mem)
  | 0, _, _, _ => none
  | F + 1, v2, v3, μ => gd (inb v1 8) (if (μ.1 (k0 + 2) (Int32.toNatClampNeg v1)) ≤ v3 then some (v2, μ) else gd (inb v1 8) (gd (inb v3 10) (bnd (v2 + ((jshr 1065233 (μ.1 ((k0 + 3) + 1 + (Int32.toNatClampNeg v1)) (Int32.toNatClampNeg v3))) &&& 1)) (fun x2 => bnd (v3 + 1) (fun x3 => fX3_vowelsOf_L4 n k0 v1 F x2 x3 μ)))))
def fX3_vowelsOf (n : Nat) (k0 : Nat) (a1 : Int32) (μ : Mem) : Option (Int32 × Mem) :=
  fX3_vowelsOf_L4 n k0 a1 n 0 0 μ
set_option maxHeartbeats 4000000 in
set_option maxRecDepth 100000 in
theorem wX3_vowelsOf_L4 (ad : Nat → Nat) (n : Nat) (k0 : Nat) (h0 : St k0) (v1 : Int32) : ∀ (F : Nat) (v2 : Int32) (v3 : Int32) (μ : Mem), G kX3_vowelsOf ad encI 4 [(0, .ref (ad k0)), (1, .int v1), (2, .int v2), (3, .int v3)] [] μ (fX3_vowelsOf_L4 n k0 v1 F v2 v3 μ) := by
  intro F
  induction F with
  | zero =>
    intro v2 v3 μ
    exact g_none
  | succ F ih =>
    intro v2 v3 μ
    rw [fX3_vowelsOf_L4]
    refine g_iload_n (pc := 4) 3 dX3_vowelsOf_4 rfl rfl ?_
    refine g_aload_n (pc := 5) 0 dX3_vowelsOf_5 rfl rfl ?_
    refine g_get (pc := 6) (st_o h0) foX3_15 (v := .ref (ad (k0 + 2))) rfl dX3_vowelsOf_6 ?_
    refine g_iload_n (pc := 9) 1 dX3_vowelsOf_9 rfl rfl ?_
    refine g_iald (pc := 10) (st_2 h0) (by decide) dX3_vowelsOf_10 ?_
    refine g_icmp_ge (pc := 11) 36 dX3_vowelsOf_11 rfl ?_ ?_
    · refine g_iload_n (pc := 36) 2 dX3_vowelsOf_36 rfl rfl ?_
      exact g_ireturn (pc := 37) dX3_vowelsOf_37 rfl
    · refine g_iload_n (pc := 14) 2 dX3_vowelsOf_14 rfl rfl ?_
      refine g_ldc (pc := 15) dX3_vowelsOf_15 cwX3_72 ?_
      refine g_aload_n (pc := 17) 0 dX3_vowelsOf_17 rfl rfl ?_
      refine g_get (pc := 18) (st_o h0) foX3_20 (v := .ref (ad (k0 + 3))) rfl dX3_vowelsOf_18 ?_
      refine g_iload_n (pc := 21) 1 dX3_vowelsOf_21 rfl rfl ?_
      refine g_aald (pc := 22) (st_3 h0) dX3_vowelsOf_22 (fun hi1 => ?_)
      refine g_iload_n (pc := 23) 3 dX3_vowelsOf_23 rfl rfl ?_
      refine g_iald (pc := 24) (st_i h0 hi1) (by decide) dX3_vowelsOf_24 ?_
      refine g_ishr' (pc := 25) dX3_vowelsOf_25 ?_
      refine g_iconst (pc := 26) 1 dX3_vowelsOf_26 (by decide) ?_
      refine g_iand (pc := 27) dX3_vowelsOf_27 ?_
      refine g_iadd (pc := 28) dX3_vowelsOf_28 ?_
      refine g_istore_nB (pc := 29) (fun x2 => [(2, .int x2), (0, .ref (ad k0)), (1, .int v1), (3, .int v3)]) dX3_vowelsOf_29 rfl (by decide) (fun _ => rfl) (fun x2 => ?_)
      refine g_iincB (pc := 30) 3 1 1 (fun x3 => [(3, .int x3), (2, .int x2), (0, .ref (ad k0)), (1, .int v1)]) dX3_vowelsOf_30 rfl (by decide) (by decide) (fun _ => rfl) (fun x3 => ?_)
      refine g_goto (pc := 33) 4 dX3_vowelsOf_33 rfl ?_
      exact g_sub [2, 3, 1, 0] rfl (ih x2 x3 μ)
set_option maxHeartbeats 4000000 in
set_option maxRecDepth 100000 in
theorem ctX3_vowelsOf (ad : Nat → Nat) (n : Nat) (k0 : Nat) (h0 : St k0) (a1 : Int32) (μ : Mem) : Ct yX3_vowelsOf kX3_vowelsOf ad encI [.ref (ad k0), .int a1] μ (fX3_vowelsOf n k0 a1 μ) := Ct.of (by decide +kernel) rfl (Nat.le_of_ble_eq_true rfl) (by
  show G kX3_vowelsOf ad encI 0 [(0, .ref (ad k0)), (1, .int a1)] [] μ (fX3_vowelsOf n k0 a1 μ)
  unfold fX3_vowelsOf
  refine g_iconst (pc := 0) 0 dX3_vowelsOf_0 (by decide) ?_
  refine g_istore_n (pc := 1) [(2, .int 0), (0, .ref (ad k0)), (1, .int a1)] dX3_vowelsOf_1 rfl (by decide) rfl ?_
  refine g_iconst (pc := 2) 0 dX3_vowelsOf_2 (by decide) ?_
  refine g_istore_n (pc := 3) [(3, .int 0), (2, .int 0), (0, .ref (ad k0)), (1, .int a1)] dX3_vowelsOf_3 rfl (by decide) rfl ?_
  exact g_sub [2, 3, 1, 0] rfl (wX3_vowelsOf_L4 ad n k0 h0 a1 n 0 0 μ))
-- StopsByLetters$Stations.lastLetterOf(I)I
abbrev kX3_lastLetterOf : Cfg := (RX3, cX3_lastLetterOf, 3, (some .int), 0)
theorem dX3_lastLetterOf_0 : decode cX3_lastLetterOf 0 = .ok (.aload_n 0, 1) := by decide +kernel
theorem dX3_lastLetterOf_1 : decode cX3_lastLetterOf 1 = .ok (.getfield 15, 3) := by decide +kernel
theorem dX3_lastLetterOf_4 : decode cX3_lastLetterOf 4 = .ok (.iload_n 1, 1) := by decide +kernel
theorem dX3_lastLetterOf_5 : decode cX3_lastLetterOf 5 = .ok (.iaload, 1) := by decide +kernel
theorem dX3_lastLetterOf_6 : decode cX3_lastLetterOf 6 = .ok (.istore_n 2, 1) := by decide +kernel
theorem dX3_lastLetterOf_7 : decode cX3_lastLetterOf 7 = .ok (.iload_n 2, 1) := by decide +kernel
theorem dX3_lastLetterOf_8 : decode cX3_lastLetterOf 8 = .ok (.ifCond .le 16, 3) := by decide +kernel
theorem dX3_lastLetterOf_11 : decode cX3_lastLetterOf 11 = .ok (.aload_n 0, 1) := by decide +kernel
theorem dX3_lastLetterOf_12 : decode cX3_lastLetterOf 12 = .ok (.getfield 20, 3) := by decide +kernel
theorem dX3_lastLetterOf_15 : decode cX3_lastLetterOf 15 = .ok (.iload_n 1, 1) := by decide +kernel
theorem dX3_lastLetterOf_16 : decode cX3_lastLetterOf 16 = .ok (.aaload, 1) := by decide +kernel
theorem dX3_lastLetterOf_17 : decode cX3_lastLetterOf 17 = .ok (.iload_n 2, 1) := by decide +kernel
theorem dX3_lastLetterOf_18 : decode cX3_lastLetterOf 18 = .ok (.iconst 1, 1) := by decide +kernel
theorem dX3_lastLetterOf_19 : decode cX3_lastLetterOf 19 = .ok (.isub, 1) := by decide +kernel
theorem dX3_lastLetterOf_20 : decode cX3_lastLetterOf 20 = .ok (.iaload, 1) := by decide +kernel
theorem dX3_lastLetterOf_21 : decode cX3_lastLetterOf 21 = .ok (.goto 4, 3) := by decide +kernel
theorem dX3_lastLetterOf_24 : decode cX3_lastLetterOf 24 = .ok (.iconst 0, 1) := by decide +kernel
theorem dX3_lastLetterOf_25 : decode cX3_lastLetterOf 25 = .ok (.ireturn, 1) := by decide +kernel
def fX3_lastLetterOf (n : Nat) (k0 : Nat) (a1 : Int32) (μ : Mem) : Option (Int32 × Mem) :=
  gd (inb a1 8) (bnd (μ.1 (k0 + 2) (Int32.toNatClampNeg a1)) (fun x1 => if x1 ≤ 0 then some (0, μ) else gd (inb a1 8) (gd (inb (x1 - 1) 10) (some ((μ.1 ((k0 + 3) + 1 + (Int32.toNatClampNeg a1)) (Int32.toNatClampNeg (x1 - 1))), μ)))))
set_option maxHeartbeats 4000000 in
set_option maxRecDepth 100000 in
theorem ctX3_lastLetterOf (ad : Nat → Nat) (n : Nat) (k0 : Nat) (h0 : St k0) (a1 : Int32) (μ : Mem) : Ct yX3_lastLetterOf kX3_lastLetterOf ad encI [.ref (ad k0), .int a1] μ (fX3_lastLetterOf n k0 a1 μ) := Ct.of (by decide +kernel) rfl (Nat.le_of_ble_eq_true rfl) (by
  show G kX3_lastLetterOf ad encI 0 [(0, .ref (ad k0)), (1, .int a1)] [] μ (fX3_lastLetterOf n k0 a1 μ)
  unfold fX3_lastLetterOf
  refine g_aload_n (pc := 0) 0 dX3_lastLetterOf_0 rfl rfl ?_
  refine g_get (pc := 1) (st_o h0) foX3_15 (v := .ref (ad (k0 + 2))) rfl dX3_lastLetterOf_1 ?_
  refine g_iload_n (pc := 4) 1 dX3_lastLetterOf_4 rfl rfl ?_
  refine g_iald (pc := 5) (st_2 h0) (by decide) dX3_lastLetterOf_5 ?_
  refine g_istore_nB (pc := 6) (fun x1 => [(2, .int x1), (0, .ref (ad k0)), (1, .int a1)]) dX3_lastLetterOf_6 rfl (by decide) (fun _ => rfl) (fun x1 => ?_)
  refine g_iload_n (pc := 7) 0 dX3_lastLetterOf_7 rfl rfl ?_
  refine g_if_le (pc := 8) 24 dX3_lastLetterOf_8 rfl ?_ ?_
  · refine g_iconst (pc := 24) 0 dX3_lastLetterOf_24 (by decide) ?_
    exact g_ireturn (pc := 25) dX3_lastLetterOf_25 rfl
  · refine g_aload_n (pc := 11) 1 dX3_lastLetterOf_11 rfl rfl ?_
    refine g_get (pc := 12) (st_o h0) foX3_20 (v := .ref (ad (k0 + 3))) rfl dX3_lastLetterOf_12 ?_
    refine g_iload_n (pc := 15) 2 dX3_lastLetterOf_15 rfl rfl ?_
    refine g_aald (pc := 16) (st_3 h0) dX3_lastLetterOf_16 (fun hi2 => ?_)
    refine g_iload_n (pc := 17) 0 dX3_lastLetterOf_17 rfl rfl ?_
    refine g_iconst (pc := 18) 1 dX3_lastLetterOf_18 (by decide) ?_
    refine g_isub (pc := 19) dX3_lastLetterOf_19 ?_
    refine g_iald (pc := 20) (st_i h0 hi2) (by decide) dX3_lastLetterOf_20 ?_
    refine g_goto (pc := 21) 25 dX3_lastLetterOf_21 rfl ?_
    exact g_ireturn (pc := 25) dX3_lastLetterOf_25 rfl)
-- StopsByLetters$Stations.stopsFrom(I)I
abbrev kX3_stopsFrom : Cfg := (RX3, cX3_stopsFrom, 2, (some .int), 1)
theorem dX3_stopsFrom_0 : decode cX3_stopsFrom 0 = .ok (.aload_n 0, 1) := by decide +kernel
theorem dX3_stopsFrom_1 : decode cX3_stopsFrom 1 = .ok (.getfield 9, 3) := by decide +kernel
theorem dX3_stopsFrom_4 : decode cX3_stopsFrom 4 = .ok (.iload_n 1, 1) := by decide +kernel
theorem dX3_stopsFrom_5 : decode cX3_stopsFrom 5 = .ok (.iaload, 1) := by decide +kernel
theorem dX3_stopsFrom_6 : decode cX3_stopsFrom 6 = .ok (.tableswitch 74 2 5 #[30, 36, 30, 66], 30) := by decide +kernel
theorem dX3_stopsFrom_36 : decode cX3_stopsFrom 36 = .ok (.aload_n 0, 1) := by decide +kernel
theorem dX3_stopsFrom_37 : decode cX3_stopsFrom 37 = .ok (.iload_n 1, 1) := by decide +kernel
theorem dX3_stopsFrom_38 : decode cX3_stopsFrom 38 = .ok (.invokevirtual 66, 3) := by decide +kernel
theorem dX3_stopsFrom_41 : decode cX3_stopsFrom 41 = .ok (.ireturn, 1) := by decide +kernel
theorem dX3_stopsFrom_42 : decode cX3_stopsFrom 42 = .ok (.aload_n 0, 1) := by decide +kernel
theorem dX3_stopsFrom_43 : decode cX3_stopsFrom 43 = .ok (.getfield 15, 3) := by decide +kernel
theorem dX3_stopsFrom_46 : decode cX3_stopsFrom 46 = .ok (.iload_n 1, 1) := by decide +kernel
theorem dX3_stopsFrom_47 : decode cX3_stopsFrom 47 = .ok (.iaload, 1) := by decide +kernel
theorem dX3_stopsFrom_48 : decode cX3_stopsFrom 48 = .ok (.aload_n 0, 1) := by decide +kernel
theorem dX3_stopsFrom_49 : decode cX3_stopsFrom 49 = .ok (.getfield 15, 3) := by decide +kernel
theorem dX3_stopsFrom_52 : decode cX3_stopsFrom 52 = .ok (.iload_n 1, 1) := by decide +kernel
theorem dX3_stopsFrom_53 : decode cX3_stopsFrom 53 = .ok (.iconst 1, 1) := by decide +kernel
theorem dX3_stopsFrom_54 : decode cX3_stopsFrom 54 = .ok (.iadd, 1) := by decide +kernel
theorem dX3_stopsFrom_55 : decode cX3_stopsFrom 55 = .ok (.aload_n 0, 1) := by decide +kernel
theorem dX3_stopsFrom_56 : decode cX3_stopsFrom 56 = .ok (.getfield 23, 3) := by decide +kernel
theorem dX3_stopsFrom_59 : decode cX3_stopsFrom 59 = .ok (.if_icmp .ge 9, 3) := by decide +kernel
theorem dX3_stopsFrom_62 : decode cX3_stopsFrom 62 = .ok (.iload_n 1, 1) := by decide +kernel
theorem dX3_stopsFrom_63 : decode cX3_stopsFrom 63 = .ok (.iconst 1, 1) := by decide +kernel
theorem dX3_stopsFrom_64 : decode cX3_stopsFrom 64 = .ok (.iadd, 1) := by decide +kernel
theorem dX3_stopsFrom_65 : decode cX3_stopsFrom 65 = .ok (.goto 4, 3) := by decide +kernel
theorem dX3_stopsFrom_68 : decode cX3_stopsFrom 68 = .ok (.iconst 0, 1) := by decide +kernel
theorem dX3_stopsFrom_69 : decode cX3_stopsFrom 69 = .ok (.iaload, 1) := by decide +kernel
theorem dX3_stopsFrom_70 : decode cX3_stopsFrom 70 = .ok (.iadd, 1) := by decide +kernel
theorem dX3_stopsFrom_71 : decode cX3_stopsFrom 71 = .ok (.ireturn, 1) := by decide +kernel
theorem dX3_stopsFrom_72 : decode cX3_stopsFrom 72 = .ok (.aload_n 0, 1) := by decide +kernel
theorem dX3_stopsFrom_73 : decode cX3_stopsFrom 73 = .ok (.iload_n 1, 1) := by decide +kernel
theorem dX3_stopsFrom_74 : decode cX3_stopsFrom 74 = .ok (.invokevirtual 69, 3) := by decide +kernel
theorem dX3_stopsFrom_77 : decode cX3_stopsFrom 77 = .ok (.iconst 1, 1) := by decide +kernel
theorem dX3_stopsFrom_78 : decode cX3_stopsFrom 78 = .ok (.iadd, 1) := by decide +kernel
theorem dX3_stopsFrom_79 : decode cX3_stopsFrom 79 = .ok (.ireturn, 1) := by decide +kernel
theorem dX3_stopsFrom_80 : decode cX3_stopsFrom 80 = .ok (.aload_n 0, 1) := by decide +kernel
theorem dX3_stopsFrom_81 : decode cX3_stopsFrom 81 = .ok (.getfield 15, 3) := by decide +kernel
theorem dX3_stopsFrom_84 : decode cX3_stopsFrom 84 = .ok (.iload_n 1, 1) := by decide +kernel
theorem dX3_stopsFrom_85 : decode cX3_stopsFrom 85 = .ok (.iaload, 1) := by decide +kernel
theorem dX3_stopsFrom_86 : decode cX3_stopsFrom 86 = .ok (.ireturn, 1) := by decide +kernel
theorem foX3_9 : Fo 3 RX3 TX3 5 0 RX3 9 := ⟨rfl, by decide, rfl, uwX3, rfl, Or.inl (tb_in 117 (by decide +kernel) rfl)⟩
theorem lnX3_66 : Ln RX3 66 yX3_vowelsOf := Or.inl (tb_in 388 (by decide +kernel) rfl)
theorem moX3_vowelsOf : Mv yX3_vowelsOf kX3_vowelsOf 1 := ⟨⟨tb_in 391 (by decide +kernel) rfl, tb_in 88 (by decide +kernel) rfl, ⟨by decide, by decide⟩, by decide +kernel⟩, tb_in 390 (by decide +kernel) rfl, tb_in 13 (by decide +kernel) rfl⟩
theorem foX3_23 : Fo 3 RX3 TX3 5 3 RX3 23 := ⟨rfl, by decide, rfl, uwX3, rfl, Or.inl (tb_in 124 (by decide +kernel) rfl)⟩
theorem lnX3_69 : Ln RX3 69 yX3_lastLetterOf := Or.inl (tb_in 393 (by decide +kernel) rfl)
theorem moX3_lastLetterOf : Mv yX3_lastLetterOf kX3_lastLetterOf 1 := ⟨⟨tb_in 396 (by decide +kernel) rfl, tb_in 88 (by decide +kernel) rfl, ⟨by decide, by decide⟩, by decide +kernel⟩, tb_in 395 (by decide +kernel) rfl, tb_in 14 (by decide +kernel) rfl⟩
def fX3_stopsFrom (n : Nat) (k0 : Nat) (a1 : Int32) (μ : Mem) : Option (Int32 × Mem) :=
  gd (inb a1 8) (bnd (μ.1 (k0 + 1) (Int32.toNatClampNeg a1)) (fun sx1 => if sx1 = 2 then bd (fX3_vowelsOf n k0 a1 μ) (fun r3 m2 => some (r3, m2)) else if sx1 = 3 then gd (inb a1 8) (if (μ.1 k0 3) ≤ (a1 + 1) then gd (inb 0 8) (some (((μ.1 (k0 + 2) (Int32.toNatClampNeg a1)) + (μ.1 (k0 + 2) (Int32.toNatClampNeg 0))), μ)) else gd (inb (a1 + 1) 8) (some (((μ.1 (k0 + 2) (Int32.toNatClampNeg a1)) + (μ.1 (k0 + 2) (Int32.toNatClampNeg (a1 + 1)))), μ))) else if sx1 = 4 then bd (fX3_vowelsOf n k0 a1 μ) (fun r7 m6 => some (r7, m6)) else if sx1 = 5 then bd (fX3_lastLetterOf n k0 a1 μ) (fun r10 m9 => some ((r10 + 1), m9)) else gd (inb a1 8) (some ((μ.1 (k0 + 2) (Int32.toNatClampNeg a1)), μ))))
set_option maxHeartbeats 4000000 in
set_option maxRecDepth 100000 in
theorem ctX3_stopsFrom (ad : Nat → Nat) (n : Nat) (k0 : Nat) (h0 : St k0) (a1 : Int32) (μ : Mem) : Ct yX3_stopsFrom kX3_stopsFrom ad encI [.ref (ad k0), .int a1] μ (fX3_stopsFrom n k0 a1 μ) := Ct.of (by decide +kernel) rfl (Nat.le_of_ble_eq_true rfl) (by
  show G kX3_stopsFrom ad encI 0 [(0, .ref (ad k0)), (1, .int a1)] [] μ (fX3_stopsFrom n k0 a1 μ)
  unfold fX3_stopsFrom
  refine g_aload_n (pc := 0) 0 dX3_stopsFrom_0 rfl rfl ?_
  refine g_get (pc := 1) (st_o h0) foX3_9 (v := .ref (ad (k0 + 1))) rfl dX3_stopsFrom_1 ?_
  refine g_iload_n (pc := 4) 1 dX3_stopsFrom_4 rfl rfl ?_
  refine g_iald (pc := 5) (st_1 h0) (by decide) dX3_stopsFrom_5 ?_
  refine g_swx (fun sx1 => ?_)
  refine g_ite (fun hq => ?_) (fun hs4 => ?_)
  · subst hq
    refine g_tabIn (pc := 6) 36 30 dX3_stopsFrom_6 (by decide) ?_
    refine g_aload_n (pc := 36) 0 dX3_stopsFrom_36 rfl rfl ?_
    refine g_iload_n (pc := 37) 1 dX3_stopsFrom_37 rfl rfl ?_
    refine g_cVI (pc := 38) (st := []) [.int a1] (st_o h0) rfl moX3_vowelsOf lnX3_66 (ctX3_vowelsOf ad n k0 h0 a1 μ) rfl ⟨Nat.le_of_ble_eq_true rfl, Nat.le_of_ble_eq_true rfl⟩ rfl (Nat.le_of_ble_eq_true rfl) dX3_stopsFrom_38 (fun r3 m2 => ?_)
    exact g_ireturn (pc := 41) dX3_stopsFrom_41 rfl
  ·
    refine g_ite (fun hq => ?_) (fun hs5 => ?_)
    · subst hq
      refine g_tabIn (pc := 6) 42 36 dX3_stopsFrom_6 (by decide) ?_
      refine g_aload_n (pc := 42) 0 dX3_stopsFrom_42 rfl rfl ?_
      refine g_get (pc := 43) (st_o h0) foX3_15 (v := .ref (ad (k0 + 2))) rfl dX3_stopsFrom_43 ?_
      refine g_iload_n (pc := 46) 1 dX3_stopsFrom_46 rfl rfl ?_
      refine g_iald (pc := 47) (st_2 h0) (by decide) dX3_stopsFrom_47 ?_
      refine g_aload_n (pc := 48) 0 dX3_stopsFrom_48 rfl rfl ?_
      refine g_get (pc := 49) (st_o h0) foX3_15 (v := .ref (ad (k0 + 2))) rfl dX3_stopsFrom_49 ?_
      refine g_iload_n (pc := 52) 1 dX3_stopsFrom_52 rfl rfl ?_
      refine g_iconst (pc := 53) 1 dX3_stopsFrom_53 (by decide) ?_
      refine g_iadd (pc := 54) dX3_stopsFrom_54 ?_
      refine g_aload_n (pc := 55) 0 dX3_stopsFrom_55 rfl rfl ?_
      refine g_get (pc := 56) (st_o h0) foX3_23 (v := .int (μ.1 k0 3)) rfl dX3_stopsFrom_56 ?_
      refine g_icmp_ge (pc := 59) 68 dX3_stopsFrom_59 rfl ?_ ?_
      · refine g_iconst (pc := 68) 0 dX3_stopsFrom_68 (by decide) ?_
        refine g_iald (pc := 69) (st_2 h0) (by decide) dX3_stopsFrom_69 ?_
        refine g_iadd (pc := 70) dX3_stopsFrom_70 ?_
        exact g_ireturn (pc := 71) dX3_stopsFrom_71 rfl
      · refine g_iload_n (pc := 62) 1 dX3_stopsFrom_62 rfl rfl ?_
        refine g_iconst (pc := 63) 1 dX3_stopsFrom_63 (by decide) ?_
        refine g_iadd (pc := 64) dX3_stopsFrom_64 ?_
        refine g_goto (pc := 65) 69 dX3_stopsFrom_65 rfl ?_
        refine g_iald (pc := 69) (st_2 h0) (by decide) dX3_stopsFrom_69 ?_
        refine g_iadd (pc := 70) dX3_stopsFrom_70 ?_
        exact g_ireturn (pc := 71) dX3_stopsFrom_71 rfl
    ·
      refine g_ite (fun hq => ?_) (fun hs8 => ?_)
      · subst hq
        refine g_tabIn (pc := 6) 36 30 dX3_stopsFrom_6 (by decide) ?_
        refine g_aload_n (pc := 36) 0 dX3_stopsFrom_36 rfl rfl ?_
        refine g_iload_n (pc := 37) 1 dX3_stopsFrom_37 rfl rfl ?_
        refine g_cVI (pc := 38) (st := []) [.int a1] (st_o h0) rfl moX3_vowelsOf lnX3_66 (ctX3_vowelsOf ad n k0 h0 a1 μ) rfl ⟨Nat.le_of_ble_eq_true rfl, Nat.le_of_ble_eq_true rfl⟩ rfl (Nat.le_of_ble_eq_true rfl) dX3_stopsFrom_38 (fun r7 m6 => ?_)
        exact g_ireturn (pc := 41) dX3_stopsFrom_41 rfl
      ·
        refine g_ite (fun hq => ?_) (fun hs11 => ?_)
        · subst hq
          refine g_tabIn (pc := 6) 72 66 dX3_stopsFrom_6 (by decide) ?_
          refine g_aload_n (pc := 72) 0 dX3_stopsFrom_72 rfl rfl ?_
          refine g_iload_n (pc := 73) 1 dX3_stopsFrom_73 rfl rfl ?_
          refine g_cVI (pc := 74) (st := []) [.int a1] (st_o h0) rfl moX3_lastLetterOf lnX3_69 (ctX3_lastLetterOf ad n k0 h0 a1 μ) rfl ⟨Nat.le_of_ble_eq_true rfl, Nat.le_of_ble_eq_true rfl⟩ rfl (Nat.le_of_ble_eq_true rfl) dX3_stopsFrom_74 (fun r10 m9 => ?_)
          refine g_iconst (pc := 77) 1 dX3_stopsFrom_77 (by decide) ?_
          refine g_iadd (pc := 78) dX3_stopsFrom_78 ?_
          exact g_ireturn (pc := 79) dX3_stopsFrom_79 rfl
        ·
          refine g_tabD (pc := 6) 80 dX3_stopsFrom_6 [2, 3, 4, 5] (by decide) ⟨hs4, hs5, hs8, hs11, trivial⟩ rfl ?_
          refine g_aload_n (pc := 80) 0 dX3_stopsFrom_80 rfl rfl ?_
          refine g_get (pc := 81) (st_o h0) foX3_15 (v := .ref (ad (k0 + 2))) rfl dX3_stopsFrom_81 ?_
          refine g_iload_n (pc := 84) 1 dX3_stopsFrom_84 rfl rfl ?_
          refine g_iald (pc := 85) (st_2 h0) (by decide) dX3_stopsFrom_85 ?_
          exact g_ireturn (pc := 86) dX3_stopsFrom_86 rfl)
-- java/lang/Math.floorMod(II)I
abbrev kJ9_floorMod_7cf53 : Cfg := (RJ9, cJ9_floorMod_7cf53, 3, (some .int), 0)
theorem dJ9_floorMod_7cf53_0 : decode cJ9_floorMod_7cf53 0 = .ok (.iload_n 0, 1) := by decide +kernel
theorem dJ9_floorMod_7cf53_1 : decode cJ9_floorMod_7cf53 1 = .ok (.iload_n 1, 1) := by decide +kernel
theorem dJ9_floorMod_7cf53_2 : decode cJ9_floorMod_7cf53 2 = .ok (.irem, 1) := by decide +kernel
theorem dJ9_floorMod_7cf53_3 : decode cJ9_floorMod_7cf53 3 = .ok (.istore_n 2, 1) := by decide +kernel
theorem dJ9_floorMod_7cf53_4 : decode cJ9_floorMod_7cf53 4 = .ok (.iload_n 0, 1) := by decide +kernel
theorem dJ9_floorMod_7cf53_5 : decode cJ9_floorMod_7cf53 5 = .ok (.iload_n 1, 1) := by decide +kernel
theorem dJ9_floorMod_7cf53_6 : decode cJ9_floorMod_7cf53 6 = .ok (.ixor, 1) := by decide +kernel
theorem dJ9_floorMod_7cf53_7 : decode cJ9_floorMod_7cf53 7 = .ok (.ifCond .ge 11, 3) := by decide +kernel
theorem dJ9_floorMod_7cf53_10 : decode cJ9_floorMod_7cf53 10 = .ok (.iload_n 2, 1) := by decide +kernel
theorem dJ9_floorMod_7cf53_11 : decode cJ9_floorMod_7cf53 11 = .ok (.ifCond .eq 7, 3) := by decide +kernel
theorem dJ9_floorMod_7cf53_14 : decode cJ9_floorMod_7cf53 14 = .ok (.iload_n 2, 1) := by decide +kernel
theorem dJ9_floorMod_7cf53_15 : decode cJ9_floorMod_7cf53 15 = .ok (.iload_n 1, 1) := by decide +kernel
theorem dJ9_floorMod_7cf53_16 : decode cJ9_floorMod_7cf53 16 = .ok (.iadd, 1) := by decide +kernel
theorem dJ9_floorMod_7cf53_17 : decode cJ9_floorMod_7cf53 17 = .ok (.ireturn, 1) := by decide +kernel
theorem dJ9_floorMod_7cf53_18 : decode cJ9_floorMod_7cf53 18 = .ok (.iload_n 2, 1) := by decide +kernel
theorem dJ9_floorMod_7cf53_19 : decode cJ9_floorMod_7cf53 19 = .ok (.ireturn, 1) := by decide +kernel
def fJ9_floorMod_7cf53 (n : Nat) (a0 : Int32) (a1 : Int32) (μ : Mem) : Option (Int32 × Mem) :=
  gd (nz a1) (bnd (jrem a0 a1) (fun x1 => if 0 ≤ (a0 ^^^ a1) then some (x1, μ) else if x1 = 0 then some (x1, μ) else some ((x1 + a1), μ)))
set_option maxHeartbeats 4000000 in
set_option maxRecDepth 100000 in
theorem ctJ9_floorMod_7cf53 (ad : Nat → Nat) (n : Nat) (a0 : Int32) (a1 : Int32) (μ : Mem) : Ct yJ9_floorMod_7cf53 kJ9_floorMod_7cf53 ad encI [.int a0, .int a1] μ (fJ9_floorMod_7cf53 n a0 a1 μ) := Ct.of (by decide +kernel) rfl (Nat.le_of_ble_eq_true rfl) (by
  show G kJ9_floorMod_7cf53 ad encI 0 [(0, .int a0), (1, .int a1)] [] μ (fJ9_floorMod_7cf53 n a0 a1 μ)
  unfold fJ9_floorMod_7cf53
  refine g_iload_n (pc := 0) 0 dJ9_floorMod_7cf53_0 rfl rfl ?_
  refine g_iload_n (pc := 1) 1 dJ9_floorMod_7cf53_1 rfl rfl ?_
  refine g_iremG (pc := 2) dJ9_floorMod_7cf53_2 ?_
  refine g_istore_nB (pc := 3) (fun x1 => [(2, .int x1), (0, .int a0), (1, .int a1)]) dJ9_floorMod_7cf53_3 rfl (by decide) (fun _ => rfl) (fun x1 => ?_)
  refine g_iload_n (pc := 4) 1 dJ9_floorMod_7cf53_4 rfl rfl ?_
  refine g_iload_n (pc := 5) 2 dJ9_floorMod_7cf53_5 rfl rfl ?_
  refine g_ixor (pc := 6) dJ9_floorMod_7cf53_6 ?_
  refine g_if_ge (pc := 7) 18 dJ9_floorMod_7cf53_7 rfl ?_ ?_
  · refine g_iload_n (pc := 18) 0 dJ9_floorMod_7cf53_18 rfl rfl ?_
    exact g_ireturn (pc := 19) dJ9_floorMod_7cf53_19 rfl
  · refine g_iload_n (pc := 10) 0 dJ9_floorMod_7cf53_10 rfl rfl ?_
    refine g_if_eq (pc := 11) 18 dJ9_floorMod_7cf53_11 rfl ?_ ?_
    · refine g_iload_n (pc := 18) 0 dJ9_floorMod_7cf53_18 rfl rfl ?_
      exact g_ireturn (pc := 19) dJ9_floorMod_7cf53_19 rfl
    · refine g_iload_n (pc := 14) 0 dJ9_floorMod_7cf53_14 rfl rfl ?_
      refine g_iload_n (pc := 15) 2 dJ9_floorMod_7cf53_15 rfl rfl ?_
      refine g_iadd (pc := 16) dJ9_floorMod_7cf53_16 ?_
      exact g_ireturn (pc := 17) dJ9_floorMod_7cf53_17 rfl)
-- StopsByLetters$Stations.has(I)Z
abbrev kX3_has : Cfg := (RX3, cX3_has, 2, (some .boolean), 0)
theorem dX3_has_0 : decode cX3_has 0 = .ok (.iload_n 1, 1) := by decide +kernel
theorem dX3_has_1 : decode cX3_has 1 = .ok (.ifCond .lt 15, 3) := by decide +kernel
theorem dX3_has_4 : decode cX3_has 4 = .ok (.iload_n 1, 1) := by decide +kernel
theorem dX3_has_5 : decode cX3_has 5 = .ok (.aload_n 0, 1) := by decide +kernel
theorem dX3_has_6 : decode cX3_has 6 = .ok (.getfield 23, 3) := by decide +kernel
theorem dX3_has_9 : decode cX3_has 9 = .ok (.if_icmp .ge 7, 3) := by decide +kernel
theorem dX3_has_12 : decode cX3_has 12 = .ok (.iconst 1, 1) := by decide +kernel
theorem dX3_has_13 : decode cX3_has 13 = .ok (.goto 4, 3) := by decide +kernel
theorem dX3_has_16 : decode cX3_has 16 = .ok (.iconst 0, 1) := by decide +kernel
theorem dX3_has_17 : decode cX3_has 17 = .ok (.ireturn, 1) := by decide +kernel
def fX3_has (n : Nat) (k0 : Nat) (a1 : Int32) (μ : Mem) : Option (Int32 × Mem) :=
  if a1 < 0 then some (0, μ) else if (μ.1 k0 3) ≤ a1 then some (0, μ) else some (1, μ)
set_option maxHeartbeats 4000000 in
set_option maxRecDepth 100000 in
theorem ctX3_has (ad : Nat → Nat) (n : Nat) (k0 : Nat) (h0 : St k0) (a1 : Int32) (μ : Mem) : Ct yX3_has kX3_has ad encI [.ref (ad k0), .int a1] μ (fX3_has n k0 a1 μ) := Ct.of (by decide +kernel) rfl (Nat.le_of_ble_eq_true rfl) (by
  show G kX3_has ad encI 0 [(0, .ref (ad k0)), (1, .int a1)] [] μ (fX3_has n k0 a1 μ)
  unfold fX3_has
  refine g_iload_n (pc := 0) 1 dX3_has_0 rfl rfl ?_
  refine g_if_lt (pc := 1) 16 dX3_has_1 rfl ?_ ?_
  · refine g_iconst (pc := 16) 0 dX3_has_16 (by decide) ?_
    exact g_zreturn (pc := 17) (by decide) dX3_has_17 rfl
  · refine g_iload_n (pc := 4) 1 dX3_has_4 rfl rfl ?_
    refine g_aload_n (pc := 5) 0 dX3_has_5 rfl rfl ?_
    refine g_get (pc := 6) (st_o h0) foX3_23 (v := .int (μ.1 k0 3)) rfl dX3_has_6 ?_
    refine g_icmp_ge (pc := 9) 16 dX3_has_9 rfl ?_ ?_
    · refine g_iconst (pc := 16) 0 dX3_has_16 (by decide) ?_
      exact g_zreturn (pc := 17) (by decide) dX3_has_17 rfl
    · refine g_iconst (pc := 12) 1 dX3_has_12 (by decide) ?_
      refine g_goto (pc := 13) 17 dX3_has_13 rfl ?_
      exact g_zreturn (pc := 17) (by decide) dX3_has_17 rfl)
-- StopsByLetters$Stations.bitOf(I)I
abbrev kX3_bitOf : Cfg := (RX3, cX3_bitOf, 2, (some .int), 1)
theorem dX3_bitOf_0 : decode cX3_bitOf 0 = .ok (.aload_n 0, 1) := by decide +kernel
theorem dX3_bitOf_1 : decode cX3_bitOf 1 = .ok (.getfield 23, 3) := by decide +kernel
theorem dX3_bitOf_4 : decode cX3_bitOf 4 = .ok (.iconst 1, 1) := by decide +kernel
theorem dX3_bitOf_5 : decode cX3_bitOf 5 = .ok (.if_icmp .ge 5, 3) := by decide +kernel
theorem dX3_bitOf_8 : decode cX3_bitOf 8 = .ok (.iconst 0, 1) := by decide +kernel
theorem dX3_bitOf_9 : decode cX3_bitOf 9 = .ok (.ireturn, 1) := by decide +kernel
theorem dX3_bitOf_10 : decode cX3_bitOf 10 = .ok (.aload_n 0, 1) := by decide +kernel
theorem dX3_bitOf_11 : decode cX3_bitOf 11 = .ok (.getfield 27, 3) := by decide +kernel
theorem dX3_bitOf_14 : decode cX3_bitOf 14 = .ok (.ifCond .eq 14, 3) := by decide +kernel
theorem dX3_bitOf_17 : decode cX3_bitOf 17 = .ok (.iconst 1, 1) := by decide +kernel
theorem dX3_bitOf_18 : decode cX3_bitOf 18 = .ok (.iload_n 1, 1) := by decide +kernel
theorem dX3_bitOf_19 : decode cX3_bitOf 19 = .ok (.aload_n 0, 1) := by decide +kernel
theorem dX3_bitOf_20 : decode cX3_bitOf 20 = .ok (.getfield 23, 3) := by decide +kernel
theorem dX3_bitOf_23 : decode cX3_bitOf 23 = .ok (.invokestatic 79, 3) := by decide +kernel
theorem dX3_bitOf_26 : decode cX3_bitOf 26 = .ok (.ishl, 1) := by decide +kernel
theorem dX3_bitOf_27 : decode cX3_bitOf 27 = .ok (.ireturn, 1) := by decide +kernel
theorem dX3_bitOf_28 : decode cX3_bitOf 28 = .ok (.aload_n 0, 1) := by decide +kernel
theorem dX3_bitOf_29 : decode cX3_bitOf 29 = .ok (.iload_n 1, 1) := by decide +kernel
theorem dX3_bitOf_30 : decode cX3_bitOf 30 = .ok (.invokevirtual 58, 3) := by decide +kernel
theorem dX3_bitOf_33 : decode cX3_bitOf 33 = .ok (.ifCond .eq 9, 3) := by decide +kernel
theorem dX3_bitOf_36 : decode cX3_bitOf 36 = .ok (.iconst 1, 1) := by decide +kernel
theorem dX3_bitOf_37 : decode cX3_bitOf 37 = .ok (.iload_n 1, 1) := by decide +kernel
theorem dX3_bitOf_38 : decode cX3_bitOf 38 = .ok (.ishl, 1) := by decide +kernel
theorem dX3_bitOf_39 : decode cX3_bitOf 39 = .ok (.goto 4, 3) := by decide +kernel
theorem dX3_bitOf_42 : decode cX3_bitOf 42 = .ok (.iconst 0, 1) := by decide +kernel
theorem dX3_bitOf_43 : decode cX3_bitOf 43 = .ok (.ireturn, 1) := by decide +kernel
theorem foX3_27 : Fo 3 RX3 TX3 5 4 RX3 27 := ⟨rfl, by decide, rfl, uwX3, rfl, Or.inl (tb_in 126 (by decide +kernel) rfl)⟩
theorem lnX3_58 : Ln RX3 58 yX3_has := Or.inl (tb_in 370 (by decide +kernel) rfl)
theorem moX3_has : Mv yX3_has kX3_has 1 := ⟨⟨tb_in 373 (by decide +kernel) rfl, tb_in 88 (by decide +kernel) rfl, ⟨by decide, by decide⟩, by decide +kernel⟩, tb_in 372 (by decide +kernel) rfl, tb_in 10 (by decide +kernel) rfl⟩
theorem lnX3_79 : Ln RX3 79 yJ9_floorMod_7cf53 := Or.inl (tb_in 401 (by decide +kernel) rfl)
theorem moJ9_floorMod_7cf53 : Ms yJ9_floorMod_7cf53 kJ9_floorMod_7cf53 2 := ⟨⟨tb_in 403 (by decide +kernel) rfl, tb_in 95 (by decide +kernel) rfl, ⟨by decide, by decide⟩, by decide +kernel⟩, tb_in 402 (by decide +kernel) rfl⟩
def fX3_bitOf (n : Nat) (k0 : Nat) (a1 : Int32) (μ : Mem) : Option (Int32 × Mem) :=
  if 1 ≤ (μ.1 k0 3) then if (μ.1 k0 4) = 0 then bd (fX3_has n k0 a1 μ) (fun r2 m1 => if r2 = 0 then some (0, m1) else some ((jshl 1 a1), m1)) else bd (fJ9_floorMod_7cf53 n a1 (μ.1 k0 3) μ) (fun r4 m3 => some ((jshl 1 r4), m3)) else some (0, μ)
set_option maxHeartbeats 4000000 in
set_option maxRecDepth 100000 in
theorem ctX3_bitOf (ad : Nat → Nat) (n : Nat) (k0 : Nat) (h0 : St k0) (a1 : Int32) (μ : Mem) : Ct yX3_bitOf kX3_bitOf ad encI [.ref (ad k0), .int a1] μ (fX3_bitOf n k0 a1 μ) := Ct.of (by decide +kernel) rfl (Nat.le_of_ble_eq_true rfl) (by
  show G kX3_bitOf ad encI 0 [(0, .ref (ad k0)), (1, .int a1)] [] μ (fX3_bitOf n k0 a1 μ)
  unfold fX3_bitOf
  refine g_aload_n (pc := 0) 0 dX3_bitOf_0 rfl rfl ?_
  refine g_get (pc := 1) (st_o h0) foX3_23 (v := .int (μ.1 k0 3)) rfl dX3_bitOf_1 ?_
  refine g_iconst (pc := 4) 1 dX3_bitOf_4 (by decide) ?_
  refine g_icmp_ge (pc := 5) 10 dX3_bitOf_5 rfl ?_ ?_
  · refine g_aload_n (pc := 10) 0 dX3_bitOf_10 rfl rfl ?_
    refine g_get (pc := 11) (st_o h0) foX3_27 (v := .int (μ.1 k0 4)) rfl dX3_bitOf_11 ?_
    refine g_if_eq (pc := 14) 28 dX3_bitOf_14 rfl ?_ ?_
    · refine g_aload_n (pc := 28) 0 dX3_bitOf_28 rfl rfl ?_
      refine g_iload_n (pc := 29) 1 dX3_bitOf_29 rfl rfl ?_
      refine g_cVI (pc := 30) (st := []) [.int a1] (st_o h0) rfl moX3_has lnX3_58 (ctX3_has ad n k0 h0 a1 μ) rfl ⟨Nat.le_of_ble_eq_true rfl, Nat.le_of_ble_eq_true rfl⟩ rfl (Nat.le_of_ble_eq_true rfl) dX3_bitOf_30 (fun r2 m1 => ?_)
      refine g_if_eq (pc := 33) 42 dX3_bitOf_33 rfl ?_ ?_
      · refine g_iconst (pc := 42) 0 dX3_bitOf_42 (by decide) ?_
        exact g_ireturn (pc := 43) dX3_bitOf_43 rfl
      · refine g_iconst (pc := 36) 1 dX3_bitOf_36 (by decide) ?_
        refine g_iload_n (pc := 37) 1 dX3_bitOf_37 rfl rfl ?_
        refine g_ishl' (pc := 38) dX3_bitOf_38 ?_
        refine g_goto (pc := 39) 43 dX3_bitOf_39 rfl ?_
        exact g_ireturn (pc := 43) dX3_bitOf_43 rfl
    · refine g_iconst (pc := 17) 1 dX3_bitOf_17 (by decide) ?_
      refine g_iload_n (pc := 18) 1 dX3_bitOf_18 rfl rfl ?_
      refine g_aload_n (pc := 19) 0 dX3_bitOf_19 rfl rfl ?_
      refine g_get (pc := 20) (st_o h0) foX3_23 (v := .int (μ.1 k0 3)) rfl dX3_bitOf_20 ?_
      refine g_cSI (pc := 23) (st := [.int 1]) [.int a1, .int (μ.1 k0 3)] moJ9_floorMod_7cf53 lnX3_79 (ctJ9_floorMod_7cf53 ad n a1 (μ.1 k0 3) μ) rfl ⟨Nat.le_of_ble_eq_true rfl, Nat.le_of_ble_eq_true rfl⟩ rfl (Nat.le_of_ble_eq_true rfl) dX3_bitOf_23 (fun r4 m3 => ?_)
      refine g_ishl' (pc := 26) dX3_bitOf_26 ?_
      exact g_ireturn (pc := 27) dX3_bitOf_27 rfl
  · refine g_iconst (pc := 8) 0 dX3_bitOf_8 (by decide) ?_
    exact g_ireturn (pc := 9) dX3_bitOf_9 rfl)
-- StopsByLetters$Stations.ridesFrom(I)I
abbrev kX3_ridesFrom : Cfg := (RX3, cX3_ridesFrom, 5, (some .int), 2)
theorem dX3_ridesFrom_0 : decode cX3_ridesFrom 0 = .ok (.aload_n 0, 1) := by decide +kernel
theorem dX3_ridesFrom_1 : decode cX3_ridesFrom 1 = .ok (.getfield 9, 3) := by decide +kernel
theorem dX3_ridesFrom_4 : decode cX3_ridesFrom 4 = .ok (.iload_n 1, 1) := by decide +kernel
theorem dX3_ridesFrom_5 : decode cX3_ridesFrom 5 = .ok (.iaload, 1) := by decide +kernel
theorem dX3_ridesFrom_6 : decode cX3_ridesFrom 6 = .ok (.istore_n 2, 1) := by decide +kernel
theorem dX3_ridesFrom_7 : decode cX3_ridesFrom 7 = .ok (.aload_n 0, 1) := by decide +kernel
theorem dX3_ridesFrom_8 : decode cX3_ridesFrom 8 = .ok (.iload_n 1, 1) := by decide +kernel
theorem dX3_ridesFrom_9 : decode cX3_ridesFrom 9 = .ok (.invokevirtual 73, 3) := by decide +kernel
theorem dX3_ridesFrom_12 : decode cX3_ridesFrom 12 = .ok (.istore_n 3, 1) := by decide +kernel
theorem dX3_ridesFrom_13 : decode cX3_ridesFrom 13 = .ok (.iload_n 2, 1) := by decide +kernel
theorem dX3_ridesFrom_14 : decode cX3_ridesFrom 14 = .ok (.iconst 4, 1) := by decide +kernel
theorem dX3_ridesFrom_15 : decode cX3_ridesFrom 15 = .ok (.if_icmp .ne 11, 3) := by decide +kernel
theorem dX3_ridesFrom_18 : decode cX3_ridesFrom 18 = .ok (.iload_n 3, 1) := by decide +kernel
theorem dX3_ridesFrom_19 : decode cX3_ridesFrom 19 = .ok (.iconst 2, 1) := by decide +kernel
theorem dX3_ridesFrom_20 : decode cX3_ridesFrom 20 = .ok (.irem, 1) := by decide +kernel
theorem dX3_ridesFrom_21 : decode cX3_ridesFrom 21 = .ok (.ifCond .eq 5, 3) := by decide +kernel
theorem dX3_ridesFrom_24 : decode cX3_ridesFrom 24 = .ok (.iconst 0, 1) := by decide +kernel
theorem dX3_ridesFrom_25 : decode cX3_ridesFrom 25 = .ok (.ireturn, 1) := by decide +kernel
theorem dX3_ridesFrom_26 : decode cX3_ridesFrom 26 = .ok (.aload_n 0, 1) := by decide +kernel
theorem dX3_ridesFrom_27 : decode cX3_ridesFrom 27 = .ok (.iload_n 1, 1) := by decide +kernel
theorem dX3_ridesFrom_28 : decode cX3_ridesFrom 28 = .ok (.iload_n 3, 1) := by decide +kernel
theorem dX3_ridesFrom_29 : decode cX3_ridesFrom 29 = .ok (.iadd, 1) := by decide +kernel
theorem dX3_ridesFrom_30 : decode cX3_ridesFrom 30 = .ok (.invokevirtual 76, 3) := by decide +kernel
theorem dX3_ridesFrom_33 : decode cX3_ridesFrom 33 = .ok (.istore 4, 2) := by decide +kernel
theorem dX3_ridesFrom_35 : decode cX3_ridesFrom 35 = .ok (.iload_n 2, 1) := by decide +kernel
theorem dX3_ridesFrom_36 : decode cX3_ridesFrom 36 = .ok (.iconst 1, 1) := by decide +kernel
theorem dX3_ridesFrom_37 : decode cX3_ridesFrom 37 = .ok (.if_icmp .eq 20, 3) := by decide +kernel
theorem dX3_ridesFrom_40 : decode cX3_ridesFrom 40 = .ok (.iload_n 2, 1) := by decide +kernel
theorem dX3_ridesFrom_41 : decode cX3_ridesFrom 41 = .ok (.iconst 5, 1) := by decide +kernel
theorem dX3_ridesFrom_42 : decode cX3_ridesFrom 42 = .ok (.if_icmp .eq 15, 3) := by decide +kernel
theorem dX3_ridesFrom_45 : decode cX3_ridesFrom 45 = .ok (.iload 4, 2) := by decide +kernel
theorem dX3_ridesFrom_47 : decode cX3_ridesFrom 47 = .ok (.aload_n 0, 1) := by decide +kernel
theorem dX3_ridesFrom_48 : decode cX3_ridesFrom 48 = .ok (.iload_n 1, 1) := by decide +kernel
theorem dX3_ridesFrom_49 : decode cX3_ridesFrom 49 = .ok (.iload_n 3, 1) := by decide +kernel
theorem dX3_ridesFrom_50 : decode cX3_ridesFrom 50 = .ok (.isub, 1) := by decide +kernel
theorem dX3_ridesFrom_51 : decode cX3_ridesFrom 51 = .ok (.invokevirtual 76, 3) := by decide +kernel
theorem dX3_ridesFrom_54 : decode cX3_ridesFrom 54 = .ok (.ior, 1) := by decide +kernel
theorem dX3_ridesFrom_55 : decode cX3_ridesFrom 55 = .ok (.istore 4, 2) := by decide +kernel
theorem dX3_ridesFrom_57 : decode cX3_ridesFrom 57 = .ok (.iload 4, 2) := by decide +kernel
theorem dX3_ridesFrom_59 : decode cX3_ridesFrom 59 = .ok (.ireturn, 1) := by decide +kernel
theorem lnX3_76 : Ln RX3 76 yX3_bitOf := Or.inl (tb_in 397 (by decide +kernel) rfl)
theorem moX3_bitOf : Mv yX3_bitOf kX3_bitOf 1 := ⟨⟨tb_in 400 (by decide +kernel) rfl, tb_in 88 (by decide +kernel) rfl, ⟨by decide, by decide⟩, by decide +kernel⟩, tb_in 399 (by decide +kernel) rfl, tb_in 15 (by decide +kernel) rfl⟩
theorem lnX3_73 : Ln RX3 73 yX3_stopsFrom := Or.inl (tb_in 384 (by decide +kernel) rfl)
theorem moX3_stopsFrom : Mv yX3_stopsFrom kX3_stopsFrom 1 := ⟨⟨tb_in 387 (by decide +kernel) rfl, tb_in 88 (by decide +kernel) rfl, ⟨by decide, by decide⟩, by decide +kernel⟩, tb_in 386 (by decide +kernel) rfl, tb_in 12 (by decide +kernel) rfl⟩
def fX3_ridesFrom (n : Nat) (k0 : Nat) (a1 : Int32) (μ : Mem) : Option (Int32 × Mem) :=
  gd (inb a1 8) (bnd (μ.1 (k0 + 1) (Int32.toNatClampNeg a1)) (fun x1 => bd (fX3_stopsFrom n k0 a1 μ) (fun r3 m2 => bnd (fun (m5 : Mem) => bd (fX3_bitOf n k0 (a1 + r3) m5) (fun r7 m6 => if x1 = 1 then some (r7, m6) else if x1 = 5 then some (r7, m6) else bd (fX3_bitOf n k0 (a1 - r3) m6) (fun r9 m8 => bnd (r7 ||| r9) (fun x10 => some (x10, m8))))) (fun kb4 => if x1 = 4 then if (jrem r3 2) = 0 then kb4 m2 else some (0, m2) else kb4 m2))))
set_option maxHeartbeats 4000000 in
set_option maxRecDepth 100000 in
theorem ctX3_ridesFrom (ad : Nat → Nat) (n : Nat) (k0 : Nat) (h0 : St k0) (a1 : Int32) (μ : Mem) : Ct yX3_ridesFrom kX3_ridesFrom ad encI [.ref (ad k0), .int a1] μ (fX3_ridesFrom n k0 a1 μ) := Ct.of (by decide +kernel) rfl (Nat.le_of_ble_eq_true rfl) (by
  show G kX3_ridesFrom ad encI 0 [(0, .ref (ad k0)), (1, .int a1)] [] μ (fX3_ridesFrom n k0 a1 μ)
  unfold fX3_ridesFrom
  refine g_aload_n (pc := 0) 0 dX3_ridesFrom_0 rfl rfl ?_
  refine g_get (pc := 1) (st_o h0) foX3_9 (v := .ref (ad (k0 + 1))) rfl dX3_ridesFrom_1 ?_
  refine g_iload_n (pc := 4) 1 dX3_ridesFrom_4 rfl rfl ?_
  refine g_iald (pc := 5) (st_1 h0) (by decide) dX3_ridesFrom_5 ?_
  refine g_istore_nB (pc := 6) (fun x1 => [(2, .int x1), (0, .ref (ad k0)), (1, .int a1)]) dX3_ridesFrom_6 rfl (by decide) (fun _ => rfl) (fun x1 => ?_)
  refine g_aload_n (pc := 7) 1 dX3_ridesFrom_7 rfl rfl ?_
  refine g_iload_n (pc := 8) 2 dX3_ridesFrom_8 rfl rfl ?_
  refine g_cVI (pc := 9) (st := []) [.int a1] (st_o h0) rfl moX3_stopsFrom lnX3_73 (ctX3_stopsFrom ad n k0 h0 a1 μ) rfl ⟨Nat.le_of_ble_eq_true rfl, Nat.le_of_ble_eq_true rfl⟩ rfl (Nat.le_of_ble_eq_true rfl) dX3_ridesFrom_9 (fun r3 m2 => ?_)
  refine g_istore_n (pc := 12) [(3, .int r3), (2, .int x1), (0, .ref (ad k0)), (1, .int a1)] dX3_ridesFrom_12 rfl (by decide) rfl ?_
  refine g_iload_n (pc := 13) 1 dX3_ridesFrom_13 rfl rfl ?_
  refine g_iconst (pc := 14) 4 dX3_ridesFrom_14 (by decide) ?_
  refine g_join (fun kb => ∀ (m5 : Mem), G kX3_ridesFrom ad encI 26 [(0, .ref (ad k0)), (1, .int a1), (2, .int x1), (3, .int r3)] [] m5 (kb m5)) (fun m5 => ?_) (fun kb4 hkb4 => ?_)
  · refine g_aload_n (pc := 26) 0 dX3_ridesFrom_26 rfl rfl ?_
    refine g_iload_n (pc := 27) 1 dX3_ridesFrom_27 rfl rfl ?_
    refine g_iload_n (pc := 28) 3 dX3_ridesFrom_28 rfl rfl ?_
    refine g_iadd (pc := 29) dX3_ridesFrom_29 ?_
    refine g_cVI (pc := 30) (st := []) [.int (a1 + r3)] (st_o h0) rfl moX3_bitOf lnX3_76 (ctX3_bitOf ad n k0 h0 (a1 + r3) m5) rfl ⟨Nat.le_of_ble_eq_true rfl, Nat.le_of_ble_eq_true rfl⟩ rfl (Nat.le_of_ble_eq_true rfl) dX3_ridesFrom_30 (fun r7 m6 => ?_)
    refine g_istore (pc := 33) [(4, .int r7), (0, .ref (ad k0)), (1, .int a1), (2, .int x1), (3, .int r3)] dX3_ridesFrom_33 (by decide) rfl ?_
    refine g_iload_n (pc := 35) 3 dX3_ridesFrom_35 rfl rfl ?_
    refine g_iconst (pc := 36) 1 dX3_ridesFrom_36 (by decide) ?_
    refine g_icmp_eq (pc := 37) 57 dX3_ridesFrom_37 rfl ?_ ?_
    · refine g_iload (pc := 57) 0 dX3_ridesFrom_57 rfl ?_
      exact g_ireturn (pc := 59) dX3_ridesFrom_59 rfl
    · refine g_iload_n (pc := 40) 3 dX3_ridesFrom_40 rfl rfl ?_
      refine g_iconst (pc := 41) 5 dX3_ridesFrom_41 (by decide) ?_
      refine g_icmp_eq (pc := 42) 57 dX3_ridesFrom_42 rfl ?_ ?_
      · refine g_iload (pc := 57) 0 dX3_ridesFrom_57 rfl ?_
        exact g_ireturn (pc := 59) dX3_ridesFrom_59 rfl
      · refine g_iload (pc := 45) 0 dX3_ridesFrom_45 rfl ?_
        refine g_aload_n (pc := 47) 1 dX3_ridesFrom_47 rfl rfl ?_
        refine g_iload_n (pc := 48) 2 dX3_ridesFrom_48 rfl rfl ?_
        refine g_iload_n (pc := 49) 4 dX3_ridesFrom_49 rfl rfl ?_
        refine g_isub (pc := 50) dX3_ridesFrom_50 ?_
        refine g_cVI (pc := 51) (st := [.int r7]) [.int (a1 - r3)] (st_o h0) rfl moX3_bitOf lnX3_76 (ctX3_bitOf ad n k0 h0 (a1 - r3) m6) rfl ⟨Nat.le_of_ble_eq_true rfl, Nat.le_of_ble_eq_true rfl⟩ rfl (Nat.le_of_ble_eq_true rfl) dX3_ridesFrom_51 (fun r9 m8 => ?_)
        refine g_ior (pc := 54) dX3_ridesFrom_54 ?_
        refine g_istoreB (pc := 55) (fun x10 => [(4, .int x10), (0, .ref (ad k0)), (1, .int a1), (2, .int x1), (3, .int r3)]) dX3_ridesFrom_55 (by decide) (fun _ => rfl) (fun x10 => ?_)
        refine g_iload (pc := 57) 0 dX3_ridesFrom_57 rfl ?_
        exact g_ireturn (pc := 59) dX3_ridesFrom_59 rfl
  ·
    refine g_icmp_ne (pc := 15) 26 dX3_ridesFrom_15 rfl ?_ ?_
    · exact g_sub [2, 3, 1, 0] rfl (hkb4 m2)
    · refine g_iload_n (pc := 18) 0 dX3_ridesFrom_18 rfl rfl ?_
      refine g_iconst (pc := 19) 2 dX3_ridesFrom_19 (by decide) ?_
      refine g_irem' (pc := 20) dX3_ridesFrom_20 (by decide) ?_
      refine g_if_eq (pc := 21) 26 dX3_ridesFrom_21 rfl ?_ ?_
      · exact g_sub [2, 3, 1, 0] rfl (hkb4 m2)
      · refine g_iconst (pc := 24) 0 dX3_ridesFrom_24 (by decide) ?_
        exact g_ireturn (pc := 25) dX3_ridesFrom_25 rfl)
end
section
-- StopsByLetters$Net.comes(II)Z
abbrev kX0_comes : Cfg := (RX0, cX0_comes, 3, (some .boolean), 0)
theorem dX0_comes_0 : decode cX0_comes 0 = .ok (.iload_n 1, 1) := by decide +kernel
theorem dX0_comes_1 : decode cX0_comes 1 = .ok (.ifCond .lt 28, 3) := by decide +kernel
theorem dX0_comes_4 : decode cX0_comes 4 = .ok (.iload_n 1, 1) := by decide +kernel
theorem dX0_comes_5 : decode cX0_comes 5 = .ok (.aload_n 0, 1) := by decide +kernel
theorem dX0_comes_6 : decode cX0_comes 6 = .ok (.getfield 31, 3) := by decide +kernel
theorem dX0_comes_9 : decode cX0_comes 9 = .ok (.if_icmp .ge 20, 3) := by decide +kernel
theorem dX0_comes_12 : decode cX0_comes 12 = .ok (.aload_n 0, 1) := by decide +kernel
theorem dX0_comes_13 : decode cX0_comes 13 = .ok (.getfield 15, 3) := by decide +kernel
theorem dX0_comes_16 : decode cX0_comes 16 = .ok (.iload_n 1, 1) := by decide +kernel
theorem dX0_comes_17 : decode cX0_comes 17 = .ok (.iaload, 1) := by decide +kernel
theorem dX0_comes_18 : decode cX0_comes 18 = .ok (.iload_n 2, 1) := by decide +kernel
theorem dX0_comes_19 : decode cX0_comes 19 = .ok (.ishr, 1) := by decide +kernel
theorem dX0_comes_20 : decode cX0_comes 20 = .ok (.iconst 1, 1) := by decide +kernel
theorem dX0_comes_21 : decode cX0_comes 21 = .ok (.iand, 1) := by decide +kernel
theorem dX0_comes_22 : decode cX0_comes 22 = .ok (.ifCond .eq 7, 3) := by decide +kernel
theorem dX0_comes_25 : decode cX0_comes 25 = .ok (.iconst 1, 1) := by decide +kernel
theorem dX0_comes_26 : decode cX0_comes 26 = .ok (.goto 4, 3) := by decide +kernel
theorem dX0_comes_29 : decode cX0_comes 29 = .ok (.iconst 0, 1) := by decide +kernel
theorem dX0_comes_30 : decode cX0_comes 30 = .ok (.ireturn, 1) := by decide +kernel
theorem foX0_31 : Fo 0 RX0 TX0 5 4 RX0 31 := ⟨rfl, by decide, rfl, uwX0, rfl, Or.inl (tb_in 180 (by decide +kernel) rfl)⟩
theorem foX0_15 : Fo 0 RX0 TX0 5 1 RX0 15 := ⟨rfl, by decide, rfl, uwX0, rfl, Or.inl (tb_in 176 (by decide +kernel) rfl)⟩
def fX0_comes (n : Nat) (a1 : Int32) (a2 : Int32) (μ : Mem) : Option (Int32 × Mem) :=
  if a1 < 0 then some (0, μ) else if (μ.1 42 4) ≤ a1 then some (0, μ) else gd (inb a1 8) (if ((jshr (μ.1 44 (Int32.toNatClampNeg a1)) a2) &&& 1) = 0 then some (0, μ) else some (1, μ))
set_option maxHeartbeats 4000000 in
set_option maxRecDepth 100000 in
theorem ctX0_comes (ad : Nat → Nat) (n : Nat) (a1 : Int32) (a2 : Int32) (μ : Mem) : Ct yX0_comes kX0_comes ad encI [.ref (ad 42), .int a1, .int a2] μ (fX0_comes n a1 a2 μ) := Ct.of (by decide +kernel) rfl (Nat.le_of_ble_eq_true rfl) (by
  show G kX0_comes ad encI 0 [(0, .ref (ad 42)), (1, .int a1), (2, .int a2)] [] μ (fX0_comes n a1 a2 μ)
  unfold fX0_comes
  refine g_iload_n (pc := 0) 1 dX0_comes_0 rfl rfl ?_
  refine g_if_lt (pc := 1) 29 dX0_comes_1 rfl ?_ ?_
  · refine g_iconst (pc := 29) 0 dX0_comes_29 (by decide) ?_
    exact g_zreturn (pc := 30) (by decide) dX0_comes_30 rfl
  · refine g_iload_n (pc := 4) 1 dX0_comes_4 rfl rfl ?_
    refine g_aload_n (pc := 5) 0 dX0_comes_5 rfl rfl ?_
    refine g_get (pc := 6) rfl foX0_31 (v := .int (μ.1 42 4)) rfl dX0_comes_6 ?_
    refine g_icmp_ge (pc := 9) 29 dX0_comes_9 rfl ?_ ?_
    · refine g_iconst (pc := 29) 0 dX0_comes_29 (by decide) ?_
      exact g_zreturn (pc := 30) (by decide) dX0_comes_30 rfl
    · refine g_aload_n (pc := 12) 0 dX0_comes_12 rfl rfl ?_
      refine g_get (pc := 13) rfl foX0_15 (v := .ref (ad 44)) rfl dX0_comes_13 ?_
      refine g_iload_n (pc := 16) 1 dX0_comes_16 rfl rfl ?_
      refine g_iald (pc := 17) rfl (by decide) dX0_comes_17 ?_
      refine g_iload_n (pc := 18) 2 dX0_comes_18 rfl rfl ?_
      refine g_ishr' (pc := 19) dX0_comes_19 ?_
      refine g_iconst (pc := 20) 1 dX0_comes_20 (by decide) ?_
      refine g_iand (pc := 21) dX0_comes_21 ?_
      refine g_if_eq (pc := 22) 29 dX0_comes_22 rfl ?_ ?_
      · refine g_iconst (pc := 29) 0 dX0_comes_29 (by decide) ?_
        exact g_zreturn (pc := 30) (by decide) dX0_comes_30 rfl
      · refine g_iconst (pc := 25) 1 dX0_comes_25 (by decide) ?_
        refine g_goto (pc := 26) 30 dX0_comes_26 rfl ?_
        exact g_zreturn (pc := 30) (by decide) dX0_comes_30 rfl)
-- StopsByLetters$Net.lay(LStopsByLetters$Stations;)V
abbrev kX0_lay : Cfg := (RX0, cX0_lay, 4, none, 3)
theorem dX0_lay_0 : decode cX0_lay 0 = .ok (.aload_n 0, 1) := by decide +kernel
theorem dX0_lay_1 : decode cX0_lay 1 = .ok (.aload_n 1, 1) := by decide +kernel
theorem dX0_lay_2 : decode cX0_lay 2 = .ok (.getfield 25, 3) := by decide +kernel
theorem dX0_lay_5 : decode cX0_lay 5 = .ok (.putfield 31, 3) := by decide +kernel
theorem dX0_lay_8 : decode cX0_lay 8 = .ok (.iconst 0, 1) := by decide +kernel
theorem dX0_lay_9 : decode cX0_lay 9 = .ok (.istore_n 2, 1) := by decide +kernel
theorem dX0_lay_10 : decode cX0_lay 10 = .ok (.iload_n 2, 1) := by decide +kernel
theorem dX0_lay_11 : decode cX0_lay 11 = .ok (.aload_n 0, 1) := by decide +kernel
theorem dX0_lay_12 : decode cX0_lay 12 = .ok (.getfield 31, 3) := by decide +kernel
theorem dX0_lay_15 : decode cX0_lay 15 = .ok (.if_icmp .ge 36, 3) := by decide +kernel
theorem dX0_lay_18 : decode cX0_lay 18 = .ok (.aload_n 0, 1) := by decide +kernel
theorem dX0_lay_19 : decode cX0_lay 19 = .ok (.getfield 9, 3) := by decide +kernel
theorem dX0_lay_22 : decode cX0_lay 22 = .ok (.iload_n 2, 1) := by decide +kernel
theorem dX0_lay_23 : decode cX0_lay 23 = .ok (.aload_n 1, 1) := by decide +kernel
theorem dX0_lay_24 : decode cX0_lay 24 = .ok (.iload_n 2, 1) := by decide +kernel
theorem dX0_lay_25 : decode cX0_lay 25 = .ok (.invokevirtual 34, 3) := by decide +kernel
theorem dX0_lay_28 : decode cX0_lay 28 = .ok (.iastore, 1) := by decide +kernel
theorem dX0_lay_29 : decode cX0_lay 29 = .ok (.aload_n 0, 1) := by decide +kernel
theorem dX0_lay_30 : decode cX0_lay 30 = .ok (.getfield 15, 3) := by decide +kernel
theorem dX0_lay_33 : decode cX0_lay 33 = .ok (.iload_n 2, 1) := by decide +kernel
theorem dX0_lay_34 : decode cX0_lay 34 = .ok (.aload_n 0, 1) := by decide +kernel
theorem dX0_lay_35 : decode cX0_lay 35 = .ok (.getfield 9, 3) := by decide +kernel
theorem dX0_lay_38 : decode cX0_lay 38 = .ok (.iload_n 2, 1) := by decide +kernel
theorem dX0_lay_39 : decode cX0_lay 39 = .ok (.iaload, 1) := by decide +kernel
theorem dX0_lay_40 : decode cX0_lay 40 = .ok (.iconst 1, 1) := by decide +kernel
theorem dX0_lay_41 : decode cX0_lay 41 = .ok (.iload_n 2, 1) := by decide +kernel
theorem dX0_lay_42 : decode cX0_lay 42 = .ok (.ishl, 1) := by decide +kernel
theorem dX0_lay_43 : decode cX0_lay 43 = .ok (.ior, 1) := by decide +kernel
theorem dX0_lay_44 : decode cX0_lay 44 = .ok (.iastore, 1) := by decide +kernel
theorem dX0_lay_45 : decode cX0_lay 45 = .ok (.iinc 2 1, 3) := by decide +kernel
theorem dX0_lay_48 : decode cX0_lay 48 = .ok (.goto (-38), 3) := by decide +kernel
theorem dX0_lay_51 : decode cX0_lay 51 = .ok (.iconst 0, 1) := by decide +kernel
theorem dX0_lay_52 : decode cX0_lay 52 = .ok (.istore_n 2, 1) := by decide +kernel
theorem dX0_lay_53 : decode cX0_lay 53 = .ok (.iload_n 2, 1) := by decide +kernel
theorem dX0_lay_54 : decode cX0_lay 54 = .ok (.aload_n 0, 1) := by decide +kernel
theorem dX0_lay_55 : decode cX0_lay 55 = .ok (.getfield 31, 3) := by decide +kernel
theorem dX0_lay_58 : decode cX0_lay 58 = .ok (.if_icmp .ge 49, 3) := by decide +kernel
theorem dX0_lay_61 : decode cX0_lay 61 = .ok (.iconst 0, 1) := by decide +kernel
theorem dX0_lay_62 : decode cX0_lay 62 = .ok (.istore_n 3, 1) := by decide +kernel
theorem dX0_lay_63 : decode cX0_lay 63 = .ok (.iload_n 3, 1) := by decide +kernel
theorem dX0_lay_64 : decode cX0_lay 64 = .ok (.aload_n 0, 1) := by decide +kernel
theorem dX0_lay_65 : decode cX0_lay 65 = .ok (.getfield 31, 3) := by decide +kernel
theorem dX0_lay_68 : decode cX0_lay 68 = .ok (.if_icmp .ge 33, 3) := by decide +kernel
theorem dX0_lay_71 : decode cX0_lay 71 = .ok (.aload_n 0, 1) := by decide +kernel
theorem dX0_lay_72 : decode cX0_lay 72 = .ok (.iload_n 3, 1) := by decide +kernel
theorem dX0_lay_73 : decode cX0_lay 73 = .ok (.iload_n 2, 1) := by decide +kernel
theorem dX0_lay_74 : decode cX0_lay 74 = .ok (.invokevirtual 38, 3) := by decide +kernel
theorem dX0_lay_77 : decode cX0_lay 77 = .ok (.ifCond .eq 18, 3) := by decide +kernel
theorem dX0_lay_80 : decode cX0_lay 80 = .ok (.aload_n 0, 1) := by decide +kernel
theorem dX0_lay_81 : decode cX0_lay 81 = .ok (.getfield 15, 3) := by decide +kernel
theorem dX0_lay_84 : decode cX0_lay 84 = .ok (.iload_n 3, 1) := by decide +kernel
theorem dX0_lay_85 : decode cX0_lay 85 = .ok (.dup2, 1) := by decide +kernel
theorem dX0_lay_86 : decode cX0_lay 86 = .ok (.iaload, 1) := by decide +kernel
theorem dX0_lay_87 : decode cX0_lay 87 = .ok (.aload_n 0, 1) := by decide +kernel
theorem dX0_lay_88 : decode cX0_lay 88 = .ok (.getfield 15, 3) := by decide +kernel
theorem dX0_lay_91 : decode cX0_lay 91 = .ok (.iload_n 2, 1) := by decide +kernel
theorem dX0_lay_92 : decode cX0_lay 92 = .ok (.iaload, 1) := by decide +kernel
theorem dX0_lay_93 : decode cX0_lay 93 = .ok (.ior, 1) := by decide +kernel
theorem dX0_lay_94 : decode cX0_lay 94 = .ok (.iastore, 1) := by decide +kernel
theorem dX0_lay_95 : decode cX0_lay 95 = .ok (.iinc 3 1, 3) := by decide +kernel
theorem dX0_lay_98 : decode cX0_lay 98 = .ok (.goto (-35), 3) := by decide +kernel
theorem dX0_lay_101 : decode cX0_lay 101 = .ok (.iinc 2 1, 3) := by decide +kernel
theorem dX0_lay_104 : decode cX0_lay 104 = .ok (.goto (-51), 3) := by decide +kernel
theorem dX0_lay_107 : decode cX0_lay 107 = .ok (.return_, 1) := by decide +kernel
theorem foX0_25 : Fo 3 RX3 TX3 5 3 RX0 25 := ⟨rfl, by decide, rfl, uwX3, rfl, Or.inr ⟨RX4, nt_in 123 (by decide +kernel) rfl⟩⟩
theorem fpX0_4 : Fp TX0 5 tyX0 4 := ⟨tyX0_ok, nmX0, rfl⟩
theorem foX0_9 : Fo 0 RX0 TX0 5 0 RX0 9 := ⟨rfl, by decide, rfl, uwX0, rfl, Or.inl (tb_in 175 (by decide +kernel) rfl)⟩
theorem lnX0_34 : Ln RX0 34 yX3_ridesFrom := Or.inr ⟨RX4, nt_in 428 (by decide +kernel) rfl⟩
theorem moX3_ridesFrom : Mv yX3_ridesFrom kX3_ridesFrom 1 := ⟨⟨tb_in 383 (by decide +kernel) rfl, tb_in 88 (by decide +kernel) rfl, ⟨by decide, by decide⟩, by decide +kernel⟩, tb_in 382 (by decide +kernel) rfl, tb_in 11 (by decide +kernel) rfl⟩
def fX0_lay_L10 (n : Nat) (k1 : Nat) (K1 : Mem → Option (Unit × Mem)) : Nat → Int32 → Mem → Option (Unit × Mem)
  | 0, _, _ => none
  | F + 1, v2, μ => if (μ.1 42 4) ≤ v2 then K1 μ else bd (fX3_ridesFrom n k1 v2 μ) (fun r3 m2 => gd (inb v2 8) (bnd (setI m2 43 (Int32.toNatClampNeg v2) r3) (fun m4 => gd (inb v2 8) (gd (inb v2 8) (bnd (setI m4 44 (Int32.toNatClampNeg v2) ((m4.1 43 (Int32.toNatClampNeg v2)) ||| (jshl 1 v2))) (fun m5 => bnd (v2 + 1) (fun x6 => fX0_lay_L10 n k1 K1 F x6 m5)))))))
theorem lnX0_38 : Ln RX0 38 yX0_comes := Or.inl (tb_in 429 (by decide +kernel) rfl)
theorem moX0_comes : Mv yX0_comes kX0_comes 2 := ⟨⟨tb_in 432 (by decide +kernel) rfl, tb_in 91 (by decide +kernel) rfl, ⟨by decide, by decide⟩, by decide +kernel⟩, tb_in 431 (by decide +kernel) rfl, tb_in 17 (by decide +kernel) rfl⟩
def fX0_lay_L63 (n : Nat) (k1 : Nat) (v2 : Int32) (K1 : Mem → Option (Unit × Mem)) : Nat → Int32 → Mem → Option (Unit × Mem)
  | 0, _, _ => none
  | F + 1, v3, μ => if (μ.1 42 4) ≤ v3 then K1 μ else bd (fX0_comes n v3 v2 μ) (fun r9 m8 => if r9 = 0 then bnd (v3 + 1) (fun x10 => fX0_lay_L63 n k1 v2 K1 F x10 m8) else gd (inb v3 8) (gd (inb v2 8) (gd (inb v3 8) (bnd (setI m8 44 (Int32.toNatClampNeg v3) ((m8.1 44 (Int32.toNatClampNeg v3)) ||| (m8.1 44 (Int32.toNatClampNeg v2)))) (fun m11 => bnd (v3 + 1) (fun x12 => fX0_lay_L63 n k1 v2 K1 F x12 m11))))))
def fX0_lay_L53 (n : Nat) (k1 : Nat) : Nat → Int32 → Mem → Option (Unit × Mem)
  | 0, _, _ => none
  | F + 1, v2, μ => if (μ.1 42 4) ≤ v2 then some ((), μ) else fX0_lay_L63 n k1 v2 (fun (m13 : Mem) => bnd (v2 + 1) (fun x14 => fX0_lay_L53 n k1 F x14 m13)) n 0 μ
def fX0_lay (n : Nat) (k1 : Nat) (μ : Mem) : Option (Unit × Mem) :=
  bnd (setI μ 42 4 (μ.1 k1 3)) (fun m1 => fX0_lay_L10 n k1 (fun (m7 : Mem) => fX0_lay_L53 n k1 n 0 m7) n 0 m1)
set_option maxHeartbeats 4000000 in
set_option maxRecDepth 100000 in
theorem wX0_lay_L10 (ad : Nat → Nat) (n : Nat) (k1 : Nat) (h1 : St k1) (K1 : Mem → Option (Unit × Mem)) (hK1 : ∀ (μ : Mem), G kX0_lay ad encV 51 [(0, .ref (ad 42))] [] μ (K1 μ)) : ∀ (F : Nat) (v2 : Int32) (μ : Mem), G kX0_lay ad encV 10 [(0, .ref (ad 42)), (1, .ref (ad k1)), (2, .int v2)] [] μ (fX0_lay_L10 n k1 K1 F v2 μ) := by
  intro F
  induction F with
  | zero =>
    intro v2 μ
    exact g_none
  | succ F ih =>
    intro v2 μ
    rw [fX0_lay_L10]
    refine g_iload_n (pc := 10) 2 dX0_lay_10 rfl rfl ?_
    refine g_aload_n (pc := 11) 0 dX0_lay_11 rfl rfl ?_
    refine g_get (pc := 12) rfl foX0_31 (v := .int (μ.1 42 4)) rfl dX0_lay_12 ?_
    refine g_icmp_ge (pc := 15) 51 dX0_lay_15 rfl ?_ ?_
    · exact g_sub [0] rfl (hK1 μ)
    · refine g_aload_n (pc := 18) 0 dX0_lay_18 rfl rfl ?_
      refine g_get (pc := 19) rfl foX0_9 (v := .ref (ad 43)) rfl dX0_lay_19 ?_
      refine g_iload_n (pc := 22) 2 dX0_lay_22 rfl rfl ?_
      refine g_aload_n (pc := 23) 1 dX0_lay_23 rfl rfl ?_
      refine g_iload_n (pc := 24) 2 dX0_lay_24 rfl rfl ?_
      refine g_cVI (pc := 25) (st := [.int v2, .ref (ad 43)]) [.int v2] (st_o h1) rfl moX3_ridesFrom lnX0_34 (ctX3_ridesFrom ad n k1 h1 v2 μ) rfl ⟨Nat.le_of_ble_eq_true rfl, Nat.le_of_ble_eq_true rfl⟩ rfl (Nat.le_of_ble_eq_true rfl) dX0_lay_25 (fun r3 m2 => ?_)
      refine g_iast (pc := 28) rfl (by decide) dX0_lay_28 (fun m4 => ?_)
      refine g_aload_n (pc := 29) 0 dX0_lay_29 rfl rfl ?_
      refine g_get (pc := 30) rfl foX0_15 (v := .ref (ad 44)) rfl dX0_lay_30 ?_
      refine g_iload_n (pc := 33) 2 dX0_lay_33 rfl rfl ?_
      refine g_aload_n (pc := 34) 0 dX0_lay_34 rfl rfl ?_
      refine g_get (pc := 35) rfl foX0_9 (v := .ref (ad 43)) rfl dX0_lay_35 ?_
      refine g_iload_n (pc := 38) 2 dX0_lay_38 rfl rfl ?_
      refine g_iald (pc := 39) rfl (by decide) dX0_lay_39 ?_
      refine g_iconst (pc := 40) 1 dX0_lay_40 (by decide) ?_
      refine g_iload_n (pc := 41) 2 dX0_lay_41 rfl rfl ?_
      refine g_ishl' (pc := 42) dX0_lay_42 ?_
      refine g_ior (pc := 43) dX0_lay_43 ?_
      refine g_iast (pc := 44) rfl (by decide) dX0_lay_44 (fun m5 => ?_)
      refine g_iincB (pc := 45) 2 1 1 (fun x6 => [(2, .int x6), (0, .ref (ad 42)), (1, .ref (ad k1))]) dX0_lay_45 rfl (by decide) (by decide) (fun _ => rfl) (fun x6 => ?_)
      refine g_goto (pc := 48) 10 dX0_lay_48 rfl ?_
      exact g_sub [1, 2, 0] rfl (ih x6 m5)
set_option maxHeartbeats 4000000 in
set_option maxRecDepth 100000 in
theorem wX0_lay_L63 (ad : Nat → Nat) (n : Nat) (k1 : Nat) (h1 : St k1) (v2 : Int32) (K1 : Mem → Option (Unit × Mem)) (hK1 : ∀ (μ : Mem), G kX0_lay ad encV 101 [(0, .ref (ad 42)), (2, .int v2)] [] μ (K1 μ)) : ∀ (F : Nat) (v3 : Int32) (μ : Mem), G kX0_lay ad encV 63 [(0, .ref (ad 42)), (2, .int v2), (3, .int v3)] [] μ (fX0_lay_L63 n k1 v2 K1 F v3 μ) := by
  intro F
  induction F with
  | zero =>
    intro v3 μ
    exact g_none
  | succ F ih =>
    intro v3 μ
    rw [fX0_lay_L63]
    refine g_iload_n (pc := 63) 2 dX0_lay_63 rfl rfl ?_
    refine g_aload_n (pc := 64) 0 dX0_lay_64 rfl rfl ?_
    refine g_get (pc := 65) rfl foX0_31 (v := .int (μ.1 42 4)) rfl dX0_lay_65 ?_
    refine g_icmp_ge (pc := 68) 101 dX0_lay_68 rfl ?_ ?_
    · exact g_sub [0, 1] rfl (hK1 μ)
    · refine g_aload_n (pc := 71) 0 dX0_lay_71 rfl rfl ?_
      refine g_iload_n (pc := 72) 2 dX0_lay_72 rfl rfl ?_
      refine g_iload_n (pc := 73) 1 dX0_lay_73 rfl rfl ?_
      refine g_cVI (pc := 74) (st := []) [.int v3, .int v2] rfl rfl moX0_comes lnX0_38 (ctX0_comes ad n v3 v2 μ) rfl ⟨Nat.le_of_ble_eq_true rfl, Nat.le_of_ble_eq_true rfl⟩ rfl (Nat.le_of_ble_eq_true rfl) dX0_lay_74 (fun r9 m8 => ?_)
      refine g_if_eq (pc := 77) 95 dX0_lay_77 rfl ?_ ?_
      · refine g_iincB (pc := 95) 2 1 1 (fun x10 => [(3, .int x10), (0, .ref (ad 42)), (2, .int v2)]) dX0_lay_95 rfl (by decide) (by decide) (fun _ => rfl) (fun x10 => ?_)
        refine g_goto (pc := 98) 63 dX0_lay_98 rfl ?_
        exact g_sub [1, 2, 0] rfl (ih x10 m8)
      · refine g_aload_n (pc := 80) 0 dX0_lay_80 rfl rfl ?_
        refine g_get (pc := 81) rfl foX0_15 (v := .ref (ad 44)) rfl dX0_lay_81 ?_
        refine g_iload_n (pc := 84) 2 dX0_lay_84 rfl rfl ?_
        refine g_dup2 (pc := 85) dX0_lay_85 rfl rfl ?_
        refine g_iald (pc := 86) rfl (by decide) dX0_lay_86 ?_
        refine g_aload_n (pc := 87) 0 dX0_lay_87 rfl rfl ?_
        refine g_get (pc := 88) rfl foX0_15 (v := .ref (ad 44)) rfl dX0_lay_88 ?_
        refine g_iload_n (pc := 91) 1 dX0_lay_91 rfl rfl ?_
        refine g_iald (pc := 92) rfl (by decide) dX0_lay_92 ?_
        refine g_ior (pc := 93) dX0_lay_93 ?_
        refine g_iast (pc := 94) rfl (by decide) dX0_lay_94 (fun m11 => ?_)
        refine g_iincB (pc := 95) 2 1 1 (fun x12 => [(3, .int x12), (0, .ref (ad 42)), (2, .int v2)]) dX0_lay_95 rfl (by decide) (by decide) (fun _ => rfl) (fun x12 => ?_)
        refine g_goto (pc := 98) 63 dX0_lay_98 rfl ?_
        exact g_sub [1, 2, 0] rfl (ih x12 m11)
set_option maxHeartbeats 4000000 in
set_option maxRecDepth 100000 in
theorem wX0_lay_L53 (ad : Nat → Nat) (n : Nat) (k1 : Nat) (h1 : St k1) : ∀ (F : Nat) (v2 : Int32) (μ : Mem), G kX0_lay ad encV 53 [(0, .ref (ad 42)), (2, .int v2)] [] μ (fX0_lay_L53 n k1 F v2 μ) := by
  intro F
  induction F with
  | zero =>
    intro v2 μ
    exact g_none
  | succ F ih =>
    intro v2 μ
    rw [fX0_lay_L53]
    refine g_iload_n (pc := 53) 1 dX0_lay_53 rfl rfl ?_
    refine g_aload_n (pc := 54) 0 dX0_lay_54 rfl rfl ?_
    refine g_get (pc := 55) rfl foX0_31 (v := .int (μ.1 42 4)) rfl dX0_lay_55 ?_
    refine g_icmp_ge (pc := 58) 107 dX0_lay_58 rfl ?_ ?_
    · exact g_return (pc := 107) dX0_lay_107 rfl
    · refine g_iconst (pc := 61) 0 dX0_lay_61 (by decide) ?_
      refine g_istore_n (pc := 62) [(3, .int 0), (0, .ref (ad 42)), (2, .int v2)] dX0_lay_62 rfl (by decide) rfl ?_
      refine g_sub [1, 2, 0] rfl (wX0_lay_L63 ad n k1 h1 v2 _ (fun m13 => ?_) n 0 μ)
      refine g_iincB (pc := 101) 1 1 1 (fun x14 => [(2, .int x14), (0, .ref (ad 42))]) dX0_lay_101 rfl (by decide) (by decide) (fun _ => rfl) (fun x14 => ?_)
      refine g_goto (pc := 104) 53 dX0_lay_104 rfl ?_
      exact g_sub [1, 0] rfl (ih x14 m13)
set_option maxHeartbeats 4000000 in
set_option maxRecDepth 100000 in
theorem ctX0_lay (ad : Nat → Nat) (n : Nat) (k1 : Nat) (h1 : St k1) (μ : Mem) : Ct yX0_lay kX0_lay ad encV [.ref (ad 42), .ref (ad k1)] μ (fX0_lay n k1 μ) := Ct.of (by decide +kernel) rfl (Nat.le_of_ble_eq_true rfl) (by
  show G kX0_lay ad encV 0 [(0, .ref (ad 42)), (1, .ref (ad k1))] [] μ (fX0_lay n k1 μ)
  unfold fX0_lay
  refine g_aload_n (pc := 0) 0 dX0_lay_0 rfl rfl ?_
  refine g_aload_n (pc := 1) 1 dX0_lay_1 rfl rfl ?_
  refine g_get (pc := 2) (st_o h1) foX0_25 (v := .int (μ.1 k1 3)) rfl dX0_lay_2 ?_
  refine g_put (pc := 5) rfl foX0_31 fpX0_4 rfl rfl dX0_lay_5 (fun m1 => ?_)
  refine g_iconst (pc := 8) 0 dX0_lay_8 (by decide) ?_
  refine g_istore_n (pc := 9) [(2, .int 0), (0, .ref (ad 42)), (1, .ref (ad k1))] dX0_lay_9 rfl (by decide) rfl ?_
  refine g_sub [1, 2, 0] rfl (wX0_lay_L10 ad n k1 h1 _ (fun m7 => ?_) n 0 m1)
  refine g_iconst (pc := 51) 0 dX0_lay_51 (by decide) ?_
  refine g_istore_n (pc := 52) [(2, .int 0), (0, .ref (ad 42))] dX0_lay_52 rfl (by decide) rfl ?_
  exact g_sub [1, 0] rfl (wX0_lay_L53 ad n k1 h1 n 0 m7))
-- StopsByLetters$Net.leads(II)Z
abbrev kX0_leads : Cfg := (RX0, cX0_leads, 3, (some .boolean), 0)
theorem dX0_leads_0 : decode cX0_leads 0 = .ok (.iload_n 1, 1) := by decide +kernel
theorem dX0_leads_1 : decode cX0_leads 1 = .ok (.ifCond .lt 28, 3) := by decide +kernel
theorem dX0_leads_4 : decode cX0_leads 4 = .ok (.iload_n 1, 1) := by decide +kernel
theorem dX0_leads_5 : decode cX0_leads 5 = .ok (.aload_n 0, 1) := by decide +kernel
theorem dX0_leads_6 : decode cX0_leads 6 = .ok (.getfield 31, 3) := by decide +kernel
theorem dX0_leads_9 : decode cX0_leads 9 = .ok (.if_icmp .ge 20, 3) := by decide +kernel
theorem dX0_leads_12 : decode cX0_leads 12 = .ok (.aload_n 0, 1) := by decide +kernel
theorem dX0_leads_13 : decode cX0_leads 13 = .ok (.getfield 9, 3) := by decide +kernel
theorem dX0_leads_16 : decode cX0_leads 16 = .ok (.iload_n 1, 1) := by decide +kernel
theorem dX0_leads_17 : decode cX0_leads 17 = .ok (.iaload, 1) := by decide +kernel
theorem dX0_leads_18 : decode cX0_leads 18 = .ok (.iload_n 2, 1) := by decide +kernel
theorem dX0_leads_19 : decode cX0_leads 19 = .ok (.ishr, 1) := by decide +kernel
theorem dX0_leads_20 : decode cX0_leads 20 = .ok (.iconst 1, 1) := by decide +kernel
theorem dX0_leads_21 : decode cX0_leads 21 = .ok (.iand, 1) := by decide +kernel
theorem dX0_leads_22 : decode cX0_leads 22 = .ok (.ifCond .eq 7, 3) := by decide +kernel
theorem dX0_leads_25 : decode cX0_leads 25 = .ok (.iconst 1, 1) := by decide +kernel
theorem dX0_leads_26 : decode cX0_leads 26 = .ok (.goto 4, 3) := by decide +kernel
theorem dX0_leads_29 : decode cX0_leads 29 = .ok (.iconst 0, 1) := by decide +kernel
theorem dX0_leads_30 : decode cX0_leads 30 = .ok (.ireturn, 1) := by decide +kernel
def fX0_leads (n : Nat) (a1 : Int32) (a2 : Int32) (μ : Mem) : Option (Int32 × Mem) :=
  if a1 < 0 then some (0, μ) else if (μ.1 42 4) ≤ a1 then some (0, μ) else gd (inb a1 8) (if ((jshr (μ.1 43 (Int32.toNatClampNeg a1)) a2) &&& 1) = 0 then some (0, μ) else some (1, μ))
set_option maxHeartbeats 4000000 in
set_option maxRecDepth 100000 in
theorem ctX0_leads (ad : Nat → Nat) (n : Nat) (a1 : Int32) (a2 : Int32) (μ : Mem) : Ct yX0_leads kX0_leads ad encI [.ref (ad 42), .int a1, .int a2] μ (fX0_leads n a1 a2 μ) := Ct.of (by decide +kernel) rfl (Nat.le_of_ble_eq_true rfl) (by
  show G kX0_leads ad encI 0 [(0, .ref (ad 42)), (1, .int a1), (2, .int a2)] [] μ (fX0_leads n a1 a2 μ)
  unfold fX0_leads
  refine g_iload_n (pc := 0) 1 dX0_leads_0 rfl rfl ?_
  refine g_if_lt (pc := 1) 29 dX0_leads_1 rfl ?_ ?_
  · refine g_iconst (pc := 29) 0 dX0_leads_29 (by decide) ?_
    exact g_zreturn (pc := 30) (by decide) dX0_leads_30 rfl
  · refine g_iload_n (pc := 4) 1 dX0_leads_4 rfl rfl ?_
    refine g_aload_n (pc := 5) 0 dX0_leads_5 rfl rfl ?_
    refine g_get (pc := 6) rfl foX0_31 (v := .int (μ.1 42 4)) rfl dX0_leads_6 ?_
    refine g_icmp_ge (pc := 9) 29 dX0_leads_9 rfl ?_ ?_
    · refine g_iconst (pc := 29) 0 dX0_leads_29 (by decide) ?_
      exact g_zreturn (pc := 30) (by decide) dX0_leads_30 rfl
    · refine g_aload_n (pc := 12) 0 dX0_leads_12 rfl rfl ?_
      refine g_get (pc := 13) rfl foX0_9 (v := .ref (ad 43)) rfl dX0_leads_13 ?_
      refine g_iload_n (pc := 16) 1 dX0_leads_16 rfl rfl ?_
      refine g_iald (pc := 17) rfl (by decide) dX0_leads_17 ?_
      refine g_iload_n (pc := 18) 2 dX0_leads_18 rfl rfl ?_
      refine g_ishr' (pc := 19) dX0_leads_19 ?_
      refine g_iconst (pc := 20) 1 dX0_leads_20 (by decide) ?_
      refine g_iand (pc := 21) dX0_leads_21 ?_
      refine g_if_eq (pc := 22) 29 dX0_leads_22 rfl ?_ ?_
      · refine g_iconst (pc := 29) 0 dX0_leads_29 (by decide) ?_
        exact g_zreturn (pc := 30) (by decide) dX0_leads_30 rfl
      · refine g_iconst (pc := 25) 1 dX0_leads_25 (by decide) ?_
        refine g_goto (pc := 26) 30 dX0_leads_26 rfl ?_
        exact g_zreturn (pc := 30) (by decide) dX0_leads_30 rfl)
-- StopsByLetters$Net.comers(I)I
abbrev kX0_comers : Cfg := (RX0, cX0_comers, 4, (some .int), 1)
theorem dX0_comers_0 : decode cX0_comers 0 = .ok (.iconst 0, 1) := by decide +kernel
theorem dX0_comers_1 : decode cX0_comers 1 = .ok (.istore_n 2, 1) := by decide +kernel
theorem dX0_comers_2 : decode cX0_comers 2 = .ok (.iconst 0, 1) := by decide +kernel
theorem dX0_comers_3 : decode cX0_comers 3 = .ok (.istore_n 3, 1) := by decide +kernel
theorem dX0_comers_4 : decode cX0_comers 4 = .ok (.iload_n 3, 1) := by decide +kernel
theorem dX0_comers_5 : decode cX0_comers 5 = .ok (.aload_n 0, 1) := by decide +kernel
theorem dX0_comers_6 : decode cX0_comers 6 = .ok (.getfield 31, 3) := by decide +kernel
theorem dX0_comers_9 : decode cX0_comers 9 = .ok (.if_icmp .ge 24, 3) := by decide +kernel
theorem dX0_comers_12 : decode cX0_comers 12 = .ok (.aload_n 0, 1) := by decide +kernel
theorem dX0_comers_13 : decode cX0_comers 13 = .ok (.iload_n 3, 1) := by decide +kernel
theorem dX0_comers_14 : decode cX0_comers 14 = .ok (.iload_n 1, 1) := by decide +kernel
theorem dX0_comers_15 : decode cX0_comers 15 = .ok (.invokevirtual 38, 3) := by decide +kernel
theorem dX0_comers_18 : decode cX0_comers 18 = .ok (.ifCond .eq 9, 3) := by decide +kernel
theorem dX0_comers_21 : decode cX0_comers 21 = .ok (.iload_n 2, 1) := by decide +kernel
theorem dX0_comers_22 : decode cX0_comers 22 = .ok (.iconst 1, 1) := by decide +kernel
theorem dX0_comers_23 : decode cX0_comers 23 = .ok (.iload_n 3, 1) := by decide +kernel
theorem dX0_comers_24 : decode cX0_comers 24 = .ok (.ishl, 1) := by decide +kernel
theorem dX0_comers_25 : decode cX0_comers 25 = .ok (.ior, 1) := by decide +kernel
theorem dX0_comers_26 : decode cX0_comers 26 = .ok (.istore_n 2, 1) := by decide +kernel
theorem dX0_comers_27 : decode cX0_comers 27 = .ok (.iinc 3 1, 3) := by decide +kernel
theorem dX0_comers_30 : decode cX0_comers 30 = .ok (.goto (-26), 3) := by decide +kernel
theorem dX0_comers_33 : decode cX0_comers 33 = .ok (.iload_n 2, 1) := by decide +kernel
theorem dX0_comers_34 : decode cX0_comers 34 = .ok (.ireturn, 1) := by decide +kernel
def fX0_comers_L4 (n : Nat) (v1 : Int32) : Nat → Int32 → Int32 → Mem → Option (Int32 × Mem)
  | 0, _, _, _ => none
  | F + 1, v2, v3, μ => if (μ.1 42 4) ≤ v3 then some (v2, μ) else bd (fX0_comes n v3 v1 μ) (fun r2 m1 => if r2 = 0 then bnd (v3 + 1) (fun x3 => fX0_comers_L4 n v1 F v2 x3 m1) else bnd (v2 ||| (jshl 1 v3)) (fun x4 => bnd (v3 + 1) (fun x5 => fX0_comers_L4 n v1 F x4 x5 m1)))
def fX0_comers (n : Nat) (a1 : Int32) (μ : Mem) : Option (Int32 × Mem) :=
  fX0_comers_L4 n a1 n 0 0 μ
set_option maxHeartbeats 4000000 in
set_option maxRecDepth 100000 in
theorem wX0_comers_L4 (ad : Nat → Nat) (n : Nat) (v1 : Int32) : ∀ (F : Nat) (v2 : Int32) (v3 : Int32) (μ : Mem), G kX0_comers ad encI 4 [(0, .ref (ad 42)), (1, .int v1), (2, .int v2), (3, .int v3)] [] μ (fX0_comers_L4 n v1 F v2 v3 μ) := by
  intro F
  induction F with
  | zero =>
    intro v2 v3 μ
    exact g_none
  | succ F ih =>
    intro v2 v3 μ
    rw [fX0_comers_L4]
    refine g_iload_n (pc := 4) 3 dX0_comers_4 rfl rfl ?_
    refine g_aload_n (pc := 5) 0 dX0_comers_5 rfl rfl ?_
    refine g_get (pc := 6) rfl foX0_31 (v := .int (μ.1 42 4)) rfl dX0_comers_6 ?_
    refine g_icmp_ge (pc := 9) 33 dX0_comers_9 rfl ?_ ?_
    · refine g_iload_n (pc := 33) 2 dX0_comers_33 rfl rfl ?_
      exact g_ireturn (pc := 34) dX0_comers_34 rfl
    · refine g_aload_n (pc := 12) 0 dX0_comers_12 rfl rfl ?_
      refine g_iload_n (pc := 13) 3 dX0_comers_13 rfl rfl ?_
      refine g_iload_n (pc := 14) 1 dX0_comers_14 rfl rfl ?_
      refine g_cVI (pc := 15) (st := []) [.int v3, .int v1] rfl rfl moX0_comes lnX0_38 (ctX0_comes ad n v3 v1 μ) rfl ⟨Nat.le_of_ble_eq_true rfl, Nat.le_of_ble_eq_true rfl⟩ rfl (Nat.le_of_ble_eq_true rfl) dX0_comers_15 (fun r2 m1 => ?_)
      refine g_if_eq (pc := 18) 27 dX0_comers_18 rfl ?_ ?_
      · refine g_iincB (pc := 27) 3 1 1 (fun x3 => [(3, .int x3), (0, .ref (ad 42)), (1, .int v1), (2, .int v2)]) dX0_comers_27 rfl (by decide) (by decide) (fun _ => rfl) (fun x3 => ?_)
        refine g_goto (pc := 30) 4 dX0_comers_30 rfl ?_
        exact g_sub [1, 2, 3, 0] rfl (ih v2 x3 m1)
      · refine g_iload_n (pc := 21) 2 dX0_comers_21 rfl rfl ?_
        refine g_iconst (pc := 22) 1 dX0_comers_22 (by decide) ?_
        refine g_iload_n (pc := 23) 3 dX0_comers_23 rfl rfl ?_
        refine g_ishl' (pc := 24) dX0_comers_24 ?_
        refine g_ior (pc := 25) dX0_comers_25 ?_
        refine g_istore_nB (pc := 26) (fun x4 => [(2, .int x4), (0, .ref (ad 42)), (1, .int v1), (3, .int v3)]) dX0_comers_26 rfl (by decide) (fun _ => rfl) (fun x4 => ?_)
        refine g_iincB (pc := 27) 3 1 1 (fun x5 => [(3, .int x5), (2, .int x4), (0, .ref (ad 42)), (1, .int v1)]) dX0_comers_27 rfl (by decide) (by decide) (fun _ => rfl) (fun x5 => ?_)
        refine g_goto (pc := 30) 4 dX0_comers_30 rfl ?_
        exact g_sub [2, 3, 1, 0] rfl (ih x4 x5 m1)
set_option maxHeartbeats 4000000 in
set_option maxRecDepth 100000 in
theorem ctX0_comers (ad : Nat → Nat) (n : Nat) (a1 : Int32) (μ : Mem) : Ct yX0_comers kX0_comers ad encI [.ref (ad 42), .int a1] μ (fX0_comers n a1 μ) := Ct.of (by decide +kernel) rfl (Nat.le_of_ble_eq_true rfl) (by
  show G kX0_comers ad encI 0 [(0, .ref (ad 42)), (1, .int a1)] [] μ (fX0_comers n a1 μ)
  unfold fX0_comers
  refine g_iconst (pc := 0) 0 dX0_comers_0 (by decide) ?_
  refine g_istore_n (pc := 1) [(2, .int 0), (0, .ref (ad 42)), (1, .int a1)] dX0_comers_1 rfl (by decide) rfl ?_
  refine g_iconst (pc := 2) 0 dX0_comers_2 (by decide) ?_
  refine g_istore_n (pc := 3) [(3, .int 0), (2, .int 0), (0, .ref (ad 42)), (1, .int a1)] dX0_comers_3 rfl (by decide) rfl ?_
  exact g_sub [2, 3, 1, 0] rfl (wX0_comers_L4 ad n a1 n 0 0 μ))
-- StopsByLetters$Net.oneRideFrom(I)I
abbrev kX0_oneRideFrom : Cfg := (RX0, cX0_oneRideFrom, 4, (some .int), 0)
theorem dX0_oneRideFrom_0 : decode cX0_oneRideFrom 0 = .ok (.iconst 0, 1) := by decide +kernel
theorem dX0_oneRideFrom_1 : decode cX0_oneRideFrom 1 = .ok (.istore_n 2, 1) := by decide +kernel
theorem dX0_oneRideFrom_2 : decode cX0_oneRideFrom 2 = .ok (.iconst 0, 1) := by decide +kernel
theorem dX0_oneRideFrom_3 : decode cX0_oneRideFrom 3 = .ok (.istore_n 3, 1) := by decide +kernel
theorem dX0_oneRideFrom_4 : decode cX0_oneRideFrom 4 = .ok (.iload_n 3, 1) := by decide +kernel
theorem dX0_oneRideFrom_5 : decode cX0_oneRideFrom 5 = .ok (.aload_n 0, 1) := by decide +kernel
theorem dX0_oneRideFrom_6 : decode cX0_oneRideFrom 6 = .ok (.getfield 31, 3) := by decide +kernel
theorem dX0_oneRideFrom_9 : decode cX0_oneRideFrom 9 = .ok (.if_icmp .ge 26, 3) := by decide +kernel
theorem dX0_oneRideFrom_12 : decode cX0_oneRideFrom 12 = .ok (.iload_n 1, 1) := by decide +kernel
theorem dX0_oneRideFrom_13 : decode cX0_oneRideFrom 13 = .ok (.iload_n 3, 1) := by decide +kernel
theorem dX0_oneRideFrom_14 : decode cX0_oneRideFrom 14 = .ok (.ishr, 1) := by decide +kernel
theorem dX0_oneRideFrom_15 : decode cX0_oneRideFrom 15 = .ok (.iconst 1, 1) := by decide +kernel
theorem dX0_oneRideFrom_16 : decode cX0_oneRideFrom 16 = .ok (.iand, 1) := by decide +kernel
theorem dX0_oneRideFrom_17 : decode cX0_oneRideFrom 17 = .ok (.ifCond .eq 12, 3) := by decide +kernel
theorem dX0_oneRideFrom_20 : decode cX0_oneRideFrom 20 = .ok (.iload_n 2, 1) := by decide +kernel
theorem dX0_oneRideFrom_21 : decode cX0_oneRideFrom 21 = .ok (.aload_n 0, 1) := by decide +kernel
theorem dX0_oneRideFrom_22 : decode cX0_oneRideFrom 22 = .ok (.getfield 9, 3) := by decide +kernel
theorem dX0_oneRideFrom_25 : decode cX0_oneRideFrom 25 = .ok (.iload_n 3, 1) := by decide +kernel
theorem dX0_oneRideFrom_26 : decode cX0_oneRideFrom 26 = .ok (.iaload, 1) := by decide +kernel
theorem dX0_oneRideFrom_27 : decode cX0_oneRideFrom 27 = .ok (.ior, 1) := by decide +kernel
theorem dX0_oneRideFrom_28 : decode cX0_oneRideFrom 28 = .ok (.istore_n 2, 1) := by decide +kernel
theorem dX0_oneRideFrom_29 : decode cX0_oneRideFrom 29 = .ok (.iinc 3 1, 3) := by decide +kernel
theorem dX0_oneRideFrom_32 : decode cX0_oneRideFrom 32 = .ok (.goto (-28), 3) := by decide +kernel
theorem dX0_oneRideFrom_35 : decode cX0_oneRideFrom 35 = .ok (.iload_n 2, 1) := by decide +kernel
theorem dX0_oneRideFrom_36 : decode cX0_oneRideFrom 36 = .ok (.ireturn, 1) := by decide +kernel
def fX0_oneRideFrom_L4 (n : Nat) (v1 : Int32) : Nat → Int32 → Int32 → Mem → Option (Int32 × Mem)
  | 0, _, _, _ => none
  | F + 1, v2, v3, μ => if (μ.1 42 4) ≤ v3 then some (v2, μ) else if ((jshr v1 v3) &&& 1) = 0 then bnd (v3 + 1) (fun x1 => fX0_oneRideFrom_L4 n v1 F v2 x1 μ) else gd (inb v3 8) (bnd (v2 ||| (μ.1 43 (Int32.toNatClampNeg v3))) (fun x2 => bnd (v3 + 1) (fun x3 => fX0_oneRideFrom_L4 n v1 F x2 x3 μ)))
def fX0_oneRideFrom (n : Nat) (a1 : Int32) (μ : Mem) : Option (Int32 × Mem) :=
  fX0_oneRideFrom_L4 n a1 n 0 0 μ
set_option maxHeartbeats 4000000 in
set_option maxRecDepth 100000 in
theorem wX0_oneRideFrom_L4 (ad : Nat → Nat) (n : Nat) (v1 : Int32) : ∀ (F : Nat) (v2 : Int32) (v3 : Int32) (μ : Mem), G kX0_oneRideFrom ad encI 4 [(0, .ref (ad 42)), (1, .int v1), (2, .int v2), (3, .int v3)] [] μ (fX0_oneRideFrom_L4 n v1 F v2 v3 μ) := by
  intro F
  induction F with
  | zero =>
    intro v2 v3 μ
    exact g_none
  | succ F ih =>
    intro v2 v3 μ
    rw [fX0_oneRideFrom_L4]
    refine g_iload_n (pc := 4) 3 dX0_oneRideFrom_4 rfl rfl ?_
    refine g_aload_n (pc := 5) 0 dX0_oneRideFrom_5 rfl rfl ?_
    refine g_get (pc := 6) rfl foX0_31 (v := .int (μ.1 42 4)) rfl dX0_oneRideFrom_6 ?_
    refine g_icmp_ge (pc := 9) 35 dX0_oneRideFrom_9 rfl ?_ ?_
    · refine g_iload_n (pc := 35) 2 dX0_oneRideFrom_35 rfl rfl ?_
      exact g_ireturn (pc := 36) dX0_oneRideFrom_36 rfl
    · refine g_iload_n (pc := 12) 1 dX0_oneRideFrom_12 rfl rfl ?_
      refine g_iload_n (pc := 13) 3 dX0_oneRideFrom_13 rfl rfl ?_
      refine g_ishr' (pc := 14) dX0_oneRideFrom_14 ?_
      refine g_iconst (pc := 15) 1 dX0_oneRideFrom_15 (by decide) ?_
      refine g_iand (pc := 16) dX0_oneRideFrom_16 ?_
      refine g_if_eq (pc := 17) 29 dX0_oneRideFrom_17 rfl ?_ ?_
      · refine g_iincB (pc := 29) 3 1 1 (fun x1 => [(3, .int x1), (0, .ref (ad 42)), (1, .int v1), (2, .int v2)]) dX0_oneRideFrom_29 rfl (by decide) (by decide) (fun _ => rfl) (fun x1 => ?_)
        refine g_goto (pc := 32) 4 dX0_oneRideFrom_32 rfl ?_
        exact g_sub [1, 2, 3, 0] rfl (ih v2 x1 μ)
      · refine g_iload_n (pc := 20) 2 dX0_oneRideFrom_20 rfl rfl ?_
        refine g_aload_n (pc := 21) 0 dX0_oneRideFrom_21 rfl rfl ?_
        refine g_get (pc := 22) rfl foX0_9 (v := .ref (ad 43)) rfl dX0_oneRideFrom_22 ?_
        refine g_iload_n (pc := 25) 3 dX0_oneRideFrom_25 rfl rfl ?_
        refine g_iald (pc := 26) rfl (by decide) dX0_oneRideFrom_26 ?_
        refine g_ior (pc := 27) dX0_oneRideFrom_27 ?_
        refine g_istore_nB (pc := 28) (fun x2 => [(2, .int x2), (0, .ref (ad 42)), (1, .int v1), (3, .int v3)]) dX0_oneRideFrom_28 rfl (by decide) (fun _ => rfl) (fun x2 => ?_)
        refine g_iincB (pc := 29) 3 1 1 (fun x3 => [(3, .int x3), (2, .int x2), (0, .ref (ad 42)), (1, .int v1)]) dX0_oneRideFrom_29 rfl (by decide) (by decide) (fun _ => rfl) (fun x3 => ?_)
        refine g_goto (pc := 32) 4 dX0_oneRideFrom_32 rfl ?_
        exact g_sub [2, 3, 1, 0] rfl (ih x2 x3 μ)
set_option maxHeartbeats 4000000 in
set_option maxRecDepth 100000 in
theorem ctX0_oneRideFrom (ad : Nat → Nat) (n : Nat) (a1 : Int32) (μ : Mem) : Ct yX0_oneRideFrom kX0_oneRideFrom ad encI [.ref (ad 42), .int a1] μ (fX0_oneRideFrom n a1 μ) := Ct.of (by decide +kernel) rfl (Nat.le_of_ble_eq_true rfl) (by
  show G kX0_oneRideFrom ad encI 0 [(0, .ref (ad 42)), (1, .int a1)] [] μ (fX0_oneRideFrom n a1 μ)
  unfold fX0_oneRideFrom
  refine g_iconst (pc := 0) 0 dX0_oneRideFrom_0 (by decide) ?_
  refine g_istore_n (pc := 1) [(2, .int 0), (0, .ref (ad 42)), (1, .int a1)] dX0_oneRideFrom_1 rfl (by decide) rfl ?_
  refine g_iconst (pc := 2) 0 dX0_oneRideFrom_2 (by decide) ?_
  refine g_istore_n (pc := 3) [(3, .int 0), (2, .int 0), (0, .ref (ad 42)), (1, .int a1)] dX0_oneRideFrom_3 rfl (by decide) rfl ?_
  exact g_sub [2, 3, 1, 0] rfl (wX0_oneRideFrom_L4 ad n a1 n 0 0 μ))
-- StopsByLetters$Net.fewest(II)I
abbrev kX0_fewest : Cfg := (RX0, cX0_fewest, 5, (some .int), 1)
theorem dX0_fewest_0 : decode cX0_fewest 0 = .ok (.iconst 1, 1) := by decide +kernel
theorem dX0_fewest_1 : decode cX0_fewest 1 = .ok (.iload_n 1, 1) := by decide +kernel
theorem dX0_fewest_2 : decode cX0_fewest 2 = .ok (.ishl, 1) := by decide +kernel
theorem dX0_fewest_3 : decode cX0_fewest 3 = .ok (.istore_n 3, 1) := by decide +kernel
theorem dX0_fewest_4 : decode cX0_fewest 4 = .ok (.iconst 0, 1) := by decide +kernel
theorem dX0_fewest_5 : decode cX0_fewest 5 = .ok (.istore 4, 2) := by decide +kernel
theorem dX0_fewest_7 : decode cX0_fewest 7 = .ok (.iload 4, 2) := by decide +kernel
theorem dX0_fewest_9 : decode cX0_fewest 9 = .ok (.bipush 8, 2) := by decide +kernel
theorem dX0_fewest_11 : decode cX0_fewest 11 = .ok (.if_icmp .ge 28, 3) := by decide +kernel
theorem dX0_fewest_14 : decode cX0_fewest 14 = .ok (.iload_n 3, 1) := by decide +kernel
theorem dX0_fewest_15 : decode cX0_fewest 15 = .ok (.iload_n 2, 1) := by decide +kernel
theorem dX0_fewest_16 : decode cX0_fewest 16 = .ok (.ishr, 1) := by decide +kernel
theorem dX0_fewest_17 : decode cX0_fewest 17 = .ok (.iconst 1, 1) := by decide +kernel
theorem dX0_fewest_18 : decode cX0_fewest 18 = .ok (.iand, 1) := by decide +kernel
theorem dX0_fewest_19 : decode cX0_fewest 19 = .ok (.ifCond .eq 6, 3) := by decide +kernel
theorem dX0_fewest_22 : decode cX0_fewest 22 = .ok (.iload 4, 2) := by decide +kernel
theorem dX0_fewest_24 : decode cX0_fewest 24 = .ok (.ireturn, 1) := by decide +kernel
theorem dX0_fewest_25 : decode cX0_fewest 25 = .ok (.iload_n 3, 1) := by decide +kernel
theorem dX0_fewest_26 : decode cX0_fewest 26 = .ok (.aload_n 0, 1) := by decide +kernel
theorem dX0_fewest_27 : decode cX0_fewest 27 = .ok (.iload_n 3, 1) := by decide +kernel
theorem dX0_fewest_28 : decode cX0_fewest 28 = .ok (.invokevirtual 42, 3) := by decide +kernel
theorem dX0_fewest_31 : decode cX0_fewest 31 = .ok (.ior, 1) := by decide +kernel
theorem dX0_fewest_32 : decode cX0_fewest 32 = .ok (.istore_n 3, 1) := by decide +kernel
theorem dX0_fewest_33 : decode cX0_fewest 33 = .ok (.iinc 4 1, 3) := by decide +kernel
theorem dX0_fewest_36 : decode cX0_fewest 36 = .ok (.goto (-29), 3) := by decide +kernel
theorem dX0_fewest_39 : decode cX0_fewest 39 = .ok (.bipush (-9), 2) := by decide +kernel
theorem dX0_fewest_41 : decode cX0_fewest 41 = .ok (.ireturn, 1) := by decide +kernel
theorem lnX0_42 : Ln RX0 42 yX0_oneRideFrom := Or.inl (tb_in 437 (by decide +kernel) rfl)
theorem moX0_oneRideFrom : Mv yX0_oneRideFrom kX0_oneRideFrom 1 := ⟨⟨tb_in 440 (by decide +kernel) rfl, tb_in 91 (by decide +kernel) rfl, ⟨by decide, by decide⟩, by decide +kernel⟩, tb_in 439 (by decide +kernel) rfl, tb_in 19 (by decide +kernel) rfl⟩
def fX0_fewest_L7 (n : Nat) (v2 : Int32) : Nat → Int32 → Int32 → Mem → Option (Int32 × Mem)
  | 0, _, _, _ => none
  | F + 1, v3, v4, μ => if 8 ≤ v4 then some ((-9), μ) else if ((jshr v3 v2) &&& 1) = 0 then bd (fX0_oneRideFrom n v3 μ) (fun r3 m2 => bnd (v3 ||| r3) (fun x4 => bnd (v4 + 1) (fun x5 => fX0_fewest_L7 n v2 F x4 x5 m2))) else some (v4, μ)
def fX0_fewest (n : Nat) (a1 : Int32) (a2 : Int32) (μ : Mem) : Option (Int32 × Mem) :=
  bnd (jshl 1 a1) (fun x1 => fX0_fewest_L7 n a2 n x1 0 μ)
set_option maxHeartbeats 4000000 in
set_option maxRecDepth 100000 in
theorem wX0_fewest_L7 (ad : Nat → Nat) (n : Nat) (v2 : Int32) : ∀ (F : Nat) (v3 : Int32) (v4 : Int32) (μ : Mem), G kX0_fewest ad encI 7 [(0, .ref (ad 42)), (2, .int v2), (3, .int v3), (4, .int v4)] [] μ (fX0_fewest_L7 n v2 F v3 v4 μ) := by
  intro F
  induction F with
  | zero =>
    intro v3 v4 μ
    exact g_none
  | succ F ih =>
    intro v3 v4 μ
    rw [fX0_fewest_L7]
    refine g_iload (pc := 7) 3 dX0_fewest_7 rfl ?_
    refine g_bipush (pc := 9) 8 dX0_fewest_9 (by decide) ?_
    refine g_icmp_ge (pc := 11) 39 dX0_fewest_11 rfl ?_ ?_
    · refine g_bipush (pc := 39) (-9) dX0_fewest_39 (by decide) ?_
      exact g_ireturn (pc := 41) dX0_fewest_41 rfl
    · refine g_iload_n (pc := 14) 2 dX0_fewest_14 rfl rfl ?_
      refine g_iload_n (pc := 15) 1 dX0_fewest_15 rfl rfl ?_
      refine g_ishr' (pc := 16) dX0_fewest_16 ?_
      refine g_iconst (pc := 17) 1 dX0_fewest_17 (by decide) ?_
      refine g_iand (pc := 18) dX0_fewest_18 ?_
      refine g_if_eq (pc := 19) 25 dX0_fewest_19 rfl ?_ ?_
      · refine g_iload_n (pc := 25) 2 dX0_fewest_25 rfl rfl ?_
        refine g_aload_n (pc := 26) 0 dX0_fewest_26 rfl rfl ?_
        refine g_iload_n (pc := 27) 2 dX0_fewest_27 rfl rfl ?_
        refine g_cVI (pc := 28) (st := [.int v3]) [.int v3] rfl rfl moX0_oneRideFrom lnX0_42 (ctX0_oneRideFrom ad n v3 μ) rfl ⟨Nat.le_of_ble_eq_true rfl, Nat.le_of_ble_eq_true rfl⟩ rfl (Nat.le_of_ble_eq_true rfl) dX0_fewest_28 (fun r3 m2 => ?_)
        refine g_ior (pc := 31) dX0_fewest_31 ?_
        refine g_istore_nB (pc := 32) (fun x4 => [(3, .int x4), (0, .ref (ad 42)), (2, .int v2), (4, .int v4)]) dX0_fewest_32 rfl (by decide) (fun _ => rfl) (fun x4 => ?_)
        refine g_iincB (pc := 33) 3 1 1 (fun x5 => [(4, .int x5), (3, .int x4), (0, .ref (ad 42)), (2, .int v2)]) dX0_fewest_33 rfl (by decide) (by decide) (fun _ => rfl) (fun x5 => ?_)
        refine g_goto (pc := 36) 7 dX0_fewest_36 rfl ?_
        exact g_sub [2, 3, 1, 0] rfl (ih x4 x5 m2)
      · refine g_iload (pc := 22) 3 dX0_fewest_22 rfl ?_
        exact g_ireturn (pc := 24) dX0_fewest_24 rfl
set_option maxHeartbeats 4000000 in
set_option maxRecDepth 100000 in
theorem ctX0_fewest (ad : Nat → Nat) (n : Nat) (a1 : Int32) (a2 : Int32) (μ : Mem) : Ct yX0_fewest kX0_fewest ad encI [.ref (ad 42), .int a1, .int a2] μ (fX0_fewest n a1 a2 μ) := Ct.of (by decide +kernel) rfl (Nat.le_of_ble_eq_true rfl) (by
  show G kX0_fewest ad encI 0 [(0, .ref (ad 42)), (1, .int a1), (2, .int a2)] [] μ (fX0_fewest n a1 a2 μ)
  unfold fX0_fewest
  refine g_iconst (pc := 0) 1 dX0_fewest_0 (by decide) ?_
  refine g_iload_n (pc := 1) 1 dX0_fewest_1 rfl rfl ?_
  refine g_ishl' (pc := 2) dX0_fewest_2 ?_
  refine g_istore_nB (pc := 3) (fun x1 => [(3, .int x1), (0, .ref (ad 42)), (1, .int a1), (2, .int a2)]) dX0_fewest_3 rfl (by decide) (fun _ => rfl) (fun x1 => ?_)
  refine g_iconst (pc := 4) 0 dX0_fewest_4 (by decide) ?_
  refine g_istore (pc := 5) [(4, .int 0), (3, .int x1), (0, .ref (ad 42)), (1, .int a1), (2, .int a2)] dX0_fewest_5 (by decide) rfl ?_
  exact g_sub [2, 4, 1, 0] rfl (wX0_fewest_L7 ad n a2 n x1 0 μ))
-- StopsByLetters$Net.unvisited()I
abbrev kX0_unvisited : Cfg := (RX0, cX0_unvisited, 3, (some .int), 0)
theorem dX0_unvisited_0 : decode cX0_unvisited 0 = .ok (.iconst 0, 1) := by decide +kernel
theorem dX0_unvisited_1 : decode cX0_unvisited 1 = .ok (.istore_n 1, 1) := by decide +kernel
theorem dX0_unvisited_2 : decode cX0_unvisited 2 = .ok (.iconst 0, 1) := by decide +kernel
theorem dX0_unvisited_3 : decode cX0_unvisited 3 = .ok (.istore_n 2, 1) := by decide +kernel
theorem dX0_unvisited_4 : decode cX0_unvisited 4 = .ok (.iload_n 2, 1) := by decide +kernel
theorem dX0_unvisited_5 : decode cX0_unvisited 5 = .ok (.aload_n 0, 1) := by decide +kernel
theorem dX0_unvisited_6 : decode cX0_unvisited 6 = .ok (.getfield 31, 3) := by decide +kernel
theorem dX0_unvisited_9 : decode cX0_unvisited 9 = .ok (.if_icmp .ge 24, 3) := by decide +kernel
theorem dX0_unvisited_12 : decode cX0_unvisited 12 = .ok (.iload_n 1, 1) := by decide +kernel
theorem dX0_unvisited_13 : decode cX0_unvisited 13 = .ok (.aload_n 0, 1) := by decide +kernel
theorem dX0_unvisited_14 : decode cX0_unvisited 14 = .ok (.getfield 9, 3) := by decide +kernel
theorem dX0_unvisited_17 : decode cX0_unvisited 17 = .ok (.iload_n 2, 1) := by decide +kernel
theorem dX0_unvisited_18 : decode cX0_unvisited 18 = .ok (.iaload, 1) := by decide +kernel
theorem dX0_unvisited_19 : decode cX0_unvisited 19 = .ok (.iconst 1, 1) := by decide +kernel
theorem dX0_unvisited_20 : decode cX0_unvisited 20 = .ok (.iload_n 2, 1) := by decide +kernel
theorem dX0_unvisited_21 : decode cX0_unvisited 21 = .ok (.ishl, 1) := by decide +kernel
theorem dX0_unvisited_22 : decode cX0_unvisited 22 = .ok (.iconst (-1), 1) := by decide +kernel
theorem dX0_unvisited_23 : decode cX0_unvisited 23 = .ok (.ixor, 1) := by decide +kernel
theorem dX0_unvisited_24 : decode cX0_unvisited 24 = .ok (.iand, 1) := by decide +kernel
theorem dX0_unvisited_25 : decode cX0_unvisited 25 = .ok (.ior, 1) := by decide +kernel
theorem dX0_unvisited_26 : decode cX0_unvisited 26 = .ok (.istore_n 1, 1) := by decide +kernel
theorem dX0_unvisited_27 : decode cX0_unvisited 27 = .ok (.iinc 2 1, 3) := by decide +kernel
theorem dX0_unvisited_30 : decode cX0_unvisited 30 = .ok (.goto (-26), 3) := by decide +kernel
theorem dX0_unvisited_33 : decode cX0_unvisited 33 = .ok (.iconst 1, 1) := by decide +kernel
theorem dX0_unvisited_34 : decode cX0_unvisited 34 = .ok (.aload_n 0, 1) := by decide +kernel
theorem dX0_unvisited_35 : decode cX0_unvisited 35 = .ok (.getfield 31, 3) := by decide +kernel
theorem dX0_unvisited_38 : decode cX0_unvisited 38 = .ok (.ishl, 1) := by decide +kernel
theorem dX0_unvisited_39 : decode cX0_unvisited 39 = .ok (.iconst 1, 1) := by decide +kernel
theorem dX0_unvisited_40 : decode cX0_unvisited 40 = .ok (.isub, 1) := by decide +kernel
theorem dX0_unvisited_41 : decode cX0_unvisited 41 = .ok (.iload_n 1, 1) := by decide +kernel
theorem dX0_unvisited_42 : decode cX0_unvisited 42 = .ok (.iconst (-1), 1) := by decide +kernel
theorem dX0_unvisited_43 : decode cX0_unvisited 43 = .ok (.ixor, 1) := by decide +kernel
theorem dX0_unvisited_44 : decode cX0_unvisited 44 = .ok (.iand, 1) := by decide +kernel
theorem dX0_unvisited_45 : decode cX0_unvisited 45 = .ok (.ireturn, 1) := by decide +kernel
def fX0_unvisited_L4 (n : Nat) : Nat → Int32 → Int32 → Mem → Option (Int32 × Mem)
  | 0, _, _, _ => none
  | F + 1, v1, v2, μ => if (μ.1 42 4) ≤ v2 then some ((((jshl 1 (μ.1 42 4)) - 1) &&& (v1 ^^^ (-1))), μ) else gd (inb v2 8) (bnd (v1 ||| ((μ.1 43 (Int32.toNatClampNeg v2)) &&& ((jshl 1 v2) ^^^ (-1)))) (fun x1 => bnd (v2 + 1) (fun x2 => fX0_unvisited_L4 n F x1 x2 μ)))
def fX0_unvisited (n : Nat) (μ : Mem) : Option (Int32 × Mem) :=
  fX0_unvisited_L4 n n 0 0 μ
set_option maxHeartbeats 4000000 in
set_option maxRecDepth 100000 in
theorem wX0_unvisited_L4 (ad : Nat → Nat) (n : Nat) : ∀ (F : Nat) (v1 : Int32) (v2 : Int32) (μ : Mem), G kX0_unvisited ad encI 4 [(0, .ref (ad 42)), (1, .int v1), (2, .int v2)] [] μ (fX0_unvisited_L4 n F v1 v2 μ) := by
  intro F
  induction F with
  | zero =>
    intro v1 v2 μ
    exact g_none
  | succ F ih =>
    intro v1 v2 μ
    rw [fX0_unvisited_L4]
    refine g_iload_n (pc := 4) 2 dX0_unvisited_4 rfl rfl ?_
    refine g_aload_n (pc := 5) 0 dX0_unvisited_5 rfl rfl ?_
    refine g_get (pc := 6) rfl foX0_31 (v := .int (μ.1 42 4)) rfl dX0_unvisited_6 ?_
    refine g_icmp_ge (pc := 9) 33 dX0_unvisited_9 rfl ?_ ?_
    · refine g_iconst (pc := 33) 1 dX0_unvisited_33 (by decide) ?_
      refine g_aload_n (pc := 34) 0 dX0_unvisited_34 rfl rfl ?_
      refine g_get (pc := 35) rfl foX0_31 (v := .int (μ.1 42 4)) rfl dX0_unvisited_35 ?_
      refine g_ishl' (pc := 38) dX0_unvisited_38 ?_
      refine g_iconst (pc := 39) 1 dX0_unvisited_39 (by decide) ?_
      refine g_isub (pc := 40) dX0_unvisited_40 ?_
      refine g_iload_n (pc := 41) 1 dX0_unvisited_41 rfl rfl ?_
      refine g_iconst (pc := 42) (-1) dX0_unvisited_42 (by decide) ?_
      refine g_ixor (pc := 43) dX0_unvisited_43 ?_
      refine g_iand (pc := 44) dX0_unvisited_44 ?_
      exact g_ireturn (pc := 45) dX0_unvisited_45 rfl
    · refine g_iload_n (pc := 12) 1 dX0_unvisited_12 rfl rfl ?_
      refine g_aload_n (pc := 13) 0 dX0_unvisited_13 rfl rfl ?_
      refine g_get (pc := 14) rfl foX0_9 (v := .ref (ad 43)) rfl dX0_unvisited_14 ?_
      refine g_iload_n (pc := 17) 2 dX0_unvisited_17 rfl rfl ?_
      refine g_iald (pc := 18) rfl (by decide) dX0_unvisited_18 ?_
      refine g_iconst (pc := 19) 1 dX0_unvisited_19 (by decide) ?_
      refine g_iload_n (pc := 20) 2 dX0_unvisited_20 rfl rfl ?_
      refine g_ishl' (pc := 21) dX0_unvisited_21 ?_
      refine g_iconst (pc := 22) (-1) dX0_unvisited_22 (by decide) ?_
      refine g_ixor (pc := 23) dX0_unvisited_23 ?_
      refine g_iand (pc := 24) dX0_unvisited_24 ?_
      refine g_ior (pc := 25) dX0_unvisited_25 ?_
      refine g_istore_nB (pc := 26) (fun x1 => [(1, .int x1), (0, .ref (ad 42)), (2, .int v2)]) dX0_unvisited_26 rfl (by decide) (fun _ => rfl) (fun x1 => ?_)
      refine g_iincB (pc := 27) 2 1 1 (fun x2 => [(2, .int x2), (1, .int x1), (0, .ref (ad 42))]) dX0_unvisited_27 rfl (by decide) (by decide) (fun _ => rfl) (fun x2 => ?_)
      refine g_goto (pc := 30) 4 dX0_unvisited_30 rfl ?_
      exact g_sub [2, 1, 0] rfl (ih x1 x2 μ)
set_option maxHeartbeats 4000000 in
set_option maxRecDepth 100000 in
theorem ctX0_unvisited (ad : Nat → Nat) (n : Nat) (μ : Mem) : Ct yX0_unvisited kX0_unvisited ad encI [.ref (ad 42)] μ (fX0_unvisited n μ) := Ct.of (by decide +kernel) rfl (Nat.le_of_ble_eq_true rfl) (by
  show G kX0_unvisited ad encI 0 [(0, .ref (ad 42))] [] μ (fX0_unvisited n μ)
  unfold fX0_unvisited
  refine g_iconst (pc := 0) 0 dX0_unvisited_0 (by decide) ?_
  refine g_istore_n (pc := 1) [(1, .int 0), (0, .ref (ad 42))] dX0_unvisited_1 rfl (by decide) rfl ?_
  refine g_iconst (pc := 2) 0 dX0_unvisited_2 (by decide) ?_
  refine g_istore_n (pc := 3) [(2, .int 0), (1, .int 0), (0, .ref (ad 42))] dX0_unvisited_3 rfl (by decide) rfl ?_
  exact g_sub [2, 1, 0] rfl (wX0_unvisited_L4 ad n n 0 0 μ))
-- StopsByLetters$Net.unleft()I
abbrev kX0_unleft : Cfg := (RX0, cX0_unleft, 3, (some .int), 0)
theorem dX0_unleft_0 : decode cX0_unleft 0 = .ok (.iconst 0, 1) := by decide +kernel
theorem dX0_unleft_1 : decode cX0_unleft 1 = .ok (.istore_n 1, 1) := by decide +kernel
theorem dX0_unleft_2 : decode cX0_unleft 2 = .ok (.iconst 0, 1) := by decide +kernel
theorem dX0_unleft_3 : decode cX0_unleft 3 = .ok (.istore_n 2, 1) := by decide +kernel
theorem dX0_unleft_4 : decode cX0_unleft 4 = .ok (.iload_n 2, 1) := by decide +kernel
theorem dX0_unleft_5 : decode cX0_unleft 5 = .ok (.aload_n 0, 1) := by decide +kernel
theorem dX0_unleft_6 : decode cX0_unleft 6 = .ok (.getfield 31, 3) := by decide +kernel
theorem dX0_unleft_9 : decode cX0_unleft 9 = .ok (.if_icmp .ge 30, 3) := by decide +kernel
theorem dX0_unleft_12 : decode cX0_unleft 12 = .ok (.aload_n 0, 1) := by decide +kernel
theorem dX0_unleft_13 : decode cX0_unleft 13 = .ok (.getfield 9, 3) := by decide +kernel
theorem dX0_unleft_16 : decode cX0_unleft 16 = .ok (.iload_n 2, 1) := by decide +kernel
theorem dX0_unleft_17 : decode cX0_unleft 17 = .ok (.iaload, 1) := by decide +kernel
theorem dX0_unleft_18 : decode cX0_unleft 18 = .ok (.iconst 1, 1) := by decide +kernel
theorem dX0_unleft_19 : decode cX0_unleft 19 = .ok (.iload_n 2, 1) := by decide +kernel
theorem dX0_unleft_20 : decode cX0_unleft 20 = .ok (.ishl, 1) := by decide +kernel
theorem dX0_unleft_21 : decode cX0_unleft 21 = .ok (.iconst (-1), 1) := by decide +kernel
theorem dX0_unleft_22 : decode cX0_unleft 22 = .ok (.ixor, 1) := by decide +kernel
theorem dX0_unleft_23 : decode cX0_unleft 23 = .ok (.iand, 1) := by decide +kernel
theorem dX0_unleft_24 : decode cX0_unleft 24 = .ok (.ifCond .ne 9, 3) := by decide +kernel
theorem dX0_unleft_27 : decode cX0_unleft 27 = .ok (.iload_n 1, 1) := by decide +kernel
theorem dX0_unleft_28 : decode cX0_unleft 28 = .ok (.iconst 1, 1) := by decide +kernel
theorem dX0_unleft_29 : decode cX0_unleft 29 = .ok (.iload_n 2, 1) := by decide +kernel
theorem dX0_unleft_30 : decode cX0_unleft 30 = .ok (.ishl, 1) := by decide +kernel
theorem dX0_unleft_31 : decode cX0_unleft 31 = .ok (.ior, 1) := by decide +kernel
theorem dX0_unleft_32 : decode cX0_unleft 32 = .ok (.istore_n 1, 1) := by decide +kernel
theorem dX0_unleft_33 : decode cX0_unleft 33 = .ok (.iinc 2 1, 3) := by decide +kernel
theorem dX0_unleft_36 : decode cX0_unleft 36 = .ok (.goto (-32), 3) := by decide +kernel
theorem dX0_unleft_39 : decode cX0_unleft 39 = .ok (.iload_n 1, 1) := by decide +kernel
theorem dX0_unleft_40 : decode cX0_unleft 40 = .ok (.ireturn, 1) := by decide +kernel
def fX0_unleft_L4 (n : Nat) : Nat → Int32 → Int32 → Mem → Option (Int32 × Mem)
  | 0, _, _, _ => none
  | F + 1, v1, v2, μ => if (μ.1 42 4) ≤ v2 then some (v1, μ) else gd (inb v2 8) (if ((μ.1 43 (Int32.toNatClampNeg v2)) &&& ((jshl 1 v2) ^^^ (-1))) = 0 then bnd (v1 ||| (jshl 1 v2)) (fun x2 => bnd (v2 + 1) (fun x3 => fX0_unleft_L4 n F x2 x3 μ)) else bnd (v2 + 1) (fun x1 => fX0_unleft_L4 n F v1 x1 μ))
def fX0_unleft (n : Nat) (μ : Mem) : Option (Int32 × Mem) :=
  fX0_unleft_L4 n n 0 0 μ
set_option maxHeartbeats 4000000 in
set_option maxRecDepth 100000 in
theorem wX0_unleft_L4 (ad : Nat → Nat) (n : Nat) : ∀ (F : Nat) (v1 : Int32) (v2 : Int32) (μ : Mem), G kX0_unleft ad encI 4 [(0, .ref (ad 42)), (1, .int v1), (2, .int v2)] [] μ (fX0_unleft_L4 n F v1 v2 μ) := by
  intro F
  induction F with
  | zero =>
    intro v1 v2 μ
    exact g_none
  | succ F ih =>
    intro v1 v2 μ
    rw [fX0_unleft_L4]
    refine g_iload_n (pc := 4) 2 dX0_unleft_4 rfl rfl ?_
    refine g_aload_n (pc := 5) 0 dX0_unleft_5 rfl rfl ?_
    refine g_get (pc := 6) rfl foX0_31 (v := .int (μ.1 42 4)) rfl dX0_unleft_6 ?_
    refine g_icmp_ge (pc := 9) 39 dX0_unleft_9 rfl ?_ ?_
    · refine g_iload_n (pc := 39) 1 dX0_unleft_39 rfl rfl ?_
      exact g_ireturn (pc := 40) dX0_unleft_40 rfl
    · refine g_aload_n (pc := 12) 0 dX0_unleft_12 rfl rfl ?_
      refine g_get (pc := 13) rfl foX0_9 (v := .ref (ad 43)) rfl dX0_unleft_13 ?_
      refine g_iload_n (pc := 16) 2 dX0_unleft_16 rfl rfl ?_
      refine g_iald (pc := 17) rfl (by decide) dX0_unleft_17 ?_
      refine g_iconst (pc := 18) 1 dX0_unleft_18 (by decide) ?_
      refine g_iload_n (pc := 19) 2 dX0_unleft_19 rfl rfl ?_
      refine g_ishl' (pc := 20) dX0_unleft_20 ?_
      refine g_iconst (pc := 21) (-1) dX0_unleft_21 (by decide) ?_
      refine g_ixor (pc := 22) dX0_unleft_22 ?_
      refine g_iand (pc := 23) dX0_unleft_23 ?_
      refine g_if_ne (pc := 24) 33 dX0_unleft_24 rfl ?_ ?_
      · refine g_iincB (pc := 33) 2 1 1 (fun x1 => [(2, .int x1), (0, .ref (ad 42)), (1, .int v1)]) dX0_unleft_33 rfl (by decide) (by decide) (fun _ => rfl) (fun x1 => ?_)
        refine g_goto (pc := 36) 4 dX0_unleft_36 rfl ?_
        exact g_sub [1, 2, 0] rfl (ih v1 x1 μ)
      · refine g_iload_n (pc := 27) 1 dX0_unleft_27 rfl rfl ?_
        refine g_iconst (pc := 28) 1 dX0_unleft_28 (by decide) ?_
        refine g_iload_n (pc := 29) 2 dX0_unleft_29 rfl rfl ?_
        refine g_ishl' (pc := 30) dX0_unleft_30 ?_
        refine g_ior (pc := 31) dX0_unleft_31 ?_
        refine g_istore_nB (pc := 32) (fun x2 => [(1, .int x2), (0, .ref (ad 42)), (2, .int v2)]) dX0_unleft_32 rfl (by decide) (fun _ => rfl) (fun x2 => ?_)
        refine g_iincB (pc := 33) 2 1 1 (fun x3 => [(2, .int x3), (1, .int x2), (0, .ref (ad 42))]) dX0_unleft_33 rfl (by decide) (by decide) (fun _ => rfl) (fun x3 => ?_)
        refine g_goto (pc := 36) 4 dX0_unleft_36 rfl ?_
        exact g_sub [2, 1, 0] rfl (ih x2 x3 μ)
set_option maxHeartbeats 4000000 in
set_option maxRecDepth 100000 in
theorem ctX0_unleft (ad : Nat → Nat) (n : Nat) (μ : Mem) : Ct yX0_unleft kX0_unleft ad encI [.ref (ad 42)] μ (fX0_unleft n μ) := Ct.of (by decide +kernel) rfl (Nat.le_of_ble_eq_true rfl) (by
  show G kX0_unleft ad encI 0 [(0, .ref (ad 42))] [] μ (fX0_unleft n μ)
  unfold fX0_unleft
  refine g_iconst (pc := 0) 0 dX0_unleft_0 (by decide) ?_
  refine g_istore_n (pc := 1) [(1, .int 0), (0, .ref (ad 42))] dX0_unleft_1 rfl (by decide) rfl ?_
  refine g_iconst (pc := 2) 0 dX0_unleft_2 (by decide) ?_
  refine g_istore_n (pc := 3) [(2, .int 0), (1, .int 0), (0, .ref (ad 42))] dX0_unleft_3 rfl (by decide) rfl ?_
  exact g_sub [2, 1, 0] rfl (wX0_unleft_L4 ad n n 0 0 μ))
-- StopsByLetters$Net.partOf(I)I
abbrev kX0_partOf : Cfg := (RX0, cX0_partOf, 2, (some .int), 2)
theorem dX0_partOf_0 : decode cX0_partOf 0 = .ok (.aload_n 0, 1) := by decide +kernel
theorem dX0_partOf_1 : decode cX0_partOf 1 = .ok (.getfield 15, 3) := by decide +kernel
theorem dX0_partOf_4 : decode cX0_partOf 4 = .ok (.iload_n 1, 1) := by decide +kernel
theorem dX0_partOf_5 : decode cX0_partOf 5 = .ok (.iaload, 1) := by decide +kernel
theorem dX0_partOf_6 : decode cX0_partOf 6 = .ok (.aload_n 0, 1) := by decide +kernel
theorem dX0_partOf_7 : decode cX0_partOf 7 = .ok (.iload_n 1, 1) := by decide +kernel
theorem dX0_partOf_8 : decode cX0_partOf 8 = .ok (.invokevirtual 45, 3) := by decide +kernel
theorem dX0_partOf_11 : decode cX0_partOf 11 = .ok (.iand, 1) := by decide +kernel
theorem dX0_partOf_12 : decode cX0_partOf 12 = .ok (.ireturn, 1) := by decide +kernel
theorem lnX0_45 : Ln RX0 45 yX0_comers := Or.inl (tb_in 510 (by decide +kernel) rfl)
theorem moX0_comers : Mv yX0_comers kX0_comers 1 := ⟨⟨tb_in 481 (by decide +kernel) rfl, tb_in 91 (by decide +kernel) rfl, ⟨by decide, by decide⟩, by decide +kernel⟩, tb_in 480 (by decide +kernel) rfl, tb_in 26 (by decide +kernel) rfl⟩
def fX0_partOf (n : Nat) (a1 : Int32) (μ : Mem) : Option (Int32 × Mem) :=
  gd (inb a1 8) (bd (fX0_comers n a1 μ) (fun r2 m1 => some (((μ.1 44 (Int32.toNatClampNeg a1)) &&& r2), m1)))
set_option maxHeartbeats 4000000 in
set_option maxRecDepth 100000 in
theorem ctX0_partOf (ad : Nat → Nat) (n : Nat) (a1 : Int32) (μ : Mem) : Ct yX0_partOf kX0_partOf ad encI [.ref (ad 42), .int a1] μ (fX0_partOf n a1 μ) := Ct.of (by decide +kernel) rfl (Nat.le_of_ble_eq_true rfl) (by
  show G kX0_partOf ad encI 0 [(0, .ref (ad 42)), (1, .int a1)] [] μ (fX0_partOf n a1 μ)
  unfold fX0_partOf
  refine g_aload_n (pc := 0) 0 dX0_partOf_0 rfl rfl ?_
  refine g_get (pc := 1) rfl foX0_15 (v := .ref (ad 44)) rfl dX0_partOf_1 ?_
  refine g_iload_n (pc := 4) 1 dX0_partOf_4 rfl rfl ?_
  refine g_iald (pc := 5) rfl (by decide) dX0_partOf_5 ?_
  refine g_aload_n (pc := 6) 0 dX0_partOf_6 rfl rfl ?_
  refine g_iload_n (pc := 7) 1 dX0_partOf_7 rfl rfl ?_
  refine g_cVI (pc := 8) (st := [.int (μ.1 44 (Int32.toNatClampNeg a1))]) [.int a1] rfl rfl moX0_comers lnX0_45 (ctX0_comers ad n a1 μ) rfl ⟨Nat.le_of_ble_eq_true rfl, Nat.le_of_ble_eq_true rfl⟩ rfl (Nat.le_of_ble_eq_true rfl) dX0_partOf_8 (fun r2 m1 => ?_)
  refine g_iand (pc := 11) dX0_partOf_11 ?_
  exact g_ireturn (pc := 12) dX0_partOf_12 rfl)
-- StopsByLetters$Net.partsInAll()I
abbrev kX0_partsInAll : Cfg := (RX0, cX0_partsInAll, 3, (some .int), 3)
theorem dX0_partsInAll_0 : decode cX0_partsInAll 0 = .ok (.iconst 0, 1) := by decide +kernel
theorem dX0_partsInAll_1 : decode cX0_partsInAll 1 = .ok (.istore_n 1, 1) := by decide +kernel
theorem dX0_partsInAll_2 : decode cX0_partsInAll 2 = .ok (.iconst 0, 1) := by decide +kernel
theorem dX0_partsInAll_3 : decode cX0_partsInAll 3 = .ok (.istore_n 2, 1) := by decide +kernel
theorem dX0_partsInAll_4 : decode cX0_partsInAll 4 = .ok (.iload_n 2, 1) := by decide +kernel
theorem dX0_partsInAll_5 : decode cX0_partsInAll 5 = .ok (.aload_n 0, 1) := by decide +kernel
theorem dX0_partsInAll_6 : decode cX0_partsInAll 6 = .ok (.getfield 31, 3) := by decide +kernel
theorem dX0_partsInAll_9 : decode cX0_partsInAll 9 = .ok (.if_icmp .ge 26, 3) := by decide +kernel
theorem dX0_partsInAll_12 : decode cX0_partsInAll 12 = .ok (.aload_n 0, 1) := by decide +kernel
theorem dX0_partsInAll_13 : decode cX0_partsInAll 13 = .ok (.iload_n 2, 1) := by decide +kernel
theorem dX0_partsInAll_14 : decode cX0_partsInAll 14 = .ok (.invokevirtual 48, 3) := by decide +kernel
theorem dX0_partsInAll_17 : decode cX0_partsInAll 17 = .ok (.iconst 1, 1) := by decide +kernel
theorem dX0_partsInAll_18 : decode cX0_partsInAll 18 = .ok (.iload_n 2, 1) := by decide +kernel
theorem dX0_partsInAll_19 : decode cX0_partsInAll 19 = .ok (.ishl, 1) := by decide +kernel
theorem dX0_partsInAll_20 : decode cX0_partsInAll 20 = .ok (.iconst 1, 1) := by decide +kernel
theorem dX0_partsInAll_21 : decode cX0_partsInAll 21 = .ok (.isub, 1) := by decide +kernel
theorem dX0_partsInAll_22 : decode cX0_partsInAll 22 = .ok (.iand, 1) := by decide +kernel
theorem dX0_partsInAll_23 : decode cX0_partsInAll 23 = .ok (.ifCond .ne 6, 3) := by decide +kernel
theorem dX0_partsInAll_26 : decode cX0_partsInAll 26 = .ok (.iinc 1 1, 3) := by decide +kernel
theorem dX0_partsInAll_29 : decode cX0_partsInAll 29 = .ok (.iinc 2 1, 3) := by decide +kernel
theorem dX0_partsInAll_32 : decode cX0_partsInAll 32 = .ok (.goto (-28), 3) := by decide +kernel
theorem dX0_partsInAll_35 : decode cX0_partsInAll 35 = .ok (.iload_n 1, 1) := by decide +kernel
theorem dX0_partsInAll_36 : decode cX0_partsInAll 36 = .ok (.ireturn, 1) := by decide +kernel
theorem lnX0_48 : Ln RX0 48 yX0_partOf := Or.inl (tb_in 506 (by decide +kernel) rfl)
theorem moX0_partOf : Mv yX0_partOf kX0_partOf 1 := ⟨⟨tb_in 509 (by decide +kernel) rfl, tb_in 91 (by decide +kernel) rfl, ⟨by decide, by decide⟩, by decide +kernel⟩, tb_in 508 (by decide +kernel) rfl, tb_in 30 (by decide +kernel) rfl⟩
def fX0_partsInAll_L4 (n : Nat) : Nat → Int32 → Int32 → Mem → Option (Int32 × Mem)
  | 0, _, _, _ => none
  | F + 1, v1, v2, μ => if (μ.1 42 4) ≤ v2 then some (v1, μ) else bd (fX0_partOf n v2 μ) (fun r2 m1 => if (r2 &&& ((jshl 1 v2) - 1)) = 0 then bnd (v1 + 1) (fun x4 => bnd (v2 + 1) (fun x5 => fX0_partsInAll_L4 n F x4 x5 m1)) else bnd (v2 + 1) (fun x3 => fX0_partsInAll_L4 n F v1 x3 m1))
def fX0_partsInAll (n : Nat) (μ : Mem) : Option (Int32 × Mem) :=
  fX0_partsInAll_L4 n n 0 0 μ
set_option maxHeartbeats 4000000 in
set_option maxRecDepth 100000 in
theorem wX0_partsInAll_L4 (ad : Nat → Nat) (n : Nat) : ∀ (F : Nat) (v1 : Int32) (v2 : Int32) (μ : Mem), G kX0_partsInAll ad encI 4 [(0, .ref (ad 42)), (1, .int v1), (2, .int v2)] [] μ (fX0_partsInAll_L4 n F v1 v2 μ) := by
  intro F
  induction F with
  | zero =>
    intro v1 v2 μ
    exact g_none
  | succ F ih =>
    intro v1 v2 μ
    rw [fX0_partsInAll_L4]
    refine g_iload_n (pc := 4) 2 dX0_partsInAll_4 rfl rfl ?_
    refine g_aload_n (pc := 5) 0 dX0_partsInAll_5 rfl rfl ?_
    refine g_get (pc := 6) rfl foX0_31 (v := .int (μ.1 42 4)) rfl dX0_partsInAll_6 ?_
    refine g_icmp_ge (pc := 9) 35 dX0_partsInAll_9 rfl ?_ ?_
    · refine g_iload_n (pc := 35) 1 dX0_partsInAll_35 rfl rfl ?_
      exact g_ireturn (pc := 36) dX0_partsInAll_36 rfl
    · refine g_aload_n (pc := 12) 0 dX0_partsInAll_12 rfl rfl ?_
      refine g_iload_n (pc := 13) 2 dX0_partsInAll_13 rfl rfl ?_
      refine g_cVI (pc := 14) (st := []) [.int v2] rfl rfl moX0_partOf lnX0_48 (ctX0_partOf ad n v2 μ) rfl ⟨Nat.le_of_ble_eq_true rfl, Nat.le_of_ble_eq_true rfl⟩ rfl (Nat.le_of_ble_eq_true rfl) dX0_partsInAll_14 (fun r2 m1 => ?_)
      refine g_iconst (pc := 17) 1 dX0_partsInAll_17 (by decide) ?_
      refine g_iload_n (pc := 18) 2 dX0_partsInAll_18 rfl rfl ?_
      refine g_ishl' (pc := 19) dX0_partsInAll_19 ?_
      refine g_iconst (pc := 20) 1 dX0_partsInAll_20 (by decide) ?_
      refine g_isub (pc := 21) dX0_partsInAll_21 ?_
      refine g_iand (pc := 22) dX0_partsInAll_22 ?_
      refine g_if_ne (pc := 23) 29 dX0_partsInAll_23 rfl ?_ ?_
      · refine g_iincB (pc := 29) 2 1 1 (fun x3 => [(2, .int x3), (0, .ref (ad 42)), (1, .int v1)]) dX0_partsInAll_29 rfl (by decide) (by decide) (fun _ => rfl) (fun x3 => ?_)
        refine g_goto (pc := 32) 4 dX0_partsInAll_32 rfl ?_
        exact g_sub [1, 2, 0] rfl (ih v1 x3 m1)
      · refine g_iincB (pc := 26) 1 1 1 (fun x4 => [(1, .int x4), (0, .ref (ad 42)), (2, .int v2)]) dX0_partsInAll_26 rfl (by decide) (by decide) (fun _ => rfl) (fun x4 => ?_)
        refine g_iincB (pc := 29) 2 1 1 (fun x5 => [(2, .int x5), (1, .int x4), (0, .ref (ad 42))]) dX0_partsInAll_29 rfl (by decide) (by decide) (fun _ => rfl) (fun x5 => ?_)
        refine g_goto (pc := 32) 4 dX0_partsInAll_32 rfl ?_
        exact g_sub [2, 1, 0] rfl (ih x4 x5 m1)
set_option maxHeartbeats 4000000 in
set_option maxRecDepth 100000 in
theorem ctX0_partsInAll (ad : Nat → Nat) (n : Nat) (μ : Mem) : Ct yX0_partsInAll kX0_partsInAll ad encI [.ref (ad 42)] μ (fX0_partsInAll n μ) := Ct.of (by decide +kernel) rfl (Nat.le_of_ble_eq_true rfl) (by
  show G kX0_partsInAll ad encI 0 [(0, .ref (ad 42))] [] μ (fX0_partsInAll n μ)
  unfold fX0_partsInAll
  refine g_iconst (pc := 0) 0 dX0_partsInAll_0 (by decide) ?_
  refine g_istore_n (pc := 1) [(1, .int 0), (0, .ref (ad 42))] dX0_partsInAll_1 rfl (by decide) rfl ?_
  refine g_iconst (pc := 2) 0 dX0_partsInAll_2 (by decide) ?_
  refine g_istore_n (pc := 3) [(2, .int 0), (1, .int 0), (0, .ref (ad 42))] dX0_partsInAll_3 rfl (by decide) rfl ?_
  exact g_sub [2, 1, 0] rfl (wX0_partsInAll_L4 ad n n 0 0 μ))
-- java/lang/Integer.bitCount(I)I
abbrev kJ6_bitCount_0f7a4 : Cfg := (RJ6, cJ6_bitCount_0f7a4, 1, (some .int), 0)
theorem dJ6_bitCount_0f7a4_0 : decode cJ6_bitCount_0f7a4 0 = .ok (.iload_n 0, 1) := by decide +kernel
theorem dJ6_bitCount_0f7a4_1 : decode cJ6_bitCount_0f7a4 1 = .ok (.iload_n 0, 1) := by decide +kernel
theorem dJ6_bitCount_0f7a4_2 : decode cJ6_bitCount_0f7a4 2 = .ok (.iconst 1, 1) := by decide +kernel
theorem dJ6_bitCount_0f7a4_3 : decode cJ6_bitCount_0f7a4 3 = .ok (.iushr, 1) := by decide +kernel
theorem dJ6_bitCount_0f7a4_4 : decode cJ6_bitCount_0f7a4 4 = .ok (.ldc_w 265, 3) := by decide +kernel
theorem dJ6_bitCount_0f7a4_7 : decode cJ6_bitCount_0f7a4 7 = .ok (.iand, 1) := by decide +kernel
theorem dJ6_bitCount_0f7a4_8 : decode cJ6_bitCount_0f7a4 8 = .ok (.isub, 1) := by decide +kernel
theorem dJ6_bitCount_0f7a4_9 : decode cJ6_bitCount_0f7a4 9 = .ok (.istore_n 0, 1) := by decide +kernel
theorem dJ6_bitCount_0f7a4_10 : decode cJ6_bitCount_0f7a4 10 = .ok (.iload_n 0, 1) := by decide +kernel
theorem dJ6_bitCount_0f7a4_11 : decode cJ6_bitCount_0f7a4 11 = .ok (.ldc_w 266, 3) := by decide +kernel
theorem dJ6_bitCount_0f7a4_14 : decode cJ6_bitCount_0f7a4 14 = .ok (.iand, 1) := by decide +kernel
theorem dJ6_bitCount_0f7a4_15 : decode cJ6_bitCount_0f7a4 15 = .ok (.iload_n 0, 1) := by decide +kernel
theorem dJ6_bitCount_0f7a4_16 : decode cJ6_bitCount_0f7a4 16 = .ok (.iconst 2, 1) := by decide +kernel
theorem dJ6_bitCount_0f7a4_17 : decode cJ6_bitCount_0f7a4 17 = .ok (.iushr, 1) := by decide +kernel
theorem dJ6_bitCount_0f7a4_18 : decode cJ6_bitCount_0f7a4 18 = .ok (.ldc_w 266, 3) := by decide +kernel
theorem dJ6_bitCount_0f7a4_21 : decode cJ6_bitCount_0f7a4 21 = .ok (.iand, 1) := by decide +kernel
theorem dJ6_bitCount_0f7a4_22 : decode cJ6_bitCount_0f7a4 22 = .ok (.iadd, 1) := by decide +kernel
theorem dJ6_bitCount_0f7a4_23 : decode cJ6_bitCount_0f7a4 23 = .ok (.istore_n 0, 1) := by decide +kernel
theorem dJ6_bitCount_0f7a4_24 : decode cJ6_bitCount_0f7a4 24 = .ok (.iload_n 0, 1) := by decide +kernel
theorem dJ6_bitCount_0f7a4_25 : decode cJ6_bitCount_0f7a4 25 = .ok (.iload_n 0, 1) := by decide +kernel
theorem dJ6_bitCount_0f7a4_26 : decode cJ6_bitCount_0f7a4 26 = .ok (.iconst 4, 1) := by decide +kernel
theorem dJ6_bitCount_0f7a4_27 : decode cJ6_bitCount_0f7a4 27 = .ok (.iushr, 1) := by decide +kernel
theorem dJ6_bitCount_0f7a4_28 : decode cJ6_bitCount_0f7a4 28 = .ok (.iadd, 1) := by decide +kernel
theorem dJ6_bitCount_0f7a4_29 : decode cJ6_bitCount_0f7a4 29 = .ok (.ldc_w 267, 3) := by decide +kernel
theorem dJ6_bitCount_0f7a4_32 : decode cJ6_bitCount_0f7a4 32 = .ok (.iand, 1) := by decide +kernel
theorem dJ6_bitCount_0f7a4_33 : decode cJ6_bitCount_0f7a4 33 = .ok (.istore_n 0, 1) := by decide +kernel
theorem dJ6_bitCount_0f7a4_34 : decode cJ6_bitCount_0f7a4 34 = .ok (.iload_n 0, 1) := by decide +kernel
theorem dJ6_bitCount_0f7a4_35 : decode cJ6_bitCount_0f7a4 35 = .ok (.iload_n 0, 1) := by decide +kernel
theorem dJ6_bitCount_0f7a4_36 : decode cJ6_bitCount_0f7a4 36 = .ok (.bipush 8, 2) := by decide +kernel
theorem dJ6_bitCount_0f7a4_38 : decode cJ6_bitCount_0f7a4 38 = .ok (.iushr, 1) := by decide +kernel
theorem dJ6_bitCount_0f7a4_39 : decode cJ6_bitCount_0f7a4 39 = .ok (.iadd, 1) := by decide +kernel
theorem dJ6_bitCount_0f7a4_40 : decode cJ6_bitCount_0f7a4 40 = .ok (.istore_n 0, 1) := by decide +kernel
theorem dJ6_bitCount_0f7a4_41 : decode cJ6_bitCount_0f7a4 41 = .ok (.iload_n 0, 1) := by decide +kernel
theorem dJ6_bitCount_0f7a4_42 : decode cJ6_bitCount_0f7a4 42 = .ok (.iload_n 0, 1) := by decide +kernel
theorem dJ6_bitCount_0f7a4_43 : decode cJ6_bitCount_0f7a4 43 = .ok (.bipush 16, 2) := by decide +kernel
theorem dJ6_bitCount_0f7a4_45 : decode cJ6_bitCount_0f7a4 45 = .ok (.iushr, 1) := by decide +kernel
theorem dJ6_bitCount_0f7a4_46 : decode cJ6_bitCount_0f7a4 46 = .ok (.iadd, 1) := by decide +kernel
theorem dJ6_bitCount_0f7a4_47 : decode cJ6_bitCount_0f7a4 47 = .ok (.istore_n 0, 1) := by decide +kernel
theorem dJ6_bitCount_0f7a4_48 : decode cJ6_bitCount_0f7a4 48 = .ok (.iload_n 0, 1) := by decide +kernel
theorem dJ6_bitCount_0f7a4_49 : decode cJ6_bitCount_0f7a4 49 = .ok (.bipush 63, 2) := by decide +kernel
theorem dJ6_bitCount_0f7a4_51 : decode cJ6_bitCount_0f7a4 51 = .ok (.iand, 1) := by decide +kernel
theorem dJ6_bitCount_0f7a4_52 : decode cJ6_bitCount_0f7a4 52 = .ok (.ireturn, 1) := by decide +kernel
theorem cwJ6_265 : Cond.constant RJ6 265 (1431655765 : Int32) ∈ TB := tb_in 527 (by decide +kernel) rfl
theorem cwJ6_266 : Cond.constant RJ6 266 (858993459 : Int32) ∈ TB := tb_in 528 (by decide +kernel) rfl
theorem cwJ6_267 : Cond.constant RJ6 267 (252645135 : Int32) ∈ TB := tb_in 529 (by decide +kernel) rfl
def fJ6_bitCount_0f7a4 (n : Nat) (a0 : Int32) (μ : Mem) : Option (Int32 × Mem) :=
  bnd (a0 - ((jushr a0 1) &&& 1431655765)) (fun x1 => bnd ((x1 &&& 858993459) + ((jushr x1 2) &&& 858993459)) (fun x2 => bnd ((x2 + (jushr x2 4)) &&& 252645135) (fun x3 => bnd (x3 + (jushr x3 8)) (fun x4 => bnd (x4 + (jushr x4 16)) (fun x5 => some ((x5 &&& 63), μ))))))
set_option maxHeartbeats 4000000 in
set_option maxRecDepth 100000 in
theorem ctJ6_bitCount_0f7a4 (ad : Nat → Nat) (n : Nat) (a0 : Int32) (μ : Mem) : Ct yJ6_bitCount_0f7a4 kJ6_bitCount_0f7a4 ad encI [.int a0] μ (fJ6_bitCount_0f7a4 n a0 μ) := Ct.of (by decide +kernel) rfl (Nat.le_of_ble_eq_true rfl) (by
  show G kJ6_bitCount_0f7a4 ad encI 0 [(0, .int a0)] [] μ (fJ6_bitCount_0f7a4 n a0 μ)
  unfold fJ6_bitCount_0f7a4
  refine g_iload_n (pc := 0) 0 dJ6_bitCount_0f7a4_0 rfl rfl ?_
  refine g_iload_n (pc := 1) 0 dJ6_bitCount_0f7a4_1 rfl rfl ?_
  refine g_iconst (pc := 2) 1 dJ6_bitCount_0f7a4_2 (by decide) ?_
  refine g_iushr' (pc := 3) dJ6_bitCount_0f7a4_3 ?_
  refine g_ldcw (pc := 4) dJ6_bitCount_0f7a4_4 cwJ6_265 ?_
  refine g_iand (pc := 7) dJ6_bitCount_0f7a4_7 ?_
  refine g_isub (pc := 8) dJ6_bitCount_0f7a4_8 ?_
  refine g_istore_nB (pc := 9) (fun x1 => [(0, .int x1)]) dJ6_bitCount_0f7a4_9 rfl (by decide) (fun _ => rfl) (fun x1 => ?_)
  refine g_iload_n (pc := 10) 0 dJ6_bitCount_0f7a4_10 rfl rfl ?_
  refine g_ldcw (pc := 11) dJ6_bitCount_0f7a4_11 cwJ6_266 ?_
  refine g_iand (pc := 14) dJ6_bitCount_0f7a4_14 ?_
  refine g_iload_n (pc := 15) 0 dJ6_bitCount_0f7a4_15 rfl rfl ?_
  refine g_iconst (pc := 16) 2 dJ6_bitCount_0f7a4_16 (by decide) ?_
  refine g_iushr' (pc := 17) dJ6_bitCount_0f7a4_17 ?_
  refine g_ldcw (pc := 18) dJ6_bitCount_0f7a4_18 cwJ6_266 ?_
  refine g_iand (pc := 21) dJ6_bitCount_0f7a4_21 ?_
  refine g_iadd (pc := 22) dJ6_bitCount_0f7a4_22 ?_
  refine g_istore_nB (pc := 23) (fun x2 => [(0, .int x2)]) dJ6_bitCount_0f7a4_23 rfl (by decide) (fun _ => rfl) (fun x2 => ?_)
  refine g_iload_n (pc := 24) 0 dJ6_bitCount_0f7a4_24 rfl rfl ?_
  refine g_iload_n (pc := 25) 0 dJ6_bitCount_0f7a4_25 rfl rfl ?_
  refine g_iconst (pc := 26) 4 dJ6_bitCount_0f7a4_26 (by decide) ?_
  refine g_iushr' (pc := 27) dJ6_bitCount_0f7a4_27 ?_
  refine g_iadd (pc := 28) dJ6_bitCount_0f7a4_28 ?_
  refine g_ldcw (pc := 29) dJ6_bitCount_0f7a4_29 cwJ6_267 ?_
  refine g_iand (pc := 32) dJ6_bitCount_0f7a4_32 ?_
  refine g_istore_nB (pc := 33) (fun x3 => [(0, .int x3)]) dJ6_bitCount_0f7a4_33 rfl (by decide) (fun _ => rfl) (fun x3 => ?_)
  refine g_iload_n (pc := 34) 0 dJ6_bitCount_0f7a4_34 rfl rfl ?_
  refine g_iload_n (pc := 35) 0 dJ6_bitCount_0f7a4_35 rfl rfl ?_
  refine g_bipush (pc := 36) 8 dJ6_bitCount_0f7a4_36 (by decide) ?_
  refine g_iushr' (pc := 38) dJ6_bitCount_0f7a4_38 ?_
  refine g_iadd (pc := 39) dJ6_bitCount_0f7a4_39 ?_
  refine g_istore_nB (pc := 40) (fun x4 => [(0, .int x4)]) dJ6_bitCount_0f7a4_40 rfl (by decide) (fun _ => rfl) (fun x4 => ?_)
  refine g_iload_n (pc := 41) 0 dJ6_bitCount_0f7a4_41 rfl rfl ?_
  refine g_iload_n (pc := 42) 0 dJ6_bitCount_0f7a4_42 rfl rfl ?_
  refine g_bipush (pc := 43) 16 dJ6_bitCount_0f7a4_43 (by decide) ?_
  refine g_iushr' (pc := 45) dJ6_bitCount_0f7a4_45 ?_
  refine g_iadd (pc := 46) dJ6_bitCount_0f7a4_46 ?_
  refine g_istore_nB (pc := 47) (fun x5 => [(0, .int x5)]) dJ6_bitCount_0f7a4_47 rfl (by decide) (fun _ => rfl) (fun x5 => ?_)
  refine g_iload_n (pc := 48) 0 dJ6_bitCount_0f7a4_48 rfl rfl ?_
  refine g_bipush (pc := 49) 63 dJ6_bitCount_0f7a4_49 (by decide) ?_
  refine g_iand (pc := 51) dJ6_bitCount_0f7a4_51 ?_
  exact g_ireturn (pc := 52) dJ6_bitCount_0f7a4_52 rfl)
-- StopsByLetters$Net.pairsApart()I
abbrev kX0_pairsApart : Cfg := (RX0, cX0_pairsApart, 3, (some .int), 1)
theorem dX0_pairsApart_0 : decode cX0_pairsApart 0 = .ok (.iconst 0, 1) := by decide +kernel
theorem dX0_pairsApart_1 : decode cX0_pairsApart 1 = .ok (.istore_n 1, 1) := by decide +kernel
theorem dX0_pairsApart_2 : decode cX0_pairsApart 2 = .ok (.iconst 0, 1) := by decide +kernel
theorem dX0_pairsApart_3 : decode cX0_pairsApart 3 = .ok (.istore_n 2, 1) := by decide +kernel
theorem dX0_pairsApart_4 : decode cX0_pairsApart 4 = .ok (.iload_n 2, 1) := by decide +kernel
theorem dX0_pairsApart_5 : decode cX0_pairsApart 5 = .ok (.aload_n 0, 1) := by decide +kernel
theorem dX0_pairsApart_6 : decode cX0_pairsApart 6 = .ok (.getfield 31, 3) := by decide +kernel
theorem dX0_pairsApart_9 : decode cX0_pairsApart 9 = .ok (.if_icmp .ge 26, 3) := by decide +kernel
theorem dX0_pairsApart_12 : decode cX0_pairsApart 12 = .ok (.iload_n 1, 1) := by decide +kernel
theorem dX0_pairsApart_13 : decode cX0_pairsApart 13 = .ok (.aload_n 0, 1) := by decide +kernel
theorem dX0_pairsApart_14 : decode cX0_pairsApart 14 = .ok (.getfield 31, 3) := by decide +kernel
theorem dX0_pairsApart_17 : decode cX0_pairsApart 17 = .ok (.aload_n 0, 1) := by decide +kernel
theorem dX0_pairsApart_18 : decode cX0_pairsApart 18 = .ok (.getfield 15, 3) := by decide +kernel
theorem dX0_pairsApart_21 : decode cX0_pairsApart 21 = .ok (.iload_n 2, 1) := by decide +kernel
theorem dX0_pairsApart_22 : decode cX0_pairsApart 22 = .ok (.iaload, 1) := by decide +kernel
theorem dX0_pairsApart_23 : decode cX0_pairsApart 23 = .ok (.invokestatic 51, 3) := by decide +kernel
theorem dX0_pairsApart_26 : decode cX0_pairsApart 26 = .ok (.isub, 1) := by decide +kernel
theorem dX0_pairsApart_27 : decode cX0_pairsApart 27 = .ok (.iadd, 1) := by decide +kernel
theorem dX0_pairsApart_28 : decode cX0_pairsApart 28 = .ok (.istore_n 1, 1) := by decide +kernel
theorem dX0_pairsApart_29 : decode cX0_pairsApart 29 = .ok (.iinc 2 1, 3) := by decide +kernel
theorem dX0_pairsApart_32 : decode cX0_pairsApart 32 = .ok (.goto (-28), 3) := by decide +kernel
theorem dX0_pairsApart_35 : decode cX0_pairsApart 35 = .ok (.iload_n 1, 1) := by decide +kernel
theorem dX0_pairsApart_36 : decode cX0_pairsApart 36 = .ok (.ireturn, 1) := by decide +kernel
theorem lnX0_51 : Ln RX0 51 yJ6_bitCount_0f7a4 := Or.inl (tb_in 524 (by decide +kernel) rfl)
theorem moJ6_bitCount_0f7a4 : Ms yJ6_bitCount_0f7a4 kJ6_bitCount_0f7a4 1 := ⟨⟨tb_in 526 (by decide +kernel) rfl, tb_in 100 (by decide +kernel) rfl, ⟨by decide, by decide⟩, by decide +kernel⟩, tb_in 525 (by decide +kernel) rfl⟩
def fX0_pairsApart_L4 (n : Nat) : Nat → Int32 → Int32 → Mem → Option (Int32 × Mem)
  | 0, _, _, _ => none
  | F + 1, v1, v2, μ => if (μ.1 42 4) ≤ v2 then some (v1, μ) else gd (inb v2 8) (bd (fJ6_bitCount_0f7a4 n (μ.1 44 (Int32.toNatClampNeg v2)) μ) (fun r2 m1 => bnd (v1 + ((μ.1 42 4) - r2)) (fun x3 => bnd (v2 + 1) (fun x4 => fX0_pairsApart_L4 n F x3 x4 m1))))
def fX0_pairsApart (n : Nat) (μ : Mem) : Option (Int32 × Mem) :=
  fX0_pairsApart_L4 n n 0 0 μ
set_option maxHeartbeats 4000000 in
set_option maxRecDepth 100000 in
theorem wX0_pairsApart_L4 (ad : Nat → Nat) (n : Nat) : ∀ (F : Nat) (v1 : Int32) (v2 : Int32) (μ : Mem), G kX0_pairsApart ad encI 4 [(0, .ref (ad 42)), (1, .int v1), (2, .int v2)] [] μ (fX0_pairsApart_L4 n F v1 v2 μ) := by
  intro F
  induction F with
  | zero =>
    intro v1 v2 μ
    exact g_none
  | succ F ih =>
    intro v1 v2 μ
    rw [fX0_pairsApart_L4]
    refine g_iload_n (pc := 4) 2 dX0_pairsApart_4 rfl rfl ?_
    refine g_aload_n (pc := 5) 0 dX0_pairsApart_5 rfl rfl ?_
    refine g_get (pc := 6) rfl foX0_31 (v := .int (μ.1 42 4)) rfl dX0_pairsApart_6 ?_
    refine g_icmp_ge (pc := 9) 35 dX0_pairsApart_9 rfl ?_ ?_
    · refine g_iload_n (pc := 35) 1 dX0_pairsApart_35 rfl rfl ?_
      exact g_ireturn (pc := 36) dX0_pairsApart_36 rfl
    · refine g_iload_n (pc := 12) 1 dX0_pairsApart_12 rfl rfl ?_
      refine g_aload_n (pc := 13) 0 dX0_pairsApart_13 rfl rfl ?_
      refine g_get (pc := 14) rfl foX0_31 (v := .int (μ.1 42 4)) rfl dX0_pairsApart_14 ?_
      refine g_aload_n (pc := 17) 0 dX0_pairsApart_17 rfl rfl ?_
      refine g_get (pc := 18) rfl foX0_15 (v := .ref (ad 44)) rfl dX0_pairsApart_18 ?_
      refine g_iload_n (pc := 21) 2 dX0_pairsApart_21 rfl rfl ?_
      refine g_iald (pc := 22) rfl (by decide) dX0_pairsApart_22 ?_
      refine g_cSI (pc := 23) (st := [.int (μ.1 42 4), .int v1]) [.int (μ.1 44 (Int32.toNatClampNeg v2))] moJ6_bitCount_0f7a4 lnX0_51 (ctJ6_bitCount_0f7a4 ad n (μ.1 44 (Int32.toNatClampNeg v2)) μ) rfl ⟨Nat.le_of_ble_eq_true rfl, Nat.le_of_ble_eq_true rfl⟩ rfl (Nat.le_of_ble_eq_true rfl) dX0_pairsApart_23 (fun r2 m1 => ?_)
      refine g_isub (pc := 26) dX0_pairsApart_26 ?_
      refine g_iadd (pc := 27) dX0_pairsApart_27 ?_
      refine g_istore_nB (pc := 28) (fun x3 => [(1, .int x3), (0, .ref (ad 42)), (2, .int v2)]) dX0_pairsApart_28 rfl (by decide) (fun _ => rfl) (fun x3 => ?_)
      refine g_iincB (pc := 29) 2 1 1 (fun x4 => [(2, .int x4), (1, .int x3), (0, .ref (ad 42))]) dX0_pairsApart_29 rfl (by decide) (by decide) (fun _ => rfl) (fun x4 => ?_)
      refine g_goto (pc := 32) 4 dX0_pairsApart_32 rfl ?_
      exact g_sub [2, 1, 0] rfl (ih x3 x4 m1)
set_option maxHeartbeats 4000000 in
set_option maxRecDepth 100000 in
theorem ctX0_pairsApart (ad : Nat → Nat) (n : Nat) (μ : Mem) : Ct yX0_pairsApart kX0_pairsApart ad encI [.ref (ad 42)] μ (fX0_pairsApart n μ) := Ct.of (by decide +kernel) rfl (Nat.le_of_ble_eq_true rfl) (by
  show G kX0_pairsApart ad encI 0 [(0, .ref (ad 42))] [] μ (fX0_pairsApart n μ)
  unfold fX0_pairsApart
  refine g_iconst (pc := 0) 0 dX0_pairsApart_0 (by decide) ?_
  refine g_istore_n (pc := 1) [(1, .int 0), (0, .ref (ad 42))] dX0_pairsApart_1 rfl (by decide) rfl ?_
  refine g_iconst (pc := 2) 0 dX0_pairsApart_2 (by decide) ?_
  refine g_istore_n (pc := 3) [(2, .int 0), (1, .int 0), (0, .ref (ad 42))] dX0_pairsApart_3 rfl (by decide) rfl ?_
  exact g_sub [2, 1, 0] rfl (wX0_pairsApart_L4 ad n n 0 0 μ))
-- StopsByLetters$Net.sumOfRides()I
abbrev kX0_sumOfRides : Cfg := (RX0, cX0_sumOfRides, 3, (some .int), 1)
theorem dX0_sumOfRides_0 : decode cX0_sumOfRides 0 = .ok (.iconst 0, 1) := by decide +kernel
theorem dX0_sumOfRides_1 : decode cX0_sumOfRides 1 = .ok (.istore_n 1, 1) := by decide +kernel
theorem dX0_sumOfRides_2 : decode cX0_sumOfRides 2 = .ok (.iconst 0, 1) := by decide +kernel
theorem dX0_sumOfRides_3 : decode cX0_sumOfRides 3 = .ok (.istore_n 2, 1) := by decide +kernel
theorem dX0_sumOfRides_4 : decode cX0_sumOfRides 4 = .ok (.iload_n 2, 1) := by decide +kernel
theorem dX0_sumOfRides_5 : decode cX0_sumOfRides 5 = .ok (.aload_n 0, 1) := by decide +kernel
theorem dX0_sumOfRides_6 : decode cX0_sumOfRides 6 = .ok (.getfield 31, 3) := by decide +kernel
theorem dX0_sumOfRides_9 : decode cX0_sumOfRides 9 = .ok (.if_icmp .ge 21, 3) := by decide +kernel
theorem dX0_sumOfRides_12 : decode cX0_sumOfRides 12 = .ok (.iload_n 1, 1) := by decide +kernel
theorem dX0_sumOfRides_13 : decode cX0_sumOfRides 13 = .ok (.aload_n 0, 1) := by decide +kernel
theorem dX0_sumOfRides_14 : decode cX0_sumOfRides 14 = .ok (.getfield 9, 3) := by decide +kernel
theorem dX0_sumOfRides_17 : decode cX0_sumOfRides 17 = .ok (.iload_n 2, 1) := by decide +kernel
theorem dX0_sumOfRides_18 : decode cX0_sumOfRides 18 = .ok (.iaload, 1) := by decide +kernel
theorem dX0_sumOfRides_19 : decode cX0_sumOfRides 19 = .ok (.invokestatic 51, 3) := by decide +kernel
theorem dX0_sumOfRides_22 : decode cX0_sumOfRides 22 = .ok (.iadd, 1) := by decide +kernel
theorem dX0_sumOfRides_23 : decode cX0_sumOfRides 23 = .ok (.istore_n 1, 1) := by decide +kernel
theorem dX0_sumOfRides_24 : decode cX0_sumOfRides 24 = .ok (.iinc 2 1, 3) := by decide +kernel
theorem dX0_sumOfRides_27 : decode cX0_sumOfRides 27 = .ok (.goto (-23), 3) := by decide +kernel
theorem dX0_sumOfRides_30 : decode cX0_sumOfRides 30 = .ok (.iload_n 1, 1) := by decide +kernel
theorem dX0_sumOfRides_31 : decode cX0_sumOfRides 31 = .ok (.ireturn, 1) := by decide +kernel
def fX0_sumOfRides_L4 (n : Nat) : Nat → Int32 → Int32 → Mem → Option (Int32 × Mem)
  | 0, _, _, _ => none
  | F + 1, v1, v2, μ => if (μ.1 42 4) ≤ v2 then some (v1, μ) else gd (inb v2 8) (bd (fJ6_bitCount_0f7a4 n (μ.1 43 (Int32.toNatClampNeg v2)) μ) (fun r2 m1 => bnd (v1 + r2) (fun x3 => bnd (v2 + 1) (fun x4 => fX0_sumOfRides_L4 n F x3 x4 m1))))
def fX0_sumOfRides (n : Nat) (μ : Mem) : Option (Int32 × Mem) :=
  fX0_sumOfRides_L4 n n 0 0 μ
set_option maxHeartbeats 4000000 in
set_option maxRecDepth 100000 in
theorem wX0_sumOfRides_L4 (ad : Nat → Nat) (n : Nat) : ∀ (F : Nat) (v1 : Int32) (v2 : Int32) (μ : Mem), G kX0_sumOfRides ad encI 4 [(0, .ref (ad 42)), (1, .int v1), (2, .int v2)] [] μ (fX0_sumOfRides_L4 n F v1 v2 μ) := by
  intro F
  induction F with
  | zero =>
    intro v1 v2 μ
    exact g_none
  | succ F ih =>
    intro v1 v2 μ
    rw [fX0_sumOfRides_L4]
    refine g_iload_n (pc := 4) 2 dX0_sumOfRides_4 rfl rfl ?_
    refine g_aload_n (pc := 5) 0 dX0_sumOfRides_5 rfl rfl ?_
    refine g_get (pc := 6) rfl foX0_31 (v := .int (μ.1 42 4)) rfl dX0_sumOfRides_6 ?_
    refine g_icmp_ge (pc := 9) 30 dX0_sumOfRides_9 rfl ?_ ?_
    · refine g_iload_n (pc := 30) 1 dX0_sumOfRides_30 rfl rfl ?_
      exact g_ireturn (pc := 31) dX0_sumOfRides_31 rfl
    · refine g_iload_n (pc := 12) 1 dX0_sumOfRides_12 rfl rfl ?_
      refine g_aload_n (pc := 13) 0 dX0_sumOfRides_13 rfl rfl ?_
      refine g_get (pc := 14) rfl foX0_9 (v := .ref (ad 43)) rfl dX0_sumOfRides_14 ?_
      refine g_iload_n (pc := 17) 2 dX0_sumOfRides_17 rfl rfl ?_
      refine g_iald (pc := 18) rfl (by decide) dX0_sumOfRides_18 ?_
      refine g_cSI (pc := 19) (st := [.int v1]) [.int (μ.1 43 (Int32.toNatClampNeg v2))] moJ6_bitCount_0f7a4 lnX0_51 (ctJ6_bitCount_0f7a4 ad n (μ.1 43 (Int32.toNatClampNeg v2)) μ) rfl ⟨Nat.le_of_ble_eq_true rfl, Nat.le_of_ble_eq_true rfl⟩ rfl (Nat.le_of_ble_eq_true rfl) dX0_sumOfRides_19 (fun r2 m1 => ?_)
      refine g_iadd (pc := 22) dX0_sumOfRides_22 ?_
      refine g_istore_nB (pc := 23) (fun x3 => [(1, .int x3), (0, .ref (ad 42)), (2, .int v2)]) dX0_sumOfRides_23 rfl (by decide) (fun _ => rfl) (fun x3 => ?_)
      refine g_iincB (pc := 24) 2 1 1 (fun x4 => [(2, .int x4), (1, .int x3), (0, .ref (ad 42))]) dX0_sumOfRides_24 rfl (by decide) (by decide) (fun _ => rfl) (fun x4 => ?_)
      refine g_goto (pc := 27) 4 dX0_sumOfRides_27 rfl ?_
      exact g_sub [2, 1, 0] rfl (ih x3 x4 m1)
set_option maxHeartbeats 4000000 in
set_option maxRecDepth 100000 in
theorem ctX0_sumOfRides (ad : Nat → Nat) (n : Nat) (μ : Mem) : Ct yX0_sumOfRides kX0_sumOfRides ad encI [.ref (ad 42)] μ (fX0_sumOfRides n μ) := Ct.of (by decide +kernel) rfl (Nat.le_of_ble_eq_true rfl) (by
  show G kX0_sumOfRides ad encI 0 [(0, .ref (ad 42))] [] μ (fX0_sumOfRides n μ)
  unfold fX0_sumOfRides
  refine g_iconst (pc := 0) 0 dX0_sumOfRides_0 (by decide) ?_
  refine g_istore_n (pc := 1) [(1, .int 0), (0, .ref (ad 42))] dX0_sumOfRides_1 rfl (by decide) rfl ?_
  refine g_iconst (pc := 2) 0 dX0_sumOfRides_2 (by decide) ?_
  refine g_istore_n (pc := 3) [(2, .int 0), (1, .int 0), (0, .ref (ad 42))] dX0_sumOfRides_3 rfl (by decide) rfl ?_
  exact g_sub [2, 1, 0] rfl (wX0_sumOfRides_L4 ad n n 0 0 μ))
-- StopsByLetters$Net.startAt(I)V
abbrev kX0_startAt : Cfg := (RX0, cX0_startAt, 3, none, 0)
theorem dX0_startAt_0 : decode cX0_startAt 0 = .ok (.iconst 0, 1) := by decide +kernel
theorem dX0_startAt_1 : decode cX0_startAt 1 = .ok (.istore_n 2, 1) := by decide +kernel
theorem dX0_startAt_2 : decode cX0_startAt 2 = .ok (.iload_n 2, 1) := by decide +kernel
theorem dX0_startAt_3 : decode cX0_startAt 3 = .ok (.aload_n 0, 1) := by decide +kernel
theorem dX0_startAt_4 : decode cX0_startAt 4 = .ok (.getfield 31, 3) := by decide +kernel
theorem dX0_startAt_7 : decode cX0_startAt 7 = .ok (.if_icmp .ge 25, 3) := by decide +kernel
theorem dX0_startAt_10 : decode cX0_startAt 10 = .ok (.aload_n 0, 1) := by decide +kernel
theorem dX0_startAt_11 : decode cX0_startAt 11 = .ok (.getfield 18, 3) := by decide +kernel
theorem dX0_startAt_14 : decode cX0_startAt 14 = .ok (.iload_n 2, 1) := by decide +kernel
theorem dX0_startAt_15 : decode cX0_startAt 15 = .ok (.iload_n 2, 1) := by decide +kernel
theorem dX0_startAt_16 : decode cX0_startAt 16 = .ok (.iload_n 1, 1) := by decide +kernel
theorem dX0_startAt_17 : decode cX0_startAt 17 = .ok (.if_icmp .ne 7, 3) := by decide +kernel
theorem dX0_startAt_20 : decode cX0_startAt 20 = .ok (.lconst 1, 1) := by decide +kernel
theorem dX0_startAt_21 : decode cX0_startAt 21 = .ok (.goto 4, 3) := by decide +kernel
theorem dX0_startAt_24 : decode cX0_startAt 24 = .ok (.lconst 0, 1) := by decide +kernel
theorem dX0_startAt_25 : decode cX0_startAt 25 = .ok (.lastore, 1) := by decide +kernel
theorem dX0_startAt_26 : decode cX0_startAt 26 = .ok (.iinc 2 1, 3) := by decide +kernel
theorem dX0_startAt_29 : decode cX0_startAt 29 = .ok (.goto (-27), 3) := by decide +kernel
theorem dX0_startAt_32 : decode cX0_startAt 32 = .ok (.return_, 1) := by decide +kernel
theorem foX0_18 : Fo 0 RX0 TX0 5 2 RX0 18 := ⟨rfl, by decide, rfl, uwX0, rfl, Or.inl (tb_in 178 (by decide +kernel) rfl)⟩
def fX0_startAt_L2 (n : Nat) (v1 : Int32) : Nat → Int32 → Mem → Option (Unit × Mem)
  | 0, _, _ => none
  | F + 1, v2, μ => if (μ.1 42 4) ≤ v2 then some ((), μ) else if v2 = v1 then gd (inb v2 8) (bnd (setJ μ 45 (Int32.toNatClampNeg v2) 1) (fun m3 => bnd (v2 + 1) (fun x4 => fX0_startAt_L2 n v1 F x4 m3))) else gd (inb v2 8) (bnd (setJ μ 45 (Int32.toNatClampNeg v2) 0) (fun m1 => bnd (v2 + 1) (fun x2 => fX0_startAt_L2 n v1 F x2 m1)))
def fX0_startAt (n : Nat) (a1 : Int32) (μ : Mem) : Option (Unit × Mem) :=
  fX0_startAt_L2 n a1 n 0 μ
set_option maxHeartbeats 4000000 in
set_option maxRecDepth 100000 in
theorem wX0_startAt_L2 (ad : Nat → Nat) (n : Nat) (v1 : Int32) : ∀ (F : Nat) (v2 : Int32) (μ : Mem), G kX0_startAt ad encV 2 [(0, .ref (ad 42)), (1, .int v1), (2, .int v2)] [] μ (fX0_startAt_L2 n v1 F v2 μ) := by
  intro F
  induction F with
  | zero =>
    intro v2 μ
    exact g_none
  | succ F ih =>
    intro v2 μ
    rw [fX0_startAt_L2]
    refine g_iload_n (pc := 2) 2 dX0_startAt_2 rfl rfl ?_
    refine g_aload_n (pc := 3) 0 dX0_startAt_3 rfl rfl ?_
    refine g_get (pc := 4) rfl foX0_31 (v := .int (μ.1 42 4)) rfl dX0_startAt_4 ?_
    refine g_icmp_ge (pc := 7) 32 dX0_startAt_7 rfl ?_ ?_
    · exact g_return (pc := 32) dX0_startAt_32 rfl
    · refine g_aload_n (pc := 10) 0 dX0_startAt_10 rfl rfl ?_
      refine g_get (pc := 11) rfl foX0_18 (v := .ref (ad 45)) rfl dX0_startAt_11 ?_
      refine g_iload_n (pc := 14) 2 dX0_startAt_14 rfl rfl ?_
      refine g_iload_n (pc := 15) 2 dX0_startAt_15 rfl rfl ?_
      refine g_iload_n (pc := 16) 1 dX0_startAt_16 rfl rfl ?_
      refine g_icmp_ne (pc := 17) 24 dX0_startAt_17 rfl ?_ ?_
      · refine g_lconst (pc := 24) 0 dX0_startAt_24 (by decide) ?_
        refine g_last (pc := 25) rfl dX0_startAt_25 (fun m1 => ?_)
        refine g_iincB (pc := 26) 2 1 1 (fun x2 => [(2, .int x2), (0, .ref (ad 42)), (1, .int v1)]) dX0_startAt_26 rfl (by decide) (by decide) (fun _ => rfl) (fun x2 => ?_)
        refine g_goto (pc := 29) 2 dX0_startAt_29 rfl ?_
        exact g_sub [1, 2, 0] rfl (ih x2 m1)
      · refine g_lconst (pc := 20) 1 dX0_startAt_20 (by decide) ?_
        refine g_goto (pc := 21) 25 dX0_startAt_21 rfl ?_
        refine g_last (pc := 25) rfl dX0_startAt_25 (fun m3 => ?_)
        refine g_iincB (pc := 26) 2 1 1 (fun x4 => [(2, .int x4), (0, .ref (ad 42)), (1, .int v1)]) dX0_startAt_26 rfl (by decide) (by decide) (fun _ => rfl) (fun x4 => ?_)
        refine g_goto (pc := 29) 2 dX0_startAt_29 rfl ?_
        exact g_sub [1, 2, 0] rfl (ih x4 m3)
set_option maxHeartbeats 4000000 in
set_option maxRecDepth 100000 in
theorem ctX0_startAt (ad : Nat → Nat) (n : Nat) (a1 : Int32) (μ : Mem) : Ct yX0_startAt kX0_startAt ad encV [.ref (ad 42), .int a1] μ (fX0_startAt n a1 μ) := Ct.of (by decide +kernel) rfl (Nat.le_of_ble_eq_true rfl) (by
  show G kX0_startAt ad encV 0 [(0, .ref (ad 42)), (1, .int a1)] [] μ (fX0_startAt n a1 μ)
  unfold fX0_startAt
  refine g_iconst (pc := 0) 0 dX0_startAt_0 (by decide) ?_
  refine g_istore_n (pc := 1) [(2, .int 0), (0, .ref (ad 42)), (1, .int a1)] dX0_startAt_1 rfl (by decide) rfl ?_
  exact g_sub [1, 2, 0] rfl (wX0_startAt_L2 ad n a1 n 0 μ))
-- StopsByLetters$Net.tallyInto(I)J
abbrev kX0_tallyInto : Cfg := (RX0, cX0_tallyInto, 5, (some .long), 1)
theorem dX0_tallyInto_0 : decode cX0_tallyInto 0 = .ok (.lconst 0, 1) := by decide +kernel
theorem dX0_tallyInto_1 : decode cX0_tallyInto 1 = .ok (.lstore_n 2, 1) := by decide +kernel
theorem dX0_tallyInto_2 : decode cX0_tallyInto 2 = .ok (.iconst 0, 1) := by decide +kernel
theorem dX0_tallyInto_3 : decode cX0_tallyInto 3 = .ok (.istore 4, 2) := by decide +kernel
theorem dX0_tallyInto_5 : decode cX0_tallyInto 5 = .ok (.iload 4, 2) := by decide +kernel
theorem dX0_tallyInto_7 : decode cX0_tallyInto 7 = .ok (.aload_n 0, 1) := by decide +kernel
theorem dX0_tallyInto_8 : decode cX0_tallyInto 8 = .ok (.getfield 31, 3) := by decide +kernel
theorem dX0_tallyInto_11 : decode cX0_tallyInto 11 = .ok (.if_icmp .ge 29, 3) := by decide +kernel
theorem dX0_tallyInto_14 : decode cX0_tallyInto 14 = .ok (.aload_n 0, 1) := by decide +kernel
theorem dX0_tallyInto_15 : decode cX0_tallyInto 15 = .ok (.iload 4, 2) := by decide +kernel
theorem dX0_tallyInto_17 : decode cX0_tallyInto 17 = .ok (.iload_n 1, 1) := by decide +kernel
theorem dX0_tallyInto_18 : decode cX0_tallyInto 18 = .ok (.invokevirtual 67, 3) := by decide +kernel
theorem dX0_tallyInto_21 : decode cX0_tallyInto 21 = .ok (.ifCond .eq 13, 3) := by decide +kernel
theorem dX0_tallyInto_24 : decode cX0_tallyInto 24 = .ok (.lload_n 2, 1) := by decide +kernel
theorem dX0_tallyInto_25 : decode cX0_tallyInto 25 = .ok (.aload_n 0, 1) := by decide +kernel
theorem dX0_tallyInto_26 : decode cX0_tallyInto 26 = .ok (.getfield 18, 3) := by decide +kernel
theorem dX0_tallyInto_29 : decode cX0_tallyInto 29 = .ok (.iload 4, 2) := by decide +kernel
theorem dX0_tallyInto_31 : decode cX0_tallyInto 31 = .ok (.laload, 1) := by decide +kernel
theorem dX0_tallyInto_32 : decode cX0_tallyInto 32 = .ok (.ladd, 1) := by decide +kernel
theorem dX0_tallyInto_33 : decode cX0_tallyInto 33 = .ok (.lstore_n 2, 1) := by decide +kernel
theorem dX0_tallyInto_34 : decode cX0_tallyInto 34 = .ok (.iinc 4 1, 3) := by decide +kernel
theorem dX0_tallyInto_37 : decode cX0_tallyInto 37 = .ok (.goto (-32), 3) := by decide +kernel
theorem dX0_tallyInto_40 : decode cX0_tallyInto 40 = .ok (.lload_n 2, 1) := by decide +kernel
theorem dX0_tallyInto_41 : decode cX0_tallyInto 41 = .ok (.lreturn, 1) := by decide +kernel
theorem lnX0_67 : Ln RX0 67 yX0_leads := Or.inl (tb_in 462 (by decide +kernel) rfl)
theorem moX0_leads : Mv yX0_leads kX0_leads 2 := ⟨⟨tb_in 465 (by decide +kernel) rfl, tb_in 91 (by decide +kernel) rfl, ⟨by decide, by decide⟩, by decide +kernel⟩, tb_in 464 (by decide +kernel) rfl, tb_in 24 (by decide +kernel) rfl⟩
def fX0_tallyInto_L5 (n : Nat) (v1 : Int32) : Nat → Int64 → Int32 → Mem → Option (Int64 × Mem)
  | 0, _, _, _ => none
  | F + 1, v2, v4, μ => if (μ.1 42 4) ≤ v4 then some (v2, μ) else bd (fX0_leads n v4 v1 μ) (fun r2 m1 => if r2 = 0 then bnd (v4 + 1) (fun x3 => fX0_tallyInto_L5 n v1 F v2 x3 m1) else gd (inb v4 8) (bnd (v2 + (m1.2 45 (Int32.toNatClampNeg v4))) (fun x4 => bnd (v4 + 1) (fun x5 => fX0_tallyInto_L5 n v1 F x4 x5 m1))))
def fX0_tallyInto (n : Nat) (a1 : Int32) (μ : Mem) : Option (Int64 × Mem) :=
  fX0_tallyInto_L5 n a1 n 0 0 μ
set_option maxHeartbeats 4000000 in
set_option maxRecDepth 100000 in
theorem wX0_tallyInto_L5 (ad : Nat → Nat) (n : Nat) (v1 : Int32) : ∀ (F : Nat) (v2 : Int64) (v4 : Int32) (μ : Mem), G kX0_tallyInto ad encJ 5 [(0, .ref (ad 42)), (1, .int v1), (2, .long v2), (4, .int v4)] [] μ (fX0_tallyInto_L5 n v1 F v2 v4 μ) := by
  intro F
  induction F with
  | zero =>
    intro v2 v4 μ
    exact g_none
  | succ F ih =>
    intro v2 v4 μ
    rw [fX0_tallyInto_L5]
    refine g_iload (pc := 5) 3 dX0_tallyInto_5 rfl ?_
    refine g_aload_n (pc := 7) 0 dX0_tallyInto_7 rfl rfl ?_
    refine g_get (pc := 8) rfl foX0_31 (v := .int (μ.1 42 4)) rfl dX0_tallyInto_8 ?_
    refine g_icmp_ge (pc := 11) 40 dX0_tallyInto_11 rfl ?_ ?_
    · refine g_lload_n (pc := 40) 2 dX0_tallyInto_40 rfl rfl ?_
      exact g_lreturn (pc := 41) dX0_tallyInto_41 rfl
    · refine g_aload_n (pc := 14) 0 dX0_tallyInto_14 rfl rfl ?_
      refine g_iload (pc := 15) 3 dX0_tallyInto_15 rfl ?_
      refine g_iload_n (pc := 17) 1 dX0_tallyInto_17 rfl rfl ?_
      refine g_cVI (pc := 18) (st := []) [.int v4, .int v1] rfl rfl moX0_leads lnX0_67 (ctX0_leads ad n v4 v1 μ) rfl ⟨Nat.le_of_ble_eq_true rfl, Nat.le_of_ble_eq_true rfl⟩ rfl (Nat.le_of_ble_eq_true rfl) dX0_tallyInto_18 (fun r2 m1 => ?_)
      refine g_if_eq (pc := 21) 34 dX0_tallyInto_21 rfl ?_ ?_
      · refine g_iincB (pc := 34) 3 1 1 (fun x3 => [(4, .int x3), (0, .ref (ad 42)), (1, .int v1), (2, .long v2)]) dX0_tallyInto_34 rfl (by decide) (by decide) (fun _ => rfl) (fun x3 => ?_)
        refine g_goto (pc := 37) 5 dX0_tallyInto_37 rfl ?_
        exact g_sub [1, 2, 3, 0] rfl (ih v2 x3 m1)
      · refine g_lload_n (pc := 24) 2 dX0_tallyInto_24 rfl rfl ?_
        refine g_aload_n (pc := 25) 0 dX0_tallyInto_25 rfl rfl ?_
        refine g_get (pc := 26) rfl foX0_18 (v := .ref (ad 45)) rfl dX0_tallyInto_26 ?_
        refine g_iload (pc := 29) 3 dX0_tallyInto_29 rfl ?_
        refine g_lald (pc := 31) rfl dX0_tallyInto_31 ?_
        refine g_ladd (pc := 32) dX0_tallyInto_32 ?_
        refine g_lstore_nB (pc := 33) (fun x4 => [(2, .long x4), (0, .ref (ad 42)), (1, .int v1), (4, .int v4)]) dX0_tallyInto_33 rfl (by decide) (fun _ => rfl) (fun x4 => ?_)
        refine g_iincB (pc := 34) 3 1 1 (fun x5 => [(4, .int x5), (2, .long x4), (0, .ref (ad 42)), (1, .int v1)]) dX0_tallyInto_34 rfl (by decide) (by decide) (fun _ => rfl) (fun x5 => ?_)
        refine g_goto (pc := 37) 5 dX0_tallyInto_37 rfl ?_
        exact g_sub [2, 3, 1, 0] rfl (ih x4 x5 m1)
set_option maxHeartbeats 4000000 in
set_option maxRecDepth 100000 in
theorem ctX0_tallyInto (ad : Nat → Nat) (n : Nat) (a1 : Int32) (μ : Mem) : Ct yX0_tallyInto kX0_tallyInto ad encJ [.ref (ad 42), .int a1] μ (fX0_tallyInto n a1 μ) := Ct.of (by decide +kernel) rfl (Nat.le_of_ble_eq_true rfl) (by
  show G kX0_tallyInto ad encJ 0 [(0, .ref (ad 42)), (1, .int a1)] [] μ (fX0_tallyInto n a1 μ)
  unfold fX0_tallyInto
  refine g_lconst (pc := 0) 0 dX0_tallyInto_0 (by decide) ?_
  refine g_lstore_n (pc := 1) [(2, .long 0), (0, .ref (ad 42)), (1, .int a1)] dX0_tallyInto_1 rfl (by decide) rfl ?_
  refine g_iconst (pc := 2) 0 dX0_tallyInto_2 (by decide) ?_
  refine g_istore (pc := 3) [(4, .int 0), (2, .long 0), (0, .ref (ad 42)), (1, .int a1)] dX0_tallyInto_3 (by decide) rfl ?_
  exact g_sub [2, 3, 1, 0] rfl (wX0_tallyInto_L5 ad n a1 n 0 0 μ))
-- StopsByLetters$Net.turn()V
abbrev kX0_turn : Cfg := (RX0, cX0_turn, 2, none, 0)
theorem dX0_turn_0 : decode cX0_turn 0 = .ok (.iconst 0, 1) := by decide +kernel
theorem dX0_turn_1 : decode cX0_turn 1 = .ok (.istore_n 1, 1) := by decide +kernel
theorem dX0_turn_2 : decode cX0_turn 2 = .ok (.iload_n 1, 1) := by decide +kernel
theorem dX0_turn_3 : decode cX0_turn 3 = .ok (.aload_n 0, 1) := by decide +kernel
theorem dX0_turn_4 : decode cX0_turn 4 = .ok (.getfield 31, 3) := by decide +kernel
theorem dX0_turn_7 : decode cX0_turn 7 = .ok (.if_icmp .ge 21, 3) := by decide +kernel
theorem dX0_turn_10 : decode cX0_turn 10 = .ok (.aload_n 0, 1) := by decide +kernel
theorem dX0_turn_11 : decode cX0_turn 11 = .ok (.getfield 18, 3) := by decide +kernel
theorem dX0_turn_14 : decode cX0_turn 14 = .ok (.iload_n 1, 1) := by decide +kernel
theorem dX0_turn_15 : decode cX0_turn 15 = .ok (.aload_n 0, 1) := by decide +kernel
theorem dX0_turn_16 : decode cX0_turn 16 = .ok (.getfield 22, 3) := by decide +kernel
theorem dX0_turn_19 : decode cX0_turn 19 = .ok (.iload_n 1, 1) := by decide +kernel
theorem dX0_turn_20 : decode cX0_turn 20 = .ok (.laload, 1) := by decide +kernel
theorem dX0_turn_21 : decode cX0_turn 21 = .ok (.lastore, 1) := by decide +kernel
theorem dX0_turn_22 : decode cX0_turn 22 = .ok (.iinc 1 1, 3) := by decide +kernel
theorem dX0_turn_25 : decode cX0_turn 25 = .ok (.goto (-23), 3) := by decide +kernel
theorem dX0_turn_28 : decode cX0_turn 28 = .ok (.return_, 1) := by decide +kernel
theorem foX0_22 : Fo 0 RX0 TX0 5 3 RX0 22 := ⟨rfl, by decide, rfl, uwX0, rfl, Or.inl (tb_in 179 (by decide +kernel) rfl)⟩
def fX0_turn_L2 (n : Nat) : Nat → Int32 → Mem → Option (Unit × Mem)
  | 0, _, _ => none
  | F + 1, v1, μ => if (μ.1 42 4) ≤ v1 then some ((), μ) else gd (inb v1 8) (gd (inb v1 8) (bnd (setJ μ 45 (Int32.toNatClampNeg v1) (μ.2 46 (Int32.toNatClampNeg v1))) (fun m1 => bnd (v1 + 1) (fun x2 => fX0_turn_L2 n F x2 m1))))
def fX0_turn (n : Nat) (μ : Mem) : Option (Unit × Mem) :=
  fX0_turn_L2 n n 0 μ
set_option maxHeartbeats 4000000 in
set_option maxRecDepth 100000 in
theorem wX0_turn_L2 (ad : Nat → Nat) (n : Nat) : ∀ (F : Nat) (v1 : Int32) (μ : Mem), G kX0_turn ad encV 2 [(0, .ref (ad 42)), (1, .int v1)] [] μ (fX0_turn_L2 n F v1 μ) := by
  intro F
  induction F with
  | zero =>
    intro v1 μ
    exact g_none
  | succ F ih =>
    intro v1 μ
    rw [fX0_turn_L2]
    refine g_iload_n (pc := 2) 1 dX0_turn_2 rfl rfl ?_
    refine g_aload_n (pc := 3) 0 dX0_turn_3 rfl rfl ?_
    refine g_get (pc := 4) rfl foX0_31 (v := .int (μ.1 42 4)) rfl dX0_turn_4 ?_
    refine g_icmp_ge (pc := 7) 28 dX0_turn_7 rfl ?_ ?_
    · exact g_return (pc := 28) dX0_turn_28 rfl
    · refine g_aload_n (pc := 10) 0 dX0_turn_10 rfl rfl ?_
      refine g_get (pc := 11) rfl foX0_18 (v := .ref (ad 45)) rfl dX0_turn_11 ?_
      refine g_iload_n (pc := 14) 1 dX0_turn_14 rfl rfl ?_
      refine g_aload_n (pc := 15) 0 dX0_turn_15 rfl rfl ?_
      refine g_get (pc := 16) rfl foX0_22 (v := .ref (ad 46)) rfl dX0_turn_16 ?_
      refine g_iload_n (pc := 19) 1 dX0_turn_19 rfl rfl ?_
      refine g_lald (pc := 20) rfl dX0_turn_20 ?_
      refine g_last (pc := 21) rfl dX0_turn_21 (fun m1 => ?_)
      refine g_iincB (pc := 22) 1 1 1 (fun x2 => [(1, .int x2), (0, .ref (ad 42))]) dX0_turn_22 rfl (by decide) (by decide) (fun _ => rfl) (fun x2 => ?_)
      refine g_goto (pc := 25) 2 dX0_turn_25 rfl ?_
      exact g_sub [1, 0] rfl (ih x2 m1)
set_option maxHeartbeats 4000000 in
set_option maxRecDepth 100000 in
theorem ctX0_turn (ad : Nat → Nat) (n : Nat) (μ : Mem) : Ct yX0_turn kX0_turn ad encV [.ref (ad 42)] μ (fX0_turn n μ) := Ct.of (by decide +kernel) rfl (Nat.le_of_ble_eq_true rfl) (by
  show G kX0_turn ad encV 0 [(0, .ref (ad 42))] [] μ (fX0_turn n μ)
  unfold fX0_turn
  refine g_iconst (pc := 0) 0 dX0_turn_0 (by decide) ?_
  refine g_istore_n (pc := 1) [(1, .int 0), (0, .ref (ad 42))] dX0_turn_1 rfl (by decide) rfl ?_
  exact g_sub [1, 0] rfl (wX0_turn_L2 ad n n 0 μ))
-- StopsByLetters$Net.waysBy(III)J
abbrev kX0_waysBy : Cfg := (RX0, cX0_waysBy, 6, (some .long), 2)
theorem dX0_waysBy_0 : decode cX0_waysBy 0 = .ok (.aload_n 0, 1) := by decide +kernel
theorem dX0_waysBy_1 : decode cX0_waysBy 1 = .ok (.iload_n 1, 1) := by decide +kernel
theorem dX0_waysBy_2 : decode cX0_waysBy 2 = .ok (.invokevirtual 56, 3) := by decide +kernel
theorem dX0_waysBy_5 : decode cX0_waysBy 5 = .ok (.iconst 0, 1) := by decide +kernel
theorem dX0_waysBy_6 : decode cX0_waysBy 6 = .ok (.istore 4, 2) := by decide +kernel
theorem dX0_waysBy_8 : decode cX0_waysBy 8 = .ok (.iload 4, 2) := by decide +kernel
theorem dX0_waysBy_10 : decode cX0_waysBy 10 = .ok (.iload_n 3, 1) := by decide +kernel
theorem dX0_waysBy_11 : decode cX0_waysBy 11 = .ok (.if_icmp .ge 44, 3) := by decide +kernel
theorem dX0_waysBy_14 : decode cX0_waysBy 14 = .ok (.iconst 0, 1) := by decide +kernel
theorem dX0_waysBy_15 : decode cX0_waysBy 15 = .ok (.istore 5, 2) := by decide +kernel
theorem dX0_waysBy_17 : decode cX0_waysBy 17 = .ok (.iload 5, 2) := by decide +kernel
theorem dX0_waysBy_19 : decode cX0_waysBy 19 = .ok (.aload_n 0, 1) := by decide +kernel
theorem dX0_waysBy_20 : decode cX0_waysBy 20 = .ok (.getfield 31, 3) := by decide +kernel
theorem dX0_waysBy_23 : decode cX0_waysBy 23 = .ok (.if_icmp .ge 22, 3) := by decide +kernel
theorem dX0_waysBy_26 : decode cX0_waysBy 26 = .ok (.aload_n 0, 1) := by decide +kernel
theorem dX0_waysBy_27 : decode cX0_waysBy 27 = .ok (.getfield 22, 3) := by decide +kernel
theorem dX0_waysBy_30 : decode cX0_waysBy 30 = .ok (.iload 5, 2) := by decide +kernel
theorem dX0_waysBy_32 : decode cX0_waysBy 32 = .ok (.aload_n 0, 1) := by decide +kernel
theorem dX0_waysBy_33 : decode cX0_waysBy 33 = .ok (.iload 5, 2) := by decide +kernel
theorem dX0_waysBy_35 : decode cX0_waysBy 35 = .ok (.invokevirtual 60, 3) := by decide +kernel
theorem dX0_waysBy_38 : decode cX0_waysBy 38 = .ok (.lastore, 1) := by decide +kernel
theorem dX0_waysBy_39 : decode cX0_waysBy 39 = .ok (.iinc 5 1, 3) := by decide +kernel
theorem dX0_waysBy_42 : decode cX0_waysBy 42 = .ok (.goto (-25), 3) := by decide +kernel
theorem dX0_waysBy_45 : decode cX0_waysBy 45 = .ok (.aload_n 0, 1) := by decide +kernel
theorem dX0_waysBy_46 : decode cX0_waysBy 46 = .ok (.invokevirtual 64, 3) := by decide +kernel
theorem dX0_waysBy_49 : decode cX0_waysBy 49 = .ok (.iinc 4 1, 3) := by decide +kernel
theorem dX0_waysBy_52 : decode cX0_waysBy 52 = .ok (.goto (-44), 3) := by decide +kernel
theorem dX0_waysBy_55 : decode cX0_waysBy 55 = .ok (.aload_n 0, 1) := by decide +kernel
theorem dX0_waysBy_56 : decode cX0_waysBy 56 = .ok (.getfield 18, 3) := by decide +kernel
theorem dX0_waysBy_59 : decode cX0_waysBy 59 = .ok (.iload_n 2, 1) := by decide +kernel
theorem dX0_waysBy_60 : decode cX0_waysBy 60 = .ok (.laload, 1) := by decide +kernel
theorem dX0_waysBy_61 : decode cX0_waysBy 61 = .ok (.lreturn, 1) := by decide +kernel
theorem lnX0_60 : Ln RX0 60 yX0_tallyInto := Or.inl (tb_in 458 (by decide +kernel) rfl)
theorem moX0_tallyInto : Mv yX0_tallyInto kX0_tallyInto 1 := ⟨⟨tb_in 461 (by decide +kernel) rfl, tb_in 91 (by decide +kernel) rfl, ⟨by decide, by decide⟩, by decide +kernel⟩, tb_in 460 (by decide +kernel) rfl, tb_in 23 (by decide +kernel) rfl⟩
def fX0_waysBy_L17 (n : Nat) (v2 : Int32) (v3 : Int32) (v4 : Int32) (K1 : Mem → Option (Int64 × Mem)) : Nat → Int32 → Mem → Option (Int64 × Mem)
  | 0, _, _ => none
  | F + 1, v5, μ => if (μ.1 42 4) ≤ v5 then K1 μ else bd (fX0_tallyInto n v5 μ) (fun r4 m3 => gd (inb v5 8) (bnd (setJ m3 46 (Int32.toNatClampNeg v5) r4) (fun m5 => bnd (v5 + 1) (fun x6 => fX0_waysBy_L17 n v2 v3 v4 K1 F x6 m5))))
theorem lnX0_64 : Ln RX0 64 yX0_turn := Or.inl (tb_in 466 (by decide +kernel) rfl)
theorem moX0_turn : Mv yX0_turn kX0_turn 0 := ⟨⟨tb_in 469 (by decide +kernel) rfl, tb_in 91 (by decide +kernel) rfl, ⟨by decide, by decide⟩, by decide +kernel⟩, tb_in 468 (by decide +kernel) rfl, tb_in 25 (by decide +kernel) rfl⟩
def fX0_waysBy_L8 (n : Nat) (v2 : Int32) (v3 : Int32) : Nat → Int32 → Mem → Option (Int64 × Mem)
  | 0, _, _ => none
  | F + 1, v4, μ => if v3 ≤ v4 then gd (inb v2 8) (some ((μ.2 45 (Int32.toNatClampNeg v2)), μ)) else fX0_waysBy_L17 n v2 v3 v4 (fun (m7 : Mem) => bd (fX0_turn n m7) (fun r9 m8 => bnd (v4 + 1) (fun x10 => fX0_waysBy_L8 n v2 v3 F x10 m8))) n 0 μ
theorem lnX0_56 : Ln RX0 56 yX0_startAt := Or.inl (tb_in 454 (by decide +kernel) rfl)
theorem moX0_startAt : Mv yX0_startAt kX0_startAt 1 := ⟨⟨tb_in 457 (by decide +kernel) rfl, tb_in 91 (by decide +kernel) rfl, ⟨by decide, by decide⟩, by decide +kernel⟩, tb_in 456 (by decide +kernel) rfl, tb_in 22 (by decide +kernel) rfl⟩
def fX0_waysBy (n : Nat) (a1 : Int32) (a2 : Int32) (a3 : Int32) (μ : Mem) : Option (Int64 × Mem) :=
  bd (fX0_startAt n a1 μ) (fun r2 m1 => fX0_waysBy_L8 n a2 a3 n 0 m1)
set_option maxHeartbeats 4000000 in
set_option maxRecDepth 100000 in
theorem wX0_waysBy_L17 (ad : Nat → Nat) (n : Nat) (v2 : Int32) (v3 : Int32) (v4 : Int32) (K1 : Mem → Option (Int64 × Mem)) (hK1 : ∀ (μ : Mem), G kX0_waysBy ad encJ 45 [(0, .ref (ad 42)), (2, .int v2), (3, .int v3), (4, .int v4)] [] μ (K1 μ)) : ∀ (F : Nat) (v5 : Int32) (μ : Mem), G kX0_waysBy ad encJ 17 [(0, .ref (ad 42)), (2, .int v2), (3, .int v3), (4, .int v4), (5, .int v5)] [] μ (fX0_waysBy_L17 n v2 v3 v4 K1 F v5 μ) := by
  intro F
  induction F with
  | zero =>
    intro v5 μ
    exact g_none
  | succ F ih =>
    intro v5 μ
    rw [fX0_waysBy_L17]
    refine g_iload (pc := 17) 4 dX0_waysBy_17 rfl ?_
    refine g_aload_n (pc := 19) 0 dX0_waysBy_19 rfl rfl ?_
    refine g_get (pc := 20) rfl foX0_31 (v := .int (μ.1 42 4)) rfl dX0_waysBy_20 ?_
    refine g_icmp_ge (pc := 23) 45 dX0_waysBy_23 rfl ?_ ?_
    · exact g_sub [0, 1, 2, 3] rfl (hK1 μ)
    · refine g_aload_n (pc := 26) 0 dX0_waysBy_26 rfl rfl ?_
      refine g_get (pc := 27) rfl foX0_22 (v := .ref (ad 46)) rfl dX0_waysBy_27 ?_
      refine g_iload (pc := 30) 4 dX0_waysBy_30 rfl ?_
      refine g_aload_n (pc := 32) 0 dX0_waysBy_32 rfl rfl ?_
      refine g_iload (pc := 33) 4 dX0_waysBy_33 rfl ?_
      refine g_cVJ (pc := 35) (st := [.int v5, .ref (ad 46)]) [.int v5] rfl rfl moX0_tallyInto lnX0_60 (ctX0_tallyInto ad n v5 μ) rfl ⟨Nat.le_of_ble_eq_true rfl, Nat.le_of_ble_eq_true rfl⟩ rfl (Nat.le_of_ble_eq_true rfl) dX0_waysBy_35 (fun r4 m3 => ?_)
      refine g_last (pc := 38) rfl dX0_waysBy_38 (fun m5 => ?_)
      refine g_iincB (pc := 39) 4 1 1 (fun x6 => [(5, .int x6), (0, .ref (ad 42)), (2, .int v2), (3, .int v3), (4, .int v4)]) dX0_waysBy_39 rfl (by decide) (by decide) (fun _ => rfl) (fun x6 => ?_)
      refine g_goto (pc := 42) 17 dX0_waysBy_42 rfl ?_
      exact g_sub [1, 2, 3, 4, 0] rfl (ih x6 m5)
set_option maxHeartbeats 4000000 in
set_option maxRecDepth 100000 in
theorem wX0_waysBy_L8 (ad : Nat → Nat) (n : Nat) (v2 : Int32) (v3 : Int32) : ∀ (F : Nat) (v4 : Int32) (μ : Mem), G kX0_waysBy ad encJ 8 [(0, .ref (ad 42)), (2, .int v2), (3, .int v3), (4, .int v4)] [] μ (fX0_waysBy_L8 n v2 v3 F v4 μ) := by
  intro F
  induction F with
  | zero =>
    intro v4 μ
    exact g_none
  | succ F ih =>
    intro v4 μ
    rw [fX0_waysBy_L8]
    refine g_iload (pc := 8) 3 dX0_waysBy_8 rfl ?_
    refine g_iload_n (pc := 10) 2 dX0_waysBy_10 rfl rfl ?_
    refine g_icmp_ge (pc := 11) 55 dX0_waysBy_11 rfl ?_ ?_
    · refine g_aload_n (pc := 55) 0 dX0_waysBy_55 rfl rfl ?_
      refine g_get (pc := 56) rfl foX0_18 (v := .ref (ad 45)) rfl dX0_waysBy_56 ?_
      refine g_iload_n (pc := 59) 1 dX0_waysBy_59 rfl rfl ?_
      refine g_lald (pc := 60) rfl dX0_waysBy_60 ?_
      exact g_lreturn (pc := 61) dX0_waysBy_61 rfl
    · refine g_iconst (pc := 14) 0 dX0_waysBy_14 (by decide) ?_
      refine g_istore (pc := 15) [(5, .int 0), (0, .ref (ad 42)), (2, .int v2), (3, .int v3), (4, .int v4)] dX0_waysBy_15 (by decide) rfl ?_
      refine g_sub [1, 2, 3, 4, 0] rfl (wX0_waysBy_L17 ad n v2 v3 v4 _ (fun m7 => ?_) n 0 μ)
      refine g_aload_n (pc := 45) 0 dX0_waysBy_45 rfl rfl ?_
      refine g_cVV (pc := 46) (st := []) [] rfl rfl moX0_turn lnX0_64 (ctX0_turn ad n m7) rfl ⟨Nat.le_of_ble_eq_true rfl, Nat.le_of_ble_eq_true rfl⟩ rfl (Nat.le_of_ble_eq_true rfl) dX0_waysBy_46 (fun r9 m8 => ?_)
      refine g_iincB (pc := 49) 3 1 1 (fun x10 => [(4, .int x10), (0, .ref (ad 42)), (2, .int v2), (3, .int v3)]) dX0_waysBy_49 rfl (by decide) (by decide) (fun _ => rfl) (fun x10 => ?_)
      refine g_goto (pc := 52) 8 dX0_waysBy_52 rfl ?_
      exact g_sub [1, 2, 3, 0] rfl (ih x10 m8)
set_option maxHeartbeats 4000000 in
set_option maxRecDepth 100000 in
theorem ctX0_waysBy (ad : Nat → Nat) (n : Nat) (a1 : Int32) (a2 : Int32) (a3 : Int32) (μ : Mem) : Ct yX0_waysBy kX0_waysBy ad encJ [.ref (ad 42), .int a1, .int a2, .int a3] μ (fX0_waysBy n a1 a2 a3 μ) := Ct.of (by decide +kernel) rfl (Nat.le_of_ble_eq_true rfl) (by
  show G kX0_waysBy ad encJ 0 [(0, .ref (ad 42)), (1, .int a1), (2, .int a2), (3, .int a3)] [] μ (fX0_waysBy n a1 a2 a3 μ)
  unfold fX0_waysBy
  refine g_aload_n (pc := 0) 0 dX0_waysBy_0 rfl rfl ?_
  refine g_iload_n (pc := 1) 1 dX0_waysBy_1 rfl rfl ?_
  refine g_cVV (pc := 2) (st := []) [.int a1] rfl rfl moX0_startAt lnX0_56 (ctX0_startAt ad n a1 μ) rfl ⟨Nat.le_of_ble_eq_true rfl, Nat.le_of_ble_eq_true rfl⟩ rfl (Nat.le_of_ble_eq_true rfl) dX0_waysBy_2 (fun r2 m1 => ?_)
  refine g_iconst (pc := 5) 0 dX0_waysBy_5 (by decide) ?_
  refine g_istore (pc := 6) [(4, .int 0), (0, .ref (ad 42)), (1, .int a1), (2, .int a2), (3, .int a3)] dX0_waysBy_6 (by decide) rfl ?_
  exact g_sub [1, 3, 4, 0] rfl (wX0_waysBy_L8 ad n a2 a3 n 0 m1))
-- StopsByLetters$Net.shareOut(I)V
abbrev kX0_shareOut : Cfg := (RX0, cX0_shareOut, 6, none, 1)
theorem dX0_shareOut_0 : decode cX0_shareOut 0 = .ok (.aload_n 0, 1) := by decide +kernel
theorem dX0_shareOut_1 : decode cX0_shareOut 1 = .ok (.getfield 9, 3) := by decide +kernel
theorem dX0_shareOut_4 : decode cX0_shareOut 4 = .ok (.iload_n 1, 1) := by decide +kernel
theorem dX0_shareOut_5 : decode cX0_shareOut 5 = .ok (.iaload, 1) := by decide +kernel
theorem dX0_shareOut_6 : decode cX0_shareOut 6 = .ok (.invokestatic 51, 3) := by decide +kernel
theorem dX0_shareOut_9 : decode cX0_shareOut 9 = .ok (.istore_n 2, 1) := by decide +kernel
theorem dX0_shareOut_10 : decode cX0_shareOut 10 = .ok (.iload_n 2, 1) := by decide +kernel
theorem dX0_shareOut_11 : decode cX0_shareOut 11 = .ok (.iconst 1, 1) := by decide +kernel
theorem dX0_shareOut_12 : decode cX0_shareOut 12 = .ok (.if_icmp .ge 23, 3) := by decide +kernel
theorem dX0_shareOut_15 : decode cX0_shareOut 15 = .ok (.aload_n 0, 1) := by decide +kernel
theorem dX0_shareOut_16 : decode cX0_shareOut 16 = .ok (.getfield 22, 3) := by decide +kernel
theorem dX0_shareOut_19 : decode cX0_shareOut 19 = .ok (.iload_n 1, 1) := by decide +kernel
theorem dX0_shareOut_20 : decode cX0_shareOut 20 = .ok (.dup2, 1) := by decide +kernel
theorem dX0_shareOut_21 : decode cX0_shareOut 21 = .ok (.laload, 1) := by decide +kernel
theorem dX0_shareOut_22 : decode cX0_shareOut 22 = .ok (.ldc2_w 73, 3) := by decide +kernel
theorem dX0_shareOut_25 : decode cX0_shareOut 25 = .ok (.aload_n 0, 1) := by decide +kernel
theorem dX0_shareOut_26 : decode cX0_shareOut 26 = .ok (.getfield 18, 3) := by decide +kernel
theorem dX0_shareOut_29 : decode cX0_shareOut 29 = .ok (.iload_n 1, 1) := by decide +kernel
theorem dX0_shareOut_30 : decode cX0_shareOut 30 = .ok (.laload, 1) := by decide +kernel
theorem dX0_shareOut_31 : decode cX0_shareOut 31 = .ok (.lmul, 1) := by decide +kernel
theorem dX0_shareOut_32 : decode cX0_shareOut 32 = .ok (.ladd, 1) := by decide +kernel
theorem dX0_shareOut_33 : decode cX0_shareOut 33 = .ok (.lastore, 1) := by decide +kernel
theorem dX0_shareOut_34 : decode cX0_shareOut 34 = .ok (.return_, 1) := by decide +kernel
theorem dX0_shareOut_35 : decode cX0_shareOut 35 = .ok (.ldc2_w 73, 3) := by decide +kernel
theorem dX0_shareOut_38 : decode cX0_shareOut 38 = .ok (.aload_n 0, 1) := by decide +kernel
theorem dX0_shareOut_39 : decode cX0_shareOut 39 = .ok (.getfield 18, 3) := by decide +kernel
theorem dX0_shareOut_42 : decode cX0_shareOut 42 = .ok (.iload_n 1, 1) := by decide +kernel
theorem dX0_shareOut_43 : decode cX0_shareOut 43 = .ok (.laload, 1) := by decide +kernel
theorem dX0_shareOut_44 : decode cX0_shareOut 44 = .ok (.lmul, 1) := by decide +kernel
theorem dX0_shareOut_45 : decode cX0_shareOut 45 = .ok (.iload_n 2, 1) := by decide +kernel
theorem dX0_shareOut_46 : decode cX0_shareOut 46 = .ok (.i2l, 1) := by decide +kernel
theorem dX0_shareOut_47 : decode cX0_shareOut 47 = .ok (.ldiv, 1) := by decide +kernel
theorem dX0_shareOut_48 : decode cX0_shareOut 48 = .ok (.lstore_n 3, 1) := by decide +kernel
theorem dX0_shareOut_49 : decode cX0_shareOut 49 = .ok (.iconst 0, 1) := by decide +kernel
theorem dX0_shareOut_50 : decode cX0_shareOut 50 = .ok (.istore 5, 2) := by decide +kernel
theorem dX0_shareOut_52 : decode cX0_shareOut 52 = .ok (.iload 5, 2) := by decide +kernel
theorem dX0_shareOut_54 : decode cX0_shareOut 54 = .ok (.aload_n 0, 1) := by decide +kernel
theorem dX0_shareOut_55 : decode cX0_shareOut 55 = .ok (.getfield 31, 3) := by decide +kernel
theorem dX0_shareOut_58 : decode cX0_shareOut 58 = .ok (.if_icmp .ge 30, 3) := by decide +kernel
theorem dX0_shareOut_61 : decode cX0_shareOut 61 = .ok (.aload_n 0, 1) := by decide +kernel
theorem dX0_shareOut_62 : decode cX0_shareOut 62 = .ok (.iload_n 1, 1) := by decide +kernel
theorem dX0_shareOut_63 : decode cX0_shareOut 63 = .ok (.iload 5, 2) := by decide +kernel
theorem dX0_shareOut_65 : decode cX0_shareOut 65 = .ok (.invokevirtual 67, 3) := by decide +kernel
theorem dX0_shareOut_68 : decode cX0_shareOut 68 = .ok (.ifCond .eq 14, 3) := by decide +kernel
theorem dX0_shareOut_71 : decode cX0_shareOut 71 = .ok (.aload_n 0, 1) := by decide +kernel
theorem dX0_shareOut_72 : decode cX0_shareOut 72 = .ok (.getfield 22, 3) := by decide +kernel
theorem dX0_shareOut_75 : decode cX0_shareOut 75 = .ok (.iload 5, 2) := by decide +kernel
theorem dX0_shareOut_77 : decode cX0_shareOut 77 = .ok (.dup2, 1) := by decide +kernel
theorem dX0_shareOut_78 : decode cX0_shareOut 78 = .ok (.laload, 1) := by decide +kernel
theorem dX0_shareOut_79 : decode cX0_shareOut 79 = .ok (.lload_n 3, 1) := by decide +kernel
theorem dX0_shareOut_80 : decode cX0_shareOut 80 = .ok (.ladd, 1) := by decide +kernel
theorem dX0_shareOut_81 : decode cX0_shareOut 81 = .ok (.lastore, 1) := by decide +kernel
theorem dX0_shareOut_82 : decode cX0_shareOut 82 = .ok (.iinc 5 1, 3) := by decide +kernel
theorem dX0_shareOut_85 : decode cX0_shareOut 85 = .ok (.goto (-33), 3) := by decide +kernel
theorem dX0_shareOut_88 : decode cX0_shareOut 88 = .ok (.return_, 1) := by decide +kernel
theorem cwX0_73 : Cond.constantLong RX0 73 (2 : Int64) ∈ TB := tb_in 571 (by decide +kernel) rfl
def fX0_shareOut_L52 (n : Nat) (v1 : Int32) (v3 : Int64) : Nat → Int32 → Mem → Option (Unit × Mem)
  | 0, _, _ => none
  | F + 1, v5, μ => if (μ.1 42 4) ≤ v5 then some ((), μ) else bd (fX0_leads n v1 v5 μ) (fun r5 m4 => if r5 = 0 then bnd (v5 + 1) (fun x6 => fX0_shareOut_L52 n v1 v3 F x6 m4) else gd (inb v5 8) (gd (inb v5 8) (bnd (setJ m4 46 (Int32.toNatClampNeg v5) ((m4.2 46 (Int32.toNatClampNeg v5)) + v3)) (fun m7 => bnd (v5 + 1) (fun x8 => fX0_shareOut_L52 n v1 v3 F x8 m7)))))
def fX0_shareOut (n : Nat) (a1 : Int32) (μ : Mem) : Option (Unit × Mem) :=
  gd (inb a1 8) (bd (fJ6_bitCount_0f7a4 n (μ.1 43 (Int32.toNatClampNeg a1)) μ) (fun r2 m1 => if 1 ≤ r2 then gd (inb a1 8) (gd (nzL r2.toInt64) (bnd ((2 * (m1.2 45 (Int32.toNatClampNeg a1))) / r2.toInt64) (fun x3 => fX0_shareOut_L52 n a1 x3 n 0 m1))) else gd (inb a1 8) (gd (inb a1 8) (gd (inb a1 8) (bnd (setJ m1 46 (Int32.toNatClampNeg a1) ((m1.2 46 (Int32.toNatClampNeg a1)) + (2 * (m1.2 45 (Int32.toNatClampNeg a1))))) (fun m9 => some ((), m9)))))))
set_option maxHeartbeats 4000000 in
set_option maxRecDepth 100000 in
theorem wX0_shareOut_L52 (ad : Nat → Nat) (n : Nat) (v1 : Int32) (v3 : Int64) : ∀ (F : Nat) (v5 : Int32) (μ : Mem), G kX0_shareOut ad encV 52 [(0, .ref (ad 42)), (1, .int v1), (3, .long v3), (5, .int v5)] [] μ (fX0_shareOut_L52 n v1 v3 F v5 μ) := by
  intro F
  induction F with
  | zero =>
    intro v5 μ
    exact g_none
  | succ F ih =>
    intro v5 μ
    rw [fX0_shareOut_L52]
    refine g_iload (pc := 52) 3 dX0_shareOut_52 rfl ?_
    refine g_aload_n (pc := 54) 0 dX0_shareOut_54 rfl rfl ?_
    refine g_get (pc := 55) rfl foX0_31 (v := .int (μ.1 42 4)) rfl dX0_shareOut_55 ?_
    refine g_icmp_ge (pc := 58) 88 dX0_shareOut_58 rfl ?_ ?_
    · exact g_return (pc := 88) dX0_shareOut_88 rfl
    · refine g_aload_n (pc := 61) 0 dX0_shareOut_61 rfl rfl ?_
      refine g_iload_n (pc := 62) 1 dX0_shareOut_62 rfl rfl ?_
      refine g_iload (pc := 63) 3 dX0_shareOut_63 rfl ?_
      refine g_cVI (pc := 65) (st := []) [.int v1, .int v5] rfl rfl moX0_leads lnX0_67 (ctX0_leads ad n v1 v5 μ) rfl ⟨Nat.le_of_ble_eq_true rfl, Nat.le_of_ble_eq_true rfl⟩ rfl (Nat.le_of_ble_eq_true rfl) dX0_shareOut_65 (fun r5 m4 => ?_)
      refine g_if_eq (pc := 68) 82 dX0_shareOut_68 rfl ?_ ?_
      · refine g_iincB (pc := 82) 3 1 1 (fun x6 => [(5, .int x6), (0, .ref (ad 42)), (1, .int v1), (3, .long v3)]) dX0_shareOut_82 rfl (by decide) (by decide) (fun _ => rfl) (fun x6 => ?_)
        refine g_goto (pc := 85) 52 dX0_shareOut_85 rfl ?_
        exact g_sub [1, 2, 3, 0] rfl (ih x6 m4)
      · refine g_aload_n (pc := 71) 0 dX0_shareOut_71 rfl rfl ?_
        refine g_get (pc := 72) rfl foX0_22 (v := .ref (ad 46)) rfl dX0_shareOut_72 ?_
        refine g_iload (pc := 75) 3 dX0_shareOut_75 rfl ?_
        refine g_dup2 (pc := 77) dX0_shareOut_77 rfl rfl ?_
        refine g_lald (pc := 78) rfl dX0_shareOut_78 ?_
        refine g_lload_n (pc := 79) 2 dX0_shareOut_79 rfl rfl ?_
        refine g_ladd (pc := 80) dX0_shareOut_80 ?_
        refine g_last (pc := 81) rfl dX0_shareOut_81 (fun m7 => ?_)
        refine g_iincB (pc := 82) 3 1 1 (fun x8 => [(5, .int x8), (0, .ref (ad 42)), (1, .int v1), (3, .long v3)]) dX0_shareOut_82 rfl (by decide) (by decide) (fun _ => rfl) (fun x8 => ?_)
        refine g_goto (pc := 85) 52 dX0_shareOut_85 rfl ?_
        exact g_sub [1, 2, 3, 0] rfl (ih x8 m7)
set_option maxHeartbeats 4000000 in
set_option maxRecDepth 100000 in
theorem ctX0_shareOut (ad : Nat → Nat) (n : Nat) (a1 : Int32) (μ : Mem) : Ct yX0_shareOut kX0_shareOut ad encV [.ref (ad 42), .int a1] μ (fX0_shareOut n a1 μ) := Ct.of (by decide +kernel) rfl (Nat.le_of_ble_eq_true rfl) (by
  show G kX0_shareOut ad encV 0 [(0, .ref (ad 42)), (1, .int a1)] [] μ (fX0_shareOut n a1 μ)
  unfold fX0_shareOut
  refine g_aload_n (pc := 0) 0 dX0_shareOut_0 rfl rfl ?_
  refine g_get (pc := 1) rfl foX0_9 (v := .ref (ad 43)) rfl dX0_shareOut_1 ?_
  refine g_iload_n (pc := 4) 1 dX0_shareOut_4 rfl rfl ?_
  refine g_iald (pc := 5) rfl (by decide) dX0_shareOut_5 ?_
  refine g_cSI (pc := 6) (st := []) [.int (μ.1 43 (Int32.toNatClampNeg a1))] moJ6_bitCount_0f7a4 lnX0_51 (ctJ6_bitCount_0f7a4 ad n (μ.1 43 (Int32.toNatClampNeg a1)) μ) rfl ⟨Nat.le_of_ble_eq_true rfl, Nat.le_of_ble_eq_true rfl⟩ rfl (Nat.le_of_ble_eq_true rfl) dX0_shareOut_6 (fun r2 m1 => ?_)
  refine g_istore_n (pc := 9) [(2, .int r2), (0, .ref (ad 42)), (1, .int a1)] dX0_shareOut_9 rfl (by decide) rfl ?_
  refine g_iload_n (pc := 10) 0 dX0_shareOut_10 rfl rfl ?_
  refine g_iconst (pc := 11) 1 dX0_shareOut_11 (by decide) ?_
  refine g_icmp_ge (pc := 12) 35 dX0_shareOut_12 rfl ?_ ?_
  · refine g_ldc2 (pc := 35) dX0_shareOut_35 cwX0_73 ?_
    refine g_aload_n (pc := 38) 1 dX0_shareOut_38 rfl rfl ?_
    refine g_get (pc := 39) rfl foX0_18 (v := .ref (ad 45)) rfl dX0_shareOut_39 ?_
    refine g_iload_n (pc := 42) 2 dX0_shareOut_42 rfl rfl ?_
    refine g_lald (pc := 43) rfl dX0_shareOut_43 ?_
    refine g_lmul (pc := 44) dX0_shareOut_44 ?_
    refine g_iload_n (pc := 45) 0 dX0_shareOut_45 rfl rfl ?_
    refine g_i2l (pc := 46) dX0_shareOut_46 ?_
    refine g_ldivG (pc := 47) dX0_shareOut_47 ?_
    refine g_lstore_nB (pc := 48) (fun x3 => [(3, .long x3), (2, .int r2), (0, .ref (ad 42)), (1, .int a1)]) dX0_shareOut_48 rfl (by decide) (fun _ => rfl) (fun x3 => ?_)
    refine g_iconst (pc := 49) 0 dX0_shareOut_49 (by decide) ?_
    refine g_istore (pc := 50) [(5, .int 0), (3, .long x3), (2, .int r2), (0, .ref (ad 42)), (1, .int a1)] dX0_shareOut_50 (by decide) rfl ?_
    exact g_sub [3, 4, 1, 0] rfl (wX0_shareOut_L52 ad n a1 x3 n 0 m1)
  · refine g_aload_n (pc := 15) 1 dX0_shareOut_15 rfl rfl ?_
    refine g_get (pc := 16) rfl foX0_22 (v := .ref (ad 46)) rfl dX0_shareOut_16 ?_
    refine g_iload_n (pc := 19) 2 dX0_shareOut_19 rfl rfl ?_
    refine g_dup2 (pc := 20) dX0_shareOut_20 rfl rfl ?_
    refine g_lald (pc := 21) rfl dX0_shareOut_21 ?_
    refine g_ldc2 (pc := 22) dX0_shareOut_22 cwX0_73 ?_
    refine g_aload_n (pc := 25) 1 dX0_shareOut_25 rfl rfl ?_
    refine g_get (pc := 26) rfl foX0_18 (v := .ref (ad 45)) rfl dX0_shareOut_26 ?_
    refine g_iload_n (pc := 29) 2 dX0_shareOut_29 rfl rfl ?_
    refine g_lald (pc := 30) rfl dX0_shareOut_30 ?_
    refine g_lmul (pc := 31) dX0_shareOut_31 ?_
    refine g_ladd (pc := 32) dX0_shareOut_32 ?_
    refine g_last (pc := 33) rfl dX0_shareOut_33 (fun m9 => ?_)
    exact g_return (pc := 34) dX0_shareOut_34 rfl)
-- StopsByLetters$Net.lotsOf(III)J
abbrev kX0_lotsOf : Cfg := (RX0, cX0_lotsOf, 6, (some .long), 2)
theorem dX0_lotsOf_0 : decode cX0_lotsOf 0 = .ok (.aload_n 0, 1) := by decide +kernel
theorem dX0_lotsOf_1 : decode cX0_lotsOf 1 = .ok (.iload_n 1, 1) := by decide +kernel
theorem dX0_lotsOf_2 : decode cX0_lotsOf 2 = .ok (.invokevirtual 56, 3) := by decide +kernel
theorem dX0_lotsOf_5 : decode cX0_lotsOf 5 = .ok (.iconst 0, 1) := by decide +kernel
theorem dX0_lotsOf_6 : decode cX0_lotsOf 6 = .ok (.istore 4, 2) := by decide +kernel
theorem dX0_lotsOf_8 : decode cX0_lotsOf 8 = .ok (.iload 4, 2) := by decide +kernel
theorem dX0_lotsOf_10 : decode cX0_lotsOf 10 = .ok (.iload_n 3, 1) := by decide +kernel
theorem dX0_lotsOf_11 : decode cX0_lotsOf 11 = .ok (.if_icmp .ge 63, 3) := by decide +kernel
theorem dX0_lotsOf_14 : decode cX0_lotsOf 14 = .ok (.iconst 0, 1) := by decide +kernel
theorem dX0_lotsOf_15 : decode cX0_lotsOf 15 = .ok (.istore 5, 2) := by decide +kernel
theorem dX0_lotsOf_17 : decode cX0_lotsOf 17 = .ok (.iload 5, 2) := by decide +kernel
theorem dX0_lotsOf_19 : decode cX0_lotsOf 19 = .ok (.aload_n 0, 1) := by decide +kernel
theorem dX0_lotsOf_20 : decode cX0_lotsOf 20 = .ok (.getfield 31, 3) := by decide +kernel
theorem dX0_lotsOf_23 : decode cX0_lotsOf 23 = .ok (.if_icmp .ge 17, 3) := by decide +kernel
theorem dX0_lotsOf_26 : decode cX0_lotsOf 26 = .ok (.aload_n 0, 1) := by decide +kernel
theorem dX0_lotsOf_27 : decode cX0_lotsOf 27 = .ok (.getfield 22, 3) := by decide +kernel
theorem dX0_lotsOf_30 : decode cX0_lotsOf 30 = .ok (.iload 5, 2) := by decide +kernel
theorem dX0_lotsOf_32 : decode cX0_lotsOf 32 = .ok (.lconst 0, 1) := by decide +kernel
theorem dX0_lotsOf_33 : decode cX0_lotsOf 33 = .ok (.lastore, 1) := by decide +kernel
theorem dX0_lotsOf_34 : decode cX0_lotsOf 34 = .ok (.iinc 5 1, 3) := by decide +kernel
theorem dX0_lotsOf_37 : decode cX0_lotsOf 37 = .ok (.goto (-20), 3) := by decide +kernel
theorem dX0_lotsOf_40 : decode cX0_lotsOf 40 = .ok (.iconst 0, 1) := by decide +kernel
theorem dX0_lotsOf_41 : decode cX0_lotsOf 41 = .ok (.istore 5, 2) := by decide +kernel
theorem dX0_lotsOf_43 : decode cX0_lotsOf 43 = .ok (.iload 5, 2) := by decide +kernel
theorem dX0_lotsOf_45 : decode cX0_lotsOf 45 = .ok (.aload_n 0, 1) := by decide +kernel
theorem dX0_lotsOf_46 : decode cX0_lotsOf 46 = .ok (.getfield 31, 3) := by decide +kernel
theorem dX0_lotsOf_49 : decode cX0_lotsOf 49 = .ok (.if_icmp .ge 15, 3) := by decide +kernel
theorem dX0_lotsOf_52 : decode cX0_lotsOf 52 = .ok (.aload_n 0, 1) := by decide +kernel
theorem dX0_lotsOf_53 : decode cX0_lotsOf 53 = .ok (.iload 5, 2) := by decide +kernel
theorem dX0_lotsOf_55 : decode cX0_lotsOf 55 = .ok (.invokevirtual 70, 3) := by decide +kernel
theorem dX0_lotsOf_58 : decode cX0_lotsOf 58 = .ok (.iinc 5 1, 3) := by decide +kernel
theorem dX0_lotsOf_61 : decode cX0_lotsOf 61 = .ok (.goto (-18), 3) := by decide +kernel
theorem dX0_lotsOf_64 : decode cX0_lotsOf 64 = .ok (.aload_n 0, 1) := by decide +kernel
theorem dX0_lotsOf_65 : decode cX0_lotsOf 65 = .ok (.invokevirtual 64, 3) := by decide +kernel
theorem dX0_lotsOf_68 : decode cX0_lotsOf 68 = .ok (.iinc 4 1, 3) := by decide +kernel
theorem dX0_lotsOf_71 : decode cX0_lotsOf 71 = .ok (.goto (-63), 3) := by decide +kernel
theorem dX0_lotsOf_74 : decode cX0_lotsOf 74 = .ok (.aload_n 0, 1) := by decide +kernel
theorem dX0_lotsOf_75 : decode cX0_lotsOf 75 = .ok (.getfield 18, 3) := by decide +kernel
theorem dX0_lotsOf_78 : decode cX0_lotsOf 78 = .ok (.iload_n 2, 1) := by decide +kernel
theorem dX0_lotsOf_79 : decode cX0_lotsOf 79 = .ok (.laload, 1) := by decide +kernel
theorem dX0_lotsOf_80 : decode cX0_lotsOf 80 = .ok (.lreturn, 1) := by decide +kernel
def fX0_lotsOf_L17 (n : Nat) (v2 : Int32) (v3 : Int32) (v4 : Int32) (K1 : Mem → Option (Int64 × Mem)) : Nat → Int32 → Mem → Option (Int64 × Mem)
  | 0, _, _ => none
  | F + 1, v5, μ => if (μ.1 42 4) ≤ v5 then K1 μ else gd (inb v5 8) (bnd (setJ μ 46 (Int32.toNatClampNeg v5) 0) (fun m3 => bnd (v5 + 1) (fun x4 => fX0_lotsOf_L17 n v2 v3 v4 K1 F x4 m3)))
theorem lnX0_70 : Ln RX0 70 yX0_shareOut := Or.inl (tb_in 567 (by decide +kernel) rfl)
theorem moX0_shareOut : Mv yX0_shareOut kX0_shareOut 1 := ⟨⟨tb_in 570 (by decide +kernel) rfl, tb_in 91 (by decide +kernel) rfl, ⟨by decide, by decide⟩, by decide +kernel⟩, tb_in 569 (by decide +kernel) rfl, tb_in 38 (by decide +kernel) rfl⟩
def fX0_lotsOf_L43 (n : Nat) (v2 : Int32) (v3 : Int32) (v4 : Int32) (K1 : Mem → Option (Int64 × Mem)) : Nat → Int32 → Mem → Option (Int64 × Mem)
  | 0, _, _ => none
  | F + 1, v5, μ => if (μ.1 42 4) ≤ v5 then K1 μ else bd (fX0_shareOut n v5 μ) (fun r7 m6 => bnd (v5 + 1) (fun x8 => fX0_lotsOf_L43 n v2 v3 v4 K1 F x8 m6))
def fX0_lotsOf_L8 (n : Nat) (v2 : Int32) (v3 : Int32) : Nat → Int32 → Mem → Option (Int64 × Mem)
  | 0, _, _ => none
  | F + 1, v4, μ => if v3 ≤ v4 then gd (inb v2 8) (some ((μ.2 45 (Int32.toNatClampNeg v2)), μ)) else fX0_lotsOf_L17 n v2 v3 v4 (fun (m5 : Mem) => fX0_lotsOf_L43 n v2 v3 v4 (fun (m9 : Mem) => bd (fX0_turn n m9) (fun r11 m10 => bnd (v4 + 1) (fun x12 => fX0_lotsOf_L8 n v2 v3 F x12 m10))) n 0 m5) n 0 μ
def fX0_lotsOf (n : Nat) (a1 : Int32) (a2 : Int32) (a3 : Int32) (μ : Mem) : Option (Int64 × Mem) :=
  bd (fX0_startAt n a1 μ) (fun r2 m1 => fX0_lotsOf_L8 n a2 a3 n 0 m1)
set_option maxHeartbeats 4000000 in
set_option maxRecDepth 100000 in
theorem wX0_lotsOf_L17 (ad : Nat → Nat) (n : Nat) (v2 : Int32) (v3 : Int32) (v4 : Int32) (K1 : Mem → Option (Int64 × Mem)) (hK1 : ∀ (μ : Mem), G kX0_lotsOf ad encJ 40 [(0, .ref (ad 42)), (2, .int v2), (3, .int v3), (4, .int v4)] [] μ (K1 μ)) : ∀ (F : Nat) (v5 : Int32) (μ : Mem), G kX0_lotsOf ad encJ 17 [(0, .ref (ad 42)), (2, .int v2), (3, .int v3), (4, .int v4), (5, .int v5)] [] μ (fX0_lotsOf_L17 n v2 v3 v4 K1 F v5 μ) := by
  intro F
  induction F with
  | zero =>
    intro v5 μ
    exact g_none
  | succ F ih =>
    intro v5 μ
    rw [fX0_lotsOf_L17]
    refine g_iload (pc := 17) 4 dX0_lotsOf_17 rfl ?_
    refine g_aload_n (pc := 19) 0 dX0_lotsOf_19 rfl rfl ?_
    refine g_get (pc := 20) rfl foX0_31 (v := .int (μ.1 42 4)) rfl dX0_lotsOf_20 ?_
    refine g_icmp_ge (pc := 23) 40 dX0_lotsOf_23 rfl ?_ ?_
    · exact g_sub [0, 1, 2, 3] rfl (hK1 μ)
    · refine g_aload_n (pc := 26) 0 dX0_lotsOf_26 rfl rfl ?_
      refine g_get (pc := 27) rfl foX0_22 (v := .ref (ad 46)) rfl dX0_lotsOf_27 ?_
      refine g_iload (pc := 30) 4 dX0_lotsOf_30 rfl ?_
      refine g_lconst (pc := 32) 0 dX0_lotsOf_32 (by decide) ?_
      refine g_last (pc := 33) rfl dX0_lotsOf_33 (fun m3 => ?_)
      refine g_iincB (pc := 34) 4 1 1 (fun x4 => [(5, .int x4), (0, .ref (ad 42)), (2, .int v2), (3, .int v3), (4, .int v4)]) dX0_lotsOf_34 rfl (by decide) (by decide) (fun _ => rfl) (fun x4 => ?_)
      refine g_goto (pc := 37) 17 dX0_lotsOf_37 rfl ?_
      exact g_sub [1, 2, 3, 4, 0] rfl (ih x4 m3)
set_option maxHeartbeats 4000000 in
set_option maxRecDepth 100000 in
theorem wX0_lotsOf_L43 (ad : Nat → Nat) (n : Nat) (v2 : Int32) (v3 : Int32) (v4 : Int32) (K1 : Mem → Option (Int64 × Mem)) (hK1 : ∀ (μ : Mem), G kX0_lotsOf ad encJ 64 [(0, .ref (ad 42)), (2, .int v2), (3, .int v3), (4, .int v4)] [] μ (K1 μ)) : ∀ (F : Nat) (v5 : Int32) (μ : Mem), G kX0_lotsOf ad encJ 43 [(0, .ref (ad 42)), (2, .int v2), (3, .int v3), (4, .int v4), (5, .int v5)] [] μ (fX0_lotsOf_L43 n v2 v3 v4 K1 F v5 μ) := by
  intro F
  induction F with
  | zero =>
    intro v5 μ
    exact g_none
  | succ F ih =>
    intro v5 μ
    rw [fX0_lotsOf_L43]
    refine g_iload (pc := 43) 4 dX0_lotsOf_43 rfl ?_
    refine g_aload_n (pc := 45) 0 dX0_lotsOf_45 rfl rfl ?_
    refine g_get (pc := 46) rfl foX0_31 (v := .int (μ.1 42 4)) rfl dX0_lotsOf_46 ?_
    refine g_icmp_ge (pc := 49) 64 dX0_lotsOf_49 rfl ?_ ?_
    · exact g_sub [0, 1, 2, 3] rfl (hK1 μ)
    · refine g_aload_n (pc := 52) 0 dX0_lotsOf_52 rfl rfl ?_
      refine g_iload (pc := 53) 4 dX0_lotsOf_53 rfl ?_
      refine g_cVV (pc := 55) (st := []) [.int v5] rfl rfl moX0_shareOut lnX0_70 (ctX0_shareOut ad n v5 μ) rfl ⟨Nat.le_of_ble_eq_true rfl, Nat.le_of_ble_eq_true rfl⟩ rfl (Nat.le_of_ble_eq_true rfl) dX0_lotsOf_55 (fun r7 m6 => ?_)
      refine g_iincB (pc := 58) 4 1 1 (fun x8 => [(5, .int x8), (0, .ref (ad 42)), (2, .int v2), (3, .int v3), (4, .int v4)]) dX0_lotsOf_58 rfl (by decide) (by decide) (fun _ => rfl) (fun x8 => ?_)
      refine g_goto (pc := 61) 43 dX0_lotsOf_61 rfl ?_
      exact g_sub [1, 2, 3, 4, 0] rfl (ih x8 m6)
set_option maxHeartbeats 4000000 in
set_option maxRecDepth 100000 in
theorem wX0_lotsOf_L8 (ad : Nat → Nat) (n : Nat) (v2 : Int32) (v3 : Int32) : ∀ (F : Nat) (v4 : Int32) (μ : Mem), G kX0_lotsOf ad encJ 8 [(0, .ref (ad 42)), (2, .int v2), (3, .int v3), (4, .int v4)] [] μ (fX0_lotsOf_L8 n v2 v3 F v4 μ) := by
  intro F
  induction F with
  | zero =>
    intro v4 μ
    exact g_none
  | succ F ih =>
    intro v4 μ
    rw [fX0_lotsOf_L8]
    refine g_iload (pc := 8) 3 dX0_lotsOf_8 rfl ?_
    refine g_iload_n (pc := 10) 2 dX0_lotsOf_10 rfl rfl ?_
    refine g_icmp_ge (pc := 11) 74 dX0_lotsOf_11 rfl ?_ ?_
    · refine g_aload_n (pc := 74) 0 dX0_lotsOf_74 rfl rfl ?_
      refine g_get (pc := 75) rfl foX0_18 (v := .ref (ad 45)) rfl dX0_lotsOf_75 ?_
      refine g_iload_n (pc := 78) 1 dX0_lotsOf_78 rfl rfl ?_
      refine g_lald (pc := 79) rfl dX0_lotsOf_79 ?_
      exact g_lreturn (pc := 80) dX0_lotsOf_80 rfl
    · refine g_iconst (pc := 14) 0 dX0_lotsOf_14 (by decide) ?_
      refine g_istore (pc := 15) [(5, .int 0), (0, .ref (ad 42)), (2, .int v2), (3, .int v3), (4, .int v4)] dX0_lotsOf_15 (by decide) rfl ?_
      refine g_sub [1, 2, 3, 4, 0] rfl (wX0_lotsOf_L17 ad n v2 v3 v4 _ (fun m5 => ?_) n 0 μ)
      refine g_iconst (pc := 40) 0 dX0_lotsOf_40 (by decide) ?_
      refine g_istore (pc := 41) [(5, .int 0), (0, .ref (ad 42)), (2, .int v2), (3, .int v3), (4, .int v4)] dX0_lotsOf_41 (by decide) rfl ?_
      refine g_sub [1, 2, 3, 4, 0] rfl (wX0_lotsOf_L43 ad n v2 v3 v4 _ (fun m9 => ?_) n 0 m5)
      refine g_aload_n (pc := 64) 0 dX0_lotsOf_64 rfl rfl ?_
      refine g_cVV (pc := 65) (st := []) [] rfl rfl moX0_turn lnX0_64 (ctX0_turn ad n m9) rfl ⟨Nat.le_of_ble_eq_true rfl, Nat.le_of_ble_eq_true rfl⟩ rfl (Nat.le_of_ble_eq_true rfl) dX0_lotsOf_65 (fun r11 m10 => ?_)
      refine g_iincB (pc := 68) 3 1 1 (fun x12 => [(4, .int x12), (0, .ref (ad 42)), (2, .int v2), (3, .int v3)]) dX0_lotsOf_68 rfl (by decide) (by decide) (fun _ => rfl) (fun x12 => ?_)
      refine g_goto (pc := 71) 8 dX0_lotsOf_71 rfl ?_
      exact g_sub [1, 2, 3, 0] rfl (ih x12 m10)
set_option maxHeartbeats 4000000 in
set_option maxRecDepth 100000 in
theorem ctX0_lotsOf (ad : Nat → Nat) (n : Nat) (a1 : Int32) (a2 : Int32) (a3 : Int32) (μ : Mem) : Ct yX0_lotsOf kX0_lotsOf ad encJ [.ref (ad 42), .int a1, .int a2, .int a3] μ (fX0_lotsOf n a1 a2 a3 μ) := Ct.of (by decide +kernel) rfl (Nat.le_of_ble_eq_true rfl) (by
  show G kX0_lotsOf ad encJ 0 [(0, .ref (ad 42)), (1, .int a1), (2, .int a2), (3, .int a3)] [] μ (fX0_lotsOf n a1 a2 a3 μ)
  unfold fX0_lotsOf
  refine g_aload_n (pc := 0) 0 dX0_lotsOf_0 rfl rfl ?_
  refine g_iload_n (pc := 1) 1 dX0_lotsOf_1 rfl rfl ?_
  refine g_cVV (pc := 2) (st := []) [.int a1] rfl rfl moX0_startAt lnX0_56 (ctX0_startAt ad n a1 μ) rfl ⟨Nat.le_of_ble_eq_true rfl, Nat.le_of_ble_eq_true rfl⟩ rfl (Nat.le_of_ble_eq_true rfl) dX0_lotsOf_2 (fun r2 m1 => ?_)
  refine g_iconst (pc := 5) 0 dX0_lotsOf_5 (by decide) ?_
  refine g_istore (pc := 6) [(4, .int 0), (0, .ref (ad 42)), (1, .int a1), (2, .int a2), (3, .int a3)] dX0_lotsOf_6 (by decide) rfl ?_
  exact g_sub [1, 3, 4, 0] rfl (wX0_lotsOf_L8 ad n a2 a3 n 0 m1))
-- StopsByLetters$Sights.at(I)I
abbrev kX1_at : Cfg := (RX1, cX1_at, 2, (some .int), 0)
theorem dX1_at_0 : decode cX1_at 0 = .ok (.iload_n 1, 1) := by decide +kernel
theorem dX1_at_1 : decode cX1_at 1 = .ok (.ifCond .lt 20, 3) := by decide +kernel
theorem dX1_at_4 : decode cX1_at 4 = .ok (.iload_n 1, 1) := by decide +kernel
theorem dX1_at_5 : decode cX1_at 5 = .ok (.aload_n 0, 1) := by decide +kernel
theorem dX1_at_6 : decode cX1_at 6 = .ok (.getfield 15, 3) := by decide +kernel
theorem dX1_at_9 : decode cX1_at 9 = .ok (.if_icmp .ge 12, 3) := by decide +kernel
theorem dX1_at_12 : decode cX1_at 12 = .ok (.aload_n 0, 1) := by decide +kernel
theorem dX1_at_13 : decode cX1_at 13 = .ok (.getfield 9, 3) := by decide +kernel
theorem dX1_at_16 : decode cX1_at 16 = .ok (.iload_n 1, 1) := by decide +kernel
theorem dX1_at_17 : decode cX1_at 17 = .ok (.iaload, 1) := by decide +kernel
theorem dX1_at_18 : decode cX1_at 18 = .ok (.goto 5, 3) := by decide +kernel
theorem dX1_at_21 : decode cX1_at 21 = .ok (.bipush 9, 2) := by decide +kernel
theorem dX1_at_23 : decode cX1_at 23 = .ok (.ireturn, 1) := by decide +kernel
theorem foX1_15 : Fo 1 RX1 TX1 2 1 RX1 15 := ⟨rfl, by decide, rfl, uwX1, rfl, Or.inl (tb_in 161 (by decide +kernel) rfl)⟩
theorem foX1_9 : Fo 1 RX1 TX1 2 0 RX1 9 := ⟨rfl, by decide, rfl, uwX1, rfl, Or.inl (tb_in 160 (by decide +kernel) rfl)⟩
def fX1_at (n : Nat) (a1 : Int32) (μ : Mem) : Option (Int32 × Mem) :=
  if a1 < 0 then some (9, μ) else if (μ.1 40 1) ≤ a1 then some (9, μ) else gd (inb a1 12) (some ((μ.1 41 (Int32.toNatClampNeg a1)), μ))
set_option maxHeartbeats 4000000 in
set_option maxRecDepth 100000 in
theorem ctX1_at (ad : Nat → Nat) (n : Nat) (a1 : Int32) (μ : Mem) : Ct yX1_at kX1_at ad encI [.ref (ad 40), .int a1] μ (fX1_at n a1 μ) := Ct.of (by decide +kernel) rfl (Nat.le_of_ble_eq_true rfl) (by
  show G kX1_at ad encI 0 [(0, .ref (ad 40)), (1, .int a1)] [] μ (fX1_at n a1 μ)
  unfold fX1_at
  refine g_iload_n (pc := 0) 1 dX1_at_0 rfl rfl ?_
  refine g_if_lt (pc := 1) 21 dX1_at_1 rfl ?_ ?_
  · refine g_bipush (pc := 21) 9 dX1_at_21 (by decide) ?_
    exact g_ireturn (pc := 23) dX1_at_23 rfl
  · refine g_iload_n (pc := 4) 1 dX1_at_4 rfl rfl ?_
    refine g_aload_n (pc := 5) 0 dX1_at_5 rfl rfl ?_
    refine g_get (pc := 6) rfl foX1_15 (v := .int (μ.1 40 1)) rfl dX1_at_6 ?_
    refine g_icmp_ge (pc := 9) 21 dX1_at_9 rfl ?_ ?_
    · refine g_bipush (pc := 21) 9 dX1_at_21 (by decide) ?_
      exact g_ireturn (pc := 23) dX1_at_23 rfl
    · refine g_aload_n (pc := 12) 0 dX1_at_12 rfl rfl ?_
      refine g_get (pc := 13) rfl foX1_9 (v := .ref (ad 41)) rfl dX1_at_13 ?_
      refine g_iload_n (pc := 16) 1 dX1_at_16 rfl rfl ?_
      refine g_iald (pc := 17) rfl (by decide) dX1_at_17 ?_
      refine g_goto (pc := 18) 23 dX1_at_18 rfl ?_
      exact g_ireturn (pc := 23) dX1_at_23 rfl)
-- StopsByLetters$Sights.allows(II)Z
abbrev kX1_allows : Cfg := (RX1, cX1_allows, 4, (some .boolean), 1)
theorem dX1_allows_0 : decode cX1_allows 0 = .ok (.aload_n 0, 1) := by decide +kernel
theorem dX1_allows_1 : decode cX1_allows 1 = .ok (.iload_n 1, 1) := by decide +kernel
theorem dX1_allows_2 : decode cX1_allows 2 = .ok (.invokevirtual 19, 3) := by decide +kernel
theorem dX1_allows_5 : decode cX1_allows 5 = .ok (.istore_n 3, 1) := by decide +kernel
theorem dX1_allows_6 : decode cX1_allows 6 = .ok (.iload_n 3, 1) := by decide +kernel
theorem dX1_allows_7 : decode cX1_allows 7 = .ok (.bipush 9, 2) := by decide +kernel
theorem dX1_allows_9 : decode cX1_allows 9 = .ok (.if_icmp .eq 8, 3) := by decide +kernel
theorem dX1_allows_12 : decode cX1_allows 12 = .ok (.iload_n 3, 1) := by decide +kernel
theorem dX1_allows_13 : decode cX1_allows 13 = .ok (.iload_n 2, 1) := by decide +kernel
theorem dX1_allows_14 : decode cX1_allows 14 = .ok (.if_icmp .ne 7, 3) := by decide +kernel
theorem dX1_allows_17 : decode cX1_allows 17 = .ok (.iconst 1, 1) := by decide +kernel
theorem dX1_allows_18 : decode cX1_allows 18 = .ok (.goto 4, 3) := by decide +kernel
theorem dX1_allows_21 : decode cX1_allows 21 = .ok (.iconst 0, 1) := by decide +kernel
theorem dX1_allows_22 : decode cX1_allows 22 = .ok (.ireturn, 1) := by decide +kernel
theorem lnX1_19 : Ln RX1 19 yX1_at := Or.inl (tb_in 617 (by decide +kernel) rfl)
theorem moX1_at : Mv yX1_at kX1_at 1 := ⟨⟨tb_in 620 (by decide +kernel) rfl, tb_in 90 (by decide +kernel) rfl, ⟨by decide, by decide⟩, by decide +kernel⟩, tb_in 619 (by decide +kernel) rfl, tb_in 45 (by decide +kernel) rfl⟩
def fX1_allows (n : Nat) (a1 : Int32) (a2 : Int32) (μ : Mem) : Option (Int32 × Mem) :=
  bd (fX1_at n a1 μ) (fun r2 m1 => if r2 = 9 then some (1, m1) else if r2 = a2 then some (1, m1) else some (0, m1))
set_option maxHeartbeats 4000000 in
set_option maxRecDepth 100000 in
theorem ctX1_allows (ad : Nat → Nat) (n : Nat) (a1 : Int32) (a2 : Int32) (μ : Mem) : Ct yX1_allows kX1_allows ad encI [.ref (ad 40), .int a1, .int a2] μ (fX1_allows n a1 a2 μ) := Ct.of (by decide +kernel) rfl (Nat.le_of_ble_eq_true rfl) (by
  show G kX1_allows ad encI 0 [(0, .ref (ad 40)), (1, .int a1), (2, .int a2)] [] μ (fX1_allows n a1 a2 μ)
  unfold fX1_allows
  refine g_aload_n (pc := 0) 0 dX1_allows_0 rfl rfl ?_
  refine g_iload_n (pc := 1) 1 dX1_allows_1 rfl rfl ?_
  refine g_cVI (pc := 2) (st := []) [.int a1] rfl rfl moX1_at lnX1_19 (ctX1_at ad n a1 μ) rfl ⟨Nat.le_of_ble_eq_true rfl, Nat.le_of_ble_eq_true rfl⟩ rfl (Nat.le_of_ble_eq_true rfl) dX1_allows_2 (fun r2 m1 => ?_)
  refine g_istore_n (pc := 5) [(3, .int r2), (0, .ref (ad 40)), (1, .int a1), (2, .int a2)] dX1_allows_5 rfl (by decide) rfl ?_
  refine g_iload_n (pc := 6) 0 dX1_allows_6 rfl rfl ?_
  refine g_bipush (pc := 7) 9 dX1_allows_7 (by decide) ?_
  refine g_icmp_eq (pc := 9) 17 dX1_allows_9 rfl ?_ ?_
  · refine g_iconst (pc := 17) 1 dX1_allows_17 (by decide) ?_
    refine g_goto (pc := 18) 22 dX1_allows_18 rfl ?_
    exact g_zreturn (pc := 22) (by decide) dX1_allows_22 rfl
  · refine g_iload_n (pc := 12) 0 dX1_allows_12 rfl rfl ?_
    refine g_iload_n (pc := 13) 3 dX1_allows_13 rfl rfl ?_
    refine g_icmp_ne (pc := 14) 21 dX1_allows_14 rfl ?_ ?_
    · refine g_iconst (pc := 21) 0 dX1_allows_21 (by decide) ?_
      exact g_zreturn (pc := 22) (by decide) dX1_allows_22 rfl
    · refine g_iconst (pc := 17) 1 dX1_allows_17 (by decide) ?_
      refine g_goto (pc := 18) 22 dX1_allows_18 rfl ?_
      exact g_zreturn (pc := 22) (by decide) dX1_allows_22 rfl)
-- StopsByLetters$Net.tallyFrom(I)J
abbrev kX0_tallyFrom : Cfg := (RX0, cX0_tallyFrom, 5, (some .long), 1)
theorem dX0_tallyFrom_0 : decode cX0_tallyFrom 0 = .ok (.lconst 0, 1) := by decide +kernel
theorem dX0_tallyFrom_1 : decode cX0_tallyFrom 1 = .ok (.lstore_n 2, 1) := by decide +kernel
theorem dX0_tallyFrom_2 : decode cX0_tallyFrom 2 = .ok (.iconst 0, 1) := by decide +kernel
theorem dX0_tallyFrom_3 : decode cX0_tallyFrom 3 = .ok (.istore 4, 2) := by decide +kernel
theorem dX0_tallyFrom_5 : decode cX0_tallyFrom 5 = .ok (.iload 4, 2) := by decide +kernel
theorem dX0_tallyFrom_7 : decode cX0_tallyFrom 7 = .ok (.aload_n 0, 1) := by decide +kernel
theorem dX0_tallyFrom_8 : decode cX0_tallyFrom 8 = .ok (.getfield 31, 3) := by decide +kernel
theorem dX0_tallyFrom_11 : decode cX0_tallyFrom 11 = .ok (.if_icmp .ge 29, 3) := by decide +kernel
theorem dX0_tallyFrom_14 : decode cX0_tallyFrom 14 = .ok (.aload_n 0, 1) := by decide +kernel
theorem dX0_tallyFrom_15 : decode cX0_tallyFrom 15 = .ok (.iload_n 1, 1) := by decide +kernel
theorem dX0_tallyFrom_16 : decode cX0_tallyFrom 16 = .ok (.iload 4, 2) := by decide +kernel
theorem dX0_tallyFrom_18 : decode cX0_tallyFrom 18 = .ok (.invokevirtual 67, 3) := by decide +kernel
theorem dX0_tallyFrom_21 : decode cX0_tallyFrom 21 = .ok (.ifCond .eq 13, 3) := by decide +kernel
theorem dX0_tallyFrom_24 : decode cX0_tallyFrom 24 = .ok (.lload_n 2, 1) := by decide +kernel
theorem dX0_tallyFrom_25 : decode cX0_tallyFrom 25 = .ok (.aload_n 0, 1) := by decide +kernel
theorem dX0_tallyFrom_26 : decode cX0_tallyFrom 26 = .ok (.getfield 18, 3) := by decide +kernel
theorem dX0_tallyFrom_29 : decode cX0_tallyFrom 29 = .ok (.iload 4, 2) := by decide +kernel
theorem dX0_tallyFrom_31 : decode cX0_tallyFrom 31 = .ok (.laload, 1) := by decide +kernel
theorem dX0_tallyFrom_32 : decode cX0_tallyFrom 32 = .ok (.ladd, 1) := by decide +kernel
theorem dX0_tallyFrom_33 : decode cX0_tallyFrom 33 = .ok (.lstore_n 2, 1) := by decide +kernel
theorem dX0_tallyFrom_34 : decode cX0_tallyFrom 34 = .ok (.iinc 4 1, 3) := by decide +kernel
theorem dX0_tallyFrom_37 : decode cX0_tallyFrom 37 = .ok (.goto (-32), 3) := by decide +kernel
theorem dX0_tallyFrom_40 : decode cX0_tallyFrom 40 = .ok (.lload_n 2, 1) := by decide +kernel
theorem dX0_tallyFrom_41 : decode cX0_tallyFrom 41 = .ok (.lreturn, 1) := by decide +kernel
def fX0_tallyFrom_L5 (n : Nat) (v1 : Int32) : Nat → Int64 → Int32 → Mem → Option (Int64 × Mem)
  | 0, _, _, _ => none
  | F + 1, v2, v4, μ => if (μ.1 42 4) ≤ v4 then some (v2, μ) else bd (fX0_leads n v1 v4 μ) (fun r2 m1 => if r2 = 0 then bnd (v4 + 1) (fun x3 => fX0_tallyFrom_L5 n v1 F v2 x3 m1) else gd (inb v4 8) (bnd (v2 + (m1.2 45 (Int32.toNatClampNeg v4))) (fun x4 => bnd (v4 + 1) (fun x5 => fX0_tallyFrom_L5 n v1 F x4 x5 m1))))
def fX0_tallyFrom (n : Nat) (a1 : Int32) (μ : Mem) : Option (Int64 × Mem) :=
  fX0_tallyFrom_L5 n a1 n 0 0 μ
set_option maxHeartbeats 4000000 in
set_option maxRecDepth 100000 in
theorem wX0_tallyFrom_L5 (ad : Nat → Nat) (n : Nat) (v1 : Int32) : ∀ (F : Nat) (v2 : Int64) (v4 : Int32) (μ : Mem), G kX0_tallyFrom ad encJ 5 [(0, .ref (ad 42)), (1, .int v1), (2, .long v2), (4, .int v4)] [] μ (fX0_tallyFrom_L5 n v1 F v2 v4 μ) := by
  intro F
  induction F with
  | zero =>
    intro v2 v4 μ
    exact g_none
  | succ F ih =>
    intro v2 v4 μ
    rw [fX0_tallyFrom_L5]
    refine g_iload (pc := 5) 3 dX0_tallyFrom_5 rfl ?_
    refine g_aload_n (pc := 7) 0 dX0_tallyFrom_7 rfl rfl ?_
    refine g_get (pc := 8) rfl foX0_31 (v := .int (μ.1 42 4)) rfl dX0_tallyFrom_8 ?_
    refine g_icmp_ge (pc := 11) 40 dX0_tallyFrom_11 rfl ?_ ?_
    · refine g_lload_n (pc := 40) 2 dX0_tallyFrom_40 rfl rfl ?_
      exact g_lreturn (pc := 41) dX0_tallyFrom_41 rfl
    · refine g_aload_n (pc := 14) 0 dX0_tallyFrom_14 rfl rfl ?_
      refine g_iload_n (pc := 15) 1 dX0_tallyFrom_15 rfl rfl ?_
      refine g_iload (pc := 16) 3 dX0_tallyFrom_16 rfl ?_
      refine g_cVI (pc := 18) (st := []) [.int v1, .int v4] rfl rfl moX0_leads lnX0_67 (ctX0_leads ad n v1 v4 μ) rfl ⟨Nat.le_of_ble_eq_true rfl, Nat.le_of_ble_eq_true rfl⟩ rfl (Nat.le_of_ble_eq_true rfl) dX0_tallyFrom_18 (fun r2 m1 => ?_)
      refine g_if_eq (pc := 21) 34 dX0_tallyFrom_21 rfl ?_ ?_
      · refine g_iincB (pc := 34) 3 1 1 (fun x3 => [(4, .int x3), (0, .ref (ad 42)), (1, .int v1), (2, .long v2)]) dX0_tallyFrom_34 rfl (by decide) (by decide) (fun _ => rfl) (fun x3 => ?_)
        refine g_goto (pc := 37) 5 dX0_tallyFrom_37 rfl ?_
        exact g_sub [1, 2, 3, 0] rfl (ih v2 x3 m1)
      · refine g_lload_n (pc := 24) 2 dX0_tallyFrom_24 rfl rfl ?_
        refine g_aload_n (pc := 25) 0 dX0_tallyFrom_25 rfl rfl ?_
        refine g_get (pc := 26) rfl foX0_18 (v := .ref (ad 45)) rfl dX0_tallyFrom_26 ?_
        refine g_iload (pc := 29) 3 dX0_tallyFrom_29 rfl ?_
        refine g_lald (pc := 31) rfl dX0_tallyFrom_31 ?_
        refine g_ladd (pc := 32) dX0_tallyFrom_32 ?_
        refine g_lstore_nB (pc := 33) (fun x4 => [(2, .long x4), (0, .ref (ad 42)), (1, .int v1), (4, .int v4)]) dX0_tallyFrom_33 rfl (by decide) (fun _ => rfl) (fun x4 => ?_)
        refine g_iincB (pc := 34) 3 1 1 (fun x5 => [(4, .int x5), (2, .long x4), (0, .ref (ad 42)), (1, .int v1)]) dX0_tallyFrom_34 rfl (by decide) (by decide) (fun _ => rfl) (fun x5 => ?_)
        refine g_goto (pc := 37) 5 dX0_tallyFrom_37 rfl ?_
        exact g_sub [2, 3, 1, 0] rfl (ih x4 x5 m1)
set_option maxHeartbeats 4000000 in
set_option maxRecDepth 100000 in
theorem ctX0_tallyFrom (ad : Nat → Nat) (n : Nat) (a1 : Int32) (μ : Mem) : Ct yX0_tallyFrom kX0_tallyFrom ad encJ [.ref (ad 42), .int a1] μ (fX0_tallyFrom n a1 μ) := Ct.of (by decide +kernel) rfl (Nat.le_of_ble_eq_true rfl) (by
  show G kX0_tallyFrom ad encJ 0 [(0, .ref (ad 42)), (1, .int a1)] [] μ (fX0_tallyFrom n a1 μ)
  unfold fX0_tallyFrom
  refine g_lconst (pc := 0) 0 dX0_tallyFrom_0 (by decide) ?_
  refine g_lstore_n (pc := 1) [(2, .long 0), (0, .ref (ad 42)), (1, .int a1)] dX0_tallyFrom_1 rfl (by decide) rfl ?_
  refine g_iconst (pc := 2) 0 dX0_tallyFrom_2 (by decide) ?_
  refine g_istore (pc := 3) [(4, .int 0), (2, .long 0), (0, .ref (ad 42)), (1, .int a1)] dX0_tallyFrom_3 (by decide) rfl ?_
  exact g_sub [2, 3, 1, 0] rfl (wX0_tallyFrom_L5 ad n a1 n 0 0 μ))
-- StopsByLetters$Net.fit(LStopsByLetters$Sights;)V
abbrev kX0_fit : Cfg := (RX0, cX0_fit, 4, none, 2)
theorem dX0_fit_0 : decode cX0_fit 0 = .ok (.iconst 0, 1) := by decide +kernel
theorem dX0_fit_1 : decode cX0_fit 1 = .ok (.istore_n 2, 1) := by decide +kernel
theorem dX0_fit_2 : decode cX0_fit 2 = .ok (.iload_n 2, 1) := by decide +kernel
theorem dX0_fit_3 : decode cX0_fit 3 = .ok (.aload_n 0, 1) := by decide +kernel
theorem dX0_fit_4 : decode cX0_fit 4 = .ok (.getfield 31, 3) := by decide +kernel
theorem dX0_fit_7 : decode cX0_fit 7 = .ok (.if_icmp .ge 34, 3) := by decide +kernel
theorem dX0_fit_10 : decode cX0_fit 10 = .ok (.aload_n 0, 1) := by decide +kernel
theorem dX0_fit_11 : decode cX0_fit 11 = .ok (.getfield 18, 3) := by decide +kernel
theorem dX0_fit_14 : decode cX0_fit 14 = .ok (.iload_n 2, 1) := by decide +kernel
theorem dX0_fit_15 : decode cX0_fit 15 = .ok (.aload_n 1, 1) := by decide +kernel
theorem dX0_fit_16 : decode cX0_fit 16 = .ok (.aload_n 1, 1) := by decide +kernel
theorem dX0_fit_17 : decode cX0_fit 17 = .ok (.getfield 75, 3) := by decide +kernel
theorem dX0_fit_20 : decode cX0_fit 20 = .ok (.iconst 1, 1) := by decide +kernel
theorem dX0_fit_21 : decode cX0_fit 21 = .ok (.isub, 1) := by decide +kernel
theorem dX0_fit_22 : decode cX0_fit 22 = .ok (.iload_n 2, 1) := by decide +kernel
theorem dX0_fit_23 : decode cX0_fit 23 = .ok (.invokevirtual 78, 3) := by decide +kernel
theorem dX0_fit_26 : decode cX0_fit 26 = .ok (.ifCond .eq 7, 3) := by decide +kernel
theorem dX0_fit_29 : decode cX0_fit 29 = .ok (.lconst 1, 1) := by decide +kernel
theorem dX0_fit_30 : decode cX0_fit 30 = .ok (.goto 4, 3) := by decide +kernel
theorem dX0_fit_33 : decode cX0_fit 33 = .ok (.lconst 0, 1) := by decide +kernel
theorem dX0_fit_34 : decode cX0_fit 34 = .ok (.lastore, 1) := by decide +kernel
theorem dX0_fit_35 : decode cX0_fit 35 = .ok (.iinc 2 1, 3) := by decide +kernel
theorem dX0_fit_38 : decode cX0_fit 38 = .ok (.goto (-36), 3) := by decide +kernel
theorem dX0_fit_41 : decode cX0_fit 41 = .ok (.aload_n 1, 1) := by decide +kernel
theorem dX0_fit_42 : decode cX0_fit 42 = .ok (.getfield 75, 3) := by decide +kernel
theorem dX0_fit_45 : decode cX0_fit 45 = .ok (.iconst 2, 1) := by decide +kernel
theorem dX0_fit_46 : decode cX0_fit 46 = .ok (.isub, 1) := by decide +kernel
theorem dX0_fit_47 : decode cX0_fit 47 = .ok (.istore_n 2, 1) := by decide +kernel
theorem dX0_fit_48 : decode cX0_fit 48 = .ok (.iload_n 2, 1) := by decide +kernel
theorem dX0_fit_49 : decode cX0_fit 49 = .ok (.ifCond .lt 53, 3) := by decide +kernel
theorem dX0_fit_52 : decode cX0_fit 52 = .ok (.iconst 0, 1) := by decide +kernel
theorem dX0_fit_53 : decode cX0_fit 53 = .ok (.istore_n 3, 1) := by decide +kernel
theorem dX0_fit_54 : decode cX0_fit 54 = .ok (.iload_n 3, 1) := by decide +kernel
theorem dX0_fit_55 : decode cX0_fit 55 = .ok (.aload_n 0, 1) := by decide +kernel
theorem dX0_fit_56 : decode cX0_fit 56 = .ok (.getfield 31, 3) := by decide +kernel
theorem dX0_fit_59 : decode cX0_fit 59 = .ok (.if_icmp .ge 33, 3) := by decide +kernel
theorem dX0_fit_62 : decode cX0_fit 62 = .ok (.aload_n 0, 1) := by decide +kernel
theorem dX0_fit_63 : decode cX0_fit 63 = .ok (.getfield 22, 3) := by decide +kernel
theorem dX0_fit_66 : decode cX0_fit 66 = .ok (.iload_n 3, 1) := by decide +kernel
theorem dX0_fit_67 : decode cX0_fit 67 = .ok (.aload_n 1, 1) := by decide +kernel
theorem dX0_fit_68 : decode cX0_fit 68 = .ok (.iload_n 2, 1) := by decide +kernel
theorem dX0_fit_69 : decode cX0_fit 69 = .ok (.iload_n 3, 1) := by decide +kernel
theorem dX0_fit_70 : decode cX0_fit 70 = .ok (.invokevirtual 78, 3) := by decide +kernel
theorem dX0_fit_73 : decode cX0_fit 73 = .ok (.ifCond .eq 11, 3) := by decide +kernel
theorem dX0_fit_76 : decode cX0_fit 76 = .ok (.aload_n 0, 1) := by decide +kernel
theorem dX0_fit_77 : decode cX0_fit 77 = .ok (.iload_n 3, 1) := by decide +kernel
theorem dX0_fit_78 : decode cX0_fit 78 = .ok (.invokevirtual 81, 3) := by decide +kernel
theorem dX0_fit_81 : decode cX0_fit 81 = .ok (.goto 4, 3) := by decide +kernel
theorem dX0_fit_84 : decode cX0_fit 84 = .ok (.lconst 0, 1) := by decide +kernel
theorem dX0_fit_85 : decode cX0_fit 85 = .ok (.lastore, 1) := by decide +kernel
theorem dX0_fit_86 : decode cX0_fit 86 = .ok (.iinc 3 1, 3) := by decide +kernel
theorem dX0_fit_89 : decode cX0_fit 89 = .ok (.goto (-35), 3) := by decide +kernel
theorem dX0_fit_92 : decode cX0_fit 92 = .ok (.aload_n 0, 1) := by decide +kernel
theorem dX0_fit_93 : decode cX0_fit 93 = .ok (.invokevirtual 64, 3) := by decide +kernel
theorem dX0_fit_96 : decode cX0_fit 96 = .ok (.iinc 2 (-1), 3) := by decide +kernel
theorem dX0_fit_99 : decode cX0_fit 99 = .ok (.goto (-51), 3) := by decide +kernel
theorem dX0_fit_102 : decode cX0_fit 102 = .ok (.return_, 1) := by decide +kernel
theorem foX0_75 : Fo 1 RX1 TX1 2 1 RX0 75 := ⟨rfl, by decide, rfl, uwX1, rfl, Or.inr ⟨RX4, nt_in 162 (by decide +kernel) rfl⟩⟩
theorem lnX0_78 : Ln RX0 78 yX1_allows := Or.inr ⟨RX4, nt_in 613 (by decide +kernel) rfl⟩
theorem moX1_allows : Mv yX1_allows kX1_allows 2 := ⟨⟨tb_in 616 (by decide +kernel) rfl, tb_in 90 (by decide +kernel) rfl, ⟨by decide, by decide⟩, by decide +kernel⟩, tb_in 615 (by decide +kernel) rfl, tb_in 44 (by decide +kernel) rfl⟩
def fX0_fit_L2 (n : Nat) (K1 : Mem → Option (Unit × Mem)) : Nat → Int32 → Mem → Option (Unit × Mem)
  | 0, _, _ => none
  | F + 1, v2, μ => if (μ.1 42 4) ≤ v2 then K1 μ else bd (fX1_allows n ((μ.1 40 1) - 1) v2 μ) (fun r2 m1 => if r2 = 0 then gd (inb v2 8) (bnd (setJ m1 45 (Int32.toNatClampNeg v2) 0) (fun m3 => bnd (v2 + 1) (fun x4 => fX0_fit_L2 n K1 F x4 m3))) else gd (inb v2 8) (bnd (setJ m1 45 (Int32.toNatClampNeg v2) 1) (fun m5 => bnd (v2 + 1) (fun x6 => fX0_fit_L2 n K1 F x6 m5))))
theorem lnX0_81 : Ln RX0 81 yX0_tallyFrom := Or.inl (tb_in 621 (by decide +kernel) rfl)
theorem moX0_tallyFrom : Mv yX0_tallyFrom kX0_tallyFrom 1 := ⟨⟨tb_in 624 (by decide +kernel) rfl, tb_in 91 (by decide +kernel) rfl, ⟨by decide, by decide⟩, by decide +kernel⟩, tb_in 623 (by decide +kernel) rfl, tb_in 46 (by decide +kernel) rfl⟩
def fX0_fit_L54 (n : Nat) (v2 : Int32) (K1 : Mem → Option (Unit × Mem)) : Nat → Int32 → Mem → Option (Unit × Mem)
  | 0, _, _ => none
  | F + 1, v3, μ => if (μ.1 42 4) ≤ v3 then K1 μ else bd (fX1_allows n v2 v3 μ) (fun r10 m9 => if r10 = 0 then gd (inb v3 8) (bnd (setJ m9 46 (Int32.toNatClampNeg v3) 0) (fun m11 => bnd (v3 + 1) (fun x12 => fX0_fit_L54 n v2 K1 F x12 m11))) else bd (fX0_tallyFrom n v3 m9) (fun r14 m13 => gd (inb v3 8) (bnd (setJ m13 46 (Int32.toNatClampNeg v3) r14) (fun m15 => bnd (v3 + 1) (fun x16 => fX0_fit_L54 n v2 K1 F x16 m15)))))
def fX0_fit_L48 (n : Nat) : Nat → Int32 → Mem → Option (Unit × Mem)
  | 0, _, _ => none
  | F + 1, v2, μ => if v2 < 0 then some ((), μ) else fX0_fit_L54 n v2 (fun (m17 : Mem) => bd (fX0_turn n m17) (fun r19 m18 => bnd (v2 + (-1)) (fun x20 => fX0_fit_L48 n F x20 m18))) n 0 μ
def fX0_fit (n : Nat) (μ : Mem) : Option (Unit × Mem) :=
  fX0_fit_L2 n (fun (m7 : Mem) => bnd ((m7.1 40 1) - 2) (fun x8 => fX0_fit_L48 n n x8 m7)) n 0 μ
set_option maxHeartbeats 4000000 in
set_option maxRecDepth 100000 in
theorem wX0_fit_L2 (ad : Nat → Nat) (n : Nat) (K1 : Mem → Option (Unit × Mem)) (hK1 : ∀ (μ : Mem), G kX0_fit ad encV 41 [(0, .ref (ad 42)), (1, .ref (ad 40))] [] μ (K1 μ)) : ∀ (F : Nat) (v2 : Int32) (μ : Mem), G kX0_fit ad encV 2 [(0, .ref (ad 42)), (1, .ref (ad 40)), (2, .int v2)] [] μ (fX0_fit_L2 n K1 F v2 μ) := by
  intro F
  induction F with
  | zero =>
    intro v2 μ
    exact g_none
  | succ F ih =>
    intro v2 μ
    rw [fX0_fit_L2]
    refine g_iload_n (pc := 2) 2 dX0_fit_2 rfl rfl ?_
    refine g_aload_n (pc := 3) 0 dX0_fit_3 rfl rfl ?_
    refine g_get (pc := 4) rfl foX0_31 (v := .int (μ.1 42 4)) rfl dX0_fit_4 ?_
    refine g_icmp_ge (pc := 7) 41 dX0_fit_7 rfl ?_ ?_
    · exact g_sub [0, 1] rfl (hK1 μ)
    · refine g_aload_n (pc := 10) 0 dX0_fit_10 rfl rfl ?_
      refine g_get (pc := 11) rfl foX0_18 (v := .ref (ad 45)) rfl dX0_fit_11 ?_
      refine g_iload_n (pc := 14) 2 dX0_fit_14 rfl rfl ?_
      refine g_aload_n (pc := 15) 1 dX0_fit_15 rfl rfl ?_
      refine g_aload_n (pc := 16) 1 dX0_fit_16 rfl rfl ?_
      refine g_get (pc := 17) rfl foX0_75 (v := .int (μ.1 40 1)) rfl dX0_fit_17 ?_
      refine g_iconst (pc := 20) 1 dX0_fit_20 (by decide) ?_
      refine g_isub (pc := 21) dX0_fit_21 ?_
      refine g_iload_n (pc := 22) 2 dX0_fit_22 rfl rfl ?_
      refine g_cVI (pc := 23) (st := [.int v2, .ref (ad 45)]) [.int ((μ.1 40 1) - 1), .int v2] rfl rfl moX1_allows lnX0_78 (ctX1_allows ad n ((μ.1 40 1) - 1) v2 μ) rfl ⟨Nat.le_of_ble_eq_true rfl, Nat.le_of_ble_eq_true rfl⟩ rfl (Nat.le_of_ble_eq_true rfl) dX0_fit_23 (fun r2 m1 => ?_)
      refine g_if_eq (pc := 26) 33 dX0_fit_26 rfl ?_ ?_
      · refine g_lconst (pc := 33) 0 dX0_fit_33 (by decide) ?_
        refine g_last (pc := 34) rfl dX0_fit_34 (fun m3 => ?_)
        refine g_iincB (pc := 35) 2 1 1 (fun x4 => [(2, .int x4), (0, .ref (ad 42)), (1, .ref (ad 40))]) dX0_fit_35 rfl (by decide) (by decide) (fun _ => rfl) (fun x4 => ?_)
        refine g_goto (pc := 38) 2 dX0_fit_38 rfl ?_
        exact g_sub [1, 2, 0] rfl (ih x4 m3)
      · refine g_lconst (pc := 29) 1 dX0_fit_29 (by decide) ?_
        refine g_goto (pc := 30) 34 dX0_fit_30 rfl ?_
        refine g_last (pc := 34) rfl dX0_fit_34 (fun m5 => ?_)
        refine g_iincB (pc := 35) 2 1 1 (fun x6 => [(2, .int x6), (0, .ref (ad 42)), (1, .ref (ad 40))]) dX0_fit_35 rfl (by decide) (by decide) (fun _ => rfl) (fun x6 => ?_)
        refine g_goto (pc := 38) 2 dX0_fit_38 rfl ?_
        exact g_sub [1, 2, 0] rfl (ih x6 m5)
set_option maxHeartbeats 4000000 in
set_option maxRecDepth 100000 in
theorem wX0_fit_L54 (ad : Nat → Nat) (n : Nat) (v2 : Int32) (K1 : Mem → Option (Unit × Mem)) (hK1 : ∀ (μ : Mem), G kX0_fit ad encV 92 [(0, .ref (ad 42)), (1, .ref (ad 40)), (2, .int v2)] [] μ (K1 μ)) : ∀ (F : Nat) (v3 : Int32) (μ : Mem), G kX0_fit ad encV 54 [(0, .ref (ad 42)), (1, .ref (ad 40)), (2, .int v2), (3, .int v3)] [] μ (fX0_fit_L54 n v2 K1 F v3 μ) := by
  intro F
  induction F with
  | zero =>
    intro v3 μ
    exact g_none
  | succ F ih =>
    intro v3 μ
    rw [fX0_fit_L54]
    refine g_iload_n (pc := 54) 3 dX0_fit_54 rfl rfl ?_
    refine g_aload_n (pc := 55) 0 dX0_fit_55 rfl rfl ?_
    refine g_get (pc := 56) rfl foX0_31 (v := .int (μ.1 42 4)) rfl dX0_fit_56 ?_
    refine g_icmp_ge (pc := 59) 92 dX0_fit_59 rfl ?_ ?_
    · exact g_sub [0, 1, 2] rfl (hK1 μ)
    · refine g_aload_n (pc := 62) 0 dX0_fit_62 rfl rfl ?_
      refine g_get (pc := 63) rfl foX0_22 (v := .ref (ad 46)) rfl dX0_fit_63 ?_
      refine g_iload_n (pc := 66) 3 dX0_fit_66 rfl rfl ?_
      refine g_aload_n (pc := 67) 1 dX0_fit_67 rfl rfl ?_
      refine g_iload_n (pc := 68) 2 dX0_fit_68 rfl rfl ?_
      refine g_iload_n (pc := 69) 3 dX0_fit_69 rfl rfl ?_
      refine g_cVI (pc := 70) (st := [.int v3, .ref (ad 46)]) [.int v2, .int v3] rfl rfl moX1_allows lnX0_78 (ctX1_allows ad n v2 v3 μ) rfl ⟨Nat.le_of_ble_eq_true rfl, Nat.le_of_ble_eq_true rfl⟩ rfl (Nat.le_of_ble_eq_true rfl) dX0_fit_70 (fun r10 m9 => ?_)
      refine g_if_eq (pc := 73) 84 dX0_fit_73 rfl ?_ ?_
      · refine g_lconst (pc := 84) 0 dX0_fit_84 (by decide) ?_
        refine g_last (pc := 85) rfl dX0_fit_85 (fun m11 => ?_)
        refine g_iincB (pc := 86) 3 1 1 (fun x12 => [(3, .int x12), (0, .ref (ad 42)), (1, .ref (ad 40)), (2, .int v2)]) dX0_fit_86 rfl (by decide) (by decide) (fun _ => rfl) (fun x12 => ?_)
        refine g_goto (pc := 89) 54 dX0_fit_89 rfl ?_
        exact g_sub [1, 2, 3, 0] rfl (ih x12 m11)
      · refine g_aload_n (pc := 76) 0 dX0_fit_76 rfl rfl ?_
        refine g_iload_n (pc := 77) 3 dX0_fit_77 rfl rfl ?_
        refine g_cVJ (pc := 78) (st := [.int v3, .ref (ad 46)]) [.int v3] rfl rfl moX0_tallyFrom lnX0_81 (ctX0_tallyFrom ad n v3 m9) rfl ⟨Nat.le_of_ble_eq_true rfl, Nat.le_of_ble_eq_true rfl⟩ rfl (Nat.le_of_ble_eq_true rfl) dX0_fit_78 (fun r14 m13 => ?_)
        refine g_goto (pc := 81) 85 dX0_fit_81 rfl ?_
        refine g_last (pc := 85) rfl dX0_fit_85 (fun m15 => ?_)
        refine g_iincB (pc := 86) 3 1 1 (fun x16 => [(3, .int x16), (0, .ref (ad 42)), (1, .ref (ad 40)), (2, .int v2)]) dX0_fit_86 rfl (by decide) (by decide) (fun _ => rfl) (fun x16 => ?_)
        refine g_goto (pc := 89) 54 dX0_fit_89 rfl ?_
        exact g_sub [1, 2, 3, 0] rfl (ih x16 m15)
set_option maxHeartbeats 4000000 in
set_option maxRecDepth 100000 in
theorem wX0_fit_L48 (ad : Nat → Nat) (n : Nat) : ∀ (F : Nat) (v2 : Int32) (μ : Mem), G kX0_fit ad encV 48 [(0, .ref (ad 42)), (1, .ref (ad 40)), (2, .int v2)] [] μ (fX0_fit_L48 n F v2 μ) := by
  intro F
  induction F with
  | zero =>
    intro v2 μ
    exact g_none
  | succ F ih =>
    intro v2 μ
    rw [fX0_fit_L48]
    refine g_iload_n (pc := 48) 2 dX0_fit_48 rfl rfl ?_
    refine g_if_lt (pc := 49) 102 dX0_fit_49 rfl ?_ ?_
    · exact g_return (pc := 102) dX0_fit_102 rfl
    · refine g_iconst (pc := 52) 0 dX0_fit_52 (by decide) ?_
      refine g_istore_n (pc := 53) [(3, .int 0), (0, .ref (ad 42)), (1, .ref (ad 40)), (2, .int v2)] dX0_fit_53 rfl (by decide) rfl ?_
      refine g_sub [1, 2, 3, 0] rfl (wX0_fit_L54 ad n v2 _ (fun m17 => ?_) n 0 μ)
      refine g_aload_n (pc := 92) 0 dX0_fit_92 rfl rfl ?_
      refine g_cVV (pc := 93) (st := []) [] rfl rfl moX0_turn lnX0_64 (ctX0_turn ad n m17) rfl ⟨Nat.le_of_ble_eq_true rfl, Nat.le_of_ble_eq_true rfl⟩ rfl (Nat.le_of_ble_eq_true rfl) dX0_fit_93 (fun r19 m18 => ?_)
      refine g_iincB (pc := 96) 2 (-1) (-1) (fun x20 => [(2, .int x20), (0, .ref (ad 42)), (1, .ref (ad 40))]) dX0_fit_96 rfl (by decide) (by decide) (fun _ => rfl) (fun x20 => ?_)
      refine g_goto (pc := 99) 48 dX0_fit_99 rfl ?_
      exact g_sub [1, 2, 0] rfl (ih x20 m18)
set_option maxHeartbeats 4000000 in
set_option maxRecDepth 100000 in
theorem ctX0_fit (ad : Nat → Nat) (n : Nat) (μ : Mem) : Ct yX0_fit kX0_fit ad encV [.ref (ad 42), .ref (ad 40)] μ (fX0_fit n μ) := Ct.of (by decide +kernel) rfl (Nat.le_of_ble_eq_true rfl) (by
  show G kX0_fit ad encV 0 [(0, .ref (ad 42)), (1, .ref (ad 40))] [] μ (fX0_fit n μ)
  unfold fX0_fit
  refine g_iconst (pc := 0) 0 dX0_fit_0 (by decide) ?_
  refine g_istore_n (pc := 1) [(2, .int 0), (0, .ref (ad 42)), (1, .ref (ad 40))] dX0_fit_1 rfl (by decide) rfl ?_
  refine g_sub [1, 2, 0] rfl (wX0_fit_L2 ad n _ (fun m7 => ?_) n 0 μ)
  refine g_aload_n (pc := 41) 1 dX0_fit_41 rfl rfl ?_
  refine g_get (pc := 42) rfl foX0_75 (v := .int (m7.1 40 1)) rfl dX0_fit_42 ?_
  refine g_iconst (pc := 45) 2 dX0_fit_45 (by decide) ?_
  refine g_isub (pc := 46) dX0_fit_46 ?_
  refine g_istore_nB (pc := 47) (fun x8 => [(2, .int x8), (0, .ref (ad 42)), (1, .ref (ad 40))]) dX0_fit_47 rfl (by decide) (fun _ => rfl) (fun x8 => ?_)
  exact g_sub [1, 2, 0] rfl (wX0_fit_L48 ad n n x8 m7))
-- StopsByLetters$Net.fittingStations()I
abbrev kX0_fittingStations : Cfg := (RX0, cX0_fittingStations, 3, (some .int), 0)
theorem dX0_fittingStations_0 : decode cX0_fittingStations 0 = .ok (.iconst 0, 1) := by decide +kernel
theorem dX0_fittingStations_1 : decode cX0_fittingStations 1 = .ok (.istore_n 1, 1) := by decide +kernel
theorem dX0_fittingStations_2 : decode cX0_fittingStations 2 = .ok (.iconst 0, 1) := by decide +kernel
theorem dX0_fittingStations_3 : decode cX0_fittingStations 3 = .ok (.istore_n 2, 1) := by decide +kernel
theorem dX0_fittingStations_4 : decode cX0_fittingStations 4 = .ok (.iload_n 2, 1) := by decide +kernel
theorem dX0_fittingStations_5 : decode cX0_fittingStations 5 = .ok (.aload_n 0, 1) := by decide +kernel
theorem dX0_fittingStations_6 : decode cX0_fittingStations 6 = .ok (.getfield 31, 3) := by decide +kernel
theorem dX0_fittingStations_9 : decode cX0_fittingStations 9 = .ok (.if_icmp .ge 26, 3) := by decide +kernel
theorem dX0_fittingStations_12 : decode cX0_fittingStations 12 = .ok (.aload_n 0, 1) := by decide +kernel
theorem dX0_fittingStations_13 : decode cX0_fittingStations 13 = .ok (.getfield 18, 3) := by decide +kernel
theorem dX0_fittingStations_16 : decode cX0_fittingStations 16 = .ok (.iload_n 2, 1) := by decide +kernel
theorem dX0_fittingStations_17 : decode cX0_fittingStations 17 = .ok (.laload, 1) := by decide +kernel
theorem dX0_fittingStations_18 : decode cX0_fittingStations 18 = .ok (.lconst 0, 1) := by decide +kernel
theorem dX0_fittingStations_19 : decode cX0_fittingStations 19 = .ok (.lcmp, 1) := by decide +kernel
theorem dX0_fittingStations_20 : decode cX0_fittingStations 20 = .ok (.ifCond .le 9, 3) := by decide +kernel
theorem dX0_fittingStations_23 : decode cX0_fittingStations 23 = .ok (.iload_n 1, 1) := by decide +kernel
theorem dX0_fittingStations_24 : decode cX0_fittingStations 24 = .ok (.iconst 1, 1) := by decide +kernel
theorem dX0_fittingStations_25 : decode cX0_fittingStations 25 = .ok (.iload_n 2, 1) := by decide +kernel
theorem dX0_fittingStations_26 : decode cX0_fittingStations 26 = .ok (.ishl, 1) := by decide +kernel
theorem dX0_fittingStations_27 : decode cX0_fittingStations 27 = .ok (.ior, 1) := by decide +kernel
theorem dX0_fittingStations_28 : decode cX0_fittingStations 28 = .ok (.istore_n 1, 1) := by decide +kernel
theorem dX0_fittingStations_29 : decode cX0_fittingStations 29 = .ok (.iinc 2 1, 3) := by decide +kernel
theorem dX0_fittingStations_32 : decode cX0_fittingStations 32 = .ok (.goto (-28), 3) := by decide +kernel
theorem dX0_fittingStations_35 : decode cX0_fittingStations 35 = .ok (.iload_n 1, 1) := by decide +kernel
theorem dX0_fittingStations_36 : decode cX0_fittingStations 36 = .ok (.ireturn, 1) := by decide +kernel
def fX0_fittingStations_L4 (n : Nat) : Nat → Int32 → Int32 → Mem → Option (Int32 × Mem)
  | 0, _, _, _ => none
  | F + 1, v1, v2, μ => if (μ.1 42 4) ≤ v2 then some (v1, μ) else gd (inb v2 8) (if (lg_cmp (μ.2 45 (Int32.toNatClampNeg v2)) 0) ≤ 0 then bnd (v2 + 1) (fun x1 => fX0_fittingStations_L4 n F v1 x1 μ) else bnd (v1 ||| (jshl 1 v2)) (fun x2 => bnd (v2 + 1) (fun x3 => fX0_fittingStations_L4 n F x2 x3 μ)))
def fX0_fittingStations (n : Nat) (μ : Mem) : Option (Int32 × Mem) :=
  fX0_fittingStations_L4 n n 0 0 μ
set_option maxHeartbeats 4000000 in
set_option maxRecDepth 100000 in
theorem wX0_fittingStations_L4 (ad : Nat → Nat) (n : Nat) : ∀ (F : Nat) (v1 : Int32) (v2 : Int32) (μ : Mem), G kX0_fittingStations ad encI 4 [(0, .ref (ad 42)), (1, .int v1), (2, .int v2)] [] μ (fX0_fittingStations_L4 n F v1 v2 μ) := by
  intro F
  induction F with
  | zero =>
    intro v1 v2 μ
    exact g_none
  | succ F ih =>
    intro v1 v2 μ
    rw [fX0_fittingStations_L4]
    refine g_iload_n (pc := 4) 2 dX0_fittingStations_4 rfl rfl ?_
    refine g_aload_n (pc := 5) 0 dX0_fittingStations_5 rfl rfl ?_
    refine g_get (pc := 6) rfl foX0_31 (v := .int (μ.1 42 4)) rfl dX0_fittingStations_6 ?_
    refine g_icmp_ge (pc := 9) 35 dX0_fittingStations_9 rfl ?_ ?_
    · refine g_iload_n (pc := 35) 1 dX0_fittingStations_35 rfl rfl ?_
      exact g_ireturn (pc := 36) dX0_fittingStations_36 rfl
    · refine g_aload_n (pc := 12) 0 dX0_fittingStations_12 rfl rfl ?_
      refine g_get (pc := 13) rfl foX0_18 (v := .ref (ad 45)) rfl dX0_fittingStations_13 ?_
      refine g_iload_n (pc := 16) 2 dX0_fittingStations_16 rfl rfl ?_
      refine g_lald (pc := 17) rfl dX0_fittingStations_17 ?_
      refine g_lconst (pc := 18) 0 dX0_fittingStations_18 (by decide) ?_
      refine g_lcmp (pc := 19) dX0_fittingStations_19 ?_
      refine g_if_le (pc := 20) 29 dX0_fittingStations_20 rfl ?_ ?_
      · refine g_iincB (pc := 29) 2 1 1 (fun x1 => [(2, .int x1), (0, .ref (ad 42)), (1, .int v1)]) dX0_fittingStations_29 rfl (by decide) (by decide) (fun _ => rfl) (fun x1 => ?_)
        refine g_goto (pc := 32) 4 dX0_fittingStations_32 rfl ?_
        exact g_sub [1, 2, 0] rfl (ih v1 x1 μ)
      · refine g_iload_n (pc := 23) 1 dX0_fittingStations_23 rfl rfl ?_
        refine g_iconst (pc := 24) 1 dX0_fittingStations_24 (by decide) ?_
        refine g_iload_n (pc := 25) 2 dX0_fittingStations_25 rfl rfl ?_
        refine g_ishl' (pc := 26) dX0_fittingStations_26 ?_
        refine g_ior (pc := 27) dX0_fittingStations_27 ?_
        refine g_istore_nB (pc := 28) (fun x2 => [(1, .int x2), (0, .ref (ad 42)), (2, .int v2)]) dX0_fittingStations_28 rfl (by decide) (fun _ => rfl) (fun x2 => ?_)
        refine g_iincB (pc := 29) 2 1 1 (fun x3 => [(2, .int x3), (1, .int x2), (0, .ref (ad 42))]) dX0_fittingStations_29 rfl (by decide) (by decide) (fun _ => rfl) (fun x3 => ?_)
        refine g_goto (pc := 32) 4 dX0_fittingStations_32 rfl ?_
        exact g_sub [2, 1, 0] rfl (ih x2 x3 μ)
set_option maxHeartbeats 4000000 in
set_option maxRecDepth 100000 in
theorem ctX0_fittingStations (ad : Nat → Nat) (n : Nat) (μ : Mem) : Ct yX0_fittingStations kX0_fittingStations ad encI [.ref (ad 42)] μ (fX0_fittingStations n μ) := Ct.of (by decide +kernel) rfl (Nat.le_of_ble_eq_true rfl) (by
  show G kX0_fittingStations ad encI 0 [(0, .ref (ad 42))] [] μ (fX0_fittingStations n μ)
  unfold fX0_fittingStations
  refine g_iconst (pc := 0) 0 dX0_fittingStations_0 (by decide) ?_
  refine g_istore_n (pc := 1) [(1, .int 0), (0, .ref (ad 42))] dX0_fittingStations_1 rfl (by decide) rfl ?_
  refine g_iconst (pc := 2) 0 dX0_fittingStations_2 (by decide) ?_
  refine g_istore_n (pc := 3) [(2, .int 0), (1, .int 0), (0, .ref (ad 42))] dX0_fittingStations_3 rfl (by decide) rfl ?_
  exact g_sub [2, 1, 0] rfl (wX0_fittingStations_L4 ad n n 0 0 μ))
-- StopsByLetters$Net.fittingWays()J
abbrev kX0_fittingWays : Cfg := (RX0, cX0_fittingWays, 4, (some .long), 0)
theorem dX0_fittingWays_0 : decode cX0_fittingWays 0 = .ok (.lconst 0, 1) := by decide +kernel
theorem dX0_fittingWays_1 : decode cX0_fittingWays 1 = .ok (.lstore_n 1, 1) := by decide +kernel
theorem dX0_fittingWays_2 : decode cX0_fittingWays 2 = .ok (.iconst 0, 1) := by decide +kernel
theorem dX0_fittingWays_3 : decode cX0_fittingWays 3 = .ok (.istore_n 3, 1) := by decide +kernel
theorem dX0_fittingWays_4 : decode cX0_fittingWays 4 = .ok (.iload_n 3, 1) := by decide +kernel
theorem dX0_fittingWays_5 : decode cX0_fittingWays 5 = .ok (.aload_n 0, 1) := by decide +kernel
theorem dX0_fittingWays_6 : decode cX0_fittingWays 6 = .ok (.getfield 31, 3) := by decide +kernel
theorem dX0_fittingWays_9 : decode cX0_fittingWays 9 = .ok (.if_icmp .ge 18, 3) := by decide +kernel
theorem dX0_fittingWays_12 : decode cX0_fittingWays 12 = .ok (.lload_n 1, 1) := by decide +kernel
theorem dX0_fittingWays_13 : decode cX0_fittingWays 13 = .ok (.aload_n 0, 1) := by decide +kernel
theorem dX0_fittingWays_14 : decode cX0_fittingWays 14 = .ok (.getfield 18, 3) := by decide +kernel
theorem dX0_fittingWays_17 : decode cX0_fittingWays 17 = .ok (.iload_n 3, 1) := by decide +kernel
theorem dX0_fittingWays_18 : decode cX0_fittingWays 18 = .ok (.laload, 1) := by decide +kernel
theorem dX0_fittingWays_19 : decode cX0_fittingWays 19 = .ok (.ladd, 1) := by decide +kernel
theorem dX0_fittingWays_20 : decode cX0_fittingWays 20 = .ok (.lstore_n 1, 1) := by decide +kernel
theorem dX0_fittingWays_21 : decode cX0_fittingWays 21 = .ok (.iinc 3 1, 3) := by decide +kernel
theorem dX0_fittingWays_24 : decode cX0_fittingWays 24 = .ok (.goto (-20), 3) := by decide +kernel
theorem dX0_fittingWays_27 : decode cX0_fittingWays 27 = .ok (.lload_n 1, 1) := by decide +kernel
theorem dX0_fittingWays_28 : decode cX0_fittingWays 28 = .ok (.lreturn, 1) := by decide +kernel
def fX0_fittingWays_L4 (n : Nat) : Nat → Int64 → Int32 → Mem → Option (Int64 × Mem)
  | 0, _, _, _ => none
  | F + 1, v1, v3, μ => if (μ.1 42 4) ≤ v3 then some (v1, μ) else gd (inb v3 8) (bnd (v1 + (μ.2 45 (Int32.toNatClampNeg v3))) (fun x1 => bnd (v3 + 1) (fun x2 => fX0_fittingWays_L4 n F x1 x2 μ)))
def fX0_fittingWays (n : Nat) (μ : Mem) : Option (Int64 × Mem) :=
  fX0_fittingWays_L4 n n 0 0 μ
set_option maxHeartbeats 4000000 in
set_option maxRecDepth 100000 in
theorem wX0_fittingWays_L4 (ad : Nat → Nat) (n : Nat) : ∀ (F : Nat) (v1 : Int64) (v3 : Int32) (μ : Mem), G kX0_fittingWays ad encJ 4 [(0, .ref (ad 42)), (1, .long v1), (3, .int v3)] [] μ (fX0_fittingWays_L4 n F v1 v3 μ) := by
  intro F
  induction F with
  | zero =>
    intro v1 v3 μ
    exact g_none
  | succ F ih =>
    intro v1 v3 μ
    rw [fX0_fittingWays_L4]
    refine g_iload_n (pc := 4) 2 dX0_fittingWays_4 rfl rfl ?_
    refine g_aload_n (pc := 5) 0 dX0_fittingWays_5 rfl rfl ?_
    refine g_get (pc := 6) rfl foX0_31 (v := .int (μ.1 42 4)) rfl dX0_fittingWays_6 ?_
    refine g_icmp_ge (pc := 9) 27 dX0_fittingWays_9 rfl ?_ ?_
    · refine g_lload_n (pc := 27) 1 dX0_fittingWays_27 rfl rfl ?_
      exact g_lreturn (pc := 28) dX0_fittingWays_28 rfl
    · refine g_lload_n (pc := 12) 1 dX0_fittingWays_12 rfl rfl ?_
      refine g_aload_n (pc := 13) 0 dX0_fittingWays_13 rfl rfl ?_
      refine g_get (pc := 14) rfl foX0_18 (v := .ref (ad 45)) rfl dX0_fittingWays_14 ?_
      refine g_iload_n (pc := 17) 2 dX0_fittingWays_17 rfl rfl ?_
      refine g_lald (pc := 18) rfl dX0_fittingWays_18 ?_
      refine g_ladd (pc := 19) dX0_fittingWays_19 ?_
      refine g_lstore_nB (pc := 20) (fun x1 => [(1, .long x1), (0, .ref (ad 42)), (3, .int v3)]) dX0_fittingWays_20 rfl (by decide) (fun _ => rfl) (fun x1 => ?_)
      refine g_iincB (pc := 21) 2 1 1 (fun x2 => [(3, .int x2), (1, .long x1), (0, .ref (ad 42))]) dX0_fittingWays_21 rfl (by decide) (by decide) (fun _ => rfl) (fun x2 => ?_)
      refine g_goto (pc := 24) 4 dX0_fittingWays_24 rfl ?_
      exact g_sub [2, 1, 0] rfl (ih x1 x2 μ)
set_option maxHeartbeats 4000000 in
set_option maxRecDepth 100000 in
theorem ctX0_fittingWays (ad : Nat → Nat) (n : Nat) (μ : Mem) : Ct yX0_fittingWays kX0_fittingWays ad encJ [.ref (ad 42)] μ (fX0_fittingWays n μ) := Ct.of (by decide +kernel) rfl (Nat.le_of_ble_eq_true rfl) (by
  show G kX0_fittingWays ad encJ 0 [(0, .ref (ad 42))] [] μ (fX0_fittingWays n μ)
  unfold fX0_fittingWays
  refine g_lconst (pc := 0) 0 dX0_fittingWays_0 (by decide) ?_
  refine g_lstore_n (pc := 1) [(1, .long 0), (0, .ref (ad 42))] dX0_fittingWays_1 rfl (by decide) rfl ?_
  refine g_iconst (pc := 2) 0 dX0_fittingWays_2 (by decide) ?_
  refine g_istore_n (pc := 3) [(3, .int 0), (1, .long 0), (0, .ref (ad 42))] dX0_fittingWays_3 rfl (by decide) rfl ?_
  exact g_sub [2, 1, 0] rfl (wX0_fittingWays_L4 ad n n 0 0 μ))
-- StopsByLetters$Net.firstNoRide(LStopsByLetters$Sights;)I
abbrev kX0_firstNoRide : Cfg := (RX0, cX0_firstNoRide, 4, (some .int), 1)
theorem dX0_firstNoRide_0 : decode cX0_firstNoRide 0 = .ok (.iconst 0, 1) := by decide +kernel
theorem dX0_firstNoRide_1 : decode cX0_firstNoRide 1 = .ok (.istore_n 2, 1) := by decide +kernel
theorem dX0_firstNoRide_2 : decode cX0_firstNoRide 2 = .ok (.iload_n 2, 1) := by decide +kernel
theorem dX0_firstNoRide_3 : decode cX0_firstNoRide 3 = .ok (.aload_n 1, 1) := by decide +kernel
theorem dX0_firstNoRide_4 : decode cX0_firstNoRide 4 = .ok (.getfield 75, 3) := by decide +kernel
theorem dX0_firstNoRide_7 : decode cX0_firstNoRide 7 = .ok (.if_icmp .ge 46, 3) := by decide +kernel
theorem dX0_firstNoRide_10 : decode cX0_firstNoRide 10 = .ok (.aload_n 1, 1) := by decide +kernel
theorem dX0_firstNoRide_11 : decode cX0_firstNoRide 11 = .ok (.iload_n 2, 1) := by decide +kernel
theorem dX0_firstNoRide_12 : decode cX0_firstNoRide 12 = .ok (.invokevirtual 84, 3) := by decide +kernel
theorem dX0_firstNoRide_15 : decode cX0_firstNoRide 15 = .ok (.istore_n 3, 1) := by decide +kernel
theorem dX0_firstNoRide_16 : decode cX0_firstNoRide 16 = .ok (.iload_n 3, 1) := by decide +kernel
theorem dX0_firstNoRide_17 : decode cX0_firstNoRide 17 = .ok (.aload_n 0, 1) := by decide +kernel
theorem dX0_firstNoRide_18 : decode cX0_firstNoRide 18 = .ok (.getfield 31, 3) := by decide +kernel
theorem dX0_firstNoRide_21 : decode cX0_firstNoRide 21 = .ok (.if_icmp .lt 5, 3) := by decide +kernel
theorem dX0_firstNoRide_24 : decode cX0_firstNoRide 24 = .ok (.iload_n 2, 1) := by decide +kernel
theorem dX0_firstNoRide_25 : decode cX0_firstNoRide 25 = .ok (.ireturn, 1) := by decide +kernel
theorem dX0_firstNoRide_26 : decode cX0_firstNoRide 26 = .ok (.iload_n 2, 1) := by decide +kernel
theorem dX0_firstNoRide_27 : decode cX0_firstNoRide 27 = .ok (.ifCond .le 20, 3) := by decide +kernel
theorem dX0_firstNoRide_30 : decode cX0_firstNoRide 30 = .ok (.aload_n 0, 1) := by decide +kernel
theorem dX0_firstNoRide_31 : decode cX0_firstNoRide 31 = .ok (.aload_n 1, 1) := by decide +kernel
theorem dX0_firstNoRide_32 : decode cX0_firstNoRide 32 = .ok (.iload_n 2, 1) := by decide +kernel
theorem dX0_firstNoRide_33 : decode cX0_firstNoRide 33 = .ok (.iconst 1, 1) := by decide +kernel
theorem dX0_firstNoRide_34 : decode cX0_firstNoRide 34 = .ok (.isub, 1) := by decide +kernel
theorem dX0_firstNoRide_35 : decode cX0_firstNoRide 35 = .ok (.invokevirtual 84, 3) := by decide +kernel
theorem dX0_firstNoRide_38 : decode cX0_firstNoRide 38 = .ok (.iload_n 3, 1) := by decide +kernel
theorem dX0_firstNoRide_39 : decode cX0_firstNoRide 39 = .ok (.invokevirtual 67, 3) := by decide +kernel
theorem dX0_firstNoRide_42 : decode cX0_firstNoRide 42 = .ok (.ifCond .ne 5, 3) := by decide +kernel
theorem dX0_firstNoRide_45 : decode cX0_firstNoRide 45 = .ok (.iload_n 2, 1) := by decide +kernel
theorem dX0_firstNoRide_46 : decode cX0_firstNoRide 46 = .ok (.ireturn, 1) := by decide +kernel
theorem dX0_firstNoRide_47 : decode cX0_firstNoRide 47 = .ok (.iinc 2 1, 3) := by decide +kernel
theorem dX0_firstNoRide_50 : decode cX0_firstNoRide 50 = .ok (.goto (-48), 3) := by decide +kernel
theorem dX0_firstNoRide_53 : decode cX0_firstNoRide 53 = .ok (.bipush (-9), 2) := by decide +kernel
theorem dX0_firstNoRide_55 : decode cX0_firstNoRide 55 = .ok (.ireturn, 1) := by decide +kernel
theorem lnX0_84 : Ln RX0 84 yX1_at := Or.inr ⟨RX4, nt_in 654 (by decide +kernel) rfl⟩
def fX0_firstNoRide_L2 (n : Nat) : Nat → Int32 → Mem → Option (Int32 × Mem)
  | 0, _, _ => none
  | F + 1, v2, μ => if (μ.1 40 1) ≤ v2 then some ((-9), μ) else bd (fX1_at n v2 μ) (fun r2 m1 => if r2 < (m1.1 42 4) then if v2 ≤ 0 then bnd (v2 + 1) (fun x3 => fX0_firstNoRide_L2 n F x3 m1) else bd (fX1_at n (v2 - 1) m1) (fun r5 m4 => bd (fX0_leads n r5 r2 m4) (fun r7 m6 => if r7 = 0 then some (v2, m6) else bnd (v2 + 1) (fun x8 => fX0_firstNoRide_L2 n F x8 m6))) else some (v2, m1))
def fX0_firstNoRide (n : Nat) (μ : Mem) : Option (Int32 × Mem) :=
  fX0_firstNoRide_L2 n n 0 μ
set_option maxHeartbeats 4000000 in
set_option maxRecDepth 100000 in
theorem wX0_firstNoRide_L2 (ad : Nat → Nat) (n : Nat) : ∀ (F : Nat) (v2 : Int32) (μ : Mem), G kX0_firstNoRide ad encI 2 [(0, .ref (ad 42)), (1, .ref (ad 40)), (2, .int v2)] [] μ (fX0_firstNoRide_L2 n F v2 μ) := by
  intro F
  induction F with
  | zero =>
    intro v2 μ
    exact g_none
  | succ F ih =>
    intro v2 μ
    rw [fX0_firstNoRide_L2]
    refine g_iload_n (pc := 2) 2 dX0_firstNoRide_2 rfl rfl ?_
    refine g_aload_n (pc := 3) 1 dX0_firstNoRide_3 rfl rfl ?_
    refine g_get (pc := 4) rfl foX0_75 (v := .int (μ.1 40 1)) rfl dX0_firstNoRide_4 ?_
    refine g_icmp_ge (pc := 7) 53 dX0_firstNoRide_7 rfl ?_ ?_
    · refine g_bipush (pc := 53) (-9) dX0_firstNoRide_53 (by decide) ?_
      exact g_ireturn (pc := 55) dX0_firstNoRide_55 rfl
    · refine g_aload_n (pc := 10) 1 dX0_firstNoRide_10 rfl rfl ?_
      refine g_iload_n (pc := 11) 2 dX0_firstNoRide_11 rfl rfl ?_
      refine g_cVI (pc := 12) (st := []) [.int v2] rfl rfl moX1_at lnX0_84 (ctX1_at ad n v2 μ) rfl ⟨Nat.le_of_ble_eq_true rfl, Nat.le_of_ble_eq_true rfl⟩ rfl (Nat.le_of_ble_eq_true rfl) dX0_firstNoRide_12 (fun r2 m1 => ?_)
      refine g_istore_n (pc := 15) [(3, .int r2), (0, .ref (ad 42)), (1, .ref (ad 40)), (2, .int v2)] dX0_firstNoRide_15 rfl (by decide) rfl ?_
      refine g_iload_n (pc := 16) 0 dX0_firstNoRide_16 rfl rfl ?_
      refine g_aload_n (pc := 17) 1 dX0_firstNoRide_17 rfl rfl ?_
      refine g_get (pc := 18) rfl foX0_31 (v := .int (m1.1 42 4)) rfl dX0_firstNoRide_18 ?_
      refine g_icmp_lt (pc := 21) 26 dX0_firstNoRide_21 rfl ?_ ?_
      · refine g_iload_n (pc := 26) 3 dX0_firstNoRide_26 rfl rfl ?_
        refine g_if_le (pc := 27) 47 dX0_firstNoRide_27 rfl ?_ ?_
        · refine g_iincB (pc := 47) 3 1 1 (fun x3 => [(2, .int x3), (3, .int r2), (0, .ref (ad 42)), (1, .ref (ad 40))]) dX0_firstNoRide_47 rfl (by decide) (by decide) (fun _ => rfl) (fun x3 => ?_)
          refine g_goto (pc := 50) 2 dX0_firstNoRide_50 rfl ?_
          exact g_sub [2, 3, 0] rfl (ih x3 m1)
        · refine g_aload_n (pc := 30) 1 dX0_firstNoRide_30 rfl rfl ?_
          refine g_aload_n (pc := 31) 2 dX0_firstNoRide_31 rfl rfl ?_
          refine g_iload_n (pc := 32) 3 dX0_firstNoRide_32 rfl rfl ?_
          refine g_iconst (pc := 33) 1 dX0_firstNoRide_33 (by decide) ?_
          refine g_isub (pc := 34) dX0_firstNoRide_34 ?_
          refine g_cVI (pc := 35) (st := [.ref (ad 42)]) [.int (v2 - 1)] rfl rfl moX1_at lnX0_84 (ctX1_at ad n (v2 - 1) m1) rfl ⟨Nat.le_of_ble_eq_true rfl, Nat.le_of_ble_eq_true rfl⟩ rfl (Nat.le_of_ble_eq_true rfl) dX0_firstNoRide_35 (fun r5 m4 => ?_)
          refine g_iload_n (pc := 38) 0 dX0_firstNoRide_38 rfl rfl ?_
          refine g_cVI (pc := 39) (st := []) [.int r5, .int r2] rfl rfl moX0_leads lnX0_67 (ctX0_leads ad n r5 r2 m4) rfl ⟨Nat.le_of_ble_eq_true rfl, Nat.le_of_ble_eq_true rfl⟩ rfl (Nat.le_of_ble_eq_true rfl) dX0_firstNoRide_39 (fun r7 m6 => ?_)
          refine g_if_ne (pc := 42) 47 dX0_firstNoRide_42 rfl ?_ ?_
          · refine g_iincB (pc := 47) 3 1 1 (fun x8 => [(2, .int x8), (3, .int r2), (0, .ref (ad 42)), (1, .ref (ad 40))]) dX0_firstNoRide_47 rfl (by decide) (by decide) (fun _ => rfl) (fun x8 => ?_)
            refine g_goto (pc := 50) 2 dX0_firstNoRide_50 rfl ?_
            exact g_sub [2, 3, 0] rfl (ih x8 m6)
          · refine g_iload_n (pc := 45) 3 dX0_firstNoRide_45 rfl rfl ?_
            exact g_ireturn (pc := 46) dX0_firstNoRide_46 rfl
      · refine g_iload_n (pc := 24) 3 dX0_firstNoRide_24 rfl rfl ?_
        exact g_ireturn (pc := 25) dX0_firstNoRide_25 rfl
set_option maxHeartbeats 4000000 in
set_option maxRecDepth 100000 in
theorem ctX0_firstNoRide (ad : Nat → Nat) (n : Nat) (μ : Mem) : Ct yX0_firstNoRide kX0_firstNoRide ad encI [.ref (ad 42), .ref (ad 40)] μ (fX0_firstNoRide n μ) := Ct.of (by decide +kernel) rfl (Nat.le_of_ble_eq_true rfl) (by
  show G kX0_firstNoRide ad encI 0 [(0, .ref (ad 42)), (1, .ref (ad 40))] [] μ (fX0_firstNoRide n μ)
  unfold fX0_firstNoRide
  refine g_iconst (pc := 0) 0 dX0_firstNoRide_0 (by decide) ?_
  refine g_istore_n (pc := 1) [(2, .int 0), (0, .ref (ad 42)), (1, .ref (ad 40))] dX0_firstNoRide_1 rfl (by decide) rfl ?_
  exact g_sub [1, 2, 0] rfl (wX0_firstNoRide_L2 ad n n 0 μ))
-- StopsByLetters$Net.rideOf(II)I
abbrev kX0_rideOf : Cfg := (RX0, cX0_rideOf, 5, (some .int), 1)
theorem dX0_rideOf_0 : decode cX0_rideOf 0 = .ok (.iconst 0, 1) := by decide +kernel
theorem dX0_rideOf_1 : decode cX0_rideOf 1 = .ok (.istore_n 3, 1) := by decide +kernel
theorem dX0_rideOf_2 : decode cX0_rideOf 2 = .ok (.iconst 0, 1) := by decide +kernel
theorem dX0_rideOf_3 : decode cX0_rideOf 3 = .ok (.istore 4, 2) := by decide +kernel
theorem dX0_rideOf_5 : decode cX0_rideOf 5 = .ok (.iload 4, 2) := by decide +kernel
theorem dX0_rideOf_7 : decode cX0_rideOf 7 = .ok (.aload_n 0, 1) := by decide +kernel
theorem dX0_rideOf_8 : decode cX0_rideOf 8 = .ok (.getfield 31, 3) := by decide +kernel
theorem dX0_rideOf_11 : decode cX0_rideOf 11 = .ok (.if_icmp .ge 33, 3) := by decide +kernel
theorem dX0_rideOf_14 : decode cX0_rideOf 14 = .ok (.aload_n 0, 1) := by decide +kernel
theorem dX0_rideOf_15 : decode cX0_rideOf 15 = .ok (.iload_n 1, 1) := by decide +kernel
theorem dX0_rideOf_16 : decode cX0_rideOf 16 = .ok (.iload 4, 2) := by decide +kernel
theorem dX0_rideOf_18 : decode cX0_rideOf 18 = .ok (.invokevirtual 67, 3) := by decide +kernel
theorem dX0_rideOf_21 : decode cX0_rideOf 21 = .ok (.ifCond .ne 6, 3) := by decide +kernel
theorem dX0_rideOf_24 : decode cX0_rideOf 24 = .ok (.goto 14, 3) := by decide +kernel
theorem dX0_rideOf_27 : decode cX0_rideOf 27 = .ok (.iload_n 3, 1) := by decide +kernel
theorem dX0_rideOf_28 : decode cX0_rideOf 28 = .ok (.iload_n 2, 1) := by decide +kernel
theorem dX0_rideOf_29 : decode cX0_rideOf 29 = .ok (.if_icmp .ne 6, 3) := by decide +kernel
theorem dX0_rideOf_32 : decode cX0_rideOf 32 = .ok (.iload 4, 2) := by decide +kernel
theorem dX0_rideOf_34 : decode cX0_rideOf 34 = .ok (.ireturn, 1) := by decide +kernel
theorem dX0_rideOf_35 : decode cX0_rideOf 35 = .ok (.iinc 3 1, 3) := by decide +kernel
theorem dX0_rideOf_38 : decode cX0_rideOf 38 = .ok (.iinc 4 1, 3) := by decide +kernel
theorem dX0_rideOf_41 : decode cX0_rideOf 41 = .ok (.goto (-36), 3) := by decide +kernel
theorem dX0_rideOf_44 : decode cX0_rideOf 44 = .ok (.iload_n 1, 1) := by decide +kernel
theorem dX0_rideOf_45 : decode cX0_rideOf 45 = .ok (.ireturn, 1) := by decide +kernel
def fX0_rideOf_L5 (n : Nat) (v1 : Int32) (v2 : Int32) : Nat → Int32 → Int32 → Mem → Option (Int32 × Mem)
  | 0, _, _, _ => none
  | F + 1, v3, v4, μ => if (μ.1 42 4) ≤ v4 then some (v1, μ) else bd (fX0_leads n v1 v4 μ) (fun r2 m1 => if r2 = 0 then bnd (v4 + 1) (fun x5 => fX0_rideOf_L5 n v1 v2 F v3 x5 m1) else if v3 = v2 then some (v4, m1) else bnd (v3 + 1) (fun x3 => bnd (v4 + 1) (fun x4 => fX0_rideOf_L5 n v1 v2 F x3 x4 m1)))
def fX0_rideOf (n : Nat) (a1 : Int32) (a2 : Int32) (μ : Mem) : Option (Int32 × Mem) :=
  fX0_rideOf_L5 n a1 a2 n 0 0 μ
set_option maxHeartbeats 4000000 in
set_option maxRecDepth 100000 in
theorem wX0_rideOf_L5 (ad : Nat → Nat) (n : Nat) (v1 : Int32) (v2 : Int32) : ∀ (F : Nat) (v3 : Int32) (v4 : Int32) (μ : Mem), G kX0_rideOf ad encI 5 [(0, .ref (ad 42)), (1, .int v1), (2, .int v2), (3, .int v3), (4, .int v4)] [] μ (fX0_rideOf_L5 n v1 v2 F v3 v4 μ) := by
  intro F
  induction F with
  | zero =>
    intro v3 v4 μ
    exact g_none
  | succ F ih =>
    intro v3 v4 μ
    rw [fX0_rideOf_L5]
    refine g_iload (pc := 5) 4 dX0_rideOf_5 rfl ?_
    refine g_aload_n (pc := 7) 0 dX0_rideOf_7 rfl rfl ?_
    refine g_get (pc := 8) rfl foX0_31 (v := .int (μ.1 42 4)) rfl dX0_rideOf_8 ?_
    refine g_icmp_ge (pc := 11) 44 dX0_rideOf_11 rfl ?_ ?_
    · refine g_iload_n (pc := 44) 1 dX0_rideOf_44 rfl rfl ?_
      exact g_ireturn (pc := 45) dX0_rideOf_45 rfl
    · refine g_aload_n (pc := 14) 0 dX0_rideOf_14 rfl rfl ?_
      refine g_iload_n (pc := 15) 1 dX0_rideOf_15 rfl rfl ?_
      refine g_iload (pc := 16) 4 dX0_rideOf_16 rfl ?_
      refine g_cVI (pc := 18) (st := []) [.int v1, .int v4] rfl rfl moX0_leads lnX0_67 (ctX0_leads ad n v1 v4 μ) rfl ⟨Nat.le_of_ble_eq_true rfl, Nat.le_of_ble_eq_true rfl⟩ rfl (Nat.le_of_ble_eq_true rfl) dX0_rideOf_18 (fun r2 m1 => ?_)
      refine g_if_ne (pc := 21) 27 dX0_rideOf_21 rfl ?_ ?_
      · refine g_iload_n (pc := 27) 3 dX0_rideOf_27 rfl rfl ?_
        refine g_iload_n (pc := 28) 2 dX0_rideOf_28 rfl rfl ?_
        refine g_icmp_ne (pc := 29) 35 dX0_rideOf_29 rfl ?_ ?_
        · refine g_iincB (pc := 35) 3 1 1 (fun x3 => [(3, .int x3), (0, .ref (ad 42)), (1, .int v1), (2, .int v2), (4, .int v4)]) dX0_rideOf_35 rfl (by decide) (by decide) (fun _ => rfl) (fun x3 => ?_)
          refine g_iincB (pc := 38) 4 1 1 (fun x4 => [(4, .int x4), (3, .int x3), (0, .ref (ad 42)), (1, .int v1), (2, .int v2)]) dX0_rideOf_38 rfl (by decide) (by decide) (fun _ => rfl) (fun x4 => ?_)
          refine g_goto (pc := 41) 5 dX0_rideOf_41 rfl ?_
          exact g_sub [2, 3, 4, 1, 0] rfl (ih x3 x4 m1)
        · refine g_iload (pc := 32) 4 dX0_rideOf_32 rfl ?_
          exact g_ireturn (pc := 34) dX0_rideOf_34 rfl
      · refine g_goto (pc := 24) 38 dX0_rideOf_24 rfl ?_
        refine g_iincB (pc := 38) 4 1 1 (fun x5 => [(4, .int x5), (0, .ref (ad 42)), (1, .int v1), (2, .int v2), (3, .int v3)]) dX0_rideOf_38 rfl (by decide) (by decide) (fun _ => rfl) (fun x5 => ?_)
        refine g_goto (pc := 41) 5 dX0_rideOf_41 rfl ?_
        exact g_sub [1, 2, 3, 4, 0] rfl (ih v3 x5 m1)
set_option maxHeartbeats 4000000 in
set_option maxRecDepth 100000 in
theorem ctX0_rideOf (ad : Nat → Nat) (n : Nat) (a1 : Int32) (a2 : Int32) (μ : Mem) : Ct yX0_rideOf kX0_rideOf ad encI [.ref (ad 42), .int a1, .int a2] μ (fX0_rideOf n a1 a2 μ) := Ct.of (by decide +kernel) rfl (Nat.le_of_ble_eq_true rfl) (by
  show G kX0_rideOf ad encI 0 [(0, .ref (ad 42)), (1, .int a1), (2, .int a2)] [] μ (fX0_rideOf n a1 a2 μ)
  unfold fX0_rideOf
  refine g_iconst (pc := 0) 0 dX0_rideOf_0 (by decide) ?_
  refine g_istore_n (pc := 1) [(3, .int 0), (0, .ref (ad 42)), (1, .int a1), (2, .int a2)] dX0_rideOf_1 rfl (by decide) rfl ?_
  refine g_iconst (pc := 2) 0 dX0_rideOf_2 (by decide) ?_
  refine g_istore (pc := 3) [(4, .int 0), (3, .int 0), (0, .ref (ad 42)), (1, .int a1), (2, .int a2)] dX0_rideOf_3 (by decide) rfl ?_
  exact g_sub [2, 3, 4, 1, 0] rfl (wX0_rideOf_L5 ad n a1 a2 n 0 0 μ))
-- StopsByLetters$Net.drawn(III)I
abbrev kX0_drawn : Cfg := (RX0, cX0_drawn, 8, (some .int), 2)
theorem dX0_drawn_0 : decode cX0_drawn 0 = .ok (.iload_n 1, 1) := by decide +kernel
theorem dX0_drawn_1 : decode cX0_drawn 1 = .ok (.istore 4, 2) := by decide +kernel
theorem dX0_drawn_3 : decode cX0_drawn 3 = .ok (.iload_n 3, 1) := by decide +kernel
theorem dX0_drawn_4 : decode cX0_drawn 4 = .ok (.istore 5, 2) := by decide +kernel
theorem dX0_drawn_6 : decode cX0_drawn 6 = .ok (.iconst 0, 1) := by decide +kernel
theorem dX0_drawn_7 : decode cX0_drawn 7 = .ok (.istore 6, 2) := by decide +kernel
theorem dX0_drawn_9 : decode cX0_drawn 9 = .ok (.iload 6, 2) := by decide +kernel
theorem dX0_drawn_11 : decode cX0_drawn 11 = .ok (.iload_n 2, 1) := by decide +kernel
theorem dX0_drawn_12 : decode cX0_drawn 12 = .ok (.if_icmp .ge 60, 3) := by decide +kernel
theorem dX0_drawn_15 : decode cX0_drawn 15 = .ok (.aload_n 0, 1) := by decide +kernel
theorem dX0_drawn_16 : decode cX0_drawn 16 = .ok (.getfield 9, 3) := by decide +kernel
theorem dX0_drawn_19 : decode cX0_drawn 19 = .ok (.iload 4, 2) := by decide +kernel
theorem dX0_drawn_21 : decode cX0_drawn 21 = .ok (.iaload, 1) := by decide +kernel
theorem dX0_drawn_22 : decode cX0_drawn 22 = .ok (.invokestatic 51, 3) := by decide +kernel
theorem dX0_drawn_25 : decode cX0_drawn 25 = .ok (.istore 7, 2) := by decide +kernel
theorem dX0_drawn_27 : decode cX0_drawn 27 = .ok (.iload 7, 2) := by decide +kernel
theorem dX0_drawn_29 : decode cX0_drawn 29 = .ok (.iconst 1, 1) := by decide +kernel
theorem dX0_drawn_30 : decode cX0_drawn 30 = .ok (.if_icmp .ge 6, 3) := by decide +kernel
theorem dX0_drawn_33 : decode cX0_drawn 33 = .ok (.iload 4, 2) := by decide +kernel
theorem dX0_drawn_35 : decode cX0_drawn 35 = .ok (.ireturn, 1) := by decide +kernel
theorem dX0_drawn_36 : decode cX0_drawn 36 = .ok (.iload 5, 2) := by decide +kernel
theorem dX0_drawn_38 : decode cX0_drawn 38 = .ok (.ldc 87, 2) := by decide +kernel
theorem dX0_drawn_40 : decode cX0_drawn 40 = .ok (.imul, 1) := by decide +kernel
theorem dX0_drawn_41 : decode cX0_drawn 41 = .ok (.ldc 88, 2) := by decide +kernel
theorem dX0_drawn_43 : decode cX0_drawn 43 = .ok (.iadd, 1) := by decide +kernel
theorem dX0_drawn_44 : decode cX0_drawn 44 = .ok (.istore 5, 2) := by decide +kernel
theorem dX0_drawn_46 : decode cX0_drawn 46 = .ok (.aload_n 0, 1) := by decide +kernel
theorem dX0_drawn_47 : decode cX0_drawn 47 = .ok (.iload 4, 2) := by decide +kernel
theorem dX0_drawn_49 : decode cX0_drawn 49 = .ok (.iload 5, 2) := by decide +kernel
theorem dX0_drawn_51 : decode cX0_drawn 51 = .ok (.ldc 89, 2) := by decide +kernel
theorem dX0_drawn_53 : decode cX0_drawn 53 = .ok (.iand, 1) := by decide +kernel
theorem dX0_drawn_54 : decode cX0_drawn 54 = .ok (.sipush 256, 3) := by decide +kernel
theorem dX0_drawn_57 : decode cX0_drawn 57 = .ok (.idiv, 1) := by decide +kernel
theorem dX0_drawn_58 : decode cX0_drawn 58 = .ok (.iload 7, 2) := by decide +kernel
theorem dX0_drawn_60 : decode cX0_drawn 60 = .ok (.irem, 1) := by decide +kernel
theorem dX0_drawn_61 : decode cX0_drawn 61 = .ok (.invokevirtual 90, 3) := by decide +kernel
theorem dX0_drawn_64 : decode cX0_drawn 64 = .ok (.istore 4, 2) := by decide +kernel
theorem dX0_drawn_66 : decode cX0_drawn 66 = .ok (.iinc 6 1, 3) := by decide +kernel
theorem dX0_drawn_69 : decode cX0_drawn 69 = .ok (.goto (-60), 3) := by decide +kernel
theorem dX0_drawn_72 : decode cX0_drawn 72 = .ok (.iload 4, 2) := by decide +kernel
theorem dX0_drawn_74 : decode cX0_drawn 74 = .ok (.ireturn, 1) := by decide +kernel
theorem cwX0_87 : Cond.constant RX0 87 (1664525 : Int32) ∈ TB := tb_in 663 (by decide +kernel) rfl
theorem cwX0_88 : Cond.constant RX0 88 (1013904223 : Int32) ∈ TB := tb_in 664 (by decide +kernel) rfl
theorem cwX0_89 : Cond.constant RX0 89 (2147483647 : Int32) ∈ TB := tb_in 665 (by decide +kernel) rfl
theorem lnX0_90 : Ln RX0 90 yX0_rideOf := Or.inl (tb_in 666 (by decide +kernel) rfl)
theorem moX0_rideOf : Mv yX0_rideOf kX0_rideOf 2 := ⟨⟨tb_in 669 (by decide +kernel) rfl, tb_in 91 (by decide +kernel) rfl, ⟨by decide, by decide⟩, by decide +kernel⟩, tb_in 668 (by decide +kernel) rfl, tb_in 53 (by decide +kernel) rfl⟩
def fX0_drawn_L9 (n : Nat) (v2 : Int32) : Nat → Int32 → Int32 → Int32 → Mem → Option (Int32 × Mem)
  | 0, _, _, _, _ => none
  | F + 1, v4, v5, v6, μ => if v2 ≤ v6 then some (v4, μ) else gd (inb v4 8) (bd (fJ6_bitCount_0f7a4 n (μ.1 43 (Int32.toNatClampNeg v4)) μ) (fun r2 m1 => if 1 ≤ r2 then bnd ((v5 * 1664525) + 1013904223) (fun x3 => gd (nz r2) (bd (fX0_rideOf n v4 (jrem ((x3 &&& 2147483647) / 256) r2) m1) (fun r5 m4 => bnd (v6 + 1) (fun x6 => fX0_drawn_L9 n v2 F r5 x3 x6 m4)))) else some (v4, m1)))
def fX0_drawn (n : Nat) (a1 : Int32) (a2 : Int32) (a3 : Int32) (μ : Mem) : Option (Int32 × Mem) :=
  fX0_drawn_L9 n a2 n a1 a3 0 μ
set_option maxHeartbeats 4000000 in
set_option maxRecDepth 100000 in
theorem wX0_drawn_L9 (ad : Nat → Nat) (n : Nat) (v2 : Int32) : ∀ (F : Nat) (v4 : Int32) (v5 : Int32) (v6 : Int32) (μ : Mem), G kX0_drawn ad encI 9 [(0, .ref (ad 42)), (2, .int v2), (4, .int v4), (5, .int v5), (6, .int v6)] [] μ (fX0_drawn_L9 n v2 F v4 v5 v6 μ) := by
  intro F
  induction F with
  | zero =>
    intro v4 v5 v6 μ
    exact g_none
  | succ F ih =>
    intro v4 v5 v6 μ
    rw [fX0_drawn_L9]
    refine g_iload (pc := 9) 4 dX0_drawn_9 rfl ?_
    refine g_iload_n (pc := 11) 1 dX0_drawn_11 rfl rfl ?_
    refine g_icmp_ge (pc := 12) 72 dX0_drawn_12 rfl ?_ ?_
    · refine g_iload (pc := 72) 2 dX0_drawn_72 rfl ?_
      exact g_ireturn (pc := 74) dX0_drawn_74 rfl
    · refine g_aload_n (pc := 15) 0 dX0_drawn_15 rfl rfl ?_
      refine g_get (pc := 16) rfl foX0_9 (v := .ref (ad 43)) rfl dX0_drawn_16 ?_
      refine g_iload (pc := 19) 2 dX0_drawn_19 rfl ?_
      refine g_iald (pc := 21) rfl (by decide) dX0_drawn_21 ?_
      refine g_cSI (pc := 22) (st := []) [.int (μ.1 43 (Int32.toNatClampNeg v4))] moJ6_bitCount_0f7a4 lnX0_51 (ctJ6_bitCount_0f7a4 ad n (μ.1 43 (Int32.toNatClampNeg v4)) μ) rfl ⟨Nat.le_of_ble_eq_true rfl, Nat.le_of_ble_eq_true rfl⟩ rfl (Nat.le_of_ble_eq_true rfl) dX0_drawn_22 (fun r2 m1 => ?_)
      refine g_istore (pc := 25) [(7, .int r2), (0, .ref (ad 42)), (2, .int v2), (4, .int v4), (5, .int v5), (6, .int v6)] dX0_drawn_25 (by decide) rfl ?_
      refine g_iload (pc := 27) 0 dX0_drawn_27 rfl ?_
      refine g_iconst (pc := 29) 1 dX0_drawn_29 (by decide) ?_
      refine g_icmp_ge (pc := 30) 36 dX0_drawn_30 rfl ?_ ?_
      · refine g_iload (pc := 36) 4 dX0_drawn_36 rfl ?_
        refine g_ldc (pc := 38) dX0_drawn_38 cwX0_87 ?_
        refine g_imul (pc := 40) dX0_drawn_40 ?_
        refine g_ldc (pc := 41) dX0_drawn_41 cwX0_88 ?_
        refine g_iadd (pc := 43) dX0_drawn_43 ?_
        refine g_istoreB (pc := 44) (fun x3 => [(5, .int x3), (7, .int r2), (0, .ref (ad 42)), (2, .int v2), (4, .int v4), (6, .int v6)]) dX0_drawn_44 (by decide) (fun _ => rfl) (fun x3 => ?_)
        refine g_aload_n (pc := 46) 2 dX0_drawn_46 rfl rfl ?_
        refine g_iload (pc := 47) 4 dX0_drawn_47 rfl ?_
        refine g_iload (pc := 49) 0 dX0_drawn_49 rfl ?_
        refine g_ldc (pc := 51) dX0_drawn_51 cwX0_89 ?_
        refine g_iand (pc := 53) dX0_drawn_53 ?_
        refine g_sipush (pc := 54) 256 dX0_drawn_54 (by decide) ?_
        refine g_idiv (pc := 57) dX0_drawn_57 (by decide) ?_
        refine g_iload (pc := 58) 1 dX0_drawn_58 rfl ?_
        refine g_iremG (pc := 60) dX0_drawn_60 ?_
        refine g_cVI (pc := 61) (st := []) [.int v4, .int (jrem ((x3 &&& 2147483647) / 256) r2)] rfl rfl moX0_rideOf lnX0_90 (ctX0_rideOf ad n v4 (jrem ((x3 &&& 2147483647) / 256) r2) m1) rfl ⟨Nat.le_of_ble_eq_true rfl, Nat.le_of_ble_eq_true rfl⟩ rfl (Nat.le_of_ble_eq_true rfl) dX0_drawn_61 (fun r5 m4 => ?_)
        refine g_istore (pc := 64) [(4, .int r5), (5, .int x3), (7, .int r2), (0, .ref (ad 42)), (2, .int v2), (6, .int v6)] dX0_drawn_64 (by decide) rfl ?_
        refine g_iincB (pc := 66) 5 1 1 (fun x6 => [(6, .int x6), (4, .int r5), (5, .int x3), (7, .int r2), (0, .ref (ad 42)), (2, .int v2)]) dX0_drawn_66 rfl (by decide) (by decide) (fun _ => rfl) (fun x6 => ?_)
        refine g_goto (pc := 69) 9 dX0_drawn_69 rfl ?_
        exact g_sub [4, 5, 1, 2, 0] rfl (ih r5 x3 x6 m4)
      · refine g_iload (pc := 33) 3 dX0_drawn_33 rfl ?_
        exact g_ireturn (pc := 35) dX0_drawn_35 rfl
set_option maxHeartbeats 4000000 in
set_option maxRecDepth 100000 in
theorem ctX0_drawn (ad : Nat → Nat) (n : Nat) (a1 : Int32) (a2 : Int32) (a3 : Int32) (μ : Mem) : Ct yX0_drawn kX0_drawn ad encI [.ref (ad 42), .int a1, .int a2, .int a3] μ (fX0_drawn n a1 a2 a3 μ) := Ct.of (by decide +kernel) rfl (Nat.le_of_ble_eq_true rfl) (by
  show G kX0_drawn ad encI 0 [(0, .ref (ad 42)), (1, .int a1), (2, .int a2), (3, .int a3)] [] μ (fX0_drawn n a1 a2 a3 μ)
  unfold fX0_drawn
  refine g_iload_n (pc := 0) 1 dX0_drawn_0 rfl rfl ?_
  refine g_istore (pc := 1) [(4, .int a1), (0, .ref (ad 42)), (1, .int a1), (2, .int a2), (3, .int a3)] dX0_drawn_1 (by decide) rfl ?_
  refine g_iload_n (pc := 3) 4 dX0_drawn_3 rfl rfl ?_
  refine g_istore (pc := 4) [(5, .int a3), (4, .int a1), (0, .ref (ad 42)), (1, .int a1), (2, .int a2), (3, .int a3)] dX0_drawn_4 (by decide) rfl ?_
  refine g_iconst (pc := 6) 0 dX0_drawn_6 (by decide) ?_
  refine g_istore (pc := 7) [(6, .int 0), (5, .int a3), (4, .int a1), (0, .ref (ad 42)), (1, .int a1), (2, .int a2), (3, .int a3)] dX0_drawn_7 (by decide) rfl ?_
  exact g_sub [3, 5, 2, 1, 0] rfl (wX0_drawn_L9 ad n a2 n a1 a3 0 μ))
end
section
/-! ===== kindOf: the text's index ===== -/
def RJ0 : String := "java/lang/String"
def RJ1 : String := "java/lang/StringLatin1"
abbrev cJ0_indexOf_0f7a4 : ByteArray := prog_11_method_79_code
def yJ0_indexOf_0f7a4 : MethodName := ⟨RJ0, "indexOf", "(I)I"⟩
abbrev kJ0_indexOf_0f7a4 : Cfg := (RJ0, cJ0_indexOf_0f7a4, 2, (some .int), 3)
theorem dJ0_indexOf_0f7a4_0 : decode cJ0_indexOf_0f7a4 0 = .ok (.aload_n 0, 1) := by decide +kernel
theorem dJ0_indexOf_0f7a4_1 : decode cJ0_indexOf_0f7a4 1 = .ok (.iload_n 1, 1) := by decide +kernel
theorem dJ0_indexOf_0f7a4_2 : decode cJ0_indexOf_0f7a4 2 = .ok (.iconst 0, 1) := by decide +kernel
theorem dJ0_indexOf_0f7a4_3 : decode cJ0_indexOf_0f7a4 3 = .ok (.invokevirtual 633, 3) := by decide +kernel
theorem dJ0_indexOf_0f7a4_6 : decode cJ0_indexOf_0f7a4 6 = .ok (.ireturn, 1) := by decide +kernel
theorem moJ0_indexOf_0f7a4 : Mv yJ0_indexOf_0f7a4 kJ0_indexOf_0f7a4 1 := ⟨⟨tb_in 255 (by decide +kernel) rfl, tb_in 93 (by decide +kernel) rfl, ⟨by decide, by decide⟩, by decide +kernel⟩, tb_in 253 (by decide +kernel) rfl, tb_in 254 (by decide +kernel) rfl⟩
abbrev cJ0_indexOf_7cf53 : ByteArray := prog_11_method_80_code
def yJ0_indexOf_7cf53 : MethodName := ⟨RJ0, "indexOf", "(II)I"⟩
abbrev kJ0_indexOf_7cf53 : Cfg := (RJ0, cJ0_indexOf_7cf53, 3, (some .int), 2)
theorem dJ0_indexOf_7cf53_0 : decode cJ0_indexOf_7cf53 0 = .ok (.aload_n 0, 1) := by decide +kernel
theorem dJ0_indexOf_7cf53_1 : decode cJ0_indexOf_7cf53 1 = .ok (.invokevirtual 492, 3) := by decide +kernel
theorem dJ0_indexOf_7cf53_4 : decode cJ0_indexOf_7cf53 4 = .ok (.ifCond .eq 19, 3) := by decide +kernel
theorem dJ0_indexOf_7cf53_7 : decode cJ0_indexOf_7cf53 7 = .ok (.aload_n 0, 1) := by decide +kernel
theorem dJ0_indexOf_7cf53_8 : decode cJ0_indexOf_7cf53 8 = .ok (.getfield 9, 3) := by decide +kernel
theorem dJ0_indexOf_7cf53_11 : decode cJ0_indexOf_7cf53 11 = .ok (.iload_n 1, 1) := by decide +kernel
theorem dJ0_indexOf_7cf53_12 : decode cJ0_indexOf_7cf53 12 = .ok (.iload_n 2, 1) := by decide +kernel
theorem dJ0_indexOf_7cf53_13 : decode cJ0_indexOf_7cf53 13 = .ok (.aload_n 0, 1) := by decide +kernel
theorem dJ0_indexOf_7cf53_14 : decode cJ0_indexOf_7cf53 14 = .ok (.invokevirtual 505, 3) := by decide +kernel
theorem dJ0_indexOf_7cf53_17 : decode cJ0_indexOf_7cf53 17 = .ok (.invokestatic 637, 3) := by decide +kernel
theorem dJ0_indexOf_7cf53_20 : decode cJ0_indexOf_7cf53 20 = .ok (.goto 16, 3) := by decide +kernel
theorem dJ0_indexOf_7cf53_23 : decode cJ0_indexOf_7cf53 23 = .ok (.aload_n 0, 1) := by decide +kernel
theorem dJ0_indexOf_7cf53_24 : decode cJ0_indexOf_7cf53 24 = .ok (.getfield 9, 3) := by decide +kernel
theorem dJ0_indexOf_7cf53_27 : decode cJ0_indexOf_7cf53 27 = .ok (.iload_n 1, 1) := by decide +kernel
theorem dJ0_indexOf_7cf53_28 : decode cJ0_indexOf_7cf53 28 = .ok (.iload_n 2, 1) := by decide +kernel
theorem dJ0_indexOf_7cf53_29 : decode cJ0_indexOf_7cf53 29 = .ok (.aload_n 0, 1) := by decide +kernel
theorem dJ0_indexOf_7cf53_30 : decode cJ0_indexOf_7cf53 30 = .ok (.invokevirtual 505, 3) := by decide +kernel
theorem dJ0_indexOf_7cf53_33 : decode cJ0_indexOf_7cf53 33 = .ok (.invokestatic 640, 3) := by decide +kernel
theorem dJ0_indexOf_7cf53_36 : decode cJ0_indexOf_7cf53 36 = .ok (.ireturn, 1) := by decide +kernel
theorem moJ0_indexOf_7cf53 : Mv yJ0_indexOf_7cf53 kJ0_indexOf_7cf53 2 := ⟨⟨tb_in 259 (by decide +kernel) rfl, tb_in 93 (by decide +kernel) rfl, ⟨by decide, by decide⟩, by decide +kernel⟩, tb_in 257 (by decide +kernel) rfl, tb_in 258 (by decide +kernel) rfl⟩
abbrev cJ0_isLatin1_aae02 : ByteArray := prog_11_method_154_code
def yJ0_isLatin1_aae02 : MethodName := ⟨RJ0, "isLatin1", "()Z"⟩
abbrev kJ0_isLatin1_aae02 : Cfg := (RJ0, cJ0_isLatin1_aae02, 1, (some .boolean), 0)
theorem dJ0_isLatin1_aae02_0 : decode cJ0_isLatin1_aae02 0 = .ok (.getstatic 38, 3) := by decide +kernel
theorem dJ0_isLatin1_aae02_3 : decode cJ0_isLatin1_aae02 3 = .ok (.ifCond .eq 14, 3) := by decide +kernel
theorem dJ0_isLatin1_aae02_6 : decode cJ0_isLatin1_aae02 6 = .ok (.aload_n 0, 1) := by decide +kernel
theorem dJ0_isLatin1_aae02_7 : decode cJ0_isLatin1_aae02 7 = .ok (.getfield 15, 3) := by decide +kernel
theorem dJ0_isLatin1_aae02_10 : decode cJ0_isLatin1_aae02 10 = .ok (.ifCond .ne 7, 3) := by decide +kernel
theorem dJ0_isLatin1_aae02_13 : decode cJ0_isLatin1_aae02 13 = .ok (.iconst 1, 1) := by decide +kernel
theorem dJ0_isLatin1_aae02_14 : decode cJ0_isLatin1_aae02 14 = .ok (.goto 4, 3) := by decide +kernel
theorem dJ0_isLatin1_aae02_17 : decode cJ0_isLatin1_aae02 17 = .ok (.iconst 0, 1) := by decide +kernel
theorem dJ0_isLatin1_aae02_18 : decode cJ0_isLatin1_aae02 18 = .ok (.ireturn, 1) := by decide +kernel
theorem moJ0_isLatin1_aae02 : Mv yJ0_isLatin1_aae02 kJ0_isLatin1_aae02 0 := ⟨⟨tb_in 263 (by decide +kernel) rfl, tb_in 93 (by decide +kernel) rfl, ⟨by decide, by decide⟩, by decide +kernel⟩, tb_in 261 (by decide +kernel) rfl, tb_in 262 (by decide +kernel) rfl⟩
abbrev cJ0_length_8abf5 : ByteArray := prog_11_method_54_code
def yJ0_length_8abf5 : MethodName := ⟨RJ0, "length", "()I"⟩
abbrev kJ0_length_8abf5 : Cfg := (RJ0, cJ0_length_8abf5, 1, (some .int), 1)
theorem dJ0_length_8abf5_0 : decode cJ0_length_8abf5 0 = .ok (.aload_n 0, 1) := by decide +kernel
theorem dJ0_length_8abf5_1 : decode cJ0_length_8abf5 1 = .ok (.getfield 9, 3) := by decide +kernel
theorem dJ0_length_8abf5_4 : decode cJ0_length_8abf5 4 = .ok (.arraylength, 1) := by decide +kernel
theorem dJ0_length_8abf5_5 : decode cJ0_length_8abf5 5 = .ok (.aload_n 0, 1) := by decide +kernel
theorem dJ0_length_8abf5_6 : decode cJ0_length_8abf5 6 = .ok (.invokevirtual 335, 3) := by decide +kernel
theorem dJ0_length_8abf5_9 : decode cJ0_length_8abf5 9 = .ok (.ishr, 1) := by decide +kernel
theorem dJ0_length_8abf5_10 : decode cJ0_length_8abf5 10 = .ok (.ireturn, 1) := by decide +kernel
theorem moJ0_length_8abf5 : Mv yJ0_length_8abf5 kJ0_length_8abf5 0 := ⟨⟨tb_in 269 (by decide +kernel) rfl, tb_in 93 (by decide +kernel) rfl, ⟨by decide, by decide⟩, by decide +kernel⟩, tb_in 267 (by decide +kernel) rfl, tb_in 268 (by decide +kernel) rfl⟩
abbrev cJ0_coder_7d493 : ByteArray := prog_11_method_152_code
def yJ0_coder_7d493 : MethodName := ⟨RJ0, "coder", "()B"⟩
abbrev kJ0_coder_7d493 : Cfg := (RJ0, cJ0_coder_7d493, 1, (some .byte), 0)
theorem dJ0_coder_7d493_0 : decode cJ0_coder_7d493 0 = .ok (.getstatic 38, 3) := by decide +kernel
theorem dJ0_coder_7d493_3 : decode cJ0_coder_7d493 3 = .ok (.ifCond .eq 10, 3) := by decide +kernel
theorem dJ0_coder_7d493_6 : decode cJ0_coder_7d493 6 = .ok (.aload_n 0, 1) := by decide +kernel
theorem dJ0_coder_7d493_7 : decode cJ0_coder_7d493 7 = .ok (.getfield 15, 3) := by decide +kernel
theorem dJ0_coder_7d493_10 : decode cJ0_coder_7d493 10 = .ok (.goto 4, 3) := by decide +kernel
theorem dJ0_coder_7d493_13 : decode cJ0_coder_7d493 13 = .ok (.iconst 1, 1) := by decide +kernel
theorem dJ0_coder_7d493_14 : decode cJ0_coder_7d493 14 = .ok (.ireturn, 1) := by decide +kernel
theorem moJ0_coder_7d493 : Mv yJ0_coder_7d493 kJ0_coder_7d493 0 := ⟨⟨tb_in 273 (by decide +kernel) rfl, tb_in 93 (by decide +kernel) rfl, ⟨by decide, by decide⟩, by decide +kernel⟩, tb_in 271 (by decide +kernel) rfl, tb_in 272 (by decide +kernel) rfl⟩
abbrev cJ1_indexOf_4cfef : ByteArray := prog_12_method_22_code
def yJ1_indexOf_4cfef : MethodName := ⟨RJ1, "indexOf", "([BIII)I"⟩
abbrev kJ1_indexOf_4cfef : Cfg := (RJ1, cJ1_indexOf_4cfef, 4, (some .int), 1)
theorem dJ1_indexOf_4cfef_0 : decode cJ1_indexOf_4cfef 0 = .ok (.iload_n 1, 1) := by decide +kernel
theorem dJ1_indexOf_4cfef_1 : decode cJ1_indexOf_4cfef 1 = .ok (.invokestatic 88, 3) := by decide +kernel
theorem dJ1_indexOf_4cfef_4 : decode cJ1_indexOf_4cfef 4 = .ok (.ifCond .ne 5, 3) := by decide +kernel
theorem dJ1_indexOf_4cfef_7 : decode cJ1_indexOf_4cfef 7 = .ok (.iconst (-1), 1) := by decide +kernel
theorem dJ1_indexOf_4cfef_8 : decode cJ1_indexOf_4cfef 8 = .ok (.ireturn, 1) := by decide +kernel
theorem dJ1_indexOf_4cfef_9 : decode cJ1_indexOf_4cfef 9 = .ok (.iload_n 2, 1) := by decide +kernel
theorem dJ1_indexOf_4cfef_10 : decode cJ1_indexOf_4cfef 10 = .ok (.iconst 0, 1) := by decide +kernel
theorem dJ1_indexOf_4cfef_11 : decode cJ1_indexOf_4cfef 11 = .ok (.invokestatic 92, 3) := by decide +kernel
theorem dJ1_indexOf_4cfef_14 : decode cJ1_indexOf_4cfef 14 = .ok (.istore_n 2, 1) := by decide +kernel
theorem dJ1_indexOf_4cfef_15 : decode cJ1_indexOf_4cfef 15 = .ok (.iload_n 3, 1) := by decide +kernel
theorem dJ1_indexOf_4cfef_16 : decode cJ1_indexOf_4cfef 16 = .ok (.aload_n 0, 1) := by decide +kernel
theorem dJ1_indexOf_4cfef_17 : decode cJ1_indexOf_4cfef 17 = .ok (.arraylength, 1) := by decide +kernel
theorem dJ1_indexOf_4cfef_18 : decode cJ1_indexOf_4cfef 18 = .ok (.invokestatic 38, 3) := by decide +kernel
theorem dJ1_indexOf_4cfef_21 : decode cJ1_indexOf_4cfef 21 = .ok (.istore_n 3, 1) := by decide +kernel
theorem dJ1_indexOf_4cfef_22 : decode cJ1_indexOf_4cfef 22 = .ok (.iload_n 2, 1) := by decide +kernel
theorem dJ1_indexOf_4cfef_23 : decode cJ1_indexOf_4cfef 23 = .ok (.iload_n 3, 1) := by decide +kernel
theorem dJ1_indexOf_4cfef_24 : decode cJ1_indexOf_4cfef 24 = .ok (.if_icmp .lt 5, 3) := by decide +kernel
theorem dJ1_indexOf_4cfef_27 : decode cJ1_indexOf_4cfef 27 = .ok (.iconst (-1), 1) := by decide +kernel
theorem dJ1_indexOf_4cfef_28 : decode cJ1_indexOf_4cfef 28 = .ok (.ireturn, 1) := by decide +kernel
theorem dJ1_indexOf_4cfef_29 : decode cJ1_indexOf_4cfef 29 = .ok (.aload_n 0, 1) := by decide +kernel
theorem dJ1_indexOf_4cfef_30 : decode cJ1_indexOf_4cfef 30 = .ok (.iload_n 1, 1) := by decide +kernel
theorem dJ1_indexOf_4cfef_31 : decode cJ1_indexOf_4cfef 31 = .ok (.iload_n 2, 1) := by decide +kernel
theorem dJ1_indexOf_4cfef_32 : decode cJ1_indexOf_4cfef 32 = .ok (.iload_n 3, 1) := by decide +kernel
theorem dJ1_indexOf_4cfef_33 : decode cJ1_indexOf_4cfef 33 = .ok (.invokestatic 95, 3) := by decide +kernel
theorem dJ1_indexOf_4cfef_36 : decode cJ1_indexOf_4cfef 36 = .ok (.ireturn, 1) := by decide +kernel
theorem moJ1_indexOf_4cfef : Ms yJ1_indexOf_4cfef kJ1_indexOf_4cfef 4 := ⟨⟨tb_in 276 (by decide +kernel) rfl, tb_in 94 (by decide +kernel) rfl, ⟨by decide, by decide⟩, by decide +kernel⟩, tb_in 275 (by decide +kernel) rfl⟩
abbrev cJ1_canEncode_9a6ad : ByteArray := prog_12_method_4_code
def yJ1_canEncode_9a6ad : MethodName := ⟨RJ1, "canEncode", "(I)Z"⟩
abbrev kJ1_canEncode_9a6ad : Cfg := (RJ1, cJ1_canEncode_9a6ad, 1, (some .boolean), 0)
theorem dJ1_canEncode_9a6ad_0 : decode cJ1_canEncode_9a6ad 0 = .ok (.iload_n 0, 1) := by decide +kernel
theorem dJ1_canEncode_9a6ad_1 : decode cJ1_canEncode_9a6ad 1 = .ok (.ifCond .lt 14, 3) := by decide +kernel
theorem dJ1_canEncode_9a6ad_4 : decode cJ1_canEncode_9a6ad 4 = .ok (.iload_n 0, 1) := by decide +kernel
theorem dJ1_canEncode_9a6ad_5 : decode cJ1_canEncode_9a6ad 5 = .ok (.sipush 255, 3) := by decide +kernel
theorem dJ1_canEncode_9a6ad_8 : decode cJ1_canEncode_9a6ad 8 = .ok (.if_icmp .gt 7, 3) := by decide +kernel
theorem dJ1_canEncode_9a6ad_11 : decode cJ1_canEncode_9a6ad 11 = .ok (.iconst 1, 1) := by decide +kernel
theorem dJ1_canEncode_9a6ad_12 : decode cJ1_canEncode_9a6ad 12 = .ok (.goto 4, 3) := by decide +kernel
theorem dJ1_canEncode_9a6ad_15 : decode cJ1_canEncode_9a6ad 15 = .ok (.iconst 0, 1) := by decide +kernel
theorem dJ1_canEncode_9a6ad_16 : decode cJ1_canEncode_9a6ad 16 = .ok (.ireturn, 1) := by decide +kernel
theorem moJ1_canEncode_9a6ad : Ms yJ1_canEncode_9a6ad kJ1_canEncode_9a6ad 1 := ⟨⟨tb_in 279 (by decide +kernel) rfl, tb_in 94 (by decide +kernel) rfl, ⟨by decide, by decide⟩, by decide +kernel⟩, tb_in 278 (by decide +kernel) rfl⟩
abbrev cJ1_indexOfChar_4cfef : ByteArray := prog_12_method_23_code
def yJ1_indexOfChar_4cfef : MethodName := ⟨RJ1, "indexOfChar", "([BIII)I"⟩
abbrev kJ1_indexOfChar_4cfef : Cfg := (RJ1, cJ1_indexOfChar_4cfef, 6, (some .int), 0)
theorem dJ1_indexOfChar_4cfef_0 : decode cJ1_indexOfChar_4cfef 0 = .ok (.iload_n 1, 1) := by decide +kernel
theorem dJ1_indexOfChar_4cfef_1 : decode cJ1_indexOfChar_4cfef 1 = .ok (.i2b, 1) := by decide +kernel
theorem dJ1_indexOfChar_4cfef_2 : decode cJ1_indexOfChar_4cfef 2 = .ok (.istore 4, 2) := by decide +kernel
theorem dJ1_indexOfChar_4cfef_4 : decode cJ1_indexOfChar_4cfef 4 = .ok (.iload_n 2, 1) := by decide +kernel
theorem dJ1_indexOfChar_4cfef_5 : decode cJ1_indexOfChar_4cfef 5 = .ok (.istore 5, 2) := by decide +kernel
theorem dJ1_indexOfChar_4cfef_7 : decode cJ1_indexOfChar_4cfef 7 = .ok (.iload 5, 2) := by decide +kernel
theorem dJ1_indexOfChar_4cfef_9 : decode cJ1_indexOfChar_4cfef 9 = .ok (.iload_n 3, 1) := by decide +kernel
theorem dJ1_indexOfChar_4cfef_10 : decode cJ1_indexOfChar_4cfef 10 = .ok (.if_icmp .ge 21, 3) := by decide +kernel
theorem dJ1_indexOfChar_4cfef_13 : decode cJ1_indexOfChar_4cfef 13 = .ok (.aload_n 0, 1) := by decide +kernel
theorem dJ1_indexOfChar_4cfef_14 : decode cJ1_indexOfChar_4cfef 14 = .ok (.iload 5, 2) := by decide +kernel
theorem dJ1_indexOfChar_4cfef_16 : decode cJ1_indexOfChar_4cfef 16 = .ok (.baload, 1) := by decide +kernel
theorem dJ1_indexOfChar_4cfef_17 : decode cJ1_indexOfChar_4cfef 17 = .ok (.iload 4, 2) := by decide +kernel
theorem dJ1_indexOfChar_4cfef_19 : decode cJ1_indexOfChar_4cfef 19 = .ok (.if_icmp .ne 6, 3) := by decide +kernel
theorem dJ1_indexOfChar_4cfef_22 : decode cJ1_indexOfChar_4cfef 22 = .ok (.iload 5, 2) := by decide +kernel
theorem dJ1_indexOfChar_4cfef_24 : decode cJ1_indexOfChar_4cfef 24 = .ok (.ireturn, 1) := by decide +kernel
theorem dJ1_indexOfChar_4cfef_25 : decode cJ1_indexOfChar_4cfef 25 = .ok (.iinc 5 1, 3) := by decide +kernel
theorem dJ1_indexOfChar_4cfef_28 : decode cJ1_indexOfChar_4cfef 28 = .ok (.goto (-21), 3) := by decide +kernel
theorem dJ1_indexOfChar_4cfef_31 : decode cJ1_indexOfChar_4cfef 31 = .ok (.iconst (-1), 1) := by decide +kernel
theorem dJ1_indexOfChar_4cfef_32 : decode cJ1_indexOfChar_4cfef 32 = .ok (.ireturn, 1) := by decide +kernel
theorem moJ1_indexOfChar_4cfef : Ms yJ1_indexOfChar_4cfef kJ1_indexOfChar_4cfef 4 := ⟨⟨tb_in 288 (by decide +kernel) rfl, tb_in 94 (by decide +kernel) rfl, ⟨by decide, by decide⟩, by decide +kernel⟩, tb_in 287 (by decide +kernel) rfl⟩
theorem dX2_kindOf_0 : decode cX2_kindOf 0 = .ok (.iload_n 0, 1) := by decide +kernel
theorem dX2_kindOf_1 : decode cX2_kindOf 1 = .ok (.ifCond .lt 20, 3) := by decide +kernel
theorem dX2_kindOf_4 : decode cX2_kindOf 4 = .ok (.iload_n 0, 1) := by decide +kernel
theorem dX2_kindOf_5 : decode cX2_kindOf 5 = .ok (.sipush 255, 3) := by decide +kernel
theorem dX2_kindOf_8 : decode cX2_kindOf 8 = .ok (.if_icmp .gt 13, 3) := by decide +kernel
theorem dX2_kindOf_11 : decode cX2_kindOf 11 = .ok (.ldc 33, 2) := by decide +kernel
theorem dX2_kindOf_13 : decode cX2_kindOf 13 = .ok (.iload_n 0, 1) := by decide +kernel
theorem dX2_kindOf_14 : decode cX2_kindOf 14 = .ok (.i2c, 1) := by decide +kernel
theorem dX2_kindOf_15 : decode cX2_kindOf 15 = .ok (.invokevirtual 35, 3) := by decide +kernel
theorem dX2_kindOf_18 : decode cX2_kindOf 18 = .ok (.goto 4, 3) := by decide +kernel
theorem dX2_kindOf_21 : decode cX2_kindOf 21 = .ok (.iconst (-1), 1) := by decide +kernel
theorem dX2_kindOf_22 : decode cX2_kindOf 22 = .ok (.ireturn, 1) := by decide +kernel
abbrev kX2_kindOf : Cfg := (RX2, cX2_kindOf, 1, (some .int), 6)
def kix (c : Int32) : Int32 := if c = 115 then 0 else if c = 102 then 1 else if c = 118 then 2 else if c = 106 then 3 else if c = 101 then 4 else if c = 108 then 5 else -1
def fX2_kindOf (n : Nat) (a0 : Int32) (μ : Mem) : Option (Int32 × Mem) := if a0 < 0 then some (-1, μ) else if 255 < a0 then some (-1, μ) else some (kix a0, μ)
abbrev jbt : List (List Int32) := [[115, 102, 118, 106, 101, 108]]
def NF : Nat → Prop := fun _ => False
def JX (A : Nat → Prop) (adK adV : Nat → Nat) (U : State) (H : Heap) : Prop := va_Z "java/lang/String" "COMPACT_STRINGS" "Z" (.int 1) A U H ∧ vk_S 1 [6] jbt adK adV A U H
theorem JX.narrow {A B : Nat → Prop} {adK adV : Nat → Nat} {U : State} {H : Heap} (h : JX A adK adV U H) (hAB : ∀ q, B q → A q) : JX B adK adV U H := ⟨h.1.narrow hAB, h.2.narrow hAB⟩
theorem JX.go {A : Nat → Prop} {adK adV : Nat → Nat} {s U : State} {H : Heap} {locs : List Loc} (h : JX A adK adV s s.heap) (hS : va_S A s.heap H locs) (hU : U.heap = H) (hW : s.WarmedH U.vm) : JX A adK adV U U.heap := by
  rw [hU]
  exact ⟨va_Z.moved hW.alike (h.1.kept hS.2.1), vk_S.moved hW.alike (h.2.kept hS.2.1)⟩
/-- nothing is written; the answer is v -/
def Qn (v : Int32) : Array Value → State → Outcome → State → Prop := fun _ st oc t => oc = .returned (some (.int v)) ∧ va_F NF st t
def Jt (y : MethodName) (C : Cfg) (adK adV : Nat → Nat) (av : List Value) (v : Int32) : Prop := ∀ l : Launch, Met l y (.code y C.2.1 C.2.2.1 C.2.2.2.1 :: TB) (rmd C.2.2.2.2) (va_Pc av (fun U => JX NF adK adV U U.heap)) (Qn v) 0 0 NF
def Jc (C : Cfg) (adK adV : Nat → Nat) (p : Program) (R : Room) (s : State) (m : MethodId) (args : Array Value) (meth : Method) (c : Code) : Prop :=
  p.tables.exec = Jvm.exec ∧ c.code = C.2.1 ∧ c.maxLocals = C.2.2.1 ∧ s.vm.findClass C.1 = some m.cls ∧ (∀ w ∈ TB, w.before args s = true) ∧ JX NF adK adV s s.heap ∧ meth.sig.returnType = C.2.2.2.1 ∧ meth.locks = false ∧ R = rmd C.2.2.2.2
def JG (C : Cfg) (adK adV : Nat → Nat) (v : Int32) (L : List (Nat × Value)) : Prop :=
  ∀ (p : Program) (l : Launch) (e : Env) (R : Room) (s : State) (m : MethodId) (args : Array Value) (below : List Frame) (meth : Method) (c : Code) (H : Heap) (locs : List Loc) (ls : Array Slot), Jc C adK adV p R s m args meth c → va_S NF s.heap H locs → lv_has ls C.2.2.1 L → W p l e R s m args below meth c H locs 0 0 (MQ below (Qn v) args s 0 0 NF) (F0 m 0 ls [])
theorem Jt.of {y : MethodName} {C : Cfg} {adK adV : Nat → Nat} {av : List Value} {v : Int32} (hy : plainFor y = true) (hc : y.cls = C.1) (hn : (lg_sl av).length ≤ C.2.2.1) (h : JG C adK adV v (lv_args 0 av)) : Jt y C adK adV av v := by
  intro l
  refine met_ofWF (cc := C.2.1) (maxL := C.2.2.1) (ret := C.2.2.2.1) hy rfl ?_
  intro p e s m args below meth c s₁ B hml hv
  obtain ⟨rfl, hT⟩ := hv
  have hts := atoms_spec (ws := (Cond.code y C.2.1 C.2.2.1 C.2.2.2.1 :: TB)) B.pre
  have hown : s.vm.findClass C.1 = some m.cls := by rw [← hc]; exact findClass_of_methodNamed B.named
  have hl := lv_entry av (n := C.2.2.1) hn
  rw [lg_entry_eq]
  exact h p l e _ s m _ below meth c s.heap [] _ ⟨B.exec, B.bytes, hml, hown, fun w hw => hts w (List.mem_cons_of_mem _ hw), hT, B.returns, B.notSynchronized, rfl⟩ va_S.rf hl
section JB
variable {p : Program} {l : Launch} {e : Env} {R : Room} {s : State} {m : MethodId} {args : Array Value} {below : List Frame} {meth : Method} {c : Code} {H : Heap} {locs : List Loc} {Q : State → Prop} {pc : Nat} {ls : Array Slot} {adK adV : Nat → Nat} {A : Nat → Prop}
theorem jblind {av : List Value} : FrameBlind (va_Pc av (fun U => JX NF adK adV U U.heap)) := fun a U g mk q => ⟨q.1, q.2⟩
theorem j_back {v : Int32} {a : Array Value} {st1 st2 : List Value} (hS : va_S A s.heap H locs) (hr : va_Run p l e R s m args below meth c H locs 0 0 0 0 (F0 m pc ls st1) st2 (Qn v a) NF)
    (kk : ∀ (H1 : Heap) (locs1 : List Loc), (∀ q, q < H.size → H1[q]? = H[q]?) → va_S A s.heap H1 locs1 → W p l e R s m args below meth c H1 locs1 0 0 Q (F0 m (pc + 3) ls (.int v :: st2))) : W p l e R s m args below meth c H locs 0 0 Q (F0 m pc ls st1) := by
  intro T hT X
  obtain ⟨w, st₀, t, T', L', h0, X', hL, e1, e2, ⟨hv, hz, hk⟩, stp⟩ := hr T hT X
  cases hv
  rw [h0] at hz hk
  have hq : ∀ q, q < H.size → T'.heap[q]? = H[q]? := fun q h => by rw [e1]; exact hk q h (fun z => z)
  obtain ⟨t2, a1, b1⟩ := kk T'.heap (locs ++ L') hq ⟨Nat.le_trans hS.1 (by rw [e1]; exact hz), fun q h1 h2 => (hq q (Nat.lt_of_lt_of_le h1 hS.1)).trans (hS.2.1 q h1 h2), fun q hq' => by
    rcases List.mem_append.mp hq' with h | h
    · exact hS.2.2 q h
    · exact (hL q h).elim⟩ T' rfl X'
  exact ⟨t2, stp t2 a1, b1⟩
theorem j_callV {y : MethodName} {C' : Cfg} {own : String} {cc : ByteArray} {nL i n d : Nat} {v : Int32} {As st st1 : List Value} (hx : p.tables.exec = Jvm.exec) (hb : c.code = cc) (hml : c.maxLocals = nL) (hown : s.vm.findClass own = some m.cls) (hts : ∀ w ∈ TB, w.before args s = true) (hR : R = rmd d) (hE : JX A adK adV s s.heap) (hS : va_S A s.heap H locs) (hls : ls.size = nL) (hM : Mv y C' n) (hcl : y.cls = "java/lang/String") (hL : Cond.methodLink own i y ∈ TB) (hj : Jt y C' adK adV (.ref (adK 0) :: As) v) (hn : As.length = n) (hdep : C'.2.2.2.2 + 1 ≤ d ∧ C'.2.2.1 ≤ 20) (hst : st1 = As.reverse ++ .ref (adK 0) :: st) (hW : (st.map fun v => v.category).sum ≤ 8) (hd : decode cc pc = .ok (.invokevirtual i, 3))
    (kk : ∀ (H1 : Heap) (locs1 : List Loc), (∀ q, q < H.size → H1[q]? = H[q]?) → va_S A s.heap H1 locs1 → W p l e R s m args below meth c H1 locs1 0 0 Q (F0 m (pc + 3) ls (.int v :: st))) : W p l e R s m args below meth c H locs 0 0 Q (F0 m pc ls st1) := by
  obtain ⟨⟨M1, M2, M3, M4⟩, M5, M6⟩ := hM
  have hroom : (rmd C'.2.2.2.2).frames + 1 ≤ R.frames ∧ 8 + (C'.2.2.1 + 11) + (rmd C'.2.2.2.2).locals ≤ R.locals := by rw [hR]; simp only [rmd]; omega
  have hpre : PreV s H y.cls (adK 0) (va_Pc (.ref (adK 0) :: As) (fun U => JX NF adK adV U U.heap)) As := ⟨jblind, by rw [hcl]; exact vk_recv hE.2 (i := 0) (by decide) hS, fun U hU hW => ⟨rfl, (hE.go hS hU hW).narrow (fun _ z => z.elim)⟩⟩
  subst hst
  exact j_back hS (va_runV (p := p) ⟨hx, hb, hml, hown, hts⟩ (hj l) ⟨⟨rfl, rfl, hroom.1, hroom.2, pay_in hts (tb_good M1), List.mem_cons_self, hts _ M1, hts _ M2, M3, mo_len M4, hts _ hL⟩, hts _ M5, hts _ M6⟩ hpre rfl hn hls rfl (lv_room hW) hd ⟨Nat.zero_le _, Nat.zero_le _⟩) kk
theorem j_callS {y : MethodName} {C' : Cfg} {own : String} {cc : ByteArray} {nL i n d : Nat} {v : Int32} {As st st1 : List Value} (hx : p.tables.exec = Jvm.exec) (hb : c.code = cc) (hml : c.maxLocals = nL) (hown : s.vm.findClass own = some m.cls) (hts : ∀ w ∈ TB, w.before args s = true) (hR : R = rmd d) (hE : JX A adK adV s s.heap) (hS : va_S A s.heap H locs) (hls : ls.size = nL) (hM : Ms y C' n) (hL : Cond.methodLink own i y ∈ TB) (hj : Jt y C' adK adV As v) (hn : As.length = n) (hdep : C'.2.2.2.2 + 1 ≤ d ∧ C'.2.2.1 ≤ 20) (hst : st1 = As.reverse ++ st) (hW : (st.map fun v => v.category).sum ≤ 8) (hd : decode cc pc = .ok (.invokestatic i, 3))
    (kk : ∀ (H1 : Heap) (locs1 : List Loc), (∀ q, q < H.size → H1[q]? = H[q]?) → va_S A s.heap H1 locs1 → W p l e R s m args below meth c H1 locs1 0 0 Q (F0 m (pc + 3) ls (.int v :: st))) : W p l e R s m args below meth c H locs 0 0 Q (F0 m pc ls st1) := by
  obtain ⟨⟨M1, M2, M3, M4⟩, M5⟩ := hM
  have hroom : (rmd C'.2.2.2.2).frames + 1 ≤ R.frames ∧ 8 + (C'.2.2.1 + 11) + (rmd C'.2.2.2.2).locals ≤ R.locals := by rw [hR]; simp only [rmd]; omega
  have hpre : PreS s H (va_Pc As (fun U => JX NF adK adV U U.heap)) As := ⟨jblind, fun U hU hW => ⟨rfl, (hE.go hS hU hW).narrow (fun _ z => z.elim)⟩⟩
  subst hst
  exact j_back hS (va_runS (p := p) ⟨hx, hb, hml, hown, hts⟩ (hj l) ⟨⟨rfl, rfl, hroom.1, hroom.2, pay_in hts (tb_good M1), List.mem_cons_self, hts _ M1, hts _ M2, M3, mo_len M4, hts _ hL⟩, hts _ M5⟩ hpre rfl hn hls rfl (lv_room hW) hd ⟨Nat.zero_le _, Nat.zero_le _⟩) kk
end JB
section JM
variable {adK adV : Nat → Nat}
set_option maxHeartbeats 4000000 in
set_option maxRecDepth 100000 in
theorem jt_isLatin1 : Jt yJ0_isLatin1_aae02 kJ0_isLatin1_aae02 adK adV [.ref (adK 0)] 1 := Jt.of (by decide +kernel) rfl (Nat.le_of_ble_eq_true rfl) (by
  show JG _ _ _ _ [(0, .ref (adK 0))]
  intro p l e R s m args below meth c H locs ls hc hS hl
  obtain ⟨hx, hb, hml, hown, hts, hE, hr, hlk, hR⟩ := hc
  refine va_gets hx hb hE.1 hS hown (hts _ (tb_in 264 (by decide +kernel) rfl)) (fun _ h => h) dJ0_isLatin1_aae02_0 ?_
  refine lv_if_eq (tgt := 17) hx hb dJ0_isLatin1_aae02_3 (by decide) (fun q => absurd q (by decide)) (fun _ => ?_)
  refine lv_aload_n hx hb dJ0_isLatin1_aae02_6 rfl (lv_at hl 0 rfl) ?_
  refine vk_getf hx hb (hE.2.1 0 (by decide)).2.1 hS hown (hts _ (tb_in 1026 (by decide +kernel) rfl)) (fun _ h => h) dJ0_isLatin1_aae02_7 ?_
  refine lv_if_ne (tgt := 17) hx hb dJ0_isLatin1_aae02_10 (by decide) (fun q => absurd rfl q) (fun _ => ?_)
  refine lv_iconst (v := 1) hx hb dJ0_isLatin1_aae02_13 (by decide) ?_
  refine lv_goto (tgt := 18) hx hb dJ0_isLatin1_aae02_14 (by decide) ?_
  exact W.zret (ty := .boolean) hx hb hr rfl (fun t ht hW => ⟨rfl, hS.F ht⟩) hS.2.2 dJ0_isLatin1_aae02_18 hlk)
set_option maxHeartbeats 4000000 in
set_option maxRecDepth 100000 in
theorem jt_coder : Jt yJ0_coder_7d493 kJ0_coder_7d493 adK adV [.ref (adK 0)] 0 := Jt.of (by decide +kernel) rfl (Nat.le_of_ble_eq_true rfl) (by
  show JG _ _ _ _ [(0, .ref (adK 0))]
  intro p l e R s m args below meth c H locs ls hc hS hl
  obtain ⟨hx, hb, hml, hown, hts, hE, hr, hlk, hR⟩ := hc
  refine va_gets hx hb hE.1 hS hown (hts _ (tb_in 264 (by decide +kernel) rfl)) (fun _ h => h) dJ0_coder_7d493_0 ?_
  refine lv_if_eq (tgt := 13) hx hb dJ0_coder_7d493_3 (by decide) (fun q => absurd q (by decide)) (fun _ => ?_)
  refine lv_aload_n hx hb dJ0_coder_7d493_6 rfl (lv_at hl 0 rfl) ?_
  refine vk_getf hx hb (hE.2.1 0 (by decide)).2.1 hS hown (hts _ (tb_in 1026 (by decide +kernel) rfl)) (fun _ h => h) dJ0_coder_7d493_7 ?_
  refine lv_goto (tgt := 14) hx hb dJ0_coder_7d493_10 (by decide) ?_
  exact W.zret (ty := .byte) hx hb hr rfl (fun t ht hW => ⟨rfl, hS.F ht⟩) hS.2.2 dJ0_coder_7d493_14 hlk)
set_option maxHeartbeats 4000000 in
set_option maxRecDepth 100000 in
theorem jt_length : Jt yJ0_length_8abf5 kJ0_length_8abf5 adK adV [.ref (adK 0)] 6 := Jt.of (by decide +kernel) rfl (Nat.le_of_ble_eq_true rfl) (by
  show JG _ _ _ _ [(0, .ref (adK 0))]
  intro p l e R s m args below meth c H locs ls hc hS hl
  obtain ⟨hx, hb, hml, hown, hts, hE, hr, hlk, hR⟩ := hc
  refine lv_aload_n hx hb dJ0_length_8abf5_0 rfl (lv_at hl 0 rfl) ?_
  refine vk_getf hx hb (hE.2.1 0 (by decide)).2.2.1 hS hown (hts _ (tb_in 1027 (by decide +kernel) rfl)) (fun _ h => h) dJ0_length_8abf5_1 ?_
  refine va_tlen (v := 6) hx hb (hE.2.1 0 (by decide)).2.2.2 hS rfl dJ0_length_8abf5_4 ?_
  refine lv_aload_n hx hb dJ0_length_8abf5_5 rfl (lv_at hl 0 rfl) ?_
  refine j_callV (As := []) hx hb hml hown hts hR hE hS hl.1 moJ0_coder_7d493 rfl (tb_in 270 (by decide +kernel) rfl) jt_coder rfl (by decide) rfl (by decide) dJ0_length_8abf5_6 (fun H locs _ hS => ?_)
  refine lv_ishr hx hb dJ0_length_8abf5_9 ?_
  exact W.iret hx hb hr (fun t ht hW => ⟨rfl, hS.F ht⟩) hS.2.2 dJ0_length_8abf5_10 hlk)
set_option maxHeartbeats 4000000 in
set_option maxRecDepth 100000 in
theorem jt_canEncode {z : Nat} (h : z < 256) : Jt yJ1_canEncode_9a6ad kJ1_canEncode_9a6ad adK adV [.int (nI z)] 1 := Jt.of (by decide +kernel) rfl (Nat.le_of_ble_eq_true rfl) (by
  show JG _ _ _ _ [(0, .int (nI z))]
  intro p l e R s m args below meth c H locs ls hc hS hl
  obtain ⟨hx, hb, hml, hown, hts, hE, hr, hlk, hR⟩ := hc
  refine lv_iload_n hx hb dJ1_canEncode_9a6ad_0 rfl (lv_at hl 0 rfl) ?_
  refine lv_if_lt (tgt := 15) hx hb dJ1_canEncode_9a6ad_1 (by decide) (fun q => absurd q (nI_nlt (b := 0) (Nat.zero_le _) (by omega))) (fun _ => ?_)
  refine lv_iload_n hx hb dJ1_canEncode_9a6ad_4 rfl (lv_at hl 0 rfl) ?_
  refine lv_sipush (v := 255) hx hb dJ1_canEncode_9a6ad_5 (by decide) ?_
  refine lv_icmp_gt (tgt := 15) hx hb dJ1_canEncode_9a6ad_8 (by decide) (fun q => absurd q (nI_nlt (a := 255) (b := z) (by omega) (by omega))) (fun _ => ?_)
  refine lv_iconst (v := 1) hx hb dJ1_canEncode_9a6ad_11 (by decide) ?_
  refine lv_goto (tgt := 16) hx hb dJ1_canEncode_9a6ad_12 (by decide) ?_
  exact W.zret (ty := .boolean) hx hb hr rfl (fun t ht hW => ⟨rfl, hS.F ht⟩) hS.2.2 dJ1_canEncode_9a6ad_16 hlk)
/-- the place of a letter in a list -/
def sk : List Int32 → Nat → Int32 → Int32
  | [], _, _ => -1
  | b :: l, k, x => if b = x then nI k else sk l (k + 1) x
theorem sk_kix : ∀ z, z < 256 → sk [115, 102, 118, 106, 101, 108] 0 ((nI z).toInt8.toInt32) = kix (nI z) := by decide +kernel
theorem i2c_id : ∀ z, z < 256 → ((nI z).toUInt32 % 65536).toInt32 = nI z := by decide +kernel
set_option maxHeartbeats 4000000 in
set_option maxRecDepth 100000 in
theorem jt_ixc {z : Nat} : Jt yJ1_indexOfChar_4cfef kJ1_indexOfChar_4cfef adK adV [.ref (adV 0), .int (nI z), .int 0, .int 6] (sk [115, 102, 118, 106, 101, 108] 0 ((nI z).toInt8.toInt32)) := Jt.of (by decide +kernel) rfl (Nat.le_of_ble_eq_true rfl) (by
  show JG _ _ _ _ [(0, .ref (adV 0)), (1, .int (nI z)), (2, .int 0), (3, .int 6)]
  intro p l e R s m args below meth c H locs ls hc hS hl
  obtain ⟨hx, hb, hml, hown, hts, hE, hr, hlk, hR⟩ := hc
  have hT := (hE.2.1 0 (by decide)).2.2.2
  generalize ex : (nI z).toInt8.toInt32 = x at hS ⊢
  refine lv_iload_n hx hb dJ1_indexOfChar_4cfef_0 rfl (lv_at hl 1 rfl) ?_
  refine lv_i2b hx hb dJ1_indexOfChar_4cfef_1 ex ?_
  refine lv_istore (lv' := [(4, .int x), (0, .ref (adV 0)), (1, .int (nI z)), (2, .int 0), (3, .int 6)]) hx hb dJ1_indexOfChar_4cfef_2 hl (by decide) rfl (fun ls hl => ?_)
  refine lv_iload_n hx hb dJ1_indexOfChar_4cfef_4 rfl (lv_at hl 3 rfl) ?_
  refine lv_istore (lv' := [(5, .int 0), (4, .int x), (0, .ref (adV 0)), (1, .int (nI z)), (2, .int 0), (3, .int 6)]) hx hb dJ1_indexOfChar_4cfef_5 hl (by decide) rfl (fun ls hl => ?_)
  refine lv_iload hx hb dJ1_indexOfChar_4cfef_7 (lv_at hl 0 rfl) ?_
  refine lv_iload_n hx hb dJ1_indexOfChar_4cfef_9 rfl (lv_at hl 5 rfl) ?_
  refine lv_icmp_ge (tgt := 31) hx hb dJ1_indexOfChar_4cfef_10 (by decide) (fun q => absurd q (by decide)) (fun _ => ?_)
  refine lv_aload_n hx hb dJ1_indexOfChar_4cfef_13 rfl (lv_at hl 2 rfl) ?_
  refine lv_iload hx hb dJ1_indexOfChar_4cfef_14 (lv_at hl 0 rfl) ?_
  refine va_tb (v := .int 115) hx hb hT hS (show vp_in (nI 0) 6 from vp_in_nI (by decide) (by decide)) rfl dJ1_indexOfChar_4cfef_16 ?_
  refine lv_iload hx hb dJ1_indexOfChar_4cfef_17 (lv_at hl 1 rfl) ?_
  refine lv_icmp_ne (tgt := 25) hx hb dJ1_indexOfChar_4cfef_19 (by decide) (fun h0 => ?_) (fun h0 => ?_)
  rotate_left
  · skip
    refine lv_iload hx hb dJ1_indexOfChar_4cfef_22 (lv_at hl 0 rfl) ?_
    rw [show sk [115, 102, 118, 106, 101, 108] 0 x = nI 0 by rw [sk, if_pos h0]]
    exact W.iret hx hb hr (fun t ht hW => ⟨rfl, hS.F ht⟩) hS.2.2 dJ1_indexOfChar_4cfef_24 hlk
  refine lv_iinc (v := 1) (lv' := [(5, .int 1), (4, .int x), (0, .ref (adV 0)), (1, .int (nI z)), (2, .int 0), (3, .int 6)]) hx hb dJ1_indexOfChar_4cfef_25 hl (k := 0) rfl (by decide) (by decide) rfl (fun ls hl => ?_)
  refine lv_goto (tgt := 7) hx hb dJ1_indexOfChar_4cfef_28 (by decide) ?_
  refine lv_iload hx hb dJ1_indexOfChar_4cfef_7 (lv_at hl 0 rfl) ?_
  refine lv_iload_n hx hb dJ1_indexOfChar_4cfef_9 rfl (lv_at hl 5 rfl) ?_
  refine lv_icmp_ge (tgt := 31) hx hb dJ1_indexOfChar_4cfef_10 (by decide) (fun q => absurd q (by decide)) (fun _ => ?_)
  refine lv_aload_n hx hb dJ1_indexOfChar_4cfef_13 rfl (lv_at hl 2 rfl) ?_
  refine lv_iload hx hb dJ1_indexOfChar_4cfef_14 (lv_at hl 0 rfl) ?_
  refine va_tb (v := .int 102) hx hb hT hS (show vp_in (nI 1) 6 from vp_in_nI (by decide) (by decide)) rfl dJ1_indexOfChar_4cfef_16 ?_
  refine lv_iload hx hb dJ1_indexOfChar_4cfef_17 (lv_at hl 1 rfl) ?_
  refine lv_icmp_ne (tgt := 25) hx hb dJ1_indexOfChar_4cfef_19 (by decide) (fun h1 => ?_) (fun h1 => ?_)
  rotate_left
  · skip
    refine lv_iload hx hb dJ1_indexOfChar_4cfef_22 (lv_at hl 0 rfl) ?_
    rw [show sk [115, 102, 118, 106, 101, 108] 0 x = nI 1 by rw [sk, if_neg h0, sk, if_pos h1]]
    exact W.iret hx hb hr (fun t ht hW => ⟨rfl, hS.F ht⟩) hS.2.2 dJ1_indexOfChar_4cfef_24 hlk
  refine lv_iinc (v := 2) (lv' := [(5, .int 2), (4, .int x), (0, .ref (adV 0)), (1, .int (nI z)), (2, .int 0), (3, .int 6)]) hx hb dJ1_indexOfChar_4cfef_25 hl (k := 0) rfl (by decide) (by decide) rfl (fun ls hl => ?_)
  refine lv_goto (tgt := 7) hx hb dJ1_indexOfChar_4cfef_28 (by decide) ?_
  refine lv_iload hx hb dJ1_indexOfChar_4cfef_7 (lv_at hl 0 rfl) ?_
  refine lv_iload_n hx hb dJ1_indexOfChar_4cfef_9 rfl (lv_at hl 5 rfl) ?_
  refine lv_icmp_ge (tgt := 31) hx hb dJ1_indexOfChar_4cfef_10 (by decide) (fun q => absurd q (by decide)) (fun _ => ?_)
  refine lv_aload_n hx hb dJ1_indexOfChar_4cfef_13 rfl (lv_at hl 2 rfl) ?_
  refine lv_iload hx hb dJ1_indexOfChar_4cfef_14 (lv_at hl 0 rfl) ?_
  refine va_tb (v := .int 118) hx hb hT hS (show vp_in (nI 2) 6 from vp_in_nI (by decide) (by decide)) rfl dJ1_indexOfChar_4cfef_16 ?_
  refine lv_iload hx hb dJ1_indexOfChar_4cfef_17 (lv_at hl 1 rfl) ?_
  refine lv_icmp_ne (tgt := 25) hx hb dJ1_indexOfChar_4cfef_19 (by decide) (fun h2 => ?_) (fun h2 => ?_)
  rotate_left
  · skip
    refine lv_iload hx hb dJ1_indexOfChar_4cfef_22 (lv_at hl 0 rfl) ?_
    rw [show sk [115, 102, 118, 106, 101, 108] 0 x = nI 2 by rw [sk, if_neg h0, sk, if_neg h1, sk, if_pos h2]]
    exact W.iret hx hb hr (fun t ht hW => ⟨rfl, hS.F ht⟩) hS.2.2 dJ1_indexOfChar_4cfef_24 hlk
  refine lv_iinc (v := 3) (lv' := [(5, .int 3), (4, .int x), (0, .ref (adV 0)), (1, .int (nI z)), (2, .int 0), (3, .int 6)]) hx hb dJ1_indexOfChar_4cfef_25 hl (k := 0) rfl (by decide) (by decide) rfl (fun ls hl => ?_)
  refine lv_goto (tgt := 7) hx hb dJ1_indexOfChar_4cfef_28 (by decide) ?_
  refine lv_iload hx hb dJ1_indexOfChar_4cfef_7 (lv_at hl 0 rfl) ?_
  refine lv_iload_n hx hb dJ1_indexOfChar_4cfef_9 rfl (lv_at hl 5 rfl) ?_
  refine lv_icmp_ge (tgt := 31) hx hb dJ1_indexOfChar_4cfef_10 (by decide) (fun q => absurd q (by decide)) (fun _ => ?_)
  refine lv_aload_n hx hb dJ1_indexOfChar_4cfef_13 rfl (lv_at hl 2 rfl) ?_
  refine lv_iload hx hb dJ1_indexOfChar_4cfef_14 (lv_at hl 0 rfl) ?_
  refine va_tb (v := .int 106) hx hb hT hS (show vp_in (nI 3) 6 from vp_in_nI (by decide) (by decide)) rfl dJ1_indexOfChar_4cfef_16 ?_
  refine lv_iload hx hb dJ1_indexOfChar_4cfef_17 (lv_at hl 1 rfl) ?_
  refine lv_icmp_ne (tgt := 25) hx hb dJ1_indexOfChar_4cfef_19 (by decide) (fun h3 => ?_) (fun h3 => ?_)
  rotate_left
  · skip
    refine lv_iload hx hb dJ1_indexOfChar_4cfef_22 (lv_at hl 0 rfl) ?_
    rw [show sk [115, 102, 118, 106, 101, 108] 0 x = nI 3 by rw [sk, if_neg h0, sk, if_neg h1, sk, if_neg h2, sk, if_pos h3]]
    exact W.iret hx hb hr (fun t ht hW => ⟨rfl, hS.F ht⟩) hS.2.2 dJ1_indexOfChar_4cfef_24 hlk
  refine lv_iinc (v := 4) (lv' := [(5, .int 4), (4, .int x), (0, .ref (adV 0)), (1, .int (nI z)), (2, .int 0), (3, .int 6)]) hx hb dJ1_indexOfChar_4cfef_25 hl (k := 0) rfl (by decide) (by decide) rfl (fun ls hl => ?_)
  refine lv_goto (tgt := 7) hx hb dJ1_indexOfChar_4cfef_28 (by decide) ?_
  refine lv_iload hx hb dJ1_indexOfChar_4cfef_7 (lv_at hl 0 rfl) ?_
  refine lv_iload_n hx hb dJ1_indexOfChar_4cfef_9 rfl (lv_at hl 5 rfl) ?_
  refine lv_icmp_ge (tgt := 31) hx hb dJ1_indexOfChar_4cfef_10 (by decide) (fun q => absurd q (by decide)) (fun _ => ?_)
  refine lv_aload_n hx hb dJ1_indexOfChar_4cfef_13 rfl (lv_at hl 2 rfl) ?_
  refine lv_iload hx hb dJ1_indexOfChar_4cfef_14 (lv_at hl 0 rfl) ?_
  refine va_tb (v := .int 101) hx hb hT hS (show vp_in (nI 4) 6 from vp_in_nI (by decide) (by decide)) rfl dJ1_indexOfChar_4cfef_16 ?_
  refine lv_iload hx hb dJ1_indexOfChar_4cfef_17 (lv_at hl 1 rfl) ?_
  refine lv_icmp_ne (tgt := 25) hx hb dJ1_indexOfChar_4cfef_19 (by decide) (fun h4 => ?_) (fun h4 => ?_)
  rotate_left
  · skip
    refine lv_iload hx hb dJ1_indexOfChar_4cfef_22 (lv_at hl 0 rfl) ?_
    rw [show sk [115, 102, 118, 106, 101, 108] 0 x = nI 4 by rw [sk, if_neg h0, sk, if_neg h1, sk, if_neg h2, sk, if_neg h3, sk, if_pos h4]]
    exact W.iret hx hb hr (fun t ht hW => ⟨rfl, hS.F ht⟩) hS.2.2 dJ1_indexOfChar_4cfef_24 hlk
  refine lv_iinc (v := 5) (lv' := [(5, .int 5), (4, .int x), (0, .ref (adV 0)), (1, .int (nI z)), (2, .int 0), (3, .int 6)]) hx hb dJ1_indexOfChar_4cfef_25 hl (k := 0) rfl (by decide) (by decide) rfl (fun ls hl => ?_)
  refine lv_goto (tgt := 7) hx hb dJ1_indexOfChar_4cfef_28 (by decide) ?_
  refine lv_iload hx hb dJ1_indexOfChar_4cfef_7 (lv_at hl 0 rfl) ?_
  refine lv_iload_n hx hb dJ1_indexOfChar_4cfef_9 rfl (lv_at hl 5 rfl) ?_
  refine lv_icmp_ge (tgt := 31) hx hb dJ1_indexOfChar_4cfef_10 (by decide) (fun q => absurd q (by decide)) (fun _ => ?_)
  refine lv_aload_n hx hb dJ1_indexOfChar_4cfef_13 rfl (lv_at hl 2 rfl) ?_
  refine lv_iload hx hb dJ1_indexOfChar_4cfef_14 (lv_at hl 0 rfl) ?_
  refine va_tb (v := .int 108) hx hb hT hS (show vp_in (nI 5) 6 from vp_in_nI (by decide) (by decide)) rfl dJ1_indexOfChar_4cfef_16 ?_
  refine lv_iload hx hb dJ1_indexOfChar_4cfef_17 (lv_at hl 1 rfl) ?_
  refine lv_icmp_ne (tgt := 25) hx hb dJ1_indexOfChar_4cfef_19 (by decide) (fun h5 => ?_) (fun h5 => ?_)
  rotate_left
  · skip
    refine lv_iload hx hb dJ1_indexOfChar_4cfef_22 (lv_at hl 0 rfl) ?_
    rw [show sk [115, 102, 118, 106, 101, 108] 0 x = nI 5 by rw [sk, if_neg h0, sk, if_neg h1, sk, if_neg h2, sk, if_neg h3, sk, if_neg h4, sk, if_pos h5]]
    exact W.iret hx hb hr (fun t ht hW => ⟨rfl, hS.F ht⟩) hS.2.2 dJ1_indexOfChar_4cfef_24 hlk
  refine lv_iinc (v := 6) (lv' := [(5, .int 6), (4, .int x), (0, .ref (adV 0)), (1, .int (nI z)), (2, .int 0), (3, .int 6)]) hx hb dJ1_indexOfChar_4cfef_25 hl (k := 0) rfl (by decide) (by decide) rfl (fun ls hl => ?_)
  refine lv_goto (tgt := 7) hx hb dJ1_indexOfChar_4cfef_28 (by decide) ?_
  refine lv_iload hx hb dJ1_indexOfChar_4cfef_7 (lv_at hl 0 rfl) ?_
  refine lv_iload_n hx hb dJ1_indexOfChar_4cfef_9 rfl (lv_at hl 5 rfl) ?_
  refine lv_icmp_ge (tgt := 31) hx hb dJ1_indexOfChar_4cfef_10 (by decide) (fun _ => ?_) (fun q => absurd q (by decide))
  refine lv_iconst (v := -1) hx hb dJ1_indexOfChar_4cfef_31 (by decide) ?_
  rw [show sk [115, 102, 118, 106, 101, 108] 0 x = -1 by rw [sk, if_neg h0, sk, if_neg h1, sk, if_neg h2, sk, if_neg h3, sk, if_neg h4, sk, if_neg h5, sk]]
  exact W.iret hx hb hr (fun t ht hW => ⟨rfl, hS.F ht⟩) hS.2.2 dJ1_indexOfChar_4cfef_32 hlk)
set_option maxHeartbeats 4000000 in
set_option maxRecDepth 100000 in
theorem jt_ixl {z : Nat} (h : z < 256) : Jt yJ1_indexOf_4cfef kJ1_indexOf_4cfef adK adV [.ref (adV 0), .int (nI z), .int 0, .int 6] (kix (nI z)) := Jt.of (by decide +kernel) rfl (Nat.le_of_ble_eq_true rfl) (by
  show JG _ _ _ _ [(0, .ref (adV 0)), (1, .int (nI z)), (2, .int 0), (3, .int 6)]
  intro p l e R s m args below meth c H locs ls hc hS hl
  obtain ⟨hx, hb, hml, hown, hts, hE, hr, hlk, hR⟩ := hc
  have hT := (hE.2.1 0 (by decide)).2.2.2
  have hfr : 1 ≤ R.frames ∧ 39 ≤ R.locals := by rw [hR]; decide
  refine lv_iload_n hx hb dJ1_indexOf_4cfef_0 rfl (lv_at hl 1 rfl) ?_
  refine j_callS (As := [.int (nI z)]) hx hb hml hown hts hR hE hS hl.1 moJ1_canEncode_9a6ad (tb_in 277 (by decide +kernel) rfl) (jt_canEncode h) rfl (by decide) rfl (by decide) dJ1_indexOf_4cfef_1 (fun H locs _ hS => ?_)
  refine lv_if_ne (tgt := 9) hx hb dJ1_indexOf_4cfef_4 (by decide) (fun _ => ?_) (fun q => absurd q (by decide))
  refine lv_iload_n hx hb dJ1_indexOf_4cfef_9 rfl (lv_at hl 2 rfl) ?_
  refine lv_iconst (v := 0) hx hb dJ1_indexOf_4cfef_10 (by decide) ?_
  refine va_mmax hx hb (hml.trans hl.1.symm) hown (hts _ (tb_in 280 (by decide +kernel) rfl)) (hts _ (tb_in 281 (by decide +kernel) rfl)) (hts _ (tb_in 95 (by decide +kernel) rfl)) (hts _ (tb_in 282 (by decide +kernel) rfl)) hfr.1 (by have := hfr.2; simp only [List.map_nil, List.sum_nil]; omega) (Nat.zero_le _) (Nat.zero_le _) dJ1_indexOf_4cfef_11 ?_
  rw [if_neg (show ¬ (0 : Int32) < 0 by decide)]
  refine lv_istore_n (lv' := [(2, .int 0), (0, .ref (adV 0)), (1, .int (nI z)), (3, .int 6)]) hx hb dJ1_indexOf_4cfef_14 rfl hl (by decide) rfl (fun ls hl => ?_)
  refine lv_iload_n hx hb dJ1_indexOf_4cfef_15 rfl (lv_at hl 3 rfl) ?_
  refine lv_aload_n hx hb dJ1_indexOf_4cfef_16 rfl (lv_at hl 1 rfl) ?_
  refine va_tlen (v := 6) hx hb hT hS rfl dJ1_indexOf_4cfef_17 ?_
  refine va_mmin hx hb (hml.trans hl.1.symm) hown (hts _ (tb_in 283 (by decide +kernel) rfl)) (hts _ (tb_in 284 (by decide +kernel) rfl)) (hts _ (tb_in 95 (by decide +kernel) rfl)) (hts _ (tb_in 285 (by decide +kernel) rfl)) hfr.1 (by have := hfr.2; simp only [List.map_nil, List.sum_nil]; omega) (Nat.zero_le _) (Nat.zero_le _) dJ1_indexOf_4cfef_18 ?_
  rw [if_neg (show ¬ (6 : Int32) < 6 by decide)]
  refine lv_istore_n (lv' := [(3, .int 6), (2, .int 0), (0, .ref (adV 0)), (1, .int (nI z))]) hx hb dJ1_indexOf_4cfef_21 rfl hl (by decide) rfl (fun ls hl => ?_)
  refine lv_iload_n hx hb dJ1_indexOf_4cfef_22 rfl (lv_at hl 1 rfl) ?_
  refine lv_iload_n hx hb dJ1_indexOf_4cfef_23 rfl (lv_at hl 0 rfl) ?_
  refine lv_icmp_lt (tgt := 29) hx hb dJ1_indexOf_4cfef_24 (by decide) (fun _ => ?_) (fun q => absurd (show (0 : Int32) < 6 by decide) q)
  refine lv_aload_n hx hb dJ1_indexOf_4cfef_29 rfl (lv_at hl 2 rfl) ?_
  refine lv_iload_n hx hb dJ1_indexOf_4cfef_30 rfl (lv_at hl 3 rfl) ?_
  refine lv_iload_n hx hb dJ1_indexOf_4cfef_31 rfl (lv_at hl 1 rfl) ?_
  refine lv_iload_n hx hb dJ1_indexOf_4cfef_32 rfl (lv_at hl 0 rfl) ?_
  refine j_callS (As := [.ref (adV 0), .int (nI z), .int 0, .int 6]) hx hb hml hown hts hR hE hS hl.1 moJ1_indexOfChar_4cfef (tb_in 286 (by decide +kernel) rfl) (jt_ixc (z := z)) rfl (by decide) rfl (by decide) dJ1_indexOf_4cfef_33 (fun H locs _ hS => ?_)
  rw [sk_kix z h]
  exact W.iret hx hb hr (fun t ht hW => ⟨rfl, hS.F ht⟩) hS.2.2 dJ1_indexOf_4cfef_36 hlk)
set_option maxHeartbeats 4000000 in
set_option maxRecDepth 100000 in
theorem jt_ix2 {z : Nat} (h : z < 256) : Jt yJ0_indexOf_7cf53 kJ0_indexOf_7cf53 adK adV [.ref (adK 0), .int (nI z), .int 0] (kix (nI z)) := Jt.of (by decide +kernel) rfl (Nat.le_of_ble_eq_true rfl) (by
  show JG _ _ _ _ [(0, .ref (adK 0)), (1, .int (nI z)), (2, .int 0)]
  intro p l e R s m args below meth c H locs ls hc hS hl
  obtain ⟨hx, hb, hml, hown, hts, hE, hr, hlk, hR⟩ := hc
  refine lv_aload_n hx hb dJ0_indexOf_7cf53_0 rfl (lv_at hl 0 rfl) ?_
  refine j_callV (As := []) hx hb hml hown hts hR hE hS hl.1 moJ0_isLatin1_aae02 rfl (tb_in 260 (by decide +kernel) rfl) jt_isLatin1 rfl (by decide) rfl (by decide) dJ0_indexOf_7cf53_1 (fun H locs _ hS => ?_)
  refine lv_if_eq (tgt := 23) hx hb dJ0_indexOf_7cf53_4 (by decide) (fun q => absurd q (by decide)) (fun _ => ?_)
  refine lv_aload_n hx hb dJ0_indexOf_7cf53_7 rfl (lv_at hl 0 rfl) ?_
  refine vk_getf hx hb (hE.2.1 0 (by decide)).2.2.1 hS hown (hts _ (tb_in 1027 (by decide +kernel) rfl)) (fun _ h => h) dJ0_indexOf_7cf53_8 ?_
  refine lv_iload_n hx hb dJ0_indexOf_7cf53_11 rfl (lv_at hl 1 rfl) ?_
  refine lv_iload_n hx hb dJ0_indexOf_7cf53_12 rfl (lv_at hl 2 rfl) ?_
  refine lv_aload_n hx hb dJ0_indexOf_7cf53_13 rfl (lv_at hl 0 rfl) ?_
  refine j_callV (As := []) hx hb hml hown hts hR hE hS hl.1 moJ0_length_8abf5 rfl (tb_in 266 (by decide +kernel) rfl) jt_length rfl (by decide) rfl (Nat.le_of_ble_eq_true rfl) dJ0_indexOf_7cf53_14 (fun H locs _ hS => ?_)
  refine j_callS (As := [.ref (adV 0), .int (nI z), .int 0, .int 6]) hx hb hml hown hts hR hE hS hl.1 moJ1_indexOf_4cfef (tb_in 274 (by decide +kernel) rfl) (jt_ixl h) rfl (by decide) rfl (by decide) dJ0_indexOf_7cf53_17 (fun H locs _ hS => ?_)
  refine lv_goto (tgt := 36) hx hb dJ0_indexOf_7cf53_20 (by decide) ?_
  exact W.iret hx hb hr (fun t ht hW => ⟨rfl, hS.F ht⟩) hS.2.2 dJ0_indexOf_7cf53_36 hlk)
set_option maxHeartbeats 4000000 in
set_option maxRecDepth 100000 in
theorem jt_ix1 {z : Nat} (h : z < 256) : Jt yJ0_indexOf_0f7a4 kJ0_indexOf_0f7a4 adK adV [.ref (adK 0), .int (nI z)] (kix (nI z)) := Jt.of (by decide +kernel) rfl (Nat.le_of_ble_eq_true rfl) (by
  show JG _ _ _ _ [(0, .ref (adK 0)), (1, .int (nI z))]
  intro p l e R s m args below meth c H locs ls hc hS hl
  obtain ⟨hx, hb, hml, hown, hts, hE, hr, hlk, hR⟩ := hc
  refine lv_aload_n hx hb dJ0_indexOf_0f7a4_0 rfl (lv_at hl 0 rfl) ?_
  refine lv_iload_n hx hb dJ0_indexOf_0f7a4_1 rfl (lv_at hl 1 rfl) ?_
  refine lv_iconst (v := 0) hx hb dJ0_indexOf_0f7a4_2 (by decide) ?_
  refine j_callV (As := [.int (nI z), .int 0]) hx hb hml hown hts hR hE hS hl.1 moJ0_indexOf_7cf53 rfl (tb_in 256 (by decide +kernel) rfl) (jt_ix2 h) rfl (by decide) rfl (by decide) dJ0_indexOf_0f7a4_3 (fun H locs _ hS => ?_)
  exact W.iret hx hb hr (fun t ht hW => ⟨rfl, hS.F ht⟩) hS.2.2 dJ0_indexOf_0f7a4_6 hlk)
end JM
set_option maxHeartbeats 4000000 in
set_option maxRecDepth 100000 in
theorem ctX2_kindOf (ad : Nat → Nat) (n : Nat) (a0 : Int32) (μ : Mem) : Ct yX2_kindOf kX2_kindOf ad encI [.int a0] μ (fX2_kindOf n a0 μ) := Ct.of (by decide +kernel) rfl (Nat.le_of_ble_eq_true rfl) (by
  show G kX2_kindOf ad encI 0 [(0, .int a0)] [] μ (fX2_kindOf n a0 μ)
  intro p l e R s m args below meth c H locs D tc ls r ν hc hP hD hS hl hX
  have hx := hc.1
  have hb := hc.2.1
  have hml := hc.2.2.1
  have hown := hc.2.2.2.1
  have hts := hc.2.2.2.2.1
  have hr := hc.2.2.2.2.2.2.1
  have hlk := hc.2.2.2.2.2.2.2.1
  obtain ⟨hR, hZ, adK, adV, hV, hK⟩ := hc.2.2.2.2.2.2.2.2
  have hE : JX (A62 ad) adK adV s s.heap := ⟨hZ, hV⟩
  unfold fX2_kindOf at hX
  refine lv_iload_n hx hb dX2_kindOf_0 rfl (lv_at hl 0 rfl) ?_
  refine lv_if_lt (tgt := 21) hx hb dX2_kindOf_1 (by decide) (fun h0 => ?_) (fun h0 => ?_)
  · rw [if_pos h0] at hX
    cases hX
    refine lv_iconst (v := -1) hx hb dX2_kindOf_21 (by decide) ?_
    exact W.iret hx hb hr (fun t ht hW => ⟨rfl, by rw [ht]; exact hP, hS.F ht⟩) hS.2.2 dX2_kindOf_22 hlk
  · rw [if_neg h0] at hX
    refine lv_iload_n hx hb dX2_kindOf_4 rfl (lv_at hl 0 rfl) ?_
    refine lv_sipush (v := 255) hx hb dX2_kindOf_5 (by decide) ?_
    refine lv_icmp_gt (tgt := 21) hx hb dX2_kindOf_8 (by decide) (fun h1 => ?_) (fun h1 => ?_)
    · rw [if_pos h1] at hX
      cases hX
      refine lv_iconst (v := -1) hx hb dX2_kindOf_21 (by decide) ?_
      exact W.iret hx hb hr (fun t ht hW => ⟨rfl, by rw [ht]; exact hP, hS.F ht⟩) hS.2.2 dX2_kindOf_22 hlk
    · rw [if_neg h1] at hX
      cases hX
      obtain ⟨j, hj, rfl⟩ := nI_of h0
      have h256 : j < 256 := by
        rcases Nat.lt_or_ge j 256 with q | q
        · exact q
        · exact absurd (nI_lt (a := 255) (b := j) (by omega) hj) h1
      refine va_ldcS hx hb hown hK dX2_kindOf_11 ?_
      refine lv_iload_n hx hb dX2_kindOf_13 rfl (lv_at hl 0 rfl) ?_
      refine lv_i2c hx hb dX2_kindOf_14 (i2c_id j h256) ?_
      refine j_callV (As := [.int (nI j)]) hx hb hml hown hts hR hE hS hl.1 moJ0_indexOf_0f7a4 rfl (tb_in 252 (by decide +kernel) rfl) (jt_ix1 h256) rfl (by decide) rfl (by decide) dX2_kindOf_15 (fun H1 locs1 hq hS1 => ?_)
      refine lv_goto (tgt := 22) hx hb dX2_kindOf_18 (by decide) ?_
      exact W.iret hx hb hr (fun t ht hW => ⟨rfl, by rw [ht]; exact hP.kept (fun k x hx => hq x.1 ((hP k x hx).lt)), hS1.F ht⟩) hS1.2.2 dX2_kindOf_22 hlk)
end
