section
-- ===== PART A: goes FIRST, ahead of the names: the tables' words, and 'selects' of the private methods out of them =====
/-- a private method of a class that the tables say can be made, by its rows of tables_1 -/
def lw_okq (q : MethodName × Nat) : Prop := (q.1.cls ≠ "java/lang/invoke/MethodHandle" ∧ q.1.cls ≠ "java/lang/invoke/VarHandle") ∧ Cond.instantiable q.1.cls q.2 ∈ tables_1 ∧ Cond.privateMethod q.1 ∈ tables_1 ∧ Cond.instanceMethod q.1 ∈ tables_1
theorem lw_p0 : lw_okq (⟨"FrozenBits", "isPlace", "(I)Z"⟩, 7) := ⟨⟨by decide +kernel, by decide +kernel⟩, List.mem_of_getElem? (i := 9) (by decide +kernel), List.mem_of_getElem? (i := 110) (by decide +kernel), List.mem_of_getElem? (i := 111) (by decide +kernel)⟩
theorem lw_p1 : lw_okq (⟨"FrozenBits", "places", "()I"⟩, 7) := ⟨⟨by decide +kernel, by decide +kernel⟩, List.mem_of_getElem? (i := 9) (by decide +kernel), List.mem_of_getElem? (i := 114) (by decide +kernel), List.mem_of_getElem? (i := 115) (by decide +kernel)⟩
theorem lw_p2 : lw_okq (⟨"FrozenBits", "upperLoss", "(I)J"⟩, 7) := ⟨⟨by decide +kernel, by decide +kernel⟩, List.mem_of_getElem? (i := 9) (by decide +kernel), List.mem_of_getElem? (i := 120) (by decide +kernel), List.mem_of_getElem? (i := 121) (by decide +kernel)⟩
theorem lw_p3 : lw_okq (⟨"FrozenBits", "lowerLoss", "()J"⟩, 7) := ⟨⟨by decide +kernel, by decide +kernel⟩, List.mem_of_getElem? (i := 9) (by decide +kernel), List.mem_of_getElem? (i := 125) (by decide +kernel), List.mem_of_getElem? (i := 126) (by decide +kernel)⟩
theorem lw_p4 : lw_okq (⟨"FrozenBits", "bitOfRank", "(I)I"⟩, 7) := ⟨⟨by decide +kernel, by decide +kernel⟩, List.mem_of_getElem? (i := 9) (by decide +kernel), List.mem_of_getElem? (i := 136) (by decide +kernel), List.mem_of_getElem? (i := 137) (by decide +kernel)⟩
theorem lw_p5 : lw_okq (⟨"FrozenBits", "howManyBetter", "(I)I"⟩, 7) := ⟨⟨by decide +kernel, by decide +kernel⟩, List.mem_of_getElem? (i := 9) (by decide +kernel), List.mem_of_getElem? (i := 140) (by decide +kernel), List.mem_of_getElem? (i := 141) (by decide +kernel)⟩
theorem lw_p6 : lw_okq (⟨"FrozenBits", "isSet", "(I)Z"⟩, 7) := ⟨⟨by decide +kernel, by decide +kernel⟩, List.mem_of_getElem? (i := 9) (by decide +kernel), List.mem_of_getElem? (i := 148) (by decide +kernel), List.mem_of_getElem? (i := 149) (by decide +kernel)⟩
theorem lw_p7 : lw_okq (⟨"FrozenBits", "howManyFree", "()I"⟩, 7) := ⟨⟨by decide +kernel, by decide +kernel⟩, List.mem_of_getElem? (i := 9) (by decide +kernel), List.mem_of_getElem? (i := 152) (by decide +kernel), List.mem_of_getElem? (i := 153) (by decide +kernel)⟩
theorem lw_p8 : lw_okq (⟨"FrozenBits", "isFree", "(I)Z"⟩, 7) := ⟨⟨by decide +kernel, by decide +kernel⟩, List.mem_of_getElem? (i := 9) (by decide +kernel), List.mem_of_getElem? (i := 179) (by decide +kernel), List.mem_of_getElem? (i := 180) (by decide +kernel)⟩
theorem lw_p9 : lw_okq (⟨"FrozenBits", "leastWeight", "()I"⟩, 7) := ⟨⟨by decide +kernel, by decide +kernel⟩, List.mem_of_getElem? (i := 9) (by decide +kernel), List.mem_of_getElem? (i := 190) (by decide +kernel), List.mem_of_getElem? (i := 191) (by decide +kernel)⟩
theorem lw_p10 : lw_okq (⟨"FrozenBits", "howManySets", "(IZ)I"⟩, 7) := ⟨⟨by decide +kernel, by decide +kernel⟩, List.mem_of_getElem? (i := 9) (by decide +kernel), List.mem_of_getElem? (i := 197) (by decide +kernel), List.mem_of_getElem? (i := 198) (by decide +kernel)⟩
theorem lw_p11 : lw_okq (⟨"FrozenBits", "isSentAsWord", "(I)Z"⟩, 7) := ⟨⟨by decide +kernel, by decide +kernel⟩, List.mem_of_getElem? (i := 9) (by decide +kernel), List.mem_of_getElem? (i := 201) (by decide +kernel), List.mem_of_getElem? (i := 202) (by decide +kernel)⟩
theorem lw_p12 : lw_okq (⟨"FrozenBits", "openFor", "(I)I"⟩, 7) := ⟨⟨by decide +kernel, by decide +kernel⟩, List.mem_of_getElem? (i := 9) (by decide +kernel), List.mem_of_getElem? (i := 205) (by decide +kernel), List.mem_of_getElem? (i := 206) (by decide +kernel)⟩
theorem lw_p13 : lw_okq (⟨"FrozenBits", "rowRead", "()I"⟩, 7) := ⟨⟨by decide +kernel, by decide +kernel⟩, List.mem_of_getElem? (i := 9) (by decide +kernel), List.mem_of_getElem? (i := 233) (by decide +kernel), List.mem_of_getElem? (i := 234) (by decide +kernel)⟩
theorem lw_p14 : lw_okq (⟨"FrozenBits", "seenOf", "(II)I"⟩, 7) := ⟨⟨by decide +kernel, by decide +kernel⟩, List.mem_of_getElem? (i := 9) (by decide +kernel), List.mem_of_getElem? (i := 237) (by decide +kernel), List.mem_of_getElem? (i := 238) (by decide +kernel)⟩
theorem lw_p15 : lw_okq (⟨"FrozenBits", "goFirst", "(I)V"⟩, 7) := ⟨⟨by decide +kernel, by decide +kernel⟩, List.mem_of_getElem? (i := 9) (by decide +kernel), List.mem_of_getElem? (i := 244) (by decide +kernel), List.mem_of_getElem? (i := 245) (by decide +kernel)⟩
def lw_privs_1 : List (MethodName × Nat) := [(⟨"FrozenBits", "isPlace", "(I)Z"⟩, 7), (⟨"FrozenBits", "places", "()I"⟩, 7), (⟨"FrozenBits", "upperLoss", "(I)J"⟩, 7), (⟨"FrozenBits", "lowerLoss", "()J"⟩, 7), (⟨"FrozenBits", "bitOfRank", "(I)I"⟩, 7), (⟨"FrozenBits", "howManyBetter", "(I)I"⟩, 7), (⟨"FrozenBits", "isSet", "(I)Z"⟩, 7), (⟨"FrozenBits", "howManyFree", "()I"⟩, 7), (⟨"FrozenBits", "isFree", "(I)Z"⟩, 7), (⟨"FrozenBits", "leastWeight", "()I"⟩, 7), (⟨"FrozenBits", "howManySets", "(IZ)I"⟩, 7), (⟨"FrozenBits", "isSentAsWord", "(I)Z"⟩, 7), (⟨"FrozenBits", "openFor", "(I)I"⟩, 7), (⟨"FrozenBits", "rowRead", "()I"⟩, 7), (⟨"FrozenBits", "seenOf", "(II)I"⟩, 7), (⟨"FrozenBits", "goFirst", "(I)V"⟩, 7)]
theorem lw_r1 : ∀ q ∈ lw_privs_1, lw_okq q := List.forall_mem_cons.mpr ⟨lw_p0, List.forall_mem_cons.mpr ⟨lw_p1, List.forall_mem_cons.mpr ⟨lw_p2, List.forall_mem_cons.mpr ⟨lw_p3, List.forall_mem_cons.mpr ⟨lw_p4, List.forall_mem_cons.mpr ⟨lw_p5, List.forall_mem_cons.mpr ⟨lw_p6, List.forall_mem_cons.mpr ⟨lw_p7, List.forall_mem_cons.mpr ⟨lw_p8, List.forall_mem_cons.mpr ⟨lw_p9, List.forall_mem_cons.mpr ⟨lw_p10, List.forall_mem_cons.mpr ⟨lw_p11, List.forall_mem_cons.mpr ⟨lw_p12, List.forall_mem_cons.mpr ⟨lw_p13, List.forall_mem_cons.mpr ⟨lw_p14, List.forall_mem_cons.mpr ⟨lw_p15, fun _ h => absurd h List.not_mem_nil⟩⟩⟩⟩⟩⟩⟩⟩⟩⟩⟩⟩⟩⟩⟩⟩
theorem lw_p16 : lw_okq (⟨"FrozenBits", "goSecond", "(II)V"⟩, 7) := ⟨⟨by decide +kernel, by decide +kernel⟩, List.mem_of_getElem? (i := 9) (by decide +kernel), List.mem_of_getElem? (i := 254) (by decide +kernel), List.mem_of_getElem? (i := 255) (by decide +kernel)⟩
theorem lw_p17 : lw_okq (⟨"FrozenBits", "fineOf", "(I)I"⟩, 7) := ⟨⟨by decide +kernel, by decide +kernel⟩, List.mem_of_getElem? (i := 9) (by decide +kernel), List.mem_of_getElem? (i := 262) (by decide +kernel), List.mem_of_getElem? (i := 263) (by decide +kernel)⟩
theorem lw_p18 : lw_okq (⟨"FrozenBits", "howManyToldOtherwise", "(I)I"⟩, 7) := ⟨⟨by decide +kernel, by decide +kernel⟩, List.mem_of_getElem? (i := 9) (by decide +kernel), List.mem_of_getElem? (i := 269) (by decide +kernel), List.mem_of_getElem? (i := 270) (by decide +kernel)⟩
theorem lw_p19 : lw_okq (⟨"FrozenBits", "tellKept", "()V"⟩, 7) := ⟨⟨by decide +kernel, by decide +kernel⟩, List.mem_of_getElem? (i := 9) (by decide +kernel), List.mem_of_getElem? (i := 286) (by decide +kernel), List.mem_of_getElem? (i := 287) (by decide +kernel)⟩
theorem lw_p20 : lw_okq (⟨"FrozenBits$FinedRows", "isAhead", "(III)Z"⟩, 3) := ⟨⟨by decide +kernel, by decide +kernel⟩, List.mem_of_getElem? (i := 53) (by decide +kernel), List.mem_of_getElem? (i := 298) (by decide +kernel), List.mem_of_getElem? (i := 299) (by decide +kernel)⟩
theorem lw_p21 : lw_okq (⟨"FrozenBits", "growBy", "(I)V"⟩, 7) := ⟨⟨by decide +kernel, by decide +kernel⟩, List.mem_of_getElem? (i := 9) (by decide +kernel), List.mem_of_getElem? (i := 302) (by decide +kernel), List.mem_of_getElem? (i := 303) (by decide +kernel)⟩
theorem lw_p22 : lw_okq (⟨"FrozenBits", "firstThatHolds", "()I"⟩, 7) := ⟨⟨by decide +kernel, by decide +kernel⟩, List.mem_of_getElem? (i := 9) (by decide +kernel), List.mem_of_getElem? (i := 320) (by decide +kernel), List.mem_of_getElem? (i := 321) (by decide +kernel)⟩
theorem lw_p23 : lw_okq (⟨"FrozenBits", "leastSetThatOpens", "(I)I"⟩, 7) := ⟨⟨by decide +kernel, by decide +kernel⟩, List.mem_of_getElem? (i := 9) (by decide +kernel), List.mem_of_getElem? (i := 336) (by decide +kernel), List.mem_of_getElem? (i := 337) (by decide +kernel)⟩
theorem lw_p24 : lw_okq (⟨"FrozenBits", "imageAt", "(I)LFrozenBits$Facts;"⟩, 7) := ⟨⟨by decide +kernel, by decide +kernel⟩, List.mem_of_getElem? (i := 9) (by decide +kernel), List.mem_of_getElem? (i := 344) (by decide +kernel), List.mem_of_getElem? (i := 345) (by decide +kernel)⟩
theorem lw_p25 : lw_okq (⟨"FrozenBits", "checkCounted", "(I)I"⟩, 7) := ⟨⟨by decide +kernel, by decide +kernel⟩, List.mem_of_getElem? (i := 9) (by decide +kernel), List.mem_of_getElem? (i := 361) (by decide +kernel), List.mem_of_getElem? (i := 362) (by decide +kernel)⟩
theorem lw_p26 : lw_okq (⟨"FrozenBitsModel", "isPlace", "(I)Z"⟩, 7) := ⟨⟨by decide +kernel, by decide +kernel⟩, List.mem_of_getElem? (i := 365) (by decide +kernel), List.mem_of_getElem? (i := 409) (by decide +kernel), List.mem_of_getElem? (i := 410) (by decide +kernel)⟩
theorem lw_p27 : lw_okq (⟨"FrozenBitsModel", "places", "()I"⟩, 7) := ⟨⟨by decide +kernel, by decide +kernel⟩, List.mem_of_getElem? (i := 365) (by decide +kernel), List.mem_of_getElem? (i := 413) (by decide +kernel), List.mem_of_getElem? (i := 414) (by decide +kernel)⟩
theorem lw_p28 : lw_okq (⟨"FrozenBitsModel", "upOf", "(I)J"⟩, 7) := ⟨⟨by decide +kernel, by decide +kernel⟩, List.mem_of_getElem? (i := 365) (by decide +kernel), List.mem_of_getElem? (i := 419) (by decide +kernel), List.mem_of_getElem? (i := 420) (by decide +kernel)⟩
theorem lw_p29 : lw_okq (⟨"FrozenBitsModel", "lowOfAll", "()J"⟩, 7) := ⟨⟨by decide +kernel, by decide +kernel⟩, List.mem_of_getElem? (i := 365) (by decide +kernel), List.mem_of_getElem? (i := 424) (by decide +kernel), List.mem_of_getElem? (i := 425) (by decide +kernel)⟩
theorem lw_p30 : lw_okq (⟨"FrozenBitsModel", "bestAt", "(I)I"⟩, 7) := ⟨⟨by decide +kernel, by decide +kernel⟩, List.mem_of_getElem? (i := 365) (by decide +kernel), List.mem_of_getElem? (i := 435) (by decide +kernel), List.mem_of_getElem? (i := 436) (by decide +kernel)⟩
theorem lw_p31 : lw_okq (⟨"FrozenBitsModel", "aheadOf", "(I)I"⟩, 7) := ⟨⟨by decide +kernel, by decide +kernel⟩, List.mem_of_getElem? (i := 365) (by decide +kernel), List.mem_of_getElem? (i := 439) (by decide +kernel), List.mem_of_getElem? (i := 440) (by decide +kernel)⟩
def lw_privs_2 : List (MethodName × Nat) := [(⟨"FrozenBits", "goSecond", "(II)V"⟩, 7), (⟨"FrozenBits", "fineOf", "(I)I"⟩, 7), (⟨"FrozenBits", "howManyToldOtherwise", "(I)I"⟩, 7), (⟨"FrozenBits", "tellKept", "()V"⟩, 7), (⟨"FrozenBits$FinedRows", "isAhead", "(III)Z"⟩, 3), (⟨"FrozenBits", "growBy", "(I)V"⟩, 7), (⟨"FrozenBits", "firstThatHolds", "()I"⟩, 7), (⟨"FrozenBits", "leastSetThatOpens", "(I)I"⟩, 7), (⟨"FrozenBits", "imageAt", "(I)LFrozenBits$Facts;"⟩, 7), (⟨"FrozenBits", "checkCounted", "(I)I"⟩, 7), (⟨"FrozenBitsModel", "isPlace", "(I)Z"⟩, 7), (⟨"FrozenBitsModel", "places", "()I"⟩, 7), (⟨"FrozenBitsModel", "upOf", "(I)J"⟩, 7), (⟨"FrozenBitsModel", "lowOfAll", "()J"⟩, 7), (⟨"FrozenBitsModel", "bestAt", "(I)I"⟩, 7), (⟨"FrozenBitsModel", "aheadOf", "(I)I"⟩, 7)]
theorem lw_r2 : ∀ q ∈ lw_privs_2, lw_okq q := List.forall_mem_cons.mpr ⟨lw_p16, List.forall_mem_cons.mpr ⟨lw_p17, List.forall_mem_cons.mpr ⟨lw_p18, List.forall_mem_cons.mpr ⟨lw_p19, List.forall_mem_cons.mpr ⟨lw_p20, List.forall_mem_cons.mpr ⟨lw_p21, List.forall_mem_cons.mpr ⟨lw_p22, List.forall_mem_cons.mpr ⟨lw_p23, List.forall_mem_cons.mpr ⟨lw_p24, List.forall_mem_cons.mpr ⟨lw_p25, List.forall_mem_cons.mpr ⟨lw_p26, List.forall_mem_cons.mpr ⟨lw_p27, List.forall_mem_cons.mpr ⟨lw_p28, List.forall_mem_cons.mpr ⟨lw_p29, List.forall_mem_cons.mpr ⟨lw_p30, List.forall_mem_cons.mpr ⟨lw_p31, fun _ h => absurd h List.not_mem_nil⟩⟩⟩⟩⟩⟩⟩⟩⟩⟩⟩⟩⟩⟩⟩⟩
theorem lw_p32 : lw_okq (⟨"FrozenBitsModel", "isRow", "(I)Z"⟩, 7) := ⟨⟨by decide +kernel, by decide +kernel⟩, List.mem_of_getElem? (i := 365) (by decide +kernel), List.mem_of_getElem? (i := 447) (by decide +kernel), List.mem_of_getElem? (i := 448) (by decide +kernel)⟩
theorem lw_p33 : lw_okq (⟨"FrozenBitsModel", "free", "()I"⟩, 7) := ⟨⟨by decide +kernel, by decide +kernel⟩, List.mem_of_getElem? (i := 365) (by decide +kernel), List.mem_of_getElem? (i := 451) (by decide +kernel), List.mem_of_getElem? (i := 452) (by decide +kernel)⟩
theorem lw_p34 : lw_okq (⟨"FrozenBitsModel", "codedAll", "(I)I"⟩, 7) := ⟨⟨by decide +kernel, by decide +kernel⟩, List.mem_of_getElem? (i := 365) (by decide +kernel), List.mem_of_getElem? (i := 466) (by decide +kernel), List.mem_of_getElem? (i := 467) (by decide +kernel)⟩
theorem lw_p35 : lw_okq (⟨"FrozenBitsModel", "wordOf", "(I)I"⟩, 7) := ⟨⟨by decide +kernel, by decide +kernel⟩, List.mem_of_getElem? (i := 365) (by decide +kernel), List.mem_of_getElem? (i := 477) (by decide +kernel), List.mem_of_getElem? (i := 478) (by decide +kernel)⟩
theorem lw_p36 : lw_okq (⟨"FrozenBitsModel", "readAll", "()I"⟩, 7) := ⟨⟨by decide +kernel, by decide +kernel⟩, List.mem_of_getElem? (i := 365) (by decide +kernel), List.mem_of_getElem? (i := 503) (by decide +kernel), List.mem_of_getElem? (i := 504) (by decide +kernel)⟩
theorem lw_p37 : lw_okq (⟨"FrozenBitsModel", "seen", "(II)I"⟩, 7) := ⟨⟨by decide +kernel, by decide +kernel⟩, List.mem_of_getElem? (i := 365) (by decide +kernel), List.mem_of_getElem? (i := 507) (by decide +kernel), List.mem_of_getElem? (i := 508) (by decide +kernel)⟩
theorem lw_p38 : lw_okq (⟨"FrozenBitsModel", "fineOfAll", "(I)I"⟩, 7) := ⟨⟨by decide +kernel, by decide +kernel⟩, List.mem_of_getElem? (i := 365) (by decide +kernel), List.mem_of_getElem? (i := 521) (by decide +kernel), List.mem_of_getElem? (i := 522) (by decide +kernel)⟩
theorem lw_p39 : lw_okq (⟨"FrozenBitsModel", "fineOf", "(II)I"⟩, 7) := ⟨⟨by decide +kernel, by decide +kernel⟩, List.mem_of_getElem? (i := 365) (by decide +kernel), List.mem_of_getElem? (i := 525) (by decide +kernel), List.mem_of_getElem? (i := 526) (by decide +kernel)⟩
theorem lw_p40 : lw_okq (⟨"FrozenBitsModel", "unlike", "(I)I"⟩, 7) := ⟨⟨by decide +kernel, by decide +kernel⟩, List.mem_of_getElem? (i := 365) (by decide +kernel), List.mem_of_getElem? (i := 529) (by decide +kernel), List.mem_of_getElem? (i := 530) (by decide +kernel)⟩
theorem lw_p41 : lw_okq (⟨"FrozenBitsModel", "holds", "(I)Z"⟩, 7) := ⟨⟨by decide +kernel, by decide +kernel⟩, List.mem_of_getElem? (i := 365) (by decide +kernel), List.mem_of_getElem? (i := 533) (by decide +kernel), List.mem_of_getElem? (i := 534) (by decide +kernel)⟩
theorem lw_p42 : lw_okq (⟨"FrozenBitsModel", "layKept", "()V"⟩, 7) := ⟨⟨by decide +kernel, by decide +kernel⟩, List.mem_of_getElem? (i := 365) (by decide +kernel), List.mem_of_getElem? (i := 545) (by decide +kernel), List.mem_of_getElem? (i := 546) (by decide +kernel)⟩
theorem lw_p43 : lw_okq (⟨"FrozenBitsModel", "sort", "()V"⟩, 7) := ⟨⟨by decide +kernel, by decide +kernel⟩, List.mem_of_getElem? (i := 365) (by decide +kernel), List.mem_of_getElem? (i := 549) (by decide +kernel), List.mem_of_getElem? (i := 550) (by decide +kernel)⟩
theorem lw_p44 : lw_okq (⟨"FrozenBitsModel", "isAhead", "(II)Z"⟩, 7) := ⟨⟨by decide +kernel, by decide +kernel⟩, List.mem_of_getElem? (i := 365) (by decide +kernel), List.mem_of_getElem? (i := 553) (by decide +kernel), List.mem_of_getElem? (i := 554) (by decide +kernel)⟩
theorem lw_p45 : lw_okq (⟨"FrozenBitsModel", "swap", "(II)V"⟩, 7) := ⟨⟨by decide +kernel, by decide +kernel⟩, List.mem_of_getElem? (i := 365) (by decide +kernel), List.mem_of_getElem? (i := 557) (by decide +kernel), List.mem_of_getElem? (i := 558) (by decide +kernel)⟩
theorem lw_p46 : lw_okq (⟨"FrozenBitsModel", "openFor", "(I)I"⟩, 7) := ⟨⟨by decide +kernel, by decide +kernel⟩, List.mem_of_getElem? (i := 365) (by decide +kernel), List.mem_of_getElem? (i := 573) (by decide +kernel), List.mem_of_getElem? (i := 574) (by decide +kernel)⟩
def lw_privs_3 : List (MethodName × Nat) := [(⟨"FrozenBitsModel", "isRow", "(I)Z"⟩, 7), (⟨"FrozenBitsModel", "free", "()I"⟩, 7), (⟨"FrozenBitsModel", "codedAll", "(I)I"⟩, 7), (⟨"FrozenBitsModel", "wordOf", "(I)I"⟩, 7), (⟨"FrozenBitsModel", "readAll", "()I"⟩, 7), (⟨"FrozenBitsModel", "seen", "(II)I"⟩, 7), (⟨"FrozenBitsModel", "fineOfAll", "(I)I"⟩, 7), (⟨"FrozenBitsModel", "fineOf", "(II)I"⟩, 7), (⟨"FrozenBitsModel", "unlike", "(I)I"⟩, 7), (⟨"FrozenBitsModel", "holds", "(I)Z"⟩, 7), (⟨"FrozenBitsModel", "layKept", "()V"⟩, 7), (⟨"FrozenBitsModel", "sort", "()V"⟩, 7), (⟨"FrozenBitsModel", "isAhead", "(II)Z"⟩, 7), (⟨"FrozenBitsModel", "swap", "(II)V"⟩, 7), (⟨"FrozenBitsModel", "openFor", "(I)I"⟩, 7)]
theorem lw_r3 : ∀ q ∈ lw_privs_3, lw_okq q := List.forall_mem_cons.mpr ⟨lw_p32, List.forall_mem_cons.mpr ⟨lw_p33, List.forall_mem_cons.mpr ⟨lw_p34, List.forall_mem_cons.mpr ⟨lw_p35, List.forall_mem_cons.mpr ⟨lw_p36, List.forall_mem_cons.mpr ⟨lw_p37, List.forall_mem_cons.mpr ⟨lw_p38, List.forall_mem_cons.mpr ⟨lw_p39, List.forall_mem_cons.mpr ⟨lw_p40, List.forall_mem_cons.mpr ⟨lw_p41, List.forall_mem_cons.mpr ⟨lw_p42, List.forall_mem_cons.mpr ⟨lw_p43, List.forall_mem_cons.mpr ⟨lw_p44, List.forall_mem_cons.mpr ⟨lw_p45, List.forall_mem_cons.mpr ⟨lw_p46, fun _ h => absurd h List.not_mem_nil⟩⟩⟩⟩⟩⟩⟩⟩⟩⟩⟩⟩⟩⟩⟩
def lw_privs : List (MethodName × Nat) := lw_privs_1 ++ (lw_privs_2 ++ (lw_privs_3))
def lw_tbl : List Cond := k2_sels lw_privs ++ tables_1
theorem lw_privs_ok : ∀ q ∈ lw_privs, lw_okq q := by
  show ∀ q ∈ lw_privs_1 ++ (lw_privs_2 ++ (lw_privs_3)), lw_okq q
  exact List.forall_mem_append.mpr ⟨lw_r1, List.forall_mem_append.mpr ⟨lw_r2, lw_r3⟩⟩
-- ===== end of PART A; then your names; then what follows =====
end
section
/-! ===== BEGIN words of one list among another's, by their places ===== -/
theorem goodIn_r {big : List Cond} (ws : List Cond) (ps : List Nat) (hp : ws = ps.filterMap (fun i => big[i]?)) (h : ws.all goodWord = true) : GoodIn big ws := by
  intro w hw
  have h1 := List.all_eq_true.mp h w hw
  rw [hp] at hw
  obtain ⟨i, -, hi⟩ := List.mem_filterMap.mp hw
  have hm : w ∈ big := by first | exact List.mem_of_getElem? hi | exact List.getElem?_mem hi
  exact ⟨hm, good_of_word h1⟩
theorem goodIn_app {big a b : List Cond} (ha : GoodIn big a) (hb : GoodIn big b) : GoodIn big (a ++ b) := fun w h => (List.mem_append.mp h).elim (ha w) (hb w)
theorem goodIn_ca {big a b : List Cond} {c : Cond} (ha : GoodIn big (c :: a)) (hb : GoodIn big b) : GoodIn big (c :: (a ++ b)) := fun w h => (List.mem_cons.mp h).elim (fun e => ha w (List.mem_cons.mpr (Or.inl e))) (fun h => (List.mem_append.mp h).elim (fun h => ha w (List.mem_cons.mpr (Or.inr h))) (hb w))
theorem goodIn_sub {big ws : List Cond} (hm : ∀ w ∈ ws, w ∈ big) (h : ws.all goodWord = true) : GoodIn big ws := fun w hw => ⟨hm w hw, good_of_word (List.all_eq_true.mp h w hw)⟩
/-! ===== END ===== -/

/-! ===== BEGIN printed: names, fields, word lists, decode rows ===== -/
def RX0 : String := "FrozenBits$Facts"
def TX0 : u_T := fun k => match k with
  | 0 => ("FrozenBits$Facts", "deep", "I", false)
  | 1 => ("FrozenBits$Facts", "top", "I", false)
  | 2 => ("FrozenBits$Facts", "of", "I", false)
  | 3 => ("FrozenBits$Facts", "frozen", "I", false)
  | 4 => ("FrozenBits$Facts", "most", "I", false)
  | 5 => ("FrozenBits$Facts", "measures", "[I", true)
  | _ => ("FrozenBits$Facts", "checks", "[I", true)
def tyX0 : Nat → FieldType := fun k => match k with
  | 0 => .int
  | 1 => .int
  | 2 => .int
  | 3 => .int
  | 4 => .int
  | 5 => .array .int
  | _ => .array .int
abbrev wsX00 : List Cond := u_ws RX0 TX0 7
theorem nmX0 : ∀ a, a < 7 → ∀ b, b < 7 → a ≠ b → (TX0 a).2.1 ≠ (TX0 b).2.1 := by decide +kernel
theorem tyX0_ok : ∀ k, k < 7 → parseFieldDescriptor (TX0 k).2.2.1 = some (tyX0 k) := by decide +kernel
abbrev cX0_init : ByteArray := prog_2_method_1_code
def yX0_init : MethodName := ⟨RX0, "<init>", "()V"⟩
abbrev cX0_beginAnew : ByteArray := prog_2_method_2_code
def yX0_beginAnew : MethodName := ⟨RX0, "beginAnew", "(I)V"⟩
abbrev cX0_copyFrom : ByteArray := prog_2_method_3_code
def yX0_copyFrom : MethodName := ⟨RX0, "copyFrom", "(LFrozenBits$Facts;)V"⟩
abbrev cX0_holds : ByteArray := prog_2_method_4_code
def yX0_holds : MethodName := ⟨RX0, "holds", "(I)Z"⟩
def RX1 : String := "FrozenBits$FinedRows"
def TX1 : u_T := fun k => match k with
  | 0 => ("FrozenBits$FinedRows", "rows", "[I", true)
  | 1 => ("FrozenBits$FinedRows", "fines", "[I", true)
  | _ => ("FrozenBits$FinedRows", "size", "I", false)
def tyX1 : Nat → FieldType := fun k => match k with
  | 0 => .array .int
  | 1 => .array .int
  | _ => .int
abbrev wsX10 : List Cond := u_ws RX1 TX1 3
theorem nmX1 : ∀ a, a < 3 → ∀ b, b < 3 → a ≠ b → (TX1 a).2.1 ≠ (TX1 b).2.1 := by decide +kernel
theorem tyX1_ok : ∀ k, k < 3 → parseFieldDescriptor (TX1 k).2.2.1 = some (tyX1 k) := by decide +kernel
abbrev cX1_init : ByteArray := prog_3_method_1_code
def yX1_init : MethodName := ⟨RX1, "<init>", "()V"⟩
abbrev cX1_clear : ByteArray := prog_3_method_2_code
def yX1_clear : MethodName := ⟨RX1, "clear", "()V"⟩
abbrev cX1_hasAt : ByteArray := prog_3_method_3_code
def yX1_hasAt : MethodName := ⟨RX1, "hasAt", "(I)Z"⟩
abbrev cX1_add : ByteArray := prog_3_method_4_code
def yX1_add : MethodName := ⟨RX1, "add", "(II)V"⟩
abbrev cX1_takeFirst : ByteArray := prog_3_method_5_code
def yX1_takeFirst : MethodName := ⟨RX1, "takeFirst", "(LFrozenBits$FinedRows;I)V"⟩
abbrev cX1_isAhead : ByteArray := prog_3_method_6_code
def yX1_isAhead : MethodName := ⟨RX1, "isAhead", "(III)Z"⟩
def RX2 : String := "FrozenBits"
def TX2 : u_T := fun k => match k with
  | 0 => ("FrozenBits", "now", "LFrozenBits$Facts;", true)
  | 1 => ("FrozenBits", "firstImage", "LFrozenBits$Facts;", true)
  | 2 => ("FrozenBits", "secondImage", "LFrozenBits$Facts;", true)
  | 3 => ("FrozenBits", "imagesKept", "I", false)
  | 4 => ("FrozenBits", "halves", "[I", true)
  | 5 => ("FrozenBits", "told", "LFrozenBits$FinedRows;", true)
  | _ => ("FrozenBits", "grown", "LFrozenBits$FinedRows;", true)
def tyX2 : Nat → FieldType := fun k => match k with
  | 0 => .object "FrozenBits$Facts"
  | 1 => .object "FrozenBits$Facts"
  | 2 => .object "FrozenBits$Facts"
  | 3 => .int
  | 4 => .array .int
  | 5 => .object "FrozenBits$FinedRows"
  | _ => .object "FrozenBits$FinedRows"
abbrev wsX20 : List Cond := u_ws RX2 TX2 7
theorem nmX2 : ∀ a, a < 7 → ∀ b, b < 7 → a ≠ b → (TX2 a).2.1 ≠ (TX2 b).2.1 := by decide +kernel
theorem tyX2_ok : ∀ k, k < 7 → parseFieldDescriptor (TX2 k).2.2.1 = some (tyX2 k) := by decide +kernel
abbrev cX2_init : ByteArray := prog_1_method_1_code
def yX2_init : MethodName := ⟨RX2, "<init>", "()V"⟩
abbrev cX2_deep : ByteArray := prog_1_method_2_code
def yX2_deep : MethodName := ⟨RX2, "deep", "(I)I"⟩
abbrev cX2_loss : ByteArray := prog_1_method_3_code
def yX2_loss : MethodName := ⟨RX2, "loss", "(II)I"⟩
abbrev cX2_split : ByteArray := prog_1_method_4_code
def yX2_split : MethodName := ⟨RX2, "split", "(II)J"⟩
abbrev cX2_rank : ByteArray := prog_1_method_5_code
def yX2_rank : MethodName := ⟨RX2, "rank", "(II)I"⟩
abbrev cX2_freeze : ByteArray := prog_1_method_6_code
def yX2_freeze : MethodName := ⟨RX2, "freeze", "(I)I"⟩
abbrev cX2_best : ByteArray := prog_1_method_7_code
def yX2_best : MethodName := ⟨RX2, "best", "(I)I"⟩
abbrev cX2_coded : ByteArray := prog_1_method_8_code
def yX2_coded : MethodName := ⟨RX2, "coded", "(I)I"⟩
abbrev cX2_word : ByteArray := prog_1_method_9_code
def yX2_word : MethodName := ⟨RX2, "word", "(I)I"⟩
abbrev cX2_light : ByteArray := prog_1_method_10_code
def yX2_light : MethodName := ⟨RX2, "light", "(I)I"⟩
abbrev cX2_put : ByteArray := prog_1_method_11_code
def yX2_put : MethodName := ⟨RX2, "put", "(II)I"⟩
abbrev cX2_hear : ByteArray := prog_1_method_12_code
def yX2_hear : MethodName := ⟨RX2, "hear", "(II)I"⟩
abbrev cX2_spoil : ByteArray := prog_1_method_13_code
def yX2_spoil : MethodName := ⟨RX2, "spoil", "(II)I"⟩
abbrev cX2_measure : ByteArray := prog_1_method_14_code
def yX2_measure : MethodName := ⟨RX2, "measure", "(II)I"⟩
abbrev cX2_read : ByteArray := prog_1_method_15_code
def yX2_read : MethodName := ⟨RX2, "read", "(I)I"⟩
abbrev cX2_most : ByteArray := prog_1_method_16_code
def yX2_most : MethodName := ⟨RX2, "most", "(I)I"⟩
abbrev cX2_kept : ByteArray := prog_1_method_17_code
def yX2_kept : MethodName := ⟨RX2, "kept", "(II)I"⟩
abbrev cX2_chosen : ByteArray := prog_1_method_18_code
def yX2_chosen : MethodName := ⟨RX2, "chosen", "(I)I"⟩
abbrev cX2_check : ByteArray := prog_1_method_19_code
def yX2_check : MethodName := ⟨RX2, "check", "(II)I"⟩
abbrev cX2_open : ByteArray := prog_1_method_20_code
def yX2_open : MethodName := ⟨RX2, "open", "(II)I"⟩
abbrev cX2_fragile : ByteArray := prog_1_method_21_code
def yX2_fragile : MethodName := ⟨RX2, "fragile", "(I)I"⟩
abbrev cX2_image : ByteArray := prog_1_method_22_code
def yX2_image : MethodName := ⟨RX2, "image", "(I)I"⟩
abbrev cX2_restore : ByteArray := prog_1_method_23_code
def yX2_restore : MethodName := ⟨RX2, "restore", "(I)I"⟩
abbrev cX2_count : ByteArray := prog_1_method_24_code
def yX2_count : MethodName := ⟨RX2, "count", "(I)I"⟩
abbrev cX2_places : ByteArray := prog_1_method_25_code
def yX2_places : MethodName := ⟨RX2, "places", "()I"⟩
abbrev cX2_isPlace : ByteArray := prog_1_method_26_code
def yX2_isPlace : MethodName := ⟨RX2, "isPlace", "(I)Z"⟩
abbrev cX2_isSet : ByteArray := prog_1_method_27_code
def yX2_isSet : MethodName := ⟨RX2, "isSet", "(I)Z"⟩
abbrev cX2_has : ByteArray := prog_1_method_28_code
def yX2_has : MethodName := ⟨RX2, "has", "(II)Z"⟩
abbrev cX2_isFree : ByteArray := prog_1_method_29_code
def yX2_isFree : MethodName := ⟨RX2, "isFree", "(I)Z"⟩
abbrev cX2_howManyFree : ByteArray := prog_1_method_30_code
def yX2_howManyFree : MethodName := ⟨RX2, "howManyFree", "()I"⟩
abbrev cX2_nextOfSize : ByteArray := prog_1_method_31_code
def yX2_nextOfSize : MethodName := ⟨RX2, "nextOfSize", "(I)I"⟩
abbrev cX2_upperLoss : ByteArray := prog_1_method_32_code
def yX2_upperLoss : MethodName := ⟨RX2, "upperLoss", "(I)J"⟩
abbrev cX2_lowerLoss : ByteArray := prog_1_method_33_code
def yX2_lowerLoss : MethodName := ⟨RX2, "lowerLoss", "()J"⟩
abbrev cX2_commonDivisor : ByteArray := prog_1_method_34_code
def yX2_commonDivisor : MethodName := ⟨RX2, "commonDivisor", "(JJ)J"⟩
abbrev cX2_howManyBetter : ByteArray := prog_1_method_35_code
def yX2_howManyBetter : MethodName := ⟨RX2, "howManyBetter", "(I)I"⟩
abbrev cX2_bitOfRank : ByteArray := prog_1_method_36_code
def yX2_bitOfRank : MethodName := ⟨RX2, "bitOfRank", "(I)I"⟩
abbrev cX2_codedOf : ByteArray := prog_1_method_37_code
def yX2_codedOf : MethodName := ⟨RX2, "codedOf", "(I)I"⟩
abbrev cX2_leastWeight : ByteArray := prog_1_method_38_code
def yX2_leastWeight : MethodName := ⟨RX2, "leastWeight", "()I"⟩
abbrev cX2_isSentAsWord : ByteArray := prog_1_method_39_code
def yX2_isSentAsWord : MethodName := ⟨RX2, "isSentAsWord", "(I)Z"⟩
abbrev cX2_howManySets : ByteArray := prog_1_method_40_code
def yX2_howManySets : MethodName := ⟨RX2, "howManySets", "(IZ)I"⟩
abbrev cX2_seenOf : ByteArray := prog_1_method_41_code
def yX2_seenOf : MethodName := ⟨RX2, "seenOf", "(II)I"⟩
abbrev cX2_goFirst : ByteArray := prog_1_method_42_code
def yX2_goFirst : MethodName := ⟨RX2, "goFirst", "(I)V"⟩
abbrev cX2_goSecond : ByteArray := prog_1_method_43_code
def yX2_goSecond : MethodName := ⟨RX2, "goSecond", "(II)V"⟩
abbrev cX2_weaker : ByteArray := prog_1_method_44_code
def yX2_weaker : MethodName := ⟨RX2, "weaker", "(II)I"⟩
abbrev cX2_rowRead : ByteArray := prog_1_method_45_code
def yX2_rowRead : MethodName := ⟨RX2, "rowRead", "()I"⟩
abbrev cX2_fineOf : ByteArray := prog_1_method_46_code
def yX2_fineOf : MethodName := ⟨RX2, "fineOf", "(I)I"⟩
abbrev cX2_fineOfBit : ByteArray := prog_1_method_47_code
def yX2_fineOfBit : MethodName := ⟨RX2, "fineOfBit", "(IZ)I"⟩
abbrev cX2_howManyToldOtherwise : ByteArray := prog_1_method_48_code
def yX2_howManyToldOtherwise : MethodName := ⟨RX2, "howManyToldOtherwise", "(I)I"⟩
abbrev cX2_tellKept : ByteArray := prog_1_method_49_code
def yX2_tellKept : MethodName := ⟨RX2, "tellKept", "()V"⟩
abbrev cX2_growBy : ByteArray := prog_1_method_50_code
def yX2_growBy : MethodName := ⟨RX2, "growBy", "(I)V"⟩
abbrev cX2_firstThatHolds : ByteArray := prog_1_method_51_code
def yX2_firstThatHolds : MethodName := ⟨RX2, "firstThatHolds", "()I"⟩
abbrev cX2_openFor : ByteArray := prog_1_method_52_code
def yX2_openFor : MethodName := ⟨RX2, "openFor", "(I)I"⟩
abbrev cX2_leastSetThatOpens : ByteArray := prog_1_method_53_code
def yX2_leastSetThatOpens : MethodName := ⟨RX2, "leastSetThatOpens", "(I)I"⟩
abbrev cX2_imageAt : ByteArray := prog_1_method_54_code
def yX2_imageAt : MethodName := ⟨RX2, "imageAt", "(I)LFrozenBits$Facts;"⟩
abbrev cX2_checkCounted : ByteArray := prog_1_method_55_code
def yX2_checkCounted : MethodName := ⟨RX2, "checkCounted", "(I)I"⟩
def RX3 : String := "FrozenBitsModel"
def TX3 : u_T := fun k => match k with
  | 0 => ("FrozenBitsModel", "state", "[I", true)
  | 1 => ("FrozenBitsModel", "images", "[I", true)
  | 2 => ("FrozenBitsModel", "isKept", "[Z", true)
  | 3 => ("FrozenBitsModel", "left", "[I", true)
  | 4 => ("FrozenBitsModel", "rows", "[I", true)
  | 5 => ("FrozenBitsModel", "fines", "[I", true)
  | _ => ("FrozenBitsModel", "kept", "I", false)
def tyX3 : Nat → FieldType := fun k => match k with
  | 0 => .array .int
  | 1 => .array .int
  | 2 => .array .boolean
  | 3 => .array .int
  | 4 => .array .int
  | 5 => .array .int
  | _ => .int
abbrev wsX30 : List Cond := u_ws RX3 TX3 7
theorem nmX3 : ∀ a, a < 7 → ∀ b, b < 7 → a ≠ b → (TX3 a).2.1 ≠ (TX3 b).2.1 := by decide +kernel
theorem tyX3_ok : ∀ k, k < 7 → parseFieldDescriptor (TX3 k).2.2.1 = some (tyX3 k) := by decide +kernel
abbrev cX3_init : ByteArray := prog_5_method_1_code
def yX3_init : MethodName := ⟨RX3, "<init>", "()V"⟩
abbrev cX3_in : ByteArray := prog_5_method_2_code
def yX3_in : MethodName := ⟨RX3, "in", "(III)Z"⟩
abbrev cX3_places : ByteArray := prog_5_method_3_code
def yX3_places : MethodName := ⟨RX3, "places", "()I"⟩
abbrev cX3_isPlace : ByteArray := prog_5_method_4_code
def yX3_isPlace : MethodName := ⟨RX3, "isPlace", "(I)Z"⟩
abbrev cX3_isRow : ByteArray := prog_5_method_5_code
def yX3_isRow : MethodName := ⟨RX3, "isRow", "(I)Z"⟩
abbrev cX3_size : ByteArray := prog_5_method_6_code
def yX3_size : MethodName := ⟨RX3, "size", "(I)I"⟩
abbrev cX3_plain : ByteArray := prog_5_method_7_code
def yX3_plain : MethodName := ⟨RX3, "plain", "(I)I"⟩
abbrev cX3_free : ByteArray := prog_5_method_8_code
def yX3_free : MethodName := ⟨RX3, "free", "()I"⟩
abbrev cX3_deep : ByteArray := prog_5_method_9_code
def yX3_deep : MethodName := ⟨RX3, "deep", "(I)I"⟩
abbrev cX3_loss : ByteArray := prog_5_method_10_code
def yX3_loss : MethodName := ⟨RX3, "loss", "(II)I"⟩
abbrev cX3_lowOfAll : ByteArray := prog_5_method_11_code
def yX3_lowOfAll : MethodName := ⟨RX3, "lowOfAll", "()J"⟩
abbrev cX3_upOf : ByteArray := prog_5_method_12_code
def yX3_upOf : MethodName := ⟨RX3, "upOf", "(I)J"⟩
abbrev cX3_common : ByteArray := prog_5_method_13_code
def yX3_common : MethodName := ⟨RX3, "common", "(JJ)J"⟩
abbrev cX3_split : ByteArray := prog_5_method_14_code
def yX3_split : MethodName := ⟨RX3, "split", "(II)J"⟩
abbrev cX3_aheadOf : ByteArray := prog_5_method_15_code
def yX3_aheadOf : MethodName := ⟨RX3, "aheadOf", "(I)I"⟩
abbrev cX3_bestAt : ByteArray := prog_5_method_16_code
def yX3_bestAt : MethodName := ⟨RX3, "bestAt", "(I)I"⟩
abbrev cX3_rank : ByteArray := prog_5_method_17_code
def yX3_rank : MethodName := ⟨RX3, "rank", "(II)I"⟩
abbrev cX3_freeze : ByteArray := prog_5_method_18_code
def yX3_freeze : MethodName := ⟨RX3, "freeze", "(I)I"⟩
abbrev cX3_best : ByteArray := prog_5_method_19_code
def yX3_best : MethodName := ⟨RX3, "best", "(I)I"⟩
abbrev cX3_codedOf : ByteArray := prog_5_method_20_code
def yX3_codedOf : MethodName := ⟨RX3, "codedOf", "(III)I"⟩
abbrev cX3_codedAll : ByteArray := prog_5_method_21_code
def yX3_codedAll : MethodName := ⟨RX3, "codedAll", "(I)I"⟩
abbrev cX3_coded : ByteArray := prog_5_method_22_code
def yX3_coded : MethodName := ⟨RX3, "coded", "(I)I"⟩
abbrev cX3_wordOf : ByteArray := prog_5_method_23_code
def yX3_wordOf : MethodName := ⟨RX3, "wordOf", "(I)I"⟩
abbrev cX3_word : ByteArray := prog_5_method_24_code
def yX3_word : MethodName := ⟨RX3, "word", "(I)I"⟩
abbrev cX3_light : ByteArray := prog_5_method_25_code
def yX3_light : MethodName := ⟨RX3, "light", "(I)I"⟩
abbrev cX3_put : ByteArray := prog_5_method_26_code
def yX3_put : MethodName := ⟨RX3, "put", "(II)I"⟩
abbrev cX3_hear : ByteArray := prog_5_method_27_code
def yX3_hear : MethodName := ⟨RX3, "hear", "(II)I"⟩
abbrev cX3_spoil : ByteArray := prog_5_method_28_code
def yX3_spoil : MethodName := ⟨RX3, "spoil", "(II)I"⟩
abbrev cX3_lesser : ByteArray := prog_5_method_29_code
def yX3_lesser : MethodName := ⟨RX3, "lesser", "(II)I"⟩
abbrev cX3_seen : ByteArray := prog_5_method_30_code
def yX3_seen : MethodName := ⟨RX3, "seen", "(II)I"⟩
abbrev cX3_readAll : ByteArray := prog_5_method_31_code
def yX3_readAll : MethodName := ⟨RX3, "readAll", "()I"⟩
abbrev cX3_measure : ByteArray := prog_5_method_32_code
def yX3_measure : MethodName := ⟨RX3, "measure", "(II)I"⟩
abbrev cX3_fineOf : ByteArray := prog_5_method_33_code
def yX3_fineOf : MethodName := ⟨RX3, "fineOf", "(II)I"⟩
abbrev cX3_fineOfAll : ByteArray := prog_5_method_34_code
def yX3_fineOfAll : MethodName := ⟨RX3, "fineOfAll", "(I)I"⟩
abbrev cX3_unlike : ByteArray := prog_5_method_35_code
def yX3_unlike : MethodName := ⟨RX3, "unlike", "(I)I"⟩
abbrev cX3_holds : ByteArray := prog_5_method_36_code
def yX3_holds : MethodName := ⟨RX3, "holds", "(I)Z"⟩
abbrev cX3_read : ByteArray := prog_5_method_37_code
def yX3_read : MethodName := ⟨RX3, "read", "(I)I"⟩
abbrev cX3_most : ByteArray := prog_5_method_38_code
def yX3_most : MethodName := ⟨RX3, "most", "(I)I"⟩
abbrev cX3_isAhead : ByteArray := prog_5_method_39_code
def yX3_isAhead : MethodName := ⟨RX3, "isAhead", "(II)Z"⟩
abbrev cX3_swap : ByteArray := prog_5_method_40_code
def yX3_swap : MethodName := ⟨RX3, "swap", "(II)V"⟩
abbrev cX3_sort : ByteArray := prog_5_method_41_code
def yX3_sort : MethodName := ⟨RX3, "sort", "()V"⟩
abbrev cX3_layKept : ByteArray := prog_5_method_42_code
def yX3_layKept : MethodName := ⟨RX3, "layKept", "()V"⟩
abbrev cX3_kept : ByteArray := prog_5_method_43_code
def yX3_kept : MethodName := ⟨RX3, "kept", "(II)I"⟩
abbrev cX3_chosen : ByteArray := prog_5_method_44_code
def yX3_chosen : MethodName := ⟨RX3, "chosen", "(I)I"⟩
abbrev cX3_check : ByteArray := prog_5_method_45_code
def yX3_check : MethodName := ⟨RX3, "check", "(II)I"⟩
abbrev cX3_openFor : ByteArray := prog_5_method_46_code
def yX3_openFor : MethodName := ⟨RX3, "openFor", "(I)I"⟩
abbrev cX3_open : ByteArray := prog_5_method_47_code
def yX3_open : MethodName := ⟨RX3, "open", "(II)I"⟩
abbrev cX3_fragile : ByteArray := prog_5_method_48_code
def yX3_fragile : MethodName := ⟨RX3, "fragile", "(I)I"⟩
abbrev cX3_image : ByteArray := prog_5_method_49_code
def yX3_image : MethodName := ⟨RX3, "image", "(I)I"⟩
abbrev cX3_restore : ByteArray := prog_5_method_50_code
def yX3_restore : MethodName := ⟨RX3, "restore", "(I)I"⟩
abbrev cX3_count : ByteArray := prog_5_method_51_code
def yX3_count : MethodName := ⟨RX3, "count", "(I)I"⟩
def RJ6 : String := "java/lang/Integer"
def TJ6 : u_T := fun k => match k with
  | _ => ("", "", "", false)
def tyJ6 : Nat → FieldType := fun k => match k with
  | _ => .int
abbrev wsJ60 : List Cond := u_ws RJ6 TJ6 0
theorem nmJ6 : ∀ a, a < 0 → ∀ b, b < 0 → a ≠ b → (TJ6 a).2.1 ≠ (TJ6 b).2.1 := by decide +kernel
theorem tyJ6_ok : ∀ k, k < 0 → parseFieldDescriptor (TJ6 k).2.2.1 = some (tyJ6 k) := by decide +kernel
abbrev cJ6_bitCount_0f7a4 : ByteArray := prog_6_method_49_code
def yJ6_bitCount_0f7a4 : MethodName := ⟨RJ6, "bitCount", "(I)I"⟩
def RJ9 : String := "java/lang/Math"
def TJ9 : u_T := fun k => match k with
  | _ => ("", "", "", false)
def tyJ9 : Nat → FieldType := fun k => match k with
  | _ => .int
abbrev wsJ90 : List Cond := u_ws RJ9 TJ9 0
theorem nmJ9 : ∀ a, a < 0 → ∀ b, b < 0 → a ≠ b → (TJ9 a).2.1 ≠ (TJ9 b).2.1 := by decide +kernel
theorem tyJ9_ok : ∀ k, k < 0 → parseFieldDescriptor (TJ9 k).2.2.1 = some (tyJ9 k) := by decide +kernel
abbrev cJ9_abs_0f7a4 : ByteArray := prog_7_method_59_code
def yJ9_abs_0f7a4 : MethodName := ⟨RJ9, "abs", "(I)I"⟩
abbrev cJ9_max_7cf53 : ByteArray := prog_7_method_65_code
def yJ9_max_7cf53 : MethodName := ⟨RJ9, "max", "(II)I"⟩
abbrev cJ9_min_7cf53 : ByteArray := prog_7_method_69_code
def yJ9_min_7cf53 : MethodName := ⟨RJ9, "min", "(II)I"⟩
def RJ10 : String := "java/lang/System"
def TJ10 : u_T := fun k => match k with
  | _ => ("", "", "", false)
def tyJ10 : Nat → FieldType := fun k => match k with
  | _ => .int
abbrev wsJ100 : List Cond := u_ws RJ10 TJ10 0
theorem nmJ10 : ∀ a, a < 0 → ∀ b, b < 0 → a ≠ b → (TJ10 a).2.1 ≠ (TJ10 b).2.1 := by decide +kernel
theorem tyJ10_ok : ∀ k, k < 0 → parseFieldDescriptor (TJ10 k).2.2.1 = some (tyJ10 k) := by decide +kernel
def RL : String := "FrozenBitsLaw"
abbrev cL_law : ByteArray := code
def yL_law : MethodName := ⟨RL, "law", "([I)Z"⟩
def wsX0_init : List Cond := .code yX0_init cX0_init 1 none :: ([.methodLink RX0 3 objectInit, .instanceMethod objectInit, .code objectInit ⟨#[0xb1]⟩ 1 none, .fieldLink RX0 9 "FrozenBits$Facts" "deep" "I", .fieldLink RX0 15 "FrozenBits$Facts" "top" "I", .fieldLink RX0 18 "FrozenBits$Facts" "of" "I", .fieldLink RX0 21 "FrozenBits$Facts" "frozen" "I", .fieldLink RX0 24 "FrozenBits$Facts" "most" "I", .arrayClass .int, .fieldLink RX0 27 "FrozenBits$Facts" "measures" "[I", .fieldLink RX0 31 "FrozenBits$Facts" "checks" "[I"] ++ wsX00)
def wsX0_beginAnew : List Cond := .code yX0_beginAnew cX0_beginAnew 3 none :: ([.fieldLink RX0 9 "FrozenBits$Facts" "deep" "I", .fieldLink RX0 21 "FrozenBits$Facts" "frozen" "I", .fieldLink RX0 27 "FrozenBits$Facts" "measures" "[I", .fieldLink RX0 31 "FrozenBits$Facts" "checks" "[I"] ++ wsX00)
def wsX0_copyFrom : List Cond := .code yX0_copyFrom cX0_copyFrom 2 none :: ([.fieldLink RX0 9 "FrozenBits$Facts" "deep" "I", .fieldLink RX0 15 "FrozenBits$Facts" "top" "I", .fieldLink RX0 18 "FrozenBits$Facts" "of" "I", .fieldLink RX0 21 "FrozenBits$Facts" "frozen" "I", .fieldLink RX0 24 "FrozenBits$Facts" "most" "I", .fieldLink RX0 27 "FrozenBits$Facts" "measures" "[I", .methodLink RX0 34 arraycopyName, .native arraycopyName, .static arraycopyName, .initialized "java/lang/System", .fieldLink RX0 31 "FrozenBits$Facts" "checks" "[I"] ++ wsX00)
def wsJ6_bitCount_0f7a4 : List Cond := .code yJ6_bitCount_0f7a4 cJ6_bitCount_0f7a4 1 (some .int) :: ([.constant RJ6 265 (1431655765), .constant RJ6 266 (858993459), .constant RJ6 267 (252645135)])
def wsX0_holds : List Cond := .code yX0_holds cX0_holds 3 (some .boolean) :: ([.fieldLink RX0 31 "FrozenBits$Facts" "checks" "[I", .methodLink RX0 40 yJ6_bitCount_0f7a4, .static yJ6_bitCount_0f7a4, .initialized RJ6, .code yJ6_bitCount_0f7a4 cJ6_bitCount_0f7a4 1 (some .int), .constant RJ6 265 (1431655765), .constant RJ6 266 (858993459), .constant RJ6 267 (252645135)] ++ wsX00)
def wsX1_init : List Cond := .code yX1_init cX1_init 1 none :: ([.methodLink RX1 3 objectInit, .instanceMethod objectInit, .code objectInit ⟨#[0xb1]⟩ 1 none, .arrayClass .int, .fieldLink RX1 11 "FrozenBits$FinedRows" "rows" "[I", .fieldLink RX1 15 "FrozenBits$FinedRows" "fines" "[I", .fieldLink RX1 18 "FrozenBits$FinedRows" "size" "I"] ++ wsX10)
def wsX1_clear : List Cond := .code yX1_clear cX1_clear 1 none :: ([.fieldLink RX1 18 "FrozenBits$FinedRows" "size" "I"] ++ wsX10)
def wsX1_hasAt : List Cond := .code yX1_hasAt cX1_hasAt 2 (some .boolean) :: ([.fieldLink RX1 18 "FrozenBits$FinedRows" "size" "I"] ++ wsX10)
def wsX1_isAhead : List Cond := .code yX1_isAhead cX1_isAhead 4 (some .boolean) :: ([.fieldLink RX1 15 "FrozenBits$FinedRows" "fines" "[I", .fieldLink RX1 11 "FrozenBits$FinedRows" "rows" "[I"] ++ wsX10)
def wsX1_add : List Cond := .code yX1_add cX1_add 4 none :: ([.fieldLink RX1 18 "FrozenBits$FinedRows" "size" "I", .fieldLink RX1 11 "FrozenBits$FinedRows" "rows" "[I", .fieldLink RX1 15 "FrozenBits$FinedRows" "fines" "[I", .methodLink RX1 22 yX1_isAhead, .instanceMethod yX1_isAhead, .selects RX1 yX1_isAhead yX1_isAhead, .initialized RX1, .code yX1_isAhead cX1_isAhead 4 (some .boolean)] ++ wsX10)
def wsX1_takeFirst : List Cond := .code yX1_takeFirst cX1_takeFirst 3 none :: ([.fieldLink RX1 18 "FrozenBits$FinedRows" "size" "I", .methodLink RX1 26 Lib.Math.min.name, .static Lib.Math.min.name, .initialized "java/lang/Math", .code Lib.Math.min.name Lib.Math.min.code 2 (some .int), .fieldLink RX1 11 "FrozenBits$FinedRows" "rows" "[I", .methodLink RX1 32 arraycopyName, .native arraycopyName, .static arraycopyName, .initialized "java/lang/System", .fieldLink RX1 15 "FrozenBits$FinedRows" "fines" "[I"] ++ wsX10)
def wsX2_init_r1 : List Cond := [Cond.methodLink RX2 1 objectInit, Cond.instanceMethod objectInit, Cond.code objectInit ⟨#[0xb1]⟩ 1 none, Cond.classLink RX2 7 RX0, Cond.instantiable RX0 7, Cond.initialized RX0, Cond.fieldLink RX2 10 "FrozenBits" "now" "LFrozenBits$Facts;", Cond.fieldLink RX2 16 "FrozenBits" "firstImage" "LFrozenBits$Facts;", Cond.fieldLink RX2 19 "FrozenBits" "secondImage" "LFrozenBits$Facts;", Cond.fieldLink RX2 22 "FrozenBits" "imagesKept" "I", Cond.arrayClass .int, Cond.fieldLink RX2 26 "FrozenBits" "halves" "[I", Cond.classLink RX2 30 RX1, Cond.instantiable RX1 3, Cond.initialized RX1, Cond.fieldLink RX2 33 "FrozenBits" "told" "LFrozenBits$FinedRows;", Cond.fieldLink RX2 37 "FrozenBits" "grown" "LFrozenBits$FinedRows;", Cond.instanceMethod yX0_init, Cond.code yX0_init cX0_init 1 none, Cond.methodLink RX0 3 objectInit, Cond.fieldLink RX0 9 "FrozenBits$Facts" "deep" "I", Cond.fieldLink RX0 15 "FrozenBits$Facts" "top" "I", Cond.fieldLink RX0 18 "FrozenBits$Facts" "of" "I", Cond.fieldLink RX0 21 "FrozenBits$Facts" "frozen" "I"]
def wsX2_init_r2 : List Cond := [Cond.fieldLink RX0 24 "FrozenBits$Facts" "most" "I", Cond.fieldLink RX0 27 "FrozenBits$Facts" "measures" "[I", Cond.fieldLink RX0 31 "FrozenBits$Facts" "checks" "[I", Cond.instanceMethod yX1_init, Cond.code yX1_init cX1_init 1 none, Cond.methodLink RX1 3 objectInit, Cond.fieldLink RX1 11 "FrozenBits$FinedRows" "rows" "[I", Cond.fieldLink RX1 15 "FrozenBits$FinedRows" "fines" "[I", Cond.fieldLink RX1 18 "FrozenBits$FinedRows" "size" "I"]
def wsX2_init : List Cond := .code yX2_init cX2_init 1 none :: ((wsX2_init_r1 ++ wsX2_init_r2) ++ wsX00 ++ wsX20 ++ wsX10)
def wsX2_deep : List Cond := .code yX2_deep cX2_deep 3 (some .int) :: ([.fieldLink RX2 10 "FrozenBits" "now" "LFrozenBits$Facts;", .methodLink RX2 43 yX0_beginAnew, .instanceMethod yX0_beginAnew, .selects RX0 yX0_beginAnew yX0_beginAnew, .initialized RX0, .code yX0_beginAnew cX0_beginAnew 3 none, .fieldLink RX0 9 "FrozenBits$Facts" "deep" "I", .fieldLink RX0 21 "FrozenBits$Facts" "frozen" "I", .fieldLink RX0 27 "FrozenBits$Facts" "measures" "[I", .fieldLink RX0 31 "FrozenBits$Facts" "checks" "[I"] ++ wsX20 ++ wsX00)
def wsX2_loss : List Cond := .code yX2_loss cX2_loss 4 (some .int) :: ([.fieldLink RX2 10 "FrozenBits" "now" "LFrozenBits$Facts;"] ++ wsX20 ++ wsX00)
def wsX2_places : List Cond := .code yX2_places cX2_places 1 (some .int) :: ([.fieldLink RX2 10 "FrozenBits" "now" "LFrozenBits$Facts;"] ++ wsX20 ++ wsX00)
def wsX2_isPlace : List Cond := .code yX2_isPlace cX2_isPlace 2 (some .boolean) :: ([.methodLink RX2 90 yX2_places, .instanceMethod yX2_places, .selects RX2 yX2_places yX2_places, .initialized RX2, .code yX2_places cX2_places 1 (some .int), .fieldLink RX2 10 "FrozenBits" "now" "LFrozenBits$Facts;"] ++ wsX20 ++ wsX00)
def wsX2_upperLoss : List Cond := .code yX2_upperLoss cX2_upperLoss 8 (some .long) :: ([.fieldLink RX2 10 "FrozenBits" "now" "LFrozenBits$Facts;", .constantLong RX2 182 (2), .methodLink RX2 90 yX2_places, .instanceMethod yX2_places, .selects RX2 yX2_places yX2_places, .initialized RX2, .code yX2_places cX2_places 1 (some .int)] ++ wsX20 ++ wsX00)
def wsX2_lowerLoss : List Cond := .code yX2_lowerLoss cX2_lowerLoss 4 (some .long) :: ([.fieldLink RX2 10 "FrozenBits" "now" "LFrozenBits$Facts;"] ++ wsX20 ++ wsX00)
def wsX2_commonDivisor : List Cond := .code yX2_commonDivisor cX2_commonDivisor 11 (some .long) :: ([])
def wsX2_split : List Cond := .code yX2_split cX2_split 9 (some .long) :: ([.constantLong RX2 57 (-1), .constantLong RX2 59 (-2), .methodLink RX2 53 yX2_isPlace, .instanceMethod yX2_isPlace, .selects RX2 yX2_isPlace yX2_isPlace, .initialized RX2, .code yX2_isPlace cX2_isPlace 2 (some .boolean), .methodLink RX2 90 yX2_places, .instanceMethod yX2_places, .selects RX2 yX2_places yX2_places, .code yX2_places cX2_places 1 (some .int), .fieldLink RX2 10 "FrozenBits" "now" "LFrozenBits$Facts;", .methodLink RX2 61 yX2_upperLoss, .instanceMethod yX2_upperLoss, .selects RX2 yX2_upperLoss yX2_upperLoss, .code yX2_upperLoss cX2_upperLoss 8 (some .long), .constantLong RX2 182 (2), .methodLink RX2 65 yX2_lowerLoss, .instanceMethod yX2_lowerLoss, .selects RX2 yX2_lowerLoss yX2_lowerLoss, .code yX2_lowerLoss cX2_lowerLoss 4 (some .long), .methodLink RX2 69 yX2_commonDivisor, .static yX2_commonDivisor, .code yX2_commonDivisor cX2_commonDivisor 11 (some .long)] ++ wsX20 ++ wsX00)
def wsX2_howManyBetter : List Cond := .code yX2_howManyBetter cX2_howManyBetter 8 (some .int) :: ([.methodLink RX2 61 yX2_upperLoss, .instanceMethod yX2_upperLoss, .selects RX2 yX2_upperLoss yX2_upperLoss, .initialized RX2, .code yX2_upperLoss cX2_upperLoss 8 (some .long), .fieldLink RX2 10 "FrozenBits" "now" "LFrozenBits$Facts;", .constantLong RX2 182 (2), .methodLink RX2 90 yX2_places, .instanceMethod yX2_places, .selects RX2 yX2_places yX2_places, .code yX2_places cX2_places 1 (some .int)] ++ wsX20 ++ wsX00)
def wsX2_bitOfRank : List Cond := .code yX2_bitOfRank cX2_bitOfRank 3 (some .int) :: ([.methodLink RX2 90 yX2_places, .instanceMethod yX2_places, .selects RX2 yX2_places yX2_places, .initialized RX2, .code yX2_places cX2_places 1 (some .int), .fieldLink RX2 10 "FrozenBits" "now" "LFrozenBits$Facts;", .methodLink RX2 77 yX2_howManyBetter, .instanceMethod yX2_howManyBetter, .selects RX2 yX2_howManyBetter yX2_howManyBetter, .code yX2_howManyBetter cX2_howManyBetter 8 (some .int), .methodLink RX2 61 yX2_upperLoss, .instanceMethod yX2_upperLoss, .selects RX2 yX2_upperLoss yX2_upperLoss, .code yX2_upperLoss cX2_upperLoss 8 (some .long), .constantLong RX2 182 (2)] ++ wsX20 ++ wsX00)
def wsX2_rank : List Cond := .code yX2_rank cX2_rank 3 (some .int) :: ([.methodLink RX2 53 yX2_isPlace, .instanceMethod yX2_isPlace, .selects RX2 yX2_isPlace yX2_isPlace, .initialized RX2, .code yX2_isPlace cX2_isPlace 2 (some .boolean), .methodLink RX2 90 yX2_places, .instanceMethod yX2_places, .selects RX2 yX2_places yX2_places, .code yX2_places cX2_places 1 (some .int), .fieldLink RX2 10 "FrozenBits" "now" "LFrozenBits$Facts;", .methodLink RX2 73 yX2_bitOfRank, .instanceMethod yX2_bitOfRank, .selects RX2 yX2_bitOfRank yX2_bitOfRank, .code yX2_bitOfRank cX2_bitOfRank 3 (some .int), .methodLink RX2 77 yX2_howManyBetter, .instanceMethod yX2_howManyBetter, .selects RX2 yX2_howManyBetter yX2_howManyBetter, .code yX2_howManyBetter cX2_howManyBetter 8 (some .int), .methodLink RX2 61 yX2_upperLoss, .instanceMethod yX2_upperLoss, .selects RX2 yX2_upperLoss yX2_upperLoss, .code yX2_upperLoss cX2_upperLoss 8 (some .long), .constantLong RX2 182 (2)] ++ wsX20 ++ wsX00)
def wsX2_isSet : List Cond := .code yX2_isSet cX2_isSet 2 (some .boolean) :: ([.methodLink RX2 90 yX2_places, .instanceMethod yX2_places, .selects RX2 yX2_places yX2_places, .initialized RX2, .code yX2_places cX2_places 1 (some .int), .fieldLink RX2 10 "FrozenBits" "now" "LFrozenBits$Facts;"] ++ wsX20 ++ wsX00)
def wsX2_howManyFree : List Cond := .code yX2_howManyFree cX2_howManyFree 1 (some .int) :: ([.fieldLink RX2 10 "FrozenBits" "now" "LFrozenBits$Facts;", .methodLink RX2 90 yX2_places, .instanceMethod yX2_places, .selects RX2 yX2_places yX2_places, .initialized RX2, .code yX2_places cX2_places 1 (some .int), .methodLink RX2 158 yJ6_bitCount_0f7a4, .static yJ6_bitCount_0f7a4, .initialized RJ6, .code yJ6_bitCount_0f7a4 cJ6_bitCount_0f7a4 1 (some .int), .constant RJ6 265 (1431655765), .constant RJ6 266 (858993459), .constant RJ6 267 (252645135)] ++ wsX20 ++ wsX00)
def wsX2_freeze : List Cond := .code yX2_freeze cX2_freeze 2 (some .int) :: ([.fieldLink RX2 10 "FrozenBits" "now" "LFrozenBits$Facts;", .methodLink RX2 80 yX2_isSet, .instanceMethod yX2_isSet, .selects RX2 yX2_isSet yX2_isSet, .initialized RX2, .code yX2_isSet cX2_isSet 2 (some .boolean), .methodLink RX2 90 yX2_places, .instanceMethod yX2_places, .selects RX2 yX2_places yX2_places, .code yX2_places cX2_places 1 (some .int), .methodLink RX2 86 yX2_howManyFree, .instanceMethod yX2_howManyFree, .selects RX2 yX2_howManyFree yX2_howManyFree, .code yX2_howManyFree cX2_howManyFree 1 (some .int), .methodLink RX2 158 yJ6_bitCount_0f7a4, .static yJ6_bitCount_0f7a4, .initialized RJ6, .code yJ6_bitCount_0f7a4 cJ6_bitCount_0f7a4 1 (some .int), .constant RJ6 265 (1431655765), .constant RJ6 266 (858993459), .constant RJ6 267 (252645135)] ++ wsX20 ++ wsX00)
def wsX2_best : List Cond := .code yX2_best cX2_best 4 (some .int) :: ([.fieldLink RX2 10 "FrozenBits" "now" "LFrozenBits$Facts;", .methodLink RX2 90 yX2_places, .instanceMethod yX2_places, .selects RX2 yX2_places yX2_places, .initialized RX2, .code yX2_places cX2_places 1 (some .int), .methodLink RX2 77 yX2_howManyBetter, .instanceMethod yX2_howManyBetter, .selects RX2 yX2_howManyBetter yX2_howManyBetter, .code yX2_howManyBetter cX2_howManyBetter 8 (some .int), .methodLink RX2 61 yX2_upperLoss, .instanceMethod yX2_upperLoss, .selects RX2 yX2_upperLoss yX2_upperLoss, .code yX2_upperLoss cX2_upperLoss 8 (some .long), .constantLong RX2 182 (2)] ++ wsX20 ++ wsX00)
def wsX2_codedOf : List Cond := .code yX2_codedOf cX2_codedOf 3 (some .int) :: ([.fieldLink RX2 184 "FrozenBits" "FIRST_OF_PAIRS" "[I"])
def wsX2_coded : List Cond := .code yX2_coded cX2_coded 2 (some .int) :: ([.methodLink RX2 80 yX2_isSet, .instanceMethod yX2_isSet, .selects RX2 yX2_isSet yX2_isSet, .initialized RX2, .code yX2_isSet cX2_isSet 2 (some .boolean), .methodLink RX2 90 yX2_places, .instanceMethod yX2_places, .selects RX2 yX2_places yX2_places, .code yX2_places cX2_places 1 (some .int), .fieldLink RX2 10 "FrozenBits" "now" "LFrozenBits$Facts;", .methodLink RX2 93 yX2_codedOf, .static yX2_codedOf, .code yX2_codedOf cX2_codedOf 3 (some .int), .fieldLink RX2 184 "FrozenBits" "FIRST_OF_PAIRS" "[I"] ++ wsX20 ++ wsX00)
def wsX2_has : List Cond := .code yX2_has cX2_has 2 (some .boolean) :: ([])
def wsX2_isFree : List Cond := .code yX2_isFree cX2_isFree 2 (some .boolean) :: ([.fieldLink RX2 10 "FrozenBits" "now" "LFrozenBits$Facts;", .methodLink RX2 111 yX2_has, .static yX2_has, .initialized RX2, .code yX2_has cX2_has 2 (some .boolean)] ++ wsX20 ++ wsX00)
def wsX2_word : List Cond := .code yX2_word cX2_word 5 (some .int) :: ([.methodLink RX2 86 yX2_howManyFree, .instanceMethod yX2_howManyFree, .selects RX2 yX2_howManyFree yX2_howManyFree, .initialized RX2, .code yX2_howManyFree cX2_howManyFree 1 (some .int), .fieldLink RX2 10 "FrozenBits" "now" "LFrozenBits$Facts;", .methodLink RX2 90 yX2_places, .instanceMethod yX2_places, .selects RX2 yX2_places yX2_places, .code yX2_places cX2_places 1 (some .int), .methodLink RX2 158 yJ6_bitCount_0f7a4, .static yJ6_bitCount_0f7a4, .initialized RJ6, .code yJ6_bitCount_0f7a4 cJ6_bitCount_0f7a4 1 (some .int), .constant RJ6 265 (1431655765), .constant RJ6 266 (858993459), .constant RJ6 267 (252645135), .methodLink RX2 96 yX2_isFree, .instanceMethod yX2_isFree, .selects RX2 yX2_isFree yX2_isFree, .code yX2_isFree cX2_isFree 2 (some .boolean), .methodLink RX2 111 yX2_has, .static yX2_has, .code yX2_has cX2_has 2 (some .boolean)] ++ wsX20 ++ wsX00)
def wsX2_leastWeight_r1 : List Cond := [Cond.methodLink RX2 187 Lib.Math.min.name, Cond.static Lib.Math.min.name, Cond.initialized "java/lang/Math", Cond.code Lib.Math.min.name Lib.Math.min.code 2 (some .int), Cond.methodLink RX2 90 yX2_places, Cond.instanceMethod yX2_places, Cond.selects RX2 yX2_places yX2_places, Cond.initialized RX2, Cond.code yX2_places cX2_places 1 (some .int), Cond.fieldLink RX2 10 "FrozenBits" "now" "LFrozenBits$Facts;", Cond.methodLink RX2 96 yX2_isFree, Cond.instanceMethod yX2_isFree, Cond.selects RX2 yX2_isFree yX2_isFree, Cond.code yX2_isFree cX2_isFree 2 (some .boolean), Cond.methodLink RX2 111 yX2_has, Cond.static yX2_has, Cond.code yX2_has cX2_has 2 (some .boolean), Cond.methodLink RX2 93 yX2_codedOf, Cond.static yX2_codedOf, Cond.code yX2_codedOf cX2_codedOf 3 (some .int), Cond.fieldLink RX2 184 "FrozenBits" "FIRST_OF_PAIRS" "[I", Cond.methodLink RX2 158 yJ6_bitCount_0f7a4, Cond.static yJ6_bitCount_0f7a4, Cond.initialized RJ6]
def wsX2_leastWeight_r2 : List Cond := [Cond.code yJ6_bitCount_0f7a4 cJ6_bitCount_0f7a4 1 (some .int), Cond.constant RJ6 265 (1431655765), Cond.constant RJ6 266 (858993459), Cond.constant RJ6 267 (252645135)]
def wsX2_leastWeight : List Cond := .code yX2_leastWeight cX2_leastWeight 3 (some .int) :: ((wsX2_leastWeight_r1 ++ wsX2_leastWeight_r2) ++ wsX20 ++ wsX00)
def wsX2_isSentAsWord : List Cond := .code yX2_isSentAsWord cX2_isSentAsWord 2 (some .boolean) :: ([.fieldLink RX2 10 "FrozenBits" "now" "LFrozenBits$Facts;", .methodLink RX2 93 yX2_codedOf, .static yX2_codedOf, .initialized RX2, .code yX2_codedOf cX2_codedOf 3 (some .int), .fieldLink RX2 184 "FrozenBits" "FIRST_OF_PAIRS" "[I"] ++ wsX20 ++ wsX00)
def wsX2_openFor : List Cond := .code yX2_openFor cX2_openFor 8 (some .int) :: ([.fieldLink RX2 184 "FrozenBits" "FIRST_OF_PAIRS" "[I", .fieldLink RX2 10 "FrozenBits" "now" "LFrozenBits$Facts;"] ++ wsX20 ++ wsX00)
def wsX2_nextOfSize : List Cond := .code yX2_nextOfSize cX2_nextOfSize 4 (some .int) :: ([.methodLink RX2 177 Lib.Math.max.name, .static Lib.Math.max.name, .initialized "java/lang/Math", .code Lib.Math.max.name Lib.Math.max.code 2 (some .int)])
def wsX2_howManySets_r1 : List Cond := [Cond.methodLink RX2 90 yX2_places, Cond.instanceMethod yX2_places, Cond.selects RX2 yX2_places yX2_places, Cond.initialized RX2, Cond.code yX2_places cX2_places 1 (some .int), Cond.fieldLink RX2 10 "FrozenBits" "now" "LFrozenBits$Facts;", Cond.methodLink RX2 190 yX2_isSentAsWord, Cond.instanceMethod yX2_isSentAsWord, Cond.selects RX2 yX2_isSentAsWord yX2_isSentAsWord, Cond.code yX2_isSentAsWord cX2_isSentAsWord 2 (some .boolean), Cond.methodLink RX2 93 yX2_codedOf, Cond.static yX2_codedOf, Cond.code yX2_codedOf cX2_codedOf 3 (some .int), Cond.fieldLink RX2 184 "FrozenBits" "FIRST_OF_PAIRS" "[I", Cond.methodLink RX2 155 yX2_openFor, Cond.instanceMethod yX2_openFor, Cond.selects RX2 yX2_openFor yX2_openFor, Cond.code yX2_openFor cX2_openFor 8 (some .int), Cond.methodLink RX2 193 yX2_nextOfSize, Cond.static yX2_nextOfSize, Cond.code yX2_nextOfSize cX2_nextOfSize 4 (some .int), Cond.methodLink RX2 177 Lib.Math.max.name, Cond.static Lib.Math.max.name, Cond.initialized "java/lang/Math"]
def wsX2_howManySets_r2 : List Cond := [Cond.code Lib.Math.max.name Lib.Math.max.code 2 (some .int)]
def wsX2_howManySets : List Cond := .code yX2_howManySets cX2_howManySets 7 (some .int) :: ((wsX2_howManySets_r1 ++ wsX2_howManySets_r2) ++ wsX20 ++ wsX00)
def wsX2_light_r1 : List Cond := [Cond.methodLink RX2 86 yX2_howManyFree, Cond.instanceMethod yX2_howManyFree, Cond.selects RX2 yX2_howManyFree yX2_howManyFree, Cond.initialized RX2, Cond.code yX2_howManyFree cX2_howManyFree 1 (some .int), Cond.fieldLink RX2 10 "FrozenBits" "now" "LFrozenBits$Facts;", Cond.methodLink RX2 90 yX2_places, Cond.instanceMethod yX2_places, Cond.selects RX2 yX2_places yX2_places, Cond.code yX2_places cX2_places 1 (some .int), Cond.methodLink RX2 158 yJ6_bitCount_0f7a4, Cond.static yJ6_bitCount_0f7a4, Cond.initialized RJ6, Cond.code yJ6_bitCount_0f7a4 cJ6_bitCount_0f7a4 1 (some .int), Cond.constant RJ6 265 (1431655765), Cond.constant RJ6 266 (858993459), Cond.constant RJ6 267 (252645135), Cond.methodLink RX2 99 yX2_leastWeight, Cond.instanceMethod yX2_leastWeight, Cond.selects RX2 yX2_leastWeight yX2_leastWeight, Cond.code yX2_leastWeight cX2_leastWeight 3 (some .int), Cond.methodLink RX2 187 Lib.Math.min.name, Cond.static Lib.Math.min.name, Cond.initialized "java/lang/Math"]
def wsX2_light_r2 : List Cond := [Cond.code Lib.Math.min.name Lib.Math.min.code 2 (some .int), Cond.methodLink RX2 96 yX2_isFree, Cond.instanceMethod yX2_isFree, Cond.selects RX2 yX2_isFree yX2_isFree, Cond.code yX2_isFree cX2_isFree 2 (some .boolean), Cond.methodLink RX2 111 yX2_has, Cond.static yX2_has, Cond.code yX2_has cX2_has 2 (some .boolean), Cond.methodLink RX2 93 yX2_codedOf, Cond.static yX2_codedOf, Cond.code yX2_codedOf cX2_codedOf 3 (some .int), Cond.fieldLink RX2 184 "FrozenBits" "FIRST_OF_PAIRS" "[I", Cond.methodLink RX2 102 yX2_howManySets, Cond.instanceMethod yX2_howManySets, Cond.selects RX2 yX2_howManySets yX2_howManySets, Cond.code yX2_howManySets cX2_howManySets 7 (some .int), Cond.methodLink RX2 190 yX2_isSentAsWord, Cond.instanceMethod yX2_isSentAsWord, Cond.selects RX2 yX2_isSentAsWord yX2_isSentAsWord, Cond.code yX2_isSentAsWord cX2_isSentAsWord 2 (some .boolean), Cond.methodLink RX2 155 yX2_openFor, Cond.instanceMethod yX2_openFor, Cond.selects RX2 yX2_openFor yX2_openFor, Cond.code yX2_openFor cX2_openFor 8 (some .int)]
def wsX2_light_r3 : List Cond := [Cond.methodLink RX2 193 yX2_nextOfSize, Cond.static yX2_nextOfSize, Cond.code yX2_nextOfSize cX2_nextOfSize 4 (some .int), Cond.methodLink RX2 177 Lib.Math.max.name, Cond.static Lib.Math.max.name, Cond.code Lib.Math.max.name Lib.Math.max.code 2 (some .int)]
def wsX2_light : List Cond := .code yX2_light cX2_light 3 (some .int) :: ((wsX2_light_r1 ++ (wsX2_light_r2 ++ wsX2_light_r3)) ++ wsX20 ++ wsX00)
def wsX2_put : List Cond := .code yX2_put cX2_put 4 (some .int) :: ([.constant RX2 106 (-1000001), .constant RX2 107 (-1000002), .fieldLink RX2 10 "FrozenBits" "now" "LFrozenBits$Facts;", .methodLink RX2 53 yX2_isPlace, .instanceMethod yX2_isPlace, .selects RX2 yX2_isPlace yX2_isPlace, .initialized RX2, .code yX2_isPlace cX2_isPlace 2 (some .boolean), .methodLink RX2 90 yX2_places, .instanceMethod yX2_places, .selects RX2 yX2_places yX2_places, .code yX2_places cX2_places 1 (some .int)] ++ wsX20 ++ wsX00)
def wsX2_hear : List Cond := .code yX2_hear cX2_hear 5 (some .int) :: ([.fieldLink RX2 10 "FrozenBits" "now" "LFrozenBits$Facts;", .methodLink RX2 80 yX2_isSet, .instanceMethod yX2_isSet, .selects RX2 yX2_isSet yX2_isSet, .initialized RX2, .code yX2_isSet cX2_isSet 2 (some .boolean), .methodLink RX2 90 yX2_places, .instanceMethod yX2_places, .selects RX2 yX2_places yX2_places, .code yX2_places cX2_places 1 (some .int), .methodLink RX2 93 yX2_codedOf, .static yX2_codedOf, .code yX2_codedOf cX2_codedOf 3 (some .int), .fieldLink RX2 184 "FrozenBits" "FIRST_OF_PAIRS" "[I", .methodLink RX2 111 yX2_has, .static yX2_has, .code yX2_has cX2_has 2 (some .boolean)] ++ wsX20 ++ wsX00)
def wsX2_spoil : List Cond := .code yX2_spoil cX2_spoil 5 (some .int) :: ([.fieldLink RX2 10 "FrozenBits" "now" "LFrozenBits$Facts;", .methodLink RX2 80 yX2_isSet, .instanceMethod yX2_isSet, .selects RX2 yX2_isSet yX2_isSet, .initialized RX2, .code yX2_isSet cX2_isSet 2 (some .boolean), .methodLink RX2 90 yX2_places, .instanceMethod yX2_places, .selects RX2 yX2_places yX2_places, .code yX2_places cX2_places 1 (some .int), .methodLink RX2 111 yX2_has, .static yX2_has, .code yX2_has cX2_has 2 (some .boolean)] ++ wsX20 ++ wsX00)
def wsX2_weaker : List Cond := .code yX2_weaker cX2_weaker 3 (some .int) :: ([.methodLink RX2 212 Lib.Math.abs.name, .static Lib.Math.abs.name, .initialized "java/lang/Math", .code Lib.Math.abs.name Lib.Math.abs.code 1 (some .int), .methodLink RX2 187 Lib.Math.min.name, .static Lib.Math.min.name, .code Lib.Math.min.name Lib.Math.min.code 2 (some .int)])
def wsX2_goFirst : List Cond := .code yX2_goFirst cX2_goFirst 3 none :: ([.fieldLink RX2 26 "FrozenBits" "halves" "[I", .methodLink RX2 209 yX2_weaker, .static yX2_weaker, .initialized RX2, .code yX2_weaker cX2_weaker 3 (some .int), .methodLink RX2 212 Lib.Math.abs.name, .static Lib.Math.abs.name, .initialized "java/lang/Math", .code Lib.Math.abs.name Lib.Math.abs.code 1 (some .int), .methodLink RX2 187 Lib.Math.min.name, .static Lib.Math.min.name, .code Lib.Math.min.name Lib.Math.min.code 2 (some .int)] ++ wsX20)
def wsX2_goSecond : List Cond := .code yX2_goSecond cX2_goSecond 5 none :: ([.fieldLink RX2 26 "FrozenBits" "halves" "[I", .methodLink RX2 111 yX2_has, .static yX2_has, .initialized RX2, .code yX2_has cX2_has 2 (some .boolean)] ++ wsX20)
def wsX2_seenOf_r1 : List Cond := [Cond.fieldLink RX2 10 "FrozenBits" "now" "LFrozenBits$Facts;", Cond.fieldLink RX2 26 "FrozenBits" "halves" "[I", Cond.methodLink RX2 196 arraycopyName, Cond.native arraycopyName, Cond.static arraycopyName, Cond.initialized "java/lang/System", Cond.methodLink RX2 90 yX2_places, Cond.instanceMethod yX2_places, Cond.selects RX2 yX2_places yX2_places, Cond.initialized RX2, Cond.code yX2_places cX2_places 1 (some .int), Cond.methodLink RX2 202 yX2_goFirst, Cond.instanceMethod yX2_goFirst, Cond.selects RX2 yX2_goFirst yX2_goFirst, Cond.code yX2_goFirst cX2_goFirst 3 none, Cond.methodLink RX2 209 yX2_weaker, Cond.static yX2_weaker, Cond.code yX2_weaker cX2_weaker 3 (some .int), Cond.methodLink RX2 212 Lib.Math.abs.name, Cond.static Lib.Math.abs.name, Cond.initialized "java/lang/Math", Cond.code Lib.Math.abs.name Lib.Math.abs.code 1 (some .int), Cond.methodLink RX2 187 Lib.Math.min.name, Cond.static Lib.Math.min.name]
def wsX2_seenOf_r2 : List Cond := [Cond.code Lib.Math.min.name Lib.Math.min.code 2 (some .int), Cond.methodLink RX2 93 yX2_codedOf, Cond.static yX2_codedOf, Cond.code yX2_codedOf cX2_codedOf 3 (some .int), Cond.fieldLink RX2 184 "FrozenBits" "FIRST_OF_PAIRS" "[I", Cond.methodLink RX2 205 yX2_goSecond, Cond.instanceMethod yX2_goSecond, Cond.selects RX2 yX2_goSecond yX2_goSecond, Cond.code yX2_goSecond cX2_goSecond 5 none, Cond.methodLink RX2 111 yX2_has, Cond.static yX2_has, Cond.code yX2_has cX2_has 2 (some .boolean)]
def wsX2_seenOf : List Cond := .code yX2_seenOf cX2_seenOf 5 (some .int) :: ((wsX2_seenOf_r1 ++ wsX2_seenOf_r2) ++ wsX20 ++ wsX00)
def wsX2_rowRead_r1 : List Cond := [Cond.methodLink RX2 90 yX2_places, Cond.instanceMethod yX2_places, Cond.selects RX2 yX2_places yX2_places, Cond.initialized RX2, Cond.code yX2_places cX2_places 1 (some .int), Cond.fieldLink RX2 10 "FrozenBits" "now" "LFrozenBits$Facts;", Cond.methodLink RX2 96 yX2_isFree, Cond.instanceMethod yX2_isFree, Cond.selects RX2 yX2_isFree yX2_isFree, Cond.code yX2_isFree cX2_isFree 2 (some .boolean), Cond.methodLink RX2 111 yX2_has, Cond.static yX2_has, Cond.code yX2_has cX2_has 2 (some .boolean), Cond.methodLink RX2 118 yX2_seenOf, Cond.instanceMethod yX2_seenOf, Cond.selects RX2 yX2_seenOf yX2_seenOf, Cond.code yX2_seenOf cX2_seenOf 5 (some .int), Cond.fieldLink RX2 26 "FrozenBits" "halves" "[I", Cond.methodLink RX2 196 arraycopyName, Cond.native arraycopyName, Cond.static arraycopyName, Cond.initialized "java/lang/System", Cond.methodLink RX2 202 yX2_goFirst, Cond.instanceMethod yX2_goFirst]
def wsX2_rowRead_r2 : List Cond := [Cond.selects RX2 yX2_goFirst yX2_goFirst, Cond.code yX2_goFirst cX2_goFirst 3 none, Cond.methodLink RX2 209 yX2_weaker, Cond.static yX2_weaker, Cond.code yX2_weaker cX2_weaker 3 (some .int), Cond.methodLink RX2 212 Lib.Math.abs.name, Cond.static Lib.Math.abs.name, Cond.initialized "java/lang/Math", Cond.code Lib.Math.abs.name Lib.Math.abs.code 1 (some .int), Cond.methodLink RX2 187 Lib.Math.min.name, Cond.static Lib.Math.min.name, Cond.code Lib.Math.min.name Lib.Math.min.code 2 (some .int), Cond.methodLink RX2 93 yX2_codedOf, Cond.static yX2_codedOf, Cond.code yX2_codedOf cX2_codedOf 3 (some .int), Cond.fieldLink RX2 184 "FrozenBits" "FIRST_OF_PAIRS" "[I", Cond.methodLink RX2 205 yX2_goSecond, Cond.instanceMethod yX2_goSecond, Cond.selects RX2 yX2_goSecond yX2_goSecond, Cond.code yX2_goSecond cX2_goSecond 5 none]
def wsX2_rowRead : List Cond := .code yX2_rowRead cX2_rowRead 3 (some .int) :: ((wsX2_rowRead_r1 ++ wsX2_rowRead_r2) ++ wsX20 ++ wsX00)
def wsX2_measure_r1 : List Cond := [Cond.constant RX2 106 (-1000001), Cond.constant RX2 107 (-1000002), Cond.fieldLink RX2 10 "FrozenBits" "now" "LFrozenBits$Facts;", Cond.methodLink RX2 53 yX2_isPlace, Cond.instanceMethod yX2_isPlace, Cond.selects RX2 yX2_isPlace yX2_isPlace, Cond.initialized RX2, Cond.code yX2_isPlace cX2_isPlace 2 (some .boolean), Cond.methodLink RX2 90 yX2_places, Cond.instanceMethod yX2_places, Cond.selects RX2 yX2_places yX2_places, Cond.code yX2_places cX2_places 1 (some .int), Cond.methodLink RX2 115 yX2_rowRead, Cond.instanceMethod yX2_rowRead, Cond.selects RX2 yX2_rowRead yX2_rowRead, Cond.code yX2_rowRead cX2_rowRead 3 (some .int), Cond.methodLink RX2 96 yX2_isFree, Cond.instanceMethod yX2_isFree, Cond.selects RX2 yX2_isFree yX2_isFree, Cond.code yX2_isFree cX2_isFree 2 (some .boolean), Cond.methodLink RX2 111 yX2_has, Cond.static yX2_has, Cond.code yX2_has cX2_has 2 (some .boolean), Cond.methodLink RX2 118 yX2_seenOf]
def wsX2_measure_r2 : List Cond := [Cond.instanceMethod yX2_seenOf, Cond.selects RX2 yX2_seenOf yX2_seenOf, Cond.code yX2_seenOf cX2_seenOf 5 (some .int), Cond.fieldLink RX2 26 "FrozenBits" "halves" "[I", Cond.methodLink RX2 196 arraycopyName, Cond.native arraycopyName, Cond.static arraycopyName, Cond.initialized "java/lang/System", Cond.methodLink RX2 202 yX2_goFirst, Cond.instanceMethod yX2_goFirst, Cond.selects RX2 yX2_goFirst yX2_goFirst, Cond.code yX2_goFirst cX2_goFirst 3 none, Cond.methodLink RX2 209 yX2_weaker, Cond.static yX2_weaker, Cond.code yX2_weaker cX2_weaker 3 (some .int), Cond.methodLink RX2 212 Lib.Math.abs.name, Cond.static Lib.Math.abs.name, Cond.initialized "java/lang/Math", Cond.code Lib.Math.abs.name Lib.Math.abs.code 1 (some .int), Cond.methodLink RX2 187 Lib.Math.min.name, Cond.static Lib.Math.min.name, Cond.code Lib.Math.min.name Lib.Math.min.code 2 (some .int), Cond.methodLink RX2 93 yX2_codedOf, Cond.static yX2_codedOf]
def wsX2_measure_r3 : List Cond := [Cond.code yX2_codedOf cX2_codedOf 3 (some .int), Cond.fieldLink RX2 184 "FrozenBits" "FIRST_OF_PAIRS" "[I", Cond.methodLink RX2 205 yX2_goSecond, Cond.instanceMethod yX2_goSecond, Cond.selects RX2 yX2_goSecond yX2_goSecond, Cond.code yX2_goSecond cX2_goSecond 5 none]
def wsX2_measure : List Cond := .code yX2_measure cX2_measure 3 (some .int) :: ((wsX2_measure_r1 ++ (wsX2_measure_r2 ++ wsX2_measure_r3)) ++ wsX20 ++ wsX00)
def wsX2_fineOfBit : List Cond := .code yX2_fineOfBit cX2_fineOfBit 2 (some .int) :: ([.methodLink RX2 177 Lib.Math.max.name, .static Lib.Math.max.name, .initialized "java/lang/Math", .code Lib.Math.max.name Lib.Math.max.code 2 (some .int)])
def wsX2_fineOf_r1 : List Cond := [Cond.methodLink RX2 90 yX2_places, Cond.instanceMethod yX2_places, Cond.selects RX2 yX2_places yX2_places, Cond.initialized RX2, Cond.code yX2_places cX2_places 1 (some .int), Cond.fieldLink RX2 10 "FrozenBits" "now" "LFrozenBits$Facts;", Cond.methodLink RX2 118 yX2_seenOf, Cond.instanceMethod yX2_seenOf, Cond.selects RX2 yX2_seenOf yX2_seenOf, Cond.code yX2_seenOf cX2_seenOf 5 (some .int), Cond.fieldLink RX2 26 "FrozenBits" "halves" "[I", Cond.methodLink RX2 196 arraycopyName, Cond.native arraycopyName, Cond.static arraycopyName, Cond.initialized "java/lang/System", Cond.methodLink RX2 202 yX2_goFirst, Cond.instanceMethod yX2_goFirst, Cond.selects RX2 yX2_goFirst yX2_goFirst, Cond.code yX2_goFirst cX2_goFirst 3 none, Cond.methodLink RX2 209 yX2_weaker, Cond.static yX2_weaker, Cond.code yX2_weaker cX2_weaker 3 (some .int), Cond.methodLink RX2 212 Lib.Math.abs.name, Cond.static Lib.Math.abs.name]
def wsX2_fineOf_r2 : List Cond := [Cond.initialized "java/lang/Math", Cond.code Lib.Math.abs.name Lib.Math.abs.code 1 (some .int), Cond.methodLink RX2 187 Lib.Math.min.name, Cond.static Lib.Math.min.name, Cond.code Lib.Math.min.name Lib.Math.min.code 2 (some .int), Cond.methodLink RX2 93 yX2_codedOf, Cond.static yX2_codedOf, Cond.code yX2_codedOf cX2_codedOf 3 (some .int), Cond.fieldLink RX2 184 "FrozenBits" "FIRST_OF_PAIRS" "[I", Cond.methodLink RX2 205 yX2_goSecond, Cond.instanceMethod yX2_goSecond, Cond.selects RX2 yX2_goSecond yX2_goSecond, Cond.code yX2_goSecond cX2_goSecond 5 none, Cond.methodLink RX2 111 yX2_has, Cond.static yX2_has, Cond.code yX2_has cX2_has 2 (some .boolean), Cond.methodLink RX2 215 yX2_fineOfBit, Cond.static yX2_fineOfBit, Cond.code yX2_fineOfBit cX2_fineOfBit 2 (some .int), Cond.methodLink RX2 177 Lib.Math.max.name, Cond.static Lib.Math.max.name, Cond.code Lib.Math.max.name Lib.Math.max.code 2 (some .int)]
def wsX2_fineOf : List Cond := .code yX2_fineOf cX2_fineOf 4 (some .int) :: ((wsX2_fineOf_r1 ++ wsX2_fineOf_r2) ++ wsX20 ++ wsX00)
def wsX2_howManyToldOtherwise : List Cond := .code yX2_howManyToldOtherwise cX2_howManyToldOtherwise 5 (some .int) :: ([.fieldLink RX2 10 "FrozenBits" "now" "LFrozenBits$Facts;", .methodLink RX2 90 yX2_places, .instanceMethod yX2_places, .selects RX2 yX2_places yX2_places, .initialized RX2, .code yX2_places cX2_places 1 (some .int), .methodLink RX2 111 yX2_has, .static yX2_has, .code yX2_has cX2_has 2 (some .boolean)] ++ wsX20 ++ wsX00)
def wsX2_read_r1 : List Cond := [Cond.fieldLink RX2 10 "FrozenBits" "now" "LFrozenBits$Facts;", Cond.methodLink RX2 115 yX2_rowRead, Cond.instanceMethod yX2_rowRead, Cond.selects RX2 yX2_rowRead yX2_rowRead, Cond.initialized RX2, Cond.code yX2_rowRead cX2_rowRead 3 (some .int), Cond.methodLink RX2 90 yX2_places, Cond.instanceMethod yX2_places, Cond.selects RX2 yX2_places yX2_places, Cond.code yX2_places cX2_places 1 (some .int), Cond.methodLink RX2 96 yX2_isFree, Cond.instanceMethod yX2_isFree, Cond.selects RX2 yX2_isFree yX2_isFree, Cond.code yX2_isFree cX2_isFree 2 (some .boolean), Cond.methodLink RX2 111 yX2_has, Cond.static yX2_has, Cond.code yX2_has cX2_has 2 (some .boolean), Cond.methodLink RX2 118 yX2_seenOf, Cond.instanceMethod yX2_seenOf, Cond.selects RX2 yX2_seenOf yX2_seenOf, Cond.code yX2_seenOf cX2_seenOf 5 (some .int), Cond.fieldLink RX2 26 "FrozenBits" "halves" "[I", Cond.methodLink RX2 196 arraycopyName, Cond.native arraycopyName]
def wsX2_read_r2 : List Cond := [Cond.static arraycopyName, Cond.initialized "java/lang/System", Cond.methodLink RX2 202 yX2_goFirst, Cond.instanceMethod yX2_goFirst, Cond.selects RX2 yX2_goFirst yX2_goFirst, Cond.code yX2_goFirst cX2_goFirst 3 none, Cond.methodLink RX2 209 yX2_weaker, Cond.static yX2_weaker, Cond.code yX2_weaker cX2_weaker 3 (some .int), Cond.methodLink RX2 212 Lib.Math.abs.name, Cond.static Lib.Math.abs.name, Cond.initialized "java/lang/Math", Cond.code Lib.Math.abs.name Lib.Math.abs.code 1 (some .int), Cond.methodLink RX2 187 Lib.Math.min.name, Cond.static Lib.Math.min.name, Cond.code Lib.Math.min.name Lib.Math.min.code 2 (some .int), Cond.methodLink RX2 93 yX2_codedOf, Cond.static yX2_codedOf, Cond.code yX2_codedOf cX2_codedOf 3 (some .int), Cond.fieldLink RX2 184 "FrozenBits" "FIRST_OF_PAIRS" "[I", Cond.methodLink RX2 205 yX2_goSecond, Cond.instanceMethod yX2_goSecond, Cond.selects RX2 yX2_goSecond yX2_goSecond, Cond.code yX2_goSecond cX2_goSecond 5 none]
def wsX2_read_r3 : List Cond := [Cond.methodLink RX2 122 yX2_fineOf, Cond.instanceMethod yX2_fineOf, Cond.selects RX2 yX2_fineOf yX2_fineOf, Cond.code yX2_fineOf cX2_fineOf 4 (some .int), Cond.methodLink RX2 215 yX2_fineOfBit, Cond.static yX2_fineOfBit, Cond.code yX2_fineOfBit cX2_fineOfBit 2 (some .int), Cond.methodLink RX2 177 Lib.Math.max.name, Cond.static Lib.Math.max.name, Cond.code Lib.Math.max.name Lib.Math.max.code 2 (some .int), Cond.methodLink RX2 125 yX2_howManyToldOtherwise, Cond.instanceMethod yX2_howManyToldOtherwise, Cond.selects RX2 yX2_howManyToldOtherwise yX2_howManyToldOtherwise, Cond.code yX2_howManyToldOtherwise cX2_howManyToldOtherwise 5 (some .int), Cond.methodLink RX2 128 yX0_holds, Cond.instanceMethod yX0_holds, Cond.selects RX0 yX0_holds yX0_holds, Cond.initialized RX0, Cond.code yX0_holds cX0_holds 3 (some .boolean), Cond.fieldLink RX0 31 "FrozenBits$Facts" "checks" "[I", Cond.methodLink RX0 40 yJ6_bitCount_0f7a4, Cond.static yJ6_bitCount_0f7a4, Cond.initialized RJ6, Cond.code yJ6_bitCount_0f7a4 cJ6_bitCount_0f7a4 1 (some .int)]
def wsX2_read_r4 : List Cond := [Cond.constant RJ6 265 (1431655765), Cond.constant RJ6 266 (858993459), Cond.constant RJ6 267 (252645135)]
def wsX2_read : List Cond := .code yX2_read cX2_read 3 (some .int) :: ((wsX2_read_r1 ++ (wsX2_read_r2 ++ (wsX2_read_r3 ++ wsX2_read_r4))) ++ wsX20 ++ wsX00)
def wsX2_most : List Cond := .code yX2_most cX2_most 3 (some .int) :: ([.fieldLink RX2 10 "FrozenBits" "now" "LFrozenBits$Facts;"] ++ wsX20 ++ wsX00)
def wsX2_growBy_r1 : List Cond := [Cond.fieldLink RX2 37 "FrozenBits" "grown" "LFrozenBits$FinedRows;", Cond.fieldLink RX2 33 "FrozenBits" "told" "LFrozenBits$FinedRows;", Cond.methodLink RX2 218 yX1_clear, Cond.instanceMethod yX1_clear, Cond.selects RX1 yX1_clear yX1_clear, Cond.initialized RX1, Cond.code yX1_clear cX1_clear 1 none, Cond.fieldLink RX1 18 "FrozenBits$FinedRows" "size" "I", Cond.methodLink RX2 118 yX2_seenOf, Cond.instanceMethod yX2_seenOf, Cond.selects RX2 yX2_seenOf yX2_seenOf, Cond.initialized RX2, Cond.code yX2_seenOf cX2_seenOf 5 (some .int), Cond.fieldLink RX2 10 "FrozenBits" "now" "LFrozenBits$Facts;", Cond.fieldLink RX2 26 "FrozenBits" "halves" "[I", Cond.methodLink RX2 196 arraycopyName, Cond.native arraycopyName, Cond.static arraycopyName, Cond.initialized "java/lang/System", Cond.methodLink RX2 90 yX2_places, Cond.instanceMethod yX2_places, Cond.selects RX2 yX2_places yX2_places, Cond.code yX2_places cX2_places 1 (some .int), Cond.methodLink RX2 202 yX2_goFirst]
def wsX2_growBy_r2 : List Cond := [Cond.instanceMethod yX2_goFirst, Cond.selects RX2 yX2_goFirst yX2_goFirst, Cond.code yX2_goFirst cX2_goFirst 3 none, Cond.methodLink RX2 209 yX2_weaker, Cond.static yX2_weaker, Cond.code yX2_weaker cX2_weaker 3 (some .int), Cond.methodLink RX2 212 Lib.Math.abs.name, Cond.static Lib.Math.abs.name, Cond.initialized "java/lang/Math", Cond.code Lib.Math.abs.name Lib.Math.abs.code 1 (some .int), Cond.methodLink RX2 187 Lib.Math.min.name, Cond.static Lib.Math.min.name, Cond.code Lib.Math.min.name Lib.Math.min.code 2 (some .int), Cond.methodLink RX2 93 yX2_codedOf, Cond.static yX2_codedOf, Cond.code yX2_codedOf cX2_codedOf 3 (some .int), Cond.fieldLink RX2 184 "FrozenBits" "FIRST_OF_PAIRS" "[I", Cond.methodLink RX2 205 yX2_goSecond, Cond.instanceMethod yX2_goSecond, Cond.selects RX2 yX2_goSecond yX2_goSecond, Cond.code yX2_goSecond cX2_goSecond 5 none, Cond.methodLink RX2 111 yX2_has, Cond.static yX2_has, Cond.code yX2_has cX2_has 2 (some .boolean)]
def wsX2_growBy_r3 : List Cond := [Cond.methodLink RX2 215 yX2_fineOfBit, Cond.static yX2_fineOfBit, Cond.code yX2_fineOfBit cX2_fineOfBit 2 (some .int), Cond.methodLink RX2 177 Lib.Math.max.name, Cond.static Lib.Math.max.name, Cond.code Lib.Math.max.name Lib.Math.max.code 2 (some .int), Cond.methodLink RX2 221 yX1_add, Cond.instanceMethod yX1_add, Cond.selects RX1 yX1_add yX1_add, Cond.code yX1_add cX1_add 4 none, Cond.fieldLink RX1 11 "FrozenBits$FinedRows" "rows" "[I", Cond.fieldLink RX1 15 "FrozenBits$FinedRows" "fines" "[I", Cond.methodLink RX1 22 yX1_isAhead, Cond.instanceMethod yX1_isAhead, Cond.selects RX1 yX1_isAhead yX1_isAhead, Cond.code yX1_isAhead cX1_isAhead 4 (some .boolean), Cond.methodLink RX2 96 yX2_isFree, Cond.instanceMethod yX2_isFree, Cond.selects RX2 yX2_isFree yX2_isFree, Cond.code yX2_isFree cX2_isFree 2 (some .boolean)]
def wsX2_growBy : List Cond := .code yX2_growBy cX2_growBy 6 none :: ((wsX2_growBy_r1 ++ (wsX2_growBy_r2 ++ wsX2_growBy_r3)) ++ wsX20 ++ wsX10 ++ wsX00)
def wsX2_tellKept_r1 : List Cond := [Cond.fieldLink RX2 33 "FrozenBits" "told" "LFrozenBits$FinedRows;", Cond.fieldLink RX2 37 "FrozenBits" "grown" "LFrozenBits$FinedRows;", Cond.fieldLink RX2 10 "FrozenBits" "now" "LFrozenBits$Facts;", Cond.methodLink RX2 218 yX1_clear, Cond.instanceMethod yX1_clear, Cond.selects RX1 yX1_clear yX1_clear, Cond.initialized RX1, Cond.code yX1_clear cX1_clear 1 none, Cond.fieldLink RX1 18 "FrozenBits$FinedRows" "size" "I", Cond.methodLink RX2 221 yX1_add, Cond.instanceMethod yX1_add, Cond.selects RX1 yX1_add yX1_add, Cond.code yX1_add cX1_add 4 none, Cond.fieldLink RX1 11 "FrozenBits$FinedRows" "rows" "[I", Cond.fieldLink RX1 15 "FrozenBits$FinedRows" "fines" "[I", Cond.methodLink RX1 22 yX1_isAhead, Cond.instanceMethod yX1_isAhead, Cond.selects RX1 yX1_isAhead yX1_isAhead, Cond.code yX1_isAhead cX1_isAhead 4 (some .boolean), Cond.methodLink RX2 90 yX2_places, Cond.instanceMethod yX2_places, Cond.selects RX2 yX2_places yX2_places, Cond.initialized RX2, Cond.code yX2_places cX2_places 1 (some .int)]
def wsX2_tellKept_r2 : List Cond := [Cond.methodLink RX2 224 yX2_growBy, Cond.instanceMethod yX2_growBy, Cond.selects RX2 yX2_growBy yX2_growBy, Cond.code yX2_growBy cX2_growBy 6 none, Cond.methodLink RX2 118 yX2_seenOf, Cond.instanceMethod yX2_seenOf, Cond.selects RX2 yX2_seenOf yX2_seenOf, Cond.code yX2_seenOf cX2_seenOf 5 (some .int), Cond.fieldLink RX2 26 "FrozenBits" "halves" "[I", Cond.methodLink RX2 196 arraycopyName, Cond.native arraycopyName, Cond.static arraycopyName, Cond.initialized "java/lang/System", Cond.methodLink RX2 202 yX2_goFirst, Cond.instanceMethod yX2_goFirst, Cond.selects RX2 yX2_goFirst yX2_goFirst, Cond.code yX2_goFirst cX2_goFirst 3 none, Cond.methodLink RX2 209 yX2_weaker, Cond.static yX2_weaker, Cond.code yX2_weaker cX2_weaker 3 (some .int), Cond.methodLink RX2 212 Lib.Math.abs.name, Cond.static Lib.Math.abs.name, Cond.initialized "java/lang/Math", Cond.code Lib.Math.abs.name Lib.Math.abs.code 1 (some .int)]
def wsX2_tellKept_r3 : List Cond := [Cond.methodLink RX2 187 Lib.Math.min.name, Cond.static Lib.Math.min.name, Cond.code Lib.Math.min.name Lib.Math.min.code 2 (some .int), Cond.methodLink RX2 93 yX2_codedOf, Cond.static yX2_codedOf, Cond.code yX2_codedOf cX2_codedOf 3 (some .int), Cond.fieldLink RX2 184 "FrozenBits" "FIRST_OF_PAIRS" "[I", Cond.methodLink RX2 205 yX2_goSecond, Cond.instanceMethod yX2_goSecond, Cond.selects RX2 yX2_goSecond yX2_goSecond, Cond.code yX2_goSecond cX2_goSecond 5 none, Cond.methodLink RX2 111 yX2_has, Cond.static yX2_has, Cond.code yX2_has cX2_has 2 (some .boolean), Cond.methodLink RX2 215 yX2_fineOfBit, Cond.static yX2_fineOfBit, Cond.code yX2_fineOfBit cX2_fineOfBit 2 (some .int), Cond.methodLink RX2 177 Lib.Math.max.name, Cond.static Lib.Math.max.name, Cond.code Lib.Math.max.name Lib.Math.max.code 2 (some .int), Cond.methodLink RX2 96 yX2_isFree, Cond.instanceMethod yX2_isFree, Cond.selects RX2 yX2_isFree yX2_isFree, Cond.code yX2_isFree cX2_isFree 2 (some .boolean)]
def wsX2_tellKept_r4 : List Cond := [Cond.methodLink RX2 227 yX1_takeFirst, Cond.instanceMethod yX1_takeFirst, Cond.selects RX1 yX1_takeFirst yX1_takeFirst, Cond.code yX1_takeFirst cX1_takeFirst 3 none, Cond.methodLink RX1 26 Lib.Math.min.name, Cond.methodLink RX1 32 arraycopyName]
def wsX2_tellKept : List Cond := .code yX2_tellKept cX2_tellKept 2 none :: ((wsX2_tellKept_r1 ++ (wsX2_tellKept_r2 ++ (wsX2_tellKept_r3 ++ wsX2_tellKept_r4))) ++ wsX20 ++ wsX00 ++ wsX10)
def wsX2_kept_r1 : List Cond := [Cond.fieldLink RX2 33 "FrozenBits" "told" "LFrozenBits$FinedRows;", Cond.fieldLink RX2 10 "FrozenBits" "now" "LFrozenBits$Facts;", Cond.methodLink RX2 134 yX2_tellKept, Cond.instanceMethod yX2_tellKept, Cond.selects RX2 yX2_tellKept yX2_tellKept, Cond.initialized RX2, Cond.code yX2_tellKept cX2_tellKept 2 none, Cond.fieldLink RX2 37 "FrozenBits" "grown" "LFrozenBits$FinedRows;", Cond.methodLink RX2 218 yX1_clear, Cond.instanceMethod yX1_clear, Cond.selects RX1 yX1_clear yX1_clear, Cond.initialized RX1, Cond.code yX1_clear cX1_clear 1 none, Cond.fieldLink RX1 18 "FrozenBits$FinedRows" "size" "I", Cond.methodLink RX2 221 yX1_add, Cond.instanceMethod yX1_add, Cond.selects RX1 yX1_add yX1_add, Cond.code yX1_add cX1_add 4 none, Cond.fieldLink RX1 11 "FrozenBits$FinedRows" "rows" "[I", Cond.fieldLink RX1 15 "FrozenBits$FinedRows" "fines" "[I", Cond.methodLink RX1 22 yX1_isAhead, Cond.instanceMethod yX1_isAhead, Cond.selects RX1 yX1_isAhead yX1_isAhead, Cond.code yX1_isAhead cX1_isAhead 4 (some .boolean)]
def wsX2_kept_r2 : List Cond := [Cond.methodLink RX2 90 yX2_places, Cond.instanceMethod yX2_places, Cond.selects RX2 yX2_places yX2_places, Cond.code yX2_places cX2_places 1 (some .int), Cond.methodLink RX2 224 yX2_growBy, Cond.instanceMethod yX2_growBy, Cond.selects RX2 yX2_growBy yX2_growBy, Cond.code yX2_growBy cX2_growBy 6 none, Cond.methodLink RX2 118 yX2_seenOf, Cond.instanceMethod yX2_seenOf, Cond.selects RX2 yX2_seenOf yX2_seenOf, Cond.code yX2_seenOf cX2_seenOf 5 (some .int), Cond.fieldLink RX2 26 "FrozenBits" "halves" "[I", Cond.methodLink RX2 196 arraycopyName, Cond.native arraycopyName, Cond.static arraycopyName, Cond.initialized "java/lang/System", Cond.methodLink RX2 202 yX2_goFirst, Cond.instanceMethod yX2_goFirst, Cond.selects RX2 yX2_goFirst yX2_goFirst, Cond.code yX2_goFirst cX2_goFirst 3 none, Cond.methodLink RX2 209 yX2_weaker, Cond.static yX2_weaker, Cond.code yX2_weaker cX2_weaker 3 (some .int)]
def wsX2_kept_r3 : List Cond := [Cond.methodLink RX2 212 Lib.Math.abs.name, Cond.static Lib.Math.abs.name, Cond.initialized "java/lang/Math", Cond.code Lib.Math.abs.name Lib.Math.abs.code 1 (some .int), Cond.methodLink RX2 187 Lib.Math.min.name, Cond.static Lib.Math.min.name, Cond.code Lib.Math.min.name Lib.Math.min.code 2 (some .int), Cond.methodLink RX2 93 yX2_codedOf, Cond.static yX2_codedOf, Cond.code yX2_codedOf cX2_codedOf 3 (some .int), Cond.fieldLink RX2 184 "FrozenBits" "FIRST_OF_PAIRS" "[I", Cond.methodLink RX2 205 yX2_goSecond, Cond.instanceMethod yX2_goSecond, Cond.selects RX2 yX2_goSecond yX2_goSecond, Cond.code yX2_goSecond cX2_goSecond 5 none, Cond.methodLink RX2 111 yX2_has, Cond.static yX2_has, Cond.code yX2_has cX2_has 2 (some .boolean), Cond.methodLink RX2 215 yX2_fineOfBit, Cond.static yX2_fineOfBit, Cond.code yX2_fineOfBit cX2_fineOfBit 2 (some .int), Cond.methodLink RX2 177 Lib.Math.max.name, Cond.static Lib.Math.max.name, Cond.code Lib.Math.max.name Lib.Math.max.code 2 (some .int)]
def wsX2_kept_r4 : List Cond := [Cond.methodLink RX2 96 yX2_isFree, Cond.instanceMethod yX2_isFree, Cond.selects RX2 yX2_isFree yX2_isFree, Cond.code yX2_isFree cX2_isFree 2 (some .boolean), Cond.methodLink RX2 227 yX1_takeFirst, Cond.instanceMethod yX1_takeFirst, Cond.selects RX1 yX1_takeFirst yX1_takeFirst, Cond.code yX1_takeFirst cX1_takeFirst 3 none, Cond.methodLink RX1 26 Lib.Math.min.name, Cond.methodLink RX1 32 arraycopyName, Cond.methodLink RX2 140 yX1_hasAt, Cond.instanceMethod yX1_hasAt, Cond.selects RX1 yX1_hasAt yX1_hasAt, Cond.code yX1_hasAt cX1_hasAt 2 (some .boolean), Cond.methodLink RX2 128 yX0_holds, Cond.instanceMethod yX0_holds, Cond.selects RX0 yX0_holds yX0_holds, Cond.initialized RX0, Cond.code yX0_holds cX0_holds 3 (some .boolean), Cond.fieldLink RX0 31 "FrozenBits$Facts" "checks" "[I", Cond.methodLink RX0 40 yJ6_bitCount_0f7a4, Cond.static yJ6_bitCount_0f7a4, Cond.initialized RJ6, Cond.code yJ6_bitCount_0f7a4 cJ6_bitCount_0f7a4 1 (some .int)]
def wsX2_kept_r5 : List Cond := [Cond.constant RJ6 265 (1431655765), Cond.constant RJ6 266 (858993459), Cond.constant RJ6 267 (252645135)]
def wsX2_kept : List Cond := .code yX2_kept cX2_kept 3 (some .int) :: ((wsX2_kept_r1 ++ (wsX2_kept_r2 ++ (wsX2_kept_r3 ++ (wsX2_kept_r4 ++ wsX2_kept_r5)))) ++ wsX20 ++ wsX10 ++ wsX00)
def wsX2_firstThatHolds : List Cond := .code yX2_firstThatHolds cX2_firstThatHolds 2 (some .int) :: ([.fieldLink RX2 33 "FrozenBits" "told" "LFrozenBits$FinedRows;", .fieldLink RX2 10 "FrozenBits" "now" "LFrozenBits$Facts;", .methodLink RX2 128 yX0_holds, .instanceMethod yX0_holds, .selects RX0 yX0_holds yX0_holds, .initialized RX0, .code yX0_holds cX0_holds 3 (some .boolean), .fieldLink RX0 31 "FrozenBits$Facts" "checks" "[I", .methodLink RX0 40 yJ6_bitCount_0f7a4, .static yJ6_bitCount_0f7a4, .initialized RJ6, .code yJ6_bitCount_0f7a4 cJ6_bitCount_0f7a4 1 (some .int), .constant RJ6 265 (1431655765), .constant RJ6 266 (858993459), .constant RJ6 267 (252645135)] ++ wsX20 ++ wsX10 ++ wsX00)
def wsX2_chosen_r1 : List Cond := [Cond.fieldLink RX2 33 "FrozenBits" "told" "LFrozenBits$FinedRows;", Cond.methodLink RX2 134 yX2_tellKept, Cond.instanceMethod yX2_tellKept, Cond.selects RX2 yX2_tellKept yX2_tellKept, Cond.initialized RX2, Cond.code yX2_tellKept cX2_tellKept 2 none, Cond.fieldLink RX2 37 "FrozenBits" "grown" "LFrozenBits$FinedRows;", Cond.fieldLink RX2 10 "FrozenBits" "now" "LFrozenBits$Facts;", Cond.methodLink RX2 218 yX1_clear, Cond.instanceMethod yX1_clear, Cond.selects RX1 yX1_clear yX1_clear, Cond.initialized RX1, Cond.code yX1_clear cX1_clear 1 none, Cond.fieldLink RX1 18 "FrozenBits$FinedRows" "size" "I", Cond.methodLink RX2 221 yX1_add, Cond.instanceMethod yX1_add, Cond.selects RX1 yX1_add yX1_add, Cond.code yX1_add cX1_add 4 none, Cond.fieldLink RX1 11 "FrozenBits$FinedRows" "rows" "[I", Cond.fieldLink RX1 15 "FrozenBits$FinedRows" "fines" "[I", Cond.methodLink RX1 22 yX1_isAhead, Cond.instanceMethod yX1_isAhead, Cond.selects RX1 yX1_isAhead yX1_isAhead, Cond.code yX1_isAhead cX1_isAhead 4 (some .boolean)]
def wsX2_chosen_r2 : List Cond := [Cond.methodLink RX2 90 yX2_places, Cond.instanceMethod yX2_places, Cond.selects RX2 yX2_places yX2_places, Cond.code yX2_places cX2_places 1 (some .int), Cond.methodLink RX2 224 yX2_growBy, Cond.instanceMethod yX2_growBy, Cond.selects RX2 yX2_growBy yX2_growBy, Cond.code yX2_growBy cX2_growBy 6 none, Cond.methodLink RX2 118 yX2_seenOf, Cond.instanceMethod yX2_seenOf, Cond.selects RX2 yX2_seenOf yX2_seenOf, Cond.code yX2_seenOf cX2_seenOf 5 (some .int), Cond.fieldLink RX2 26 "FrozenBits" "halves" "[I", Cond.methodLink RX2 196 arraycopyName, Cond.native arraycopyName, Cond.static arraycopyName, Cond.initialized "java/lang/System", Cond.methodLink RX2 202 yX2_goFirst, Cond.instanceMethod yX2_goFirst, Cond.selects RX2 yX2_goFirst yX2_goFirst, Cond.code yX2_goFirst cX2_goFirst 3 none, Cond.methodLink RX2 209 yX2_weaker, Cond.static yX2_weaker, Cond.code yX2_weaker cX2_weaker 3 (some .int)]
def wsX2_chosen_r3 : List Cond := [Cond.methodLink RX2 212 Lib.Math.abs.name, Cond.static Lib.Math.abs.name, Cond.initialized "java/lang/Math", Cond.code Lib.Math.abs.name Lib.Math.abs.code 1 (some .int), Cond.methodLink RX2 187 Lib.Math.min.name, Cond.static Lib.Math.min.name, Cond.code Lib.Math.min.name Lib.Math.min.code 2 (some .int), Cond.methodLink RX2 93 yX2_codedOf, Cond.static yX2_codedOf, Cond.code yX2_codedOf cX2_codedOf 3 (some .int), Cond.fieldLink RX2 184 "FrozenBits" "FIRST_OF_PAIRS" "[I", Cond.methodLink RX2 205 yX2_goSecond, Cond.instanceMethod yX2_goSecond, Cond.selects RX2 yX2_goSecond yX2_goSecond, Cond.code yX2_goSecond cX2_goSecond 5 none, Cond.methodLink RX2 111 yX2_has, Cond.static yX2_has, Cond.code yX2_has cX2_has 2 (some .boolean), Cond.methodLink RX2 215 yX2_fineOfBit, Cond.static yX2_fineOfBit, Cond.code yX2_fineOfBit cX2_fineOfBit 2 (some .int), Cond.methodLink RX2 177 Lib.Math.max.name, Cond.static Lib.Math.max.name, Cond.code Lib.Math.max.name Lib.Math.max.code 2 (some .int)]
def wsX2_chosen_r4 : List Cond := [Cond.methodLink RX2 96 yX2_isFree, Cond.instanceMethod yX2_isFree, Cond.selects RX2 yX2_isFree yX2_isFree, Cond.code yX2_isFree cX2_isFree 2 (some .boolean), Cond.methodLink RX2 227 yX1_takeFirst, Cond.instanceMethod yX1_takeFirst, Cond.selects RX1 yX1_takeFirst yX1_takeFirst, Cond.code yX1_takeFirst cX1_takeFirst 3 none, Cond.methodLink RX1 26 Lib.Math.min.name, Cond.methodLink RX1 32 arraycopyName, Cond.methodLink RX2 149 yX2_firstThatHolds, Cond.instanceMethod yX2_firstThatHolds, Cond.selects RX2 yX2_firstThatHolds yX2_firstThatHolds, Cond.code yX2_firstThatHolds cX2_firstThatHolds 2 (some .int), Cond.methodLink RX2 128 yX0_holds, Cond.instanceMethod yX0_holds, Cond.selects RX0 yX0_holds yX0_holds, Cond.initialized RX0, Cond.code yX0_holds cX0_holds 3 (some .boolean), Cond.fieldLink RX0 31 "FrozenBits$Facts" "checks" "[I", Cond.methodLink RX0 40 yJ6_bitCount_0f7a4, Cond.static yJ6_bitCount_0f7a4, Cond.initialized RJ6, Cond.code yJ6_bitCount_0f7a4 cJ6_bitCount_0f7a4 1 (some .int)]
def wsX2_chosen_r5 : List Cond := [Cond.constant RJ6 265 (1431655765), Cond.constant RJ6 266 (858993459), Cond.constant RJ6 267 (252645135), Cond.methodLink RX2 140 yX1_hasAt, Cond.instanceMethod yX1_hasAt, Cond.selects RX1 yX1_hasAt yX1_hasAt, Cond.code yX1_hasAt cX1_hasAt 2 (some .boolean)]
def wsX2_chosen : List Cond := .code yX2_chosen cX2_chosen 3 (some .int) :: ((wsX2_chosen_r1 ++ (wsX2_chosen_r2 ++ (wsX2_chosen_r3 ++ (wsX2_chosen_r4 ++ wsX2_chosen_r5)))) ++ wsX20 ++ wsX10 ++ wsX00)
def wsX2_check : List Cond := .code yX2_check cX2_check 4 (some .int) :: ([.fieldLink RX2 10 "FrozenBits" "now" "LFrozenBits$Facts;", .methodLink RX2 80 yX2_isSet, .instanceMethod yX2_isSet, .selects RX2 yX2_isSet yX2_isSet, .initialized RX2, .code yX2_isSet cX2_isSet 2 (some .boolean), .methodLink RX2 90 yX2_places, .instanceMethod yX2_places, .selects RX2 yX2_places yX2_places, .code yX2_places cX2_places 1 (some .int)] ++ wsX20 ++ wsX00)
def wsX2_open : List Cond := .code yX2_open cX2_open 4 (some .int) :: ([.methodLink RX2 80 yX2_isSet, .instanceMethod yX2_isSet, .selects RX2 yX2_isSet yX2_isSet, .initialized RX2, .code yX2_isSet cX2_isSet 2 (some .boolean), .methodLink RX2 90 yX2_places, .instanceMethod yX2_places, .selects RX2 yX2_places yX2_places, .code yX2_places cX2_places 1 (some .int), .fieldLink RX2 10 "FrozenBits" "now" "LFrozenBits$Facts;", .methodLink RX2 155 yX2_openFor, .instanceMethod yX2_openFor, .selects RX2 yX2_openFor yX2_openFor, .code yX2_openFor cX2_openFor 8 (some .int), .fieldLink RX2 184 "FrozenBits" "FIRST_OF_PAIRS" "[I", .methodLink RX2 158 yJ6_bitCount_0f7a4, .static yJ6_bitCount_0f7a4, .initialized RJ6, .code yJ6_bitCount_0f7a4 cJ6_bitCount_0f7a4 1 (some .int), .constant RJ6 265 (1431655765), .constant RJ6 266 (858993459), .constant RJ6 267 (252645135)] ++ wsX20 ++ wsX00)
def wsX2_leastSetThatOpens : List Cond := .code yX2_leastSetThatOpens cX2_leastSetThatOpens 5 (some .int) :: ([.methodLink RX2 90 yX2_places, .instanceMethod yX2_places, .selects RX2 yX2_places yX2_places, .initialized RX2, .code yX2_places cX2_places 1 (some .int), .fieldLink RX2 10 "FrozenBits" "now" "LFrozenBits$Facts;", .methodLink RX2 155 yX2_openFor, .instanceMethod yX2_openFor, .selects RX2 yX2_openFor yX2_openFor, .code yX2_openFor cX2_openFor 8 (some .int), .fieldLink RX2 184 "FrozenBits" "FIRST_OF_PAIRS" "[I", .methodLink RX2 193 yX2_nextOfSize, .static yX2_nextOfSize, .code yX2_nextOfSize cX2_nextOfSize 4 (some .int), .methodLink RX2 177 Lib.Math.max.name, .static Lib.Math.max.name, .initialized "java/lang/Math", .code Lib.Math.max.name Lib.Math.max.code 2 (some .int)] ++ wsX20 ++ wsX00)
def wsX2_fragile_r1 : List Cond := [Cond.methodLink RX2 86 yX2_howManyFree, Cond.instanceMethod yX2_howManyFree, Cond.selects RX2 yX2_howManyFree yX2_howManyFree, Cond.initialized RX2, Cond.code yX2_howManyFree cX2_howManyFree 1 (some .int), Cond.fieldLink RX2 10 "FrozenBits" "now" "LFrozenBits$Facts;", Cond.methodLink RX2 90 yX2_places, Cond.instanceMethod yX2_places, Cond.selects RX2 yX2_places yX2_places, Cond.code yX2_places cX2_places 1 (some .int), Cond.methodLink RX2 158 yJ6_bitCount_0f7a4, Cond.static yJ6_bitCount_0f7a4, Cond.initialized RJ6, Cond.code yJ6_bitCount_0f7a4 cJ6_bitCount_0f7a4 1 (some .int), Cond.constant RJ6 265 (1431655765), Cond.constant RJ6 266 (858993459), Cond.constant RJ6 267 (252645135), Cond.methodLink RX2 99 yX2_leastWeight, Cond.instanceMethod yX2_leastWeight, Cond.selects RX2 yX2_leastWeight yX2_leastWeight, Cond.code yX2_leastWeight cX2_leastWeight 3 (some .int), Cond.methodLink RX2 187 Lib.Math.min.name, Cond.static Lib.Math.min.name, Cond.initialized "java/lang/Math"]
def wsX2_fragile_r2 : List Cond := [Cond.code Lib.Math.min.name Lib.Math.min.code 2 (some .int), Cond.methodLink RX2 96 yX2_isFree, Cond.instanceMethod yX2_isFree, Cond.selects RX2 yX2_isFree yX2_isFree, Cond.code yX2_isFree cX2_isFree 2 (some .boolean), Cond.methodLink RX2 111 yX2_has, Cond.static yX2_has, Cond.code yX2_has cX2_has 2 (some .boolean), Cond.methodLink RX2 93 yX2_codedOf, Cond.static yX2_codedOf, Cond.code yX2_codedOf cX2_codedOf 3 (some .int), Cond.fieldLink RX2 184 "FrozenBits" "FIRST_OF_PAIRS" "[I", Cond.methodLink RX2 102 yX2_howManySets, Cond.instanceMethod yX2_howManySets, Cond.selects RX2 yX2_howManySets yX2_howManySets, Cond.code yX2_howManySets cX2_howManySets 7 (some .int), Cond.methodLink RX2 190 yX2_isSentAsWord, Cond.instanceMethod yX2_isSentAsWord, Cond.selects RX2 yX2_isSentAsWord yX2_isSentAsWord, Cond.code yX2_isSentAsWord cX2_isSentAsWord 2 (some .boolean), Cond.methodLink RX2 155 yX2_openFor, Cond.instanceMethod yX2_openFor, Cond.selects RX2 yX2_openFor yX2_openFor, Cond.code yX2_openFor cX2_openFor 8 (some .int)]
def wsX2_fragile_r3 : List Cond := [Cond.methodLink RX2 193 yX2_nextOfSize, Cond.static yX2_nextOfSize, Cond.code yX2_nextOfSize cX2_nextOfSize 4 (some .int), Cond.methodLink RX2 177 Lib.Math.max.name, Cond.static Lib.Math.max.name, Cond.code Lib.Math.max.name Lib.Math.max.code 2 (some .int), Cond.methodLink RX2 163 yX2_leastSetThatOpens, Cond.instanceMethod yX2_leastSetThatOpens, Cond.selects RX2 yX2_leastSetThatOpens yX2_leastSetThatOpens, Cond.code yX2_leastSetThatOpens cX2_leastSetThatOpens 5 (some .int)]
def wsX2_fragile : List Cond := .code yX2_fragile cX2_fragile 3 (some .int) :: ((wsX2_fragile_r1 ++ (wsX2_fragile_r2 ++ wsX2_fragile_r3)) ++ wsX20 ++ wsX00)
def wsX2_imageAt : List Cond := .code yX2_imageAt cX2_imageAt 2 (some (.object "FrozenBits$Facts")) :: ([.fieldLink RX2 16 "FrozenBits" "firstImage" "LFrozenBits$Facts;", .fieldLink RX2 19 "FrozenBits" "secondImage" "LFrozenBits$Facts;"] ++ wsX20)
def wsX2_image_r1 : List Cond := [Cond.fieldLink RX2 10 "FrozenBits" "now" "LFrozenBits$Facts;", Cond.fieldLink RX2 22 "FrozenBits" "imagesKept" "I", Cond.methodLink RX2 166 yX2_imageAt, Cond.instanceMethod yX2_imageAt, Cond.selects RX2 yX2_imageAt yX2_imageAt, Cond.initialized RX2, Cond.code yX2_imageAt cX2_imageAt 2 (some (.object "FrozenBits$Facts")), Cond.fieldLink RX2 16 "FrozenBits" "firstImage" "LFrozenBits$Facts;", Cond.fieldLink RX2 19 "FrozenBits" "secondImage" "LFrozenBits$Facts;", Cond.methodLink RX2 170 yX0_copyFrom, Cond.instanceMethod yX0_copyFrom, Cond.selects RX0 yX0_copyFrom yX0_copyFrom, Cond.initialized RX0, Cond.code yX0_copyFrom cX0_copyFrom 2 none, Cond.fieldLink RX0 9 "FrozenBits$Facts" "deep" "I", Cond.fieldLink RX0 15 "FrozenBits$Facts" "top" "I", Cond.fieldLink RX0 18 "FrozenBits$Facts" "of" "I", Cond.fieldLink RX0 21 "FrozenBits$Facts" "frozen" "I", Cond.fieldLink RX0 24 "FrozenBits$Facts" "most" "I", Cond.fieldLink RX0 27 "FrozenBits$Facts" "measures" "[I", Cond.methodLink RX0 34 arraycopyName, Cond.native arraycopyName, Cond.static arraycopyName, Cond.initialized "java/lang/System"]
def wsX2_image_r2 : List Cond := [Cond.fieldLink RX0 31 "FrozenBits$Facts" "checks" "[I"]
def wsX2_image : List Cond := .code yX2_image cX2_image 2 (some .int) :: ((wsX2_image_r1 ++ wsX2_image_r2) ++ wsX20 ++ wsX00)
def wsX2_restore_r1 : List Cond := [Cond.fieldLink RX2 22 "FrozenBits" "imagesKept" "I", Cond.fieldLink RX2 10 "FrozenBits" "now" "LFrozenBits$Facts;", Cond.methodLink RX2 111 yX2_has, Cond.static yX2_has, Cond.initialized RX2, Cond.code yX2_has cX2_has 2 (some .boolean), Cond.methodLink RX2 166 yX2_imageAt, Cond.instanceMethod yX2_imageAt, Cond.selects RX2 yX2_imageAt yX2_imageAt, Cond.code yX2_imageAt cX2_imageAt 2 (some (.object "FrozenBits$Facts")), Cond.fieldLink RX2 16 "FrozenBits" "firstImage" "LFrozenBits$Facts;", Cond.fieldLink RX2 19 "FrozenBits" "secondImage" "LFrozenBits$Facts;", Cond.methodLink RX2 170 yX0_copyFrom, Cond.instanceMethod yX0_copyFrom, Cond.selects RX0 yX0_copyFrom yX0_copyFrom, Cond.initialized RX0, Cond.code yX0_copyFrom cX0_copyFrom 2 none, Cond.fieldLink RX0 9 "FrozenBits$Facts" "deep" "I", Cond.fieldLink RX0 15 "FrozenBits$Facts" "top" "I", Cond.fieldLink RX0 18 "FrozenBits$Facts" "of" "I", Cond.fieldLink RX0 21 "FrozenBits$Facts" "frozen" "I", Cond.fieldLink RX0 24 "FrozenBits$Facts" "most" "I", Cond.fieldLink RX0 27 "FrozenBits$Facts" "measures" "[I", Cond.methodLink RX0 34 arraycopyName]
def wsX2_restore_r2 : List Cond := [Cond.native arraycopyName, Cond.static arraycopyName, Cond.initialized "java/lang/System", Cond.fieldLink RX0 31 "FrozenBits$Facts" "checks" "[I"]
def wsX2_restore : List Cond := .code yX2_restore cX2_restore 2 (some .int) :: ((wsX2_restore_r1 ++ wsX2_restore_r2) ++ wsX20 ++ wsX00)
def wsX2_checkCounted : List Cond := .code yX2_checkCounted cX2_checkCounted 2 (some .int) :: ([.fieldLink RX2 10 "FrozenBits" "now" "LFrozenBits$Facts;"] ++ wsX20 ++ wsX00)
def wsX2_count : List Cond := .code yX2_count cX2_count 2 (some .int) :: ([.fieldLink RX2 10 "FrozenBits" "now" "LFrozenBits$Facts;", .fieldLink RX2 22 "FrozenBits" "imagesKept" "I", .methodLink RX2 86 yX2_howManyFree, .instanceMethod yX2_howManyFree, .selects RX2 yX2_howManyFree yX2_howManyFree, .initialized RX2, .code yX2_howManyFree cX2_howManyFree 1 (some .int), .methodLink RX2 90 yX2_places, .instanceMethod yX2_places, .selects RX2 yX2_places yX2_places, .code yX2_places cX2_places 1 (some .int), .methodLink RX2 158 yJ6_bitCount_0f7a4, .static yJ6_bitCount_0f7a4, .initialized RJ6, .code yJ6_bitCount_0f7a4 cJ6_bitCount_0f7a4 1 (some .int), .constant RJ6 265 (1431655765), .constant RJ6 266 (858993459), .constant RJ6 267 (252645135), .methodLink RX2 174 yX2_checkCounted, .instanceMethod yX2_checkCounted, .selects RX2 yX2_checkCounted yX2_checkCounted, .code yX2_checkCounted cX2_checkCounted 2 (some .int)] ++ wsX20 ++ wsX00)
def wsX3_init : List Cond := .code yX3_init cX3_init 1 none :: ([.methodLink RX3 1 objectInit, .instanceMethod objectInit, .code objectInit ⟨#[0xb1]⟩ 1 none, .arrayClass .int, .fieldLink RX3 7 "FrozenBitsModel" "state" "[I", .fieldLink RX3 13 "FrozenBitsModel" "images" "[I", .arrayClass .boolean, .fieldLink RX3 16 "FrozenBitsModel" "isKept" "[Z", .fieldLink RX3 20 "FrozenBitsModel" "left" "[I", .fieldLink RX3 23 "FrozenBitsModel" "rows" "[I", .fieldLink RX3 26 "FrozenBitsModel" "fines" "[I"] ++ wsX30)
def wsX3_in : List Cond := .code yX3_in cX3_in 3 (some .boolean) :: ([])
def wsX3_places : List Cond := .code yX3_places cX3_places 1 (some .int) :: ([.fieldLink RX3 7 "FrozenBitsModel" "state" "[I"] ++ wsX30)
def wsX3_isPlace : List Cond := .code yX3_isPlace cX3_isPlace 2 (some .boolean) :: ([.methodLink RX3 29 yX3_places, .instanceMethod yX3_places, .selects RX3 yX3_places yX3_places, .initialized RX3, .code yX3_places cX3_places 1 (some .int), .fieldLink RX3 7 "FrozenBitsModel" "state" "[I", .methodLink RX3 33 yX3_in, .static yX3_in, .code yX3_in cX3_in 3 (some .boolean)] ++ wsX30)
def wsX3_isRow : List Cond := .code yX3_isRow cX3_isRow 2 (some .boolean) :: ([.methodLink RX3 29 yX3_places, .instanceMethod yX3_places, .selects RX3 yX3_places yX3_places, .initialized RX3, .code yX3_places cX3_places 1 (some .int), .fieldLink RX3 7 "FrozenBitsModel" "state" "[I", .methodLink RX3 33 yX3_in, .static yX3_in, .code yX3_in cX3_in 3 (some .boolean)] ++ wsX30)
def wsX3_size : List Cond := .code yX3_size cX3_size 3 (some .int) :: ([])
def wsX3_plain : List Cond := .code yX3_plain cX3_plain 1 (some .int) :: ([])
def wsX3_free : List Cond := .code yX3_free cX3_free 1 (some .int) :: ([.fieldLink RX3 7 "FrozenBitsModel" "state" "[I", .methodLink RX3 29 yX3_places, .instanceMethod yX3_places, .selects RX3 yX3_places yX3_places, .initialized RX3, .code yX3_places cX3_places 1 (some .int)] ++ wsX30)
def wsX3_deep : List Cond := .code yX3_deep cX3_deep 4 (some .int) :: ([.fieldLink RX3 7 "FrozenBitsModel" "state" "[I", .methodLink RX3 33 yX3_in, .static yX3_in, .initialized RX3, .code yX3_in cX3_in 3 (some .boolean)] ++ wsX30)
def wsX3_loss : List Cond := .code yX3_loss cX3_loss 4 (some .int) :: ([.fieldLink RX3 7 "FrozenBitsModel" "state" "[I", .methodLink RX3 33 yX3_in, .static yX3_in, .initialized RX3, .code yX3_in cX3_in 3 (some .boolean)] ++ wsX30)
def wsX3_lowOfAll : List Cond := .code yX3_lowOfAll cX3_lowOfAll 4 (some .long) :: ([.fieldLink RX3 7 "FrozenBitsModel" "state" "[I"] ++ wsX30)
def wsX3_upOf : List Cond := .code yX3_upOf cX3_upOf 7 (some .long) :: ([.fieldLink RX3 7 "FrozenBitsModel" "state" "[I", .constantLong RX3 37 (2)] ++ wsX30)
def wsX3_common : List Cond := .code yX3_common cX3_common 10 (some .long) :: ([])
def wsX3_split_r1 : List Cond := [Cond.constantLong RX3 43 (-1), Cond.constantLong RX3 45 (-2), Cond.methodLink RX3 39 yX3_isPlace, Cond.instanceMethod yX3_isPlace, Cond.selects RX3 yX3_isPlace yX3_isPlace, Cond.initialized RX3, Cond.code yX3_isPlace cX3_isPlace 2 (some .boolean), Cond.methodLink RX3 29 yX3_places, Cond.instanceMethod yX3_places, Cond.selects RX3 yX3_places yX3_places, Cond.code yX3_places cX3_places 1 (some .int), Cond.fieldLink RX3 7 "FrozenBitsModel" "state" "[I", Cond.methodLink RX3 33 yX3_in, Cond.static yX3_in, Cond.code yX3_in cX3_in 3 (some .boolean), Cond.methodLink RX3 47 yX3_upOf, Cond.instanceMethod yX3_upOf, Cond.selects RX3 yX3_upOf yX3_upOf, Cond.code yX3_upOf cX3_upOf 7 (some .long), Cond.constantLong RX3 37 (2), Cond.methodLink RX3 51 yX3_lowOfAll, Cond.instanceMethod yX3_lowOfAll, Cond.selects RX3 yX3_lowOfAll yX3_lowOfAll, Cond.code yX3_lowOfAll cX3_lowOfAll 4 (some .long)]
def wsX3_split_r2 : List Cond := [Cond.methodLink RX3 55 yX3_common, Cond.static yX3_common, Cond.code yX3_common cX3_common 10 (some .long)]
def wsX3_split : List Cond := .code yX3_split cX3_split 9 (some .long) :: ((wsX3_split_r1 ++ wsX3_split_r2) ++ wsX30)
def wsX3_aheadOf : List Cond := .code yX3_aheadOf cX3_aheadOf 4 (some .int) :: ([.methodLink RX3 29 yX3_places, .instanceMethod yX3_places, .selects RX3 yX3_places yX3_places, .initialized RX3, .code yX3_places cX3_places 1 (some .int), .fieldLink RX3 7 "FrozenBitsModel" "state" "[I", .methodLink RX3 47 yX3_upOf, .instanceMethod yX3_upOf, .selects RX3 yX3_upOf yX3_upOf, .code yX3_upOf cX3_upOf 7 (some .long), .constantLong RX3 37 (2)] ++ wsX30)
def wsX3_bestAt : List Cond := .code yX3_bestAt cX3_bestAt 3 (some .int) :: ([.methodLink RX3 59 yX3_aheadOf, .instanceMethod yX3_aheadOf, .selects RX3 yX3_aheadOf yX3_aheadOf, .initialized RX3, .code yX3_aheadOf cX3_aheadOf 4 (some .int), .methodLink RX3 29 yX3_places, .instanceMethod yX3_places, .selects RX3 yX3_places yX3_places, .code yX3_places cX3_places 1 (some .int), .fieldLink RX3 7 "FrozenBitsModel" "state" "[I", .methodLink RX3 47 yX3_upOf, .instanceMethod yX3_upOf, .selects RX3 yX3_upOf yX3_upOf, .code yX3_upOf cX3_upOf 7 (some .long), .constantLong RX3 37 (2)] ++ wsX30)
def wsX3_rank_r1 : List Cond := [Cond.methodLink RX3 39 yX3_isPlace, Cond.instanceMethod yX3_isPlace, Cond.selects RX3 yX3_isPlace yX3_isPlace, Cond.initialized RX3, Cond.code yX3_isPlace cX3_isPlace 2 (some .boolean), Cond.methodLink RX3 29 yX3_places, Cond.instanceMethod yX3_places, Cond.selects RX3 yX3_places yX3_places, Cond.code yX3_places cX3_places 1 (some .int), Cond.fieldLink RX3 7 "FrozenBitsModel" "state" "[I", Cond.methodLink RX3 33 yX3_in, Cond.static yX3_in, Cond.code yX3_in cX3_in 3 (some .boolean), Cond.methodLink RX3 63 yX3_bestAt, Cond.instanceMethod yX3_bestAt, Cond.selects RX3 yX3_bestAt yX3_bestAt, Cond.code yX3_bestAt cX3_bestAt 3 (some .int), Cond.methodLink RX3 59 yX3_aheadOf, Cond.instanceMethod yX3_aheadOf, Cond.selects RX3 yX3_aheadOf yX3_aheadOf, Cond.code yX3_aheadOf cX3_aheadOf 4 (some .int), Cond.methodLink RX3 47 yX3_upOf, Cond.instanceMethod yX3_upOf, Cond.selects RX3 yX3_upOf yX3_upOf]
def wsX3_rank_r2 : List Cond := [Cond.code yX3_upOf cX3_upOf 7 (some .long), Cond.constantLong RX3 37 (2)]
def wsX3_rank : List Cond := .code yX3_rank cX3_rank 3 (some .int) :: ((wsX3_rank_r1 ++ wsX3_rank_r2) ++ wsX30)
def wsX3_freeze : List Cond := .code yX3_freeze cX3_freeze 2 (some .int) :: ([.fieldLink RX3 7 "FrozenBitsModel" "state" "[I", .methodLink RX3 66 yX3_isRow, .instanceMethod yX3_isRow, .selects RX3 yX3_isRow yX3_isRow, .initialized RX3, .code yX3_isRow cX3_isRow 2 (some .boolean), .methodLink RX3 29 yX3_places, .instanceMethod yX3_places, .selects RX3 yX3_places yX3_places, .code yX3_places cX3_places 1 (some .int), .methodLink RX3 33 yX3_in, .static yX3_in, .code yX3_in cX3_in 3 (some .boolean), .methodLink RX3 69 yX3_free, .instanceMethod yX3_free, .selects RX3 yX3_free yX3_free, .code yX3_free cX3_free 1 (some .int), .methodLink RX3 72 yX3_size, .static yX3_size, .code yX3_size cX3_size 3 (some .int)] ++ wsX30)
def wsX3_best : List Cond := .code yX3_best cX3_best 4 (some .int) :: ([.fieldLink RX3 7 "FrozenBitsModel" "state" "[I", .methodLink RX3 29 yX3_places, .instanceMethod yX3_places, .selects RX3 yX3_places yX3_places, .initialized RX3, .code yX3_places cX3_places 1 (some .int), .methodLink RX3 33 yX3_in, .static yX3_in, .code yX3_in cX3_in 3 (some .boolean), .methodLink RX3 63 yX3_bestAt, .instanceMethod yX3_bestAt, .selects RX3 yX3_bestAt yX3_bestAt, .code yX3_bestAt cX3_bestAt 3 (some .int), .methodLink RX3 59 yX3_aheadOf, .instanceMethod yX3_aheadOf, .selects RX3 yX3_aheadOf yX3_aheadOf, .code yX3_aheadOf cX3_aheadOf 4 (some .int), .methodLink RX3 47 yX3_upOf, .instanceMethod yX3_upOf, .selects RX3 yX3_upOf yX3_upOf, .code yX3_upOf cX3_upOf 7 (some .long), .constantLong RX3 37 (2)] ++ wsX30)
def wsX3_codedOf : List Cond := .code yX3_codedOf cX3_codedOf 8 (some .int) :: ([])
def wsX3_codedAll : List Cond := .code yX3_codedAll cX3_codedAll 2 (some .int) :: ([.methodLink RX3 29 yX3_places, .instanceMethod yX3_places, .selects RX3 yX3_places yX3_places, .initialized RX3, .code yX3_places cX3_places 1 (some .int), .fieldLink RX3 7 "FrozenBitsModel" "state" "[I", .methodLink RX3 75 yX3_codedOf, .static yX3_codedOf, .code yX3_codedOf cX3_codedOf 8 (some .int)] ++ wsX30)
def wsX3_coded : List Cond := .code yX3_coded cX3_coded 2 (some .int) :: ([.methodLink RX3 66 yX3_isRow, .instanceMethod yX3_isRow, .selects RX3 yX3_isRow yX3_isRow, .initialized RX3, .code yX3_isRow cX3_isRow 2 (some .boolean), .methodLink RX3 29 yX3_places, .instanceMethod yX3_places, .selects RX3 yX3_places yX3_places, .code yX3_places cX3_places 1 (some .int), .fieldLink RX3 7 "FrozenBitsModel" "state" "[I", .methodLink RX3 33 yX3_in, .static yX3_in, .code yX3_in cX3_in 3 (some .boolean), .methodLink RX3 79 yX3_codedAll, .instanceMethod yX3_codedAll, .selects RX3 yX3_codedAll yX3_codedAll, .code yX3_codedAll cX3_codedAll 2 (some .int), .methodLink RX3 75 yX3_codedOf, .static yX3_codedOf, .code yX3_codedOf cX3_codedOf 8 (some .int)] ++ wsX30)
def wsX3_wordOf : List Cond := .code yX3_wordOf cX3_wordOf 5 (some .int) :: ([.methodLink RX3 29 yX3_places, .instanceMethod yX3_places, .selects RX3 yX3_places yX3_places, .initialized RX3, .code yX3_places cX3_places 1 (some .int), .fieldLink RX3 7 "FrozenBitsModel" "state" "[I", .methodLink RX3 69 yX3_free, .instanceMethod yX3_free, .selects RX3 yX3_free yX3_free, .code yX3_free cX3_free 1 (some .int)] ++ wsX30)
def wsX3_word : List Cond := .code yX3_word cX3_word 2 (some .int) :: ([.methodLink RX3 69 yX3_free, .instanceMethod yX3_free, .selects RX3 yX3_free yX3_free, .initialized RX3, .code yX3_free cX3_free 1 (some .int), .fieldLink RX3 7 "FrozenBitsModel" "state" "[I", .methodLink RX3 29 yX3_places, .instanceMethod yX3_places, .selects RX3 yX3_places yX3_places, .code yX3_places cX3_places 1 (some .int), .methodLink RX3 72 yX3_size, .static yX3_size, .code yX3_size cX3_size 3 (some .int), .methodLink RX3 33 yX3_in, .static yX3_in, .code yX3_in cX3_in 3 (some .boolean), .methodLink RX3 82 yX3_wordOf, .instanceMethod yX3_wordOf, .selects RX3 yX3_wordOf yX3_wordOf, .code yX3_wordOf cX3_wordOf 5 (some .int)] ++ wsX30)
def wsX3_light_r1 : List Cond := [Cond.methodLink RX3 33 yX3_in, Cond.static yX3_in, Cond.initialized RX3, Cond.code yX3_in cX3_in 3 (some .boolean), Cond.methodLink RX3 69 yX3_free, Cond.instanceMethod yX3_free, Cond.selects RX3 yX3_free yX3_free, Cond.code yX3_free cX3_free 1 (some .int), Cond.fieldLink RX3 7 "FrozenBitsModel" "state" "[I", Cond.methodLink RX3 29 yX3_places, Cond.instanceMethod yX3_places, Cond.selects RX3 yX3_places yX3_places, Cond.code yX3_places cX3_places 1 (some .int), Cond.methodLink RX3 72 yX3_size, Cond.static yX3_size, Cond.code yX3_size cX3_size 3 (some .int), Cond.methodLink RX3 82 yX3_wordOf, Cond.instanceMethod yX3_wordOf, Cond.selects RX3 yX3_wordOf yX3_wordOf, Cond.code yX3_wordOf cX3_wordOf 5 (some .int), Cond.methodLink RX3 79 yX3_codedAll, Cond.instanceMethod yX3_codedAll, Cond.selects RX3 yX3_codedAll yX3_codedAll, Cond.code yX3_codedAll cX3_codedAll 2 (some .int)]
def wsX3_light_r2 : List Cond := [Cond.methodLink RX3 75 yX3_codedOf, Cond.static yX3_codedOf, Cond.code yX3_codedOf cX3_codedOf 8 (some .int)]
def wsX3_light : List Cond := .code yX3_light cX3_light 6 (some .int) :: ((wsX3_light_r1 ++ wsX3_light_r2) ++ wsX30)
def wsX3_put : List Cond := .code yX3_put cX3_put 4 (some .int) :: ([.constant RX3 85 (-1000001), .constant RX3 86 (-1000002), .fieldLink RX3 7 "FrozenBitsModel" "state" "[I", .methodLink RX3 39 yX3_isPlace, .instanceMethod yX3_isPlace, .selects RX3 yX3_isPlace yX3_isPlace, .initialized RX3, .code yX3_isPlace cX3_isPlace 2 (some .boolean), .methodLink RX3 29 yX3_places, .instanceMethod yX3_places, .selects RX3 yX3_places yX3_places, .code yX3_places cX3_places 1 (some .int), .methodLink RX3 33 yX3_in, .static yX3_in, .code yX3_in cX3_in 3 (some .boolean)] ++ wsX30)
def wsX3_hear : List Cond := .code yX3_hear cX3_hear 5 (some .int) :: ([.fieldLink RX3 7 "FrozenBitsModel" "state" "[I", .methodLink RX3 66 yX3_isRow, .instanceMethod yX3_isRow, .selects RX3 yX3_isRow yX3_isRow, .initialized RX3, .code yX3_isRow cX3_isRow 2 (some .boolean), .methodLink RX3 29 yX3_places, .instanceMethod yX3_places, .selects RX3 yX3_places yX3_places, .code yX3_places cX3_places 1 (some .int), .methodLink RX3 33 yX3_in, .static yX3_in, .code yX3_in cX3_in 3 (some .boolean), .methodLink RX3 79 yX3_codedAll, .instanceMethod yX3_codedAll, .selects RX3 yX3_codedAll yX3_codedAll, .code yX3_codedAll cX3_codedAll 2 (some .int), .methodLink RX3 75 yX3_codedOf, .static yX3_codedOf, .code yX3_codedOf cX3_codedOf 8 (some .int)] ++ wsX30)
def wsX3_spoil : List Cond := .code yX3_spoil cX3_spoil 5 (some .int) :: ([.fieldLink RX3 7 "FrozenBitsModel" "state" "[I", .methodLink RX3 66 yX3_isRow, .instanceMethod yX3_isRow, .selects RX3 yX3_isRow yX3_isRow, .initialized RX3, .code yX3_isRow cX3_isRow 2 (some .boolean), .methodLink RX3 29 yX3_places, .instanceMethod yX3_places, .selects RX3 yX3_places yX3_places, .code yX3_places cX3_places 1 (some .int), .methodLink RX3 33 yX3_in, .static yX3_in, .code yX3_in cX3_in 3 (some .boolean)] ++ wsX30)
def wsX3_lesser : List Cond := .code yX3_lesser cX3_lesser 5 (some .int) :: ([.methodLink RX3 87 yX3_plain, .static yX3_plain, .initialized RX3, .code yX3_plain cX3_plain 1 (some .int)])
def wsX3_seen : List Cond := .code yX3_seen cX3_seen 10 (some .int) :: ([.fieldLink RX3 20 "FrozenBitsModel" "left" "[I", .fieldLink RX3 7 "FrozenBitsModel" "state" "[I", .methodLink RX3 29 yX3_places, .instanceMethod yX3_places, .selects RX3 yX3_places yX3_places, .initialized RX3, .code yX3_places cX3_places 1 (some .int), .methodLink RX3 75 yX3_codedOf, .static yX3_codedOf, .code yX3_codedOf cX3_codedOf 8 (some .int), .methodLink RX3 90 yX3_lesser, .static yX3_lesser, .code yX3_lesser cX3_lesser 5 (some .int), .methodLink RX3 87 yX3_plain, .static yX3_plain, .code yX3_plain cX3_plain 1 (some .int)] ++ wsX30)
def wsX3_readAll : List Cond := .code yX3_readAll cX3_readAll 4 (some .int) :: ([.methodLink RX3 29 yX3_places, .instanceMethod yX3_places, .selects RX3 yX3_places yX3_places, .initialized RX3, .code yX3_places cX3_places 1 (some .int), .fieldLink RX3 7 "FrozenBitsModel" "state" "[I", .methodLink RX3 69 yX3_free, .instanceMethod yX3_free, .selects RX3 yX3_free yX3_free, .code yX3_free cX3_free 1 (some .int), .methodLink RX3 94 yX3_seen, .instanceMethod yX3_seen, .selects RX3 yX3_seen yX3_seen, .code yX3_seen cX3_seen 10 (some .int), .fieldLink RX3 20 "FrozenBitsModel" "left" "[I", .methodLink RX3 75 yX3_codedOf, .static yX3_codedOf, .code yX3_codedOf cX3_codedOf 8 (some .int), .methodLink RX3 90 yX3_lesser, .static yX3_lesser, .code yX3_lesser cX3_lesser 5 (some .int), .methodLink RX3 87 yX3_plain, .static yX3_plain, .code yX3_plain cX3_plain 1 (some .int)] ++ wsX30)
def wsX3_measure_r1 : List Cond := [Cond.constant RX3 85 (-1000001), Cond.constant RX3 86 (-1000002), Cond.fieldLink RX3 7 "FrozenBitsModel" "state" "[I", Cond.methodLink RX3 39 yX3_isPlace, Cond.instanceMethod yX3_isPlace, Cond.selects RX3 yX3_isPlace yX3_isPlace, Cond.initialized RX3, Cond.code yX3_isPlace cX3_isPlace 2 (some .boolean), Cond.methodLink RX3 29 yX3_places, Cond.instanceMethod yX3_places, Cond.selects RX3 yX3_places yX3_places, Cond.code yX3_places cX3_places 1 (some .int), Cond.methodLink RX3 33 yX3_in, Cond.static yX3_in, Cond.code yX3_in cX3_in 3 (some .boolean), Cond.methodLink RX3 97 yX3_readAll, Cond.instanceMethod yX3_readAll, Cond.selects RX3 yX3_readAll yX3_readAll, Cond.code yX3_readAll cX3_readAll 4 (some .int), Cond.methodLink RX3 69 yX3_free, Cond.instanceMethod yX3_free, Cond.selects RX3 yX3_free yX3_free, Cond.code yX3_free cX3_free 1 (some .int), Cond.methodLink RX3 94 yX3_seen]
def wsX3_measure_r2 : List Cond := [Cond.instanceMethod yX3_seen, Cond.selects RX3 yX3_seen yX3_seen, Cond.code yX3_seen cX3_seen 10 (some .int), Cond.fieldLink RX3 20 "FrozenBitsModel" "left" "[I", Cond.methodLink RX3 75 yX3_codedOf, Cond.static yX3_codedOf, Cond.code yX3_codedOf cX3_codedOf 8 (some .int), Cond.methodLink RX3 90 yX3_lesser, Cond.static yX3_lesser, Cond.code yX3_lesser cX3_lesser 5 (some .int), Cond.methodLink RX3 87 yX3_plain, Cond.static yX3_plain, Cond.code yX3_plain cX3_plain 1 (some .int)]
def wsX3_measure : List Cond := .code yX3_measure cX3_measure 3 (some .int) :: ((wsX3_measure_r1 ++ wsX3_measure_r2) ++ wsX30)
def wsX3_fineOf : List Cond := .code yX3_fineOf cX3_fineOf 5 (some .int) :: ([.methodLink RX3 94 yX3_seen, .instanceMethod yX3_seen, .selects RX3 yX3_seen yX3_seen, .initialized RX3, .code yX3_seen cX3_seen 10 (some .int), .fieldLink RX3 20 "FrozenBitsModel" "left" "[I", .fieldLink RX3 7 "FrozenBitsModel" "state" "[I", .methodLink RX3 29 yX3_places, .instanceMethod yX3_places, .selects RX3 yX3_places yX3_places, .code yX3_places cX3_places 1 (some .int), .methodLink RX3 75 yX3_codedOf, .static yX3_codedOf, .code yX3_codedOf cX3_codedOf 8 (some .int), .methodLink RX3 90 yX3_lesser, .static yX3_lesser, .code yX3_lesser cX3_lesser 5 (some .int), .methodLink RX3 87 yX3_plain, .static yX3_plain, .code yX3_plain cX3_plain 1 (some .int)] ++ wsX30)
def wsX3_fineOfAll : List Cond := .code yX3_fineOfAll cX3_fineOfAll 4 (some .int) :: ([.methodLink RX3 29 yX3_places, .instanceMethod yX3_places, .selects RX3 yX3_places yX3_places, .initialized RX3, .code yX3_places cX3_places 1 (some .int), .fieldLink RX3 7 "FrozenBitsModel" "state" "[I", .methodLink RX3 100 yX3_fineOf, .instanceMethod yX3_fineOf, .selects RX3 yX3_fineOf yX3_fineOf, .code yX3_fineOf cX3_fineOf 5 (some .int), .methodLink RX3 94 yX3_seen, .instanceMethod yX3_seen, .selects RX3 yX3_seen yX3_seen, .code yX3_seen cX3_seen 10 (some .int), .fieldLink RX3 20 "FrozenBitsModel" "left" "[I", .methodLink RX3 75 yX3_codedOf, .static yX3_codedOf, .code yX3_codedOf cX3_codedOf 8 (some .int), .methodLink RX3 90 yX3_lesser, .static yX3_lesser, .code yX3_lesser cX3_lesser 5 (some .int), .methodLink RX3 87 yX3_plain, .static yX3_plain, .code yX3_plain cX3_plain 1 (some .int)] ++ wsX30)
def wsX3_unlike : List Cond := .code yX3_unlike cX3_unlike 6 (some .int) :: ([.fieldLink RX3 7 "FrozenBitsModel" "state" "[I", .methodLink RX3 79 yX3_codedAll, .instanceMethod yX3_codedAll, .selects RX3 yX3_codedAll yX3_codedAll, .initialized RX3, .code yX3_codedAll cX3_codedAll 2 (some .int), .methodLink RX3 29 yX3_places, .instanceMethod yX3_places, .selects RX3 yX3_places yX3_places, .code yX3_places cX3_places 1 (some .int), .methodLink RX3 75 yX3_codedOf, .static yX3_codedOf, .code yX3_codedOf cX3_codedOf 8 (some .int)] ++ wsX30)
def wsX3_holds : List Cond := .code yX3_holds cX3_holds 4 (some .boolean) :: ([.fieldLink RX3 7 "FrozenBitsModel" "state" "[I", .methodLink RX3 72 yX3_size, .static yX3_size, .initialized RX3, .code yX3_size cX3_size 3 (some .int)] ++ wsX30)
def wsX3_read_r1 : List Cond := [Cond.methodLink RX3 33 yX3_in, Cond.static yX3_in, Cond.initialized RX3, Cond.code yX3_in cX3_in 3 (some .boolean), Cond.methodLink RX3 97 yX3_readAll, Cond.instanceMethod yX3_readAll, Cond.selects RX3 yX3_readAll yX3_readAll, Cond.code yX3_readAll cX3_readAll 4 (some .int), Cond.methodLink RX3 29 yX3_places, Cond.instanceMethod yX3_places, Cond.selects RX3 yX3_places yX3_places, Cond.code yX3_places cX3_places 1 (some .int), Cond.fieldLink RX3 7 "FrozenBitsModel" "state" "[I", Cond.methodLink RX3 69 yX3_free, Cond.instanceMethod yX3_free, Cond.selects RX3 yX3_free yX3_free, Cond.code yX3_free cX3_free 1 (some .int), Cond.methodLink RX3 94 yX3_seen, Cond.instanceMethod yX3_seen, Cond.selects RX3 yX3_seen yX3_seen, Cond.code yX3_seen cX3_seen 10 (some .int), Cond.fieldLink RX3 20 "FrozenBitsModel" "left" "[I", Cond.methodLink RX3 75 yX3_codedOf, Cond.static yX3_codedOf]
def wsX3_read_r2 : List Cond := [Cond.code yX3_codedOf cX3_codedOf 8 (some .int), Cond.methodLink RX3 90 yX3_lesser, Cond.static yX3_lesser, Cond.code yX3_lesser cX3_lesser 5 (some .int), Cond.methodLink RX3 87 yX3_plain, Cond.static yX3_plain, Cond.code yX3_plain cX3_plain 1 (some .int), Cond.methodLink RX3 103 yX3_fineOfAll, Cond.instanceMethod yX3_fineOfAll, Cond.selects RX3 yX3_fineOfAll yX3_fineOfAll, Cond.code yX3_fineOfAll cX3_fineOfAll 4 (some .int), Cond.methodLink RX3 100 yX3_fineOf, Cond.instanceMethod yX3_fineOf, Cond.selects RX3 yX3_fineOf yX3_fineOf, Cond.code yX3_fineOf cX3_fineOf 5 (some .int), Cond.methodLink RX3 106 yX3_unlike, Cond.instanceMethod yX3_unlike, Cond.selects RX3 yX3_unlike yX3_unlike, Cond.code yX3_unlike cX3_unlike 6 (some .int), Cond.methodLink RX3 79 yX3_codedAll, Cond.instanceMethod yX3_codedAll, Cond.selects RX3 yX3_codedAll yX3_codedAll, Cond.code yX3_codedAll cX3_codedAll 2 (some .int), Cond.methodLink RX3 109 yX3_holds]
def wsX3_read_r3 : List Cond := [Cond.instanceMethod yX3_holds, Cond.selects RX3 yX3_holds yX3_holds, Cond.code yX3_holds cX3_holds 4 (some .boolean), Cond.methodLink RX3 72 yX3_size, Cond.static yX3_size, Cond.code yX3_size cX3_size 3 (some .int)]
def wsX3_read : List Cond := .code yX3_read cX3_read 3 (some .int) :: ((wsX3_read_r1 ++ (wsX3_read_r2 ++ wsX3_read_r3)) ++ wsX30)
def wsX3_most : List Cond := .code yX3_most cX3_most 3 (some .int) :: ([.fieldLink RX3 7 "FrozenBitsModel" "state" "[I", .methodLink RX3 33 yX3_in, .static yX3_in, .initialized RX3, .code yX3_in cX3_in 3 (some .boolean)] ++ wsX30)
def wsX3_isAhead : List Cond := .code yX3_isAhead cX3_isAhead 3 (some .boolean) :: ([.fieldLink RX3 26 "FrozenBitsModel" "fines" "[I", .fieldLink RX3 23 "FrozenBitsModel" "rows" "[I"] ++ wsX30)
def wsX3_swap : List Cond := .code yX3_swap cX3_swap 5 none :: ([.fieldLink RX3 23 "FrozenBitsModel" "rows" "[I", .fieldLink RX3 26 "FrozenBitsModel" "fines" "[I"] ++ wsX30)
def wsX3_sort : List Cond := .code yX3_sort cX3_sort 3 none :: ([.fieldLink RX3 112 "FrozenBitsModel" "kept" "I", .methodLink RX3 116 yX3_isAhead, .instanceMethod yX3_isAhead, .selects RX3 yX3_isAhead yX3_isAhead, .initialized RX3, .code yX3_isAhead cX3_isAhead 3 (some .boolean), .fieldLink RX3 26 "FrozenBitsModel" "fines" "[I", .fieldLink RX3 23 "FrozenBitsModel" "rows" "[I", .methodLink RX3 120 yX3_swap, .instanceMethod yX3_swap, .selects RX3 yX3_swap yX3_swap, .code yX3_swap cX3_swap 5 none] ++ wsX30)
def wsX3_layKept_r1 : List Cond := [Cond.fieldLink RX3 112 "FrozenBitsModel" "kept" "I", Cond.fieldLink RX3 23 "FrozenBitsModel" "rows" "[I", Cond.fieldLink RX3 26 "FrozenBitsModel" "fines" "[I", Cond.fieldLink RX3 7 "FrozenBitsModel" "state" "[I", Cond.methodLink RX3 29 yX3_places, Cond.instanceMethod yX3_places, Cond.selects RX3 yX3_places yX3_places, Cond.initialized RX3, Cond.code yX3_places cX3_places 1 (some .int), Cond.methodLink RX3 69 yX3_free, Cond.instanceMethod yX3_free, Cond.selects RX3 yX3_free yX3_free, Cond.code yX3_free cX3_free 1 (some .int), Cond.methodLink RX3 100 yX3_fineOf, Cond.instanceMethod yX3_fineOf, Cond.selects RX3 yX3_fineOf yX3_fineOf, Cond.code yX3_fineOf cX3_fineOf 5 (some .int), Cond.methodLink RX3 94 yX3_seen, Cond.instanceMethod yX3_seen, Cond.selects RX3 yX3_seen yX3_seen, Cond.code yX3_seen cX3_seen 10 (some .int), Cond.fieldLink RX3 20 "FrozenBitsModel" "left" "[I", Cond.methodLink RX3 75 yX3_codedOf, Cond.static yX3_codedOf]
def wsX3_layKept_r2 : List Cond := [Cond.code yX3_codedOf cX3_codedOf 8 (some .int), Cond.methodLink RX3 90 yX3_lesser, Cond.static yX3_lesser, Cond.code yX3_lesser cX3_lesser 5 (some .int), Cond.methodLink RX3 87 yX3_plain, Cond.static yX3_plain, Cond.code yX3_plain cX3_plain 1 (some .int), Cond.methodLink RX3 124 yX3_sort, Cond.instanceMethod yX3_sort, Cond.selects RX3 yX3_sort yX3_sort, Cond.code yX3_sort cX3_sort 3 none, Cond.methodLink RX3 116 yX3_isAhead, Cond.instanceMethod yX3_isAhead, Cond.selects RX3 yX3_isAhead yX3_isAhead, Cond.code yX3_isAhead cX3_isAhead 3 (some .boolean), Cond.methodLink RX3 120 yX3_swap, Cond.instanceMethod yX3_swap, Cond.selects RX3 yX3_swap yX3_swap, Cond.code yX3_swap cX3_swap 5 none]
def wsX3_layKept : List Cond := .code yX3_layKept cX3_layKept 4 none :: ((wsX3_layKept_r1 ++ wsX3_layKept_r2) ++ wsX30)
def wsX3_kept_r1 : List Cond := [Cond.fieldLink RX3 112 "FrozenBitsModel" "kept" "I", Cond.fieldLink RX3 23 "FrozenBitsModel" "rows" "[I", Cond.fieldLink RX3 26 "FrozenBitsModel" "fines" "[I", Cond.methodLink RX3 33 yX3_in, Cond.static yX3_in, Cond.initialized RX3, Cond.code yX3_in cX3_in 3 (some .boolean), Cond.methodLink RX3 127 yX3_layKept, Cond.instanceMethod yX3_layKept, Cond.selects RX3 yX3_layKept yX3_layKept, Cond.code yX3_layKept cX3_layKept 4 none, Cond.fieldLink RX3 7 "FrozenBitsModel" "state" "[I", Cond.methodLink RX3 29 yX3_places, Cond.instanceMethod yX3_places, Cond.selects RX3 yX3_places yX3_places, Cond.code yX3_places cX3_places 1 (some .int), Cond.methodLink RX3 69 yX3_free, Cond.instanceMethod yX3_free, Cond.selects RX3 yX3_free yX3_free, Cond.code yX3_free cX3_free 1 (some .int), Cond.methodLink RX3 100 yX3_fineOf, Cond.instanceMethod yX3_fineOf, Cond.selects RX3 yX3_fineOf yX3_fineOf, Cond.code yX3_fineOf cX3_fineOf 5 (some .int)]
def wsX3_kept_r2 : List Cond := [Cond.methodLink RX3 94 yX3_seen, Cond.instanceMethod yX3_seen, Cond.selects RX3 yX3_seen yX3_seen, Cond.code yX3_seen cX3_seen 10 (some .int), Cond.fieldLink RX3 20 "FrozenBitsModel" "left" "[I", Cond.methodLink RX3 75 yX3_codedOf, Cond.static yX3_codedOf, Cond.code yX3_codedOf cX3_codedOf 8 (some .int), Cond.methodLink RX3 90 yX3_lesser, Cond.static yX3_lesser, Cond.code yX3_lesser cX3_lesser 5 (some .int), Cond.methodLink RX3 87 yX3_plain, Cond.static yX3_plain, Cond.code yX3_plain cX3_plain 1 (some .int), Cond.methodLink RX3 124 yX3_sort, Cond.instanceMethod yX3_sort, Cond.selects RX3 yX3_sort yX3_sort, Cond.code yX3_sort cX3_sort 3 none, Cond.methodLink RX3 116 yX3_isAhead, Cond.instanceMethod yX3_isAhead, Cond.selects RX3 yX3_isAhead yX3_isAhead, Cond.code yX3_isAhead cX3_isAhead 3 (some .boolean), Cond.methodLink RX3 120 yX3_swap, Cond.instanceMethod yX3_swap]
def wsX3_kept_r3 : List Cond := [Cond.selects RX3 yX3_swap yX3_swap, Cond.code yX3_swap cX3_swap 5 none, Cond.methodLink RX3 109 yX3_holds, Cond.instanceMethod yX3_holds, Cond.selects RX3 yX3_holds yX3_holds, Cond.code yX3_holds cX3_holds 4 (some .boolean), Cond.methodLink RX3 72 yX3_size, Cond.static yX3_size, Cond.code yX3_size cX3_size 3 (some .int)]
def wsX3_kept : List Cond := .code yX3_kept cX3_kept 3 (some .int) :: ((wsX3_kept_r1 ++ (wsX3_kept_r2 ++ wsX3_kept_r3)) ++ wsX30)
def wsX3_chosen_r1 : List Cond := [Cond.fieldLink RX3 112 "FrozenBitsModel" "kept" "I", Cond.fieldLink RX3 23 "FrozenBitsModel" "rows" "[I", Cond.fieldLink RX3 26 "FrozenBitsModel" "fines" "[I", Cond.methodLink RX3 33 yX3_in, Cond.static yX3_in, Cond.initialized RX3, Cond.code yX3_in cX3_in 3 (some .boolean), Cond.methodLink RX3 127 yX3_layKept, Cond.instanceMethod yX3_layKept, Cond.selects RX3 yX3_layKept yX3_layKept, Cond.code yX3_layKept cX3_layKept 4 none, Cond.fieldLink RX3 7 "FrozenBitsModel" "state" "[I", Cond.methodLink RX3 29 yX3_places, Cond.instanceMethod yX3_places, Cond.selects RX3 yX3_places yX3_places, Cond.code yX3_places cX3_places 1 (some .int), Cond.methodLink RX3 69 yX3_free, Cond.instanceMethod yX3_free, Cond.selects RX3 yX3_free yX3_free, Cond.code yX3_free cX3_free 1 (some .int), Cond.methodLink RX3 100 yX3_fineOf, Cond.instanceMethod yX3_fineOf, Cond.selects RX3 yX3_fineOf yX3_fineOf, Cond.code yX3_fineOf cX3_fineOf 5 (some .int)]
def wsX3_chosen_r2 : List Cond := [Cond.methodLink RX3 94 yX3_seen, Cond.instanceMethod yX3_seen, Cond.selects RX3 yX3_seen yX3_seen, Cond.code yX3_seen cX3_seen 10 (some .int), Cond.fieldLink RX3 20 "FrozenBitsModel" "left" "[I", Cond.methodLink RX3 75 yX3_codedOf, Cond.static yX3_codedOf, Cond.code yX3_codedOf cX3_codedOf 8 (some .int), Cond.methodLink RX3 90 yX3_lesser, Cond.static yX3_lesser, Cond.code yX3_lesser cX3_lesser 5 (some .int), Cond.methodLink RX3 87 yX3_plain, Cond.static yX3_plain, Cond.code yX3_plain cX3_plain 1 (some .int), Cond.methodLink RX3 124 yX3_sort, Cond.instanceMethod yX3_sort, Cond.selects RX3 yX3_sort yX3_sort, Cond.code yX3_sort cX3_sort 3 none, Cond.methodLink RX3 116 yX3_isAhead, Cond.instanceMethod yX3_isAhead, Cond.selects RX3 yX3_isAhead yX3_isAhead, Cond.code yX3_isAhead cX3_isAhead 3 (some .boolean), Cond.methodLink RX3 120 yX3_swap, Cond.instanceMethod yX3_swap]
def wsX3_chosen_r3 : List Cond := [Cond.selects RX3 yX3_swap yX3_swap, Cond.code yX3_swap cX3_swap 5 none, Cond.methodLink RX3 109 yX3_holds, Cond.instanceMethod yX3_holds, Cond.selects RX3 yX3_holds yX3_holds, Cond.code yX3_holds cX3_holds 4 (some .boolean), Cond.methodLink RX3 72 yX3_size, Cond.static yX3_size, Cond.code yX3_size cX3_size 3 (some .int)]
def wsX3_chosen : List Cond := .code yX3_chosen cX3_chosen 3 (some .int) :: ((wsX3_chosen_r1 ++ (wsX3_chosen_r2 ++ wsX3_chosen_r3)) ++ wsX30)
def wsX3_check : List Cond := .code yX3_check cX3_check 4 (some .int) :: ([.fieldLink RX3 7 "FrozenBitsModel" "state" "[I", .methodLink RX3 33 yX3_in, .static yX3_in, .initialized RX3, .code yX3_in cX3_in 3 (some .boolean), .methodLink RX3 66 yX3_isRow, .instanceMethod yX3_isRow, .selects RX3 yX3_isRow yX3_isRow, .code yX3_isRow cX3_isRow 2 (some .boolean), .methodLink RX3 29 yX3_places, .instanceMethod yX3_places, .selects RX3 yX3_places yX3_places, .code yX3_places cX3_places 1 (some .int)] ++ wsX30)
def wsX3_openFor : List Cond := .code yX3_openFor cX3_openFor 7 (some .int) :: ([.methodLink RX3 29 yX3_places, .instanceMethod yX3_places, .selects RX3 yX3_places yX3_places, .initialized RX3, .code yX3_places cX3_places 1 (some .int), .fieldLink RX3 7 "FrozenBitsModel" "state" "[I", .methodLink RX3 69 yX3_free, .instanceMethod yX3_free, .selects RX3 yX3_free yX3_free, .code yX3_free cX3_free 1 (some .int)] ++ wsX30)
def wsX3_open : List Cond := .code yX3_open cX3_open 3 (some .int) :: ([.methodLink RX3 66 yX3_isRow, .instanceMethod yX3_isRow, .selects RX3 yX3_isRow yX3_isRow, .initialized RX3, .code yX3_isRow cX3_isRow 2 (some .boolean), .methodLink RX3 29 yX3_places, .instanceMethod yX3_places, .selects RX3 yX3_places yX3_places, .code yX3_places cX3_places 1 (some .int), .fieldLink RX3 7 "FrozenBitsModel" "state" "[I", .methodLink RX3 33 yX3_in, .static yX3_in, .code yX3_in cX3_in 3 (some .boolean), .methodLink RX3 130 yX3_openFor, .instanceMethod yX3_openFor, .selects RX3 yX3_openFor yX3_openFor, .code yX3_openFor cX3_openFor 7 (some .int), .methodLink RX3 69 yX3_free, .instanceMethod yX3_free, .selects RX3 yX3_free yX3_free, .code yX3_free cX3_free 1 (some .int), .methodLink RX3 72 yX3_size, .static yX3_size, .code yX3_size cX3_size 3 (some .int)] ++ wsX30)
def wsX3_fragile : List Cond := .code yX3_fragile cX3_fragile 7 (some .int) :: ([.methodLink RX3 33 yX3_in, .static yX3_in, .initialized RX3, .code yX3_in cX3_in 3 (some .boolean), .methodLink RX3 29 yX3_places, .instanceMethod yX3_places, .selects RX3 yX3_places yX3_places, .code yX3_places cX3_places 1 (some .int), .fieldLink RX3 7 "FrozenBitsModel" "state" "[I", .methodLink RX3 72 yX3_size, .static yX3_size, .code yX3_size cX3_size 3 (some .int), .methodLink RX3 130 yX3_openFor, .instanceMethod yX3_openFor, .selects RX3 yX3_openFor yX3_openFor, .code yX3_openFor cX3_openFor 7 (some .int), .methodLink RX3 69 yX3_free, .instanceMethod yX3_free, .selects RX3 yX3_free yX3_free, .code yX3_free cX3_free 1 (some .int)] ++ wsX30)
def wsX3_image : List Cond := .code yX3_image cX3_image 3 (some .int) :: ([.fieldLink RX3 13 "FrozenBitsModel" "images" "[I", .fieldLink RX3 7 "FrozenBitsModel" "state" "[I", .fieldLink RX3 16 "FrozenBitsModel" "isKept" "[Z", .methodLink RX3 33 yX3_in, .static yX3_in, .initialized RX3, .code yX3_in cX3_in 3 (some .boolean)] ++ wsX30)
def wsX3_restore : List Cond := .code yX3_restore cX3_restore 3 (some .int) :: ([.fieldLink RX3 16 "FrozenBitsModel" "isKept" "[Z", .fieldLink RX3 7 "FrozenBitsModel" "state" "[I", .fieldLink RX3 13 "FrozenBitsModel" "images" "[I", .methodLink RX3 33 yX3_in, .static yX3_in, .initialized RX3, .code yX3_in cX3_in 3 (some .boolean)] ++ wsX30)
def wsX3_count : List Cond := .code yX3_count cX3_count 2 (some .int) :: ([.fieldLink RX3 7 "FrozenBitsModel" "state" "[I", .fieldLink RX3 16 "FrozenBitsModel" "isKept" "[Z", .methodLink RX3 33 yX3_in, .static yX3_in, .initialized RX3, .code yX3_in cX3_in 3 (some .boolean), .methodLink RX3 69 yX3_free, .instanceMethod yX3_free, .selects RX3 yX3_free yX3_free, .code yX3_free cX3_free 1 (some .int), .methodLink RX3 29 yX3_places, .instanceMethod yX3_places, .selects RX3 yX3_places yX3_places, .code yX3_places cX3_places 1 (some .int), .methodLink RX3 72 yX3_size, .static yX3_size, .code yX3_size cX3_size 3 (some .int)] ++ wsX30)
def wsJ9_abs_0f7a4 : List Cond := .code yJ9_abs_0f7a4 cJ9_abs_0f7a4 1 (some .int) :: ([])
def wsJ9_max_7cf53 : List Cond := .code yJ9_max_7cf53 cJ9_max_7cf53 2 (some .int) :: ([])
def wsJ9_min_7cf53 : List Cond := .code yJ9_min_7cf53 cJ9_min_7cf53 2 (some .int) :: ([])
def wsL_law_r1 : List Cond := [Cond.classLink RL 7 RX2, Cond.instantiable RX2 7, Cond.initialized RX2, Cond.classLink RL 10 RX3, Cond.instantiable RX3 7, Cond.initialized RX3, Cond.methodLink RL 9 yX2_init, Cond.instanceMethod yX2_init, Cond.code yX2_init cX2_init 1 none, Cond.methodLink RX2 1 objectInit, Cond.instanceMethod objectInit, Cond.code objectInit ⟨#[0xb1]⟩ 1 none, Cond.classLink RX2 7 RX0, Cond.instantiable RX0 7, Cond.initialized RX0, Cond.fieldLink RX2 10 "FrozenBits" "now" "LFrozenBits$Facts;", Cond.fieldLink RX2 16 "FrozenBits" "firstImage" "LFrozenBits$Facts;", Cond.fieldLink RX2 19 "FrozenBits" "secondImage" "LFrozenBits$Facts;", Cond.fieldLink RX2 22 "FrozenBits" "imagesKept" "I", Cond.arrayClass .int, Cond.fieldLink RX2 26 "FrozenBits" "halves" "[I", Cond.classLink RX2 30 RX1, Cond.instantiable RX1 3, Cond.initialized RX1]
def wsL_law_r2 : List Cond := [Cond.fieldLink RX2 33 "FrozenBits" "told" "LFrozenBits$FinedRows;", Cond.fieldLink RX2 37 "FrozenBits" "grown" "LFrozenBits$FinedRows;", Cond.instanceMethod yX0_init, Cond.code yX0_init cX0_init 1 none, Cond.methodLink RX0 3 objectInit, Cond.fieldLink RX0 9 "FrozenBits$Facts" "deep" "I", Cond.fieldLink RX0 15 "FrozenBits$Facts" "top" "I", Cond.fieldLink RX0 18 "FrozenBits$Facts" "of" "I", Cond.fieldLink RX0 21 "FrozenBits$Facts" "frozen" "I", Cond.fieldLink RX0 24 "FrozenBits$Facts" "most" "I", Cond.fieldLink RX0 27 "FrozenBits$Facts" "measures" "[I", Cond.fieldLink RX0 31 "FrozenBits$Facts" "checks" "[I", Cond.instanceMethod yX1_init, Cond.code yX1_init cX1_init 1 none, Cond.methodLink RX1 3 objectInit, Cond.fieldLink RX1 11 "FrozenBits$FinedRows" "rows" "[I", Cond.fieldLink RX1 15 "FrozenBits$FinedRows" "fines" "[I", Cond.fieldLink RX1 18 "FrozenBits$FinedRows" "size" "I", Cond.methodLink RL 12 yX3_init, Cond.instanceMethod yX3_init, Cond.code yX3_init cX3_init 1 none, Cond.methodLink RX3 1 objectInit, Cond.fieldLink RX3 7 "FrozenBitsModel" "state" "[I", Cond.fieldLink RX3 13 "FrozenBitsModel" "images" "[I"]
def wsL_law_r3 : List Cond := [Cond.arrayClass .boolean, Cond.fieldLink RX3 16 "FrozenBitsModel" "isKept" "[Z", Cond.fieldLink RX3 20 "FrozenBitsModel" "left" "[I", Cond.fieldLink RX3 23 "FrozenBitsModel" "rows" "[I", Cond.fieldLink RX3 26 "FrozenBitsModel" "fines" "[I", Cond.methodLink RL 13 yX2_deep, Cond.instanceMethod yX2_deep, Cond.selects RX2 yX2_deep yX2_deep, Cond.code yX2_deep cX2_deep 3 (some .int), Cond.methodLink RX2 43 yX0_beginAnew, Cond.instanceMethod yX0_beginAnew, Cond.selects RX0 yX0_beginAnew yX0_beginAnew, Cond.code yX0_beginAnew cX0_beginAnew 3 none, Cond.methodLink RL 17 yX3_deep, Cond.instanceMethod yX3_deep, Cond.selects RX3 yX3_deep yX3_deep, Cond.code yX3_deep cX3_deep 4 (some .int), Cond.methodLink RX3 33 yX3_in, Cond.static yX3_in, Cond.code yX3_in cX3_in 3 (some .boolean), Cond.methodLink RL 18 yX2_loss, Cond.instanceMethod yX2_loss, Cond.selects RX2 yX2_loss yX2_loss, Cond.code yX2_loss cX2_loss 4 (some .int)]
def wsL_law_r4 : List Cond := [Cond.methodLink RL 22 yX3_loss, Cond.instanceMethod yX3_loss, Cond.selects RX3 yX3_loss yX3_loss, Cond.code yX3_loss cX3_loss 4 (some .int), Cond.methodLink RL 23 yX2_split, Cond.instanceMethod yX2_split, Cond.selects RX2 yX2_split yX2_split, Cond.code yX2_split cX2_split 9 (some .long), Cond.constantLong RX2 57 (-1), Cond.constantLong RX2 59 (-2), Cond.methodLink RX2 53 yX2_isPlace, Cond.instanceMethod yX2_isPlace, Cond.selects RX2 yX2_isPlace yX2_isPlace, Cond.code yX2_isPlace cX2_isPlace 2 (some .boolean), Cond.methodLink RX2 90 yX2_places, Cond.instanceMethod yX2_places, Cond.selects RX2 yX2_places yX2_places, Cond.code yX2_places cX2_places 1 (some .int), Cond.methodLink RX2 61 yX2_upperLoss, Cond.instanceMethod yX2_upperLoss, Cond.selects RX2 yX2_upperLoss yX2_upperLoss, Cond.code yX2_upperLoss cX2_upperLoss 8 (some .long), Cond.constantLong RX2 182 (2), Cond.methodLink RX2 65 yX2_lowerLoss]
def wsL_law_r5 : List Cond := [Cond.instanceMethod yX2_lowerLoss, Cond.selects RX2 yX2_lowerLoss yX2_lowerLoss, Cond.code yX2_lowerLoss cX2_lowerLoss 4 (some .long), Cond.methodLink RX2 69 yX2_commonDivisor, Cond.static yX2_commonDivisor, Cond.code yX2_commonDivisor cX2_commonDivisor 11 (some .long), Cond.methodLink RL 27 yX3_split, Cond.instanceMethod yX3_split, Cond.selects RX3 yX3_split yX3_split, Cond.code yX3_split cX3_split 9 (some .long), Cond.constantLong RX3 43 (-1), Cond.constantLong RX3 45 (-2), Cond.methodLink RX3 39 yX3_isPlace, Cond.instanceMethod yX3_isPlace, Cond.selects RX3 yX3_isPlace yX3_isPlace, Cond.code yX3_isPlace cX3_isPlace 2 (some .boolean), Cond.methodLink RX3 29 yX3_places, Cond.instanceMethod yX3_places, Cond.selects RX3 yX3_places yX3_places, Cond.code yX3_places cX3_places 1 (some .int), Cond.methodLink RX3 47 yX3_upOf, Cond.instanceMethod yX3_upOf, Cond.selects RX3 yX3_upOf yX3_upOf, Cond.code yX3_upOf cX3_upOf 7 (some .long)]
def wsL_law_r6 : List Cond := [Cond.constantLong RX3 37 (2), Cond.methodLink RX3 51 yX3_lowOfAll, Cond.instanceMethod yX3_lowOfAll, Cond.selects RX3 yX3_lowOfAll yX3_lowOfAll, Cond.code yX3_lowOfAll cX3_lowOfAll 4 (some .long), Cond.methodLink RX3 55 yX3_common, Cond.static yX3_common, Cond.code yX3_common cX3_common 10 (some .long), Cond.methodLink RL 28 yX2_rank, Cond.instanceMethod yX2_rank, Cond.selects RX2 yX2_rank yX2_rank, Cond.code yX2_rank cX2_rank 3 (some .int), Cond.methodLink RX2 73 yX2_bitOfRank, Cond.instanceMethod yX2_bitOfRank, Cond.selects RX2 yX2_bitOfRank yX2_bitOfRank, Cond.code yX2_bitOfRank cX2_bitOfRank 3 (some .int), Cond.methodLink RX2 77 yX2_howManyBetter, Cond.instanceMethod yX2_howManyBetter, Cond.selects RX2 yX2_howManyBetter yX2_howManyBetter, Cond.code yX2_howManyBetter cX2_howManyBetter 8 (some .int), Cond.methodLink RL 31 yX3_rank, Cond.instanceMethod yX3_rank, Cond.selects RX3 yX3_rank yX3_rank, Cond.code yX3_rank cX3_rank 3 (some .int)]
def wsL_law_r7 : List Cond := [Cond.methodLink RX3 63 yX3_bestAt, Cond.instanceMethod yX3_bestAt, Cond.selects RX3 yX3_bestAt yX3_bestAt, Cond.code yX3_bestAt cX3_bestAt 3 (some .int), Cond.methodLink RX3 59 yX3_aheadOf, Cond.instanceMethod yX3_aheadOf, Cond.selects RX3 yX3_aheadOf yX3_aheadOf, Cond.code yX3_aheadOf cX3_aheadOf 4 (some .int), Cond.methodLink RL 32 yX2_freeze, Cond.instanceMethod yX2_freeze, Cond.selects RX2 yX2_freeze yX2_freeze, Cond.code yX2_freeze cX2_freeze 2 (some .int), Cond.methodLink RX2 80 yX2_isSet, Cond.instanceMethod yX2_isSet, Cond.selects RX2 yX2_isSet yX2_isSet, Cond.code yX2_isSet cX2_isSet 2 (some .boolean), Cond.methodLink RX2 86 yX2_howManyFree, Cond.instanceMethod yX2_howManyFree, Cond.selects RX2 yX2_howManyFree yX2_howManyFree, Cond.code yX2_howManyFree cX2_howManyFree 1 (some .int), Cond.methodLink RX2 158 yJ6_bitCount_0f7a4, Cond.static yJ6_bitCount_0f7a4, Cond.initialized RJ6, Cond.code yJ6_bitCount_0f7a4 cJ6_bitCount_0f7a4 1 (some .int)]
def wsL_law_r8 : List Cond := [Cond.constant RJ6 265 (1431655765), Cond.constant RJ6 266 (858993459), Cond.constant RJ6 267 (252645135), Cond.methodLink RL 35 yX3_freeze, Cond.instanceMethod yX3_freeze, Cond.selects RX3 yX3_freeze yX3_freeze, Cond.code yX3_freeze cX3_freeze 2 (some .int), Cond.methodLink RX3 66 yX3_isRow, Cond.instanceMethod yX3_isRow, Cond.selects RX3 yX3_isRow yX3_isRow, Cond.code yX3_isRow cX3_isRow 2 (some .boolean), Cond.methodLink RX3 69 yX3_free, Cond.instanceMethod yX3_free, Cond.selects RX3 yX3_free yX3_free, Cond.code yX3_free cX3_free 1 (some .int), Cond.methodLink RX3 72 yX3_size, Cond.static yX3_size, Cond.code yX3_size cX3_size 3 (some .int), Cond.methodLink RL 36 yX2_best, Cond.instanceMethod yX2_best, Cond.selects RX2 yX2_best yX2_best, Cond.code yX2_best cX2_best 4 (some .int), Cond.methodLink RL 39 yX3_best, Cond.instanceMethod yX3_best]
def wsL_law_r9 : List Cond := [Cond.selects RX3 yX3_best yX3_best, Cond.code yX3_best cX3_best 4 (some .int), Cond.methodLink RL 40 yX2_coded, Cond.instanceMethod yX2_coded, Cond.selects RX2 yX2_coded yX2_coded, Cond.code yX2_coded cX2_coded 2 (some .int), Cond.methodLink RX2 93 yX2_codedOf, Cond.static yX2_codedOf, Cond.code yX2_codedOf cX2_codedOf 3 (some .int), Cond.fieldLink RX2 184 "FrozenBits" "FIRST_OF_PAIRS" "[I", Cond.methodLink RL 43 yX3_coded, Cond.instanceMethod yX3_coded, Cond.selects RX3 yX3_coded yX3_coded, Cond.code yX3_coded cX3_coded 2 (some .int), Cond.methodLink RX3 79 yX3_codedAll, Cond.instanceMethod yX3_codedAll, Cond.selects RX3 yX3_codedAll yX3_codedAll, Cond.code yX3_codedAll cX3_codedAll 2 (some .int), Cond.methodLink RX3 75 yX3_codedOf, Cond.static yX3_codedOf, Cond.code yX3_codedOf cX3_codedOf 8 (some .int), Cond.methodLink RL 44 yX2_word, Cond.instanceMethod yX2_word, Cond.selects RX2 yX2_word yX2_word]
def wsL_law_r10 : List Cond := [Cond.code yX2_word cX2_word 5 (some .int), Cond.methodLink RX2 96 yX2_isFree, Cond.instanceMethod yX2_isFree, Cond.selects RX2 yX2_isFree yX2_isFree, Cond.code yX2_isFree cX2_isFree 2 (some .boolean), Cond.methodLink RX2 111 yX2_has, Cond.static yX2_has, Cond.code yX2_has cX2_has 2 (some .boolean), Cond.methodLink RL 47 yX3_word, Cond.instanceMethod yX3_word, Cond.selects RX3 yX3_word yX3_word, Cond.code yX3_word cX3_word 2 (some .int), Cond.methodLink RX3 82 yX3_wordOf, Cond.instanceMethod yX3_wordOf, Cond.selects RX3 yX3_wordOf yX3_wordOf, Cond.code yX3_wordOf cX3_wordOf 5 (some .int), Cond.methodLink RL 48 yX2_light, Cond.instanceMethod yX2_light, Cond.selects RX2 yX2_light yX2_light, Cond.code yX2_light cX2_light 3 (some .int), Cond.methodLink RX2 99 yX2_leastWeight, Cond.instanceMethod yX2_leastWeight, Cond.selects RX2 yX2_leastWeight yX2_leastWeight, Cond.code yX2_leastWeight cX2_leastWeight 3 (some .int)]
def wsL_law_r11 : List Cond := [Cond.methodLink RX2 187 Lib.Math.min.name, Cond.static Lib.Math.min.name, Cond.initialized "java/lang/Math", Cond.code Lib.Math.min.name Lib.Math.min.code 2 (some .int), Cond.methodLink RX2 102 yX2_howManySets, Cond.instanceMethod yX2_howManySets, Cond.selects RX2 yX2_howManySets yX2_howManySets, Cond.code yX2_howManySets cX2_howManySets 7 (some .int), Cond.methodLink RX2 190 yX2_isSentAsWord, Cond.instanceMethod yX2_isSentAsWord, Cond.selects RX2 yX2_isSentAsWord yX2_isSentAsWord, Cond.code yX2_isSentAsWord cX2_isSentAsWord 2 (some .boolean), Cond.methodLink RX2 155 yX2_openFor, Cond.instanceMethod yX2_openFor, Cond.selects RX2 yX2_openFor yX2_openFor, Cond.code yX2_openFor cX2_openFor 8 (some .int), Cond.methodLink RX2 193 yX2_nextOfSize, Cond.static yX2_nextOfSize, Cond.code yX2_nextOfSize cX2_nextOfSize 4 (some .int), Cond.methodLink RX2 177 Lib.Math.max.name, Cond.static Lib.Math.max.name, Cond.code Lib.Math.max.name Lib.Math.max.code 2 (some .int), Cond.methodLink RL 51 yX3_light, Cond.instanceMethod yX3_light]
def wsL_law_r12 : List Cond := [Cond.selects RX3 yX3_light yX3_light, Cond.code yX3_light cX3_light 6 (some .int), Cond.methodLink RL 52 yX2_put, Cond.instanceMethod yX2_put, Cond.selects RX2 yX2_put yX2_put, Cond.code yX2_put cX2_put 4 (some .int), Cond.constant RX2 106 (-1000001), Cond.constant RX2 107 (-1000002), Cond.methodLink RL 55 yX3_put, Cond.instanceMethod yX3_put, Cond.selects RX3 yX3_put yX3_put, Cond.code yX3_put cX3_put 4 (some .int), Cond.constant RX3 85 (-1000001), Cond.constant RX3 86 (-1000002), Cond.methodLink RL 56 yX2_hear, Cond.instanceMethod yX2_hear, Cond.selects RX2 yX2_hear yX2_hear, Cond.code yX2_hear cX2_hear 5 (some .int), Cond.methodLink RL 59 yX3_hear, Cond.instanceMethod yX3_hear, Cond.selects RX3 yX3_hear yX3_hear, Cond.code yX3_hear cX3_hear 5 (some .int), Cond.methodLink RL 60 yX2_spoil, Cond.instanceMethod yX2_spoil]
def wsL_law_r13 : List Cond := [Cond.selects RX2 yX2_spoil yX2_spoil, Cond.code yX2_spoil cX2_spoil 5 (some .int), Cond.methodLink RL 63 yX3_spoil, Cond.instanceMethod yX3_spoil, Cond.selects RX3 yX3_spoil yX3_spoil, Cond.code yX3_spoil cX3_spoil 5 (some .int), Cond.methodLink RL 64 yX2_measure, Cond.instanceMethod yX2_measure, Cond.selects RX2 yX2_measure yX2_measure, Cond.code yX2_measure cX2_measure 3 (some .int), Cond.methodLink RX2 115 yX2_rowRead, Cond.instanceMethod yX2_rowRead, Cond.selects RX2 yX2_rowRead yX2_rowRead, Cond.code yX2_rowRead cX2_rowRead 3 (some .int), Cond.methodLink RX2 118 yX2_seenOf, Cond.instanceMethod yX2_seenOf, Cond.selects RX2 yX2_seenOf yX2_seenOf, Cond.code yX2_seenOf cX2_seenOf 5 (some .int), Cond.methodLink RX2 196 arraycopyName, Cond.native arraycopyName, Cond.static arraycopyName, Cond.initialized "java/lang/System", Cond.methodLink RX2 202 yX2_goFirst, Cond.instanceMethod yX2_goFirst]
def wsL_law_r14 : List Cond := [Cond.selects RX2 yX2_goFirst yX2_goFirst, Cond.code yX2_goFirst cX2_goFirst 3 none, Cond.methodLink RX2 209 yX2_weaker, Cond.static yX2_weaker, Cond.code yX2_weaker cX2_weaker 3 (some .int), Cond.methodLink RX2 212 Lib.Math.abs.name, Cond.static Lib.Math.abs.name, Cond.code Lib.Math.abs.name Lib.Math.abs.code 1 (some .int), Cond.methodLink RX2 205 yX2_goSecond, Cond.instanceMethod yX2_goSecond, Cond.selects RX2 yX2_goSecond yX2_goSecond, Cond.code yX2_goSecond cX2_goSecond 5 none, Cond.methodLink RL 67 yX3_measure, Cond.instanceMethod yX3_measure, Cond.selects RX3 yX3_measure yX3_measure, Cond.code yX3_measure cX3_measure 3 (some .int), Cond.methodLink RX3 97 yX3_readAll, Cond.instanceMethod yX3_readAll, Cond.selects RX3 yX3_readAll yX3_readAll, Cond.code yX3_readAll cX3_readAll 4 (some .int), Cond.methodLink RX3 94 yX3_seen, Cond.instanceMethod yX3_seen, Cond.selects RX3 yX3_seen yX3_seen, Cond.code yX3_seen cX3_seen 10 (some .int)]
def wsL_law_r15 : List Cond := [Cond.methodLink RX3 90 yX3_lesser, Cond.static yX3_lesser, Cond.code yX3_lesser cX3_lesser 5 (some .int), Cond.methodLink RX3 87 yX3_plain, Cond.static yX3_plain, Cond.code yX3_plain cX3_plain 1 (some .int), Cond.methodLink RL 68 yX2_read, Cond.instanceMethod yX2_read, Cond.selects RX2 yX2_read yX2_read, Cond.code yX2_read cX2_read 3 (some .int), Cond.methodLink RX2 122 yX2_fineOf, Cond.instanceMethod yX2_fineOf, Cond.selects RX2 yX2_fineOf yX2_fineOf, Cond.code yX2_fineOf cX2_fineOf 4 (some .int), Cond.methodLink RX2 215 yX2_fineOfBit, Cond.static yX2_fineOfBit, Cond.code yX2_fineOfBit cX2_fineOfBit 2 (some .int), Cond.methodLink RX2 125 yX2_howManyToldOtherwise, Cond.instanceMethod yX2_howManyToldOtherwise, Cond.selects RX2 yX2_howManyToldOtherwise yX2_howManyToldOtherwise, Cond.code yX2_howManyToldOtherwise cX2_howManyToldOtherwise 5 (some .int), Cond.methodLink RX2 128 yX0_holds, Cond.instanceMethod yX0_holds, Cond.selects RX0 yX0_holds yX0_holds]
def wsL_law_r16 : List Cond := [Cond.code yX0_holds cX0_holds 3 (some .boolean), Cond.methodLink RX0 40 yJ6_bitCount_0f7a4, Cond.methodLink RL 71 yX3_read, Cond.instanceMethod yX3_read, Cond.selects RX3 yX3_read yX3_read, Cond.code yX3_read cX3_read 3 (some .int), Cond.methodLink RX3 103 yX3_fineOfAll, Cond.instanceMethod yX3_fineOfAll, Cond.selects RX3 yX3_fineOfAll yX3_fineOfAll, Cond.code yX3_fineOfAll cX3_fineOfAll 4 (some .int), Cond.methodLink RX3 100 yX3_fineOf, Cond.instanceMethod yX3_fineOf, Cond.selects RX3 yX3_fineOf yX3_fineOf, Cond.code yX3_fineOf cX3_fineOf 5 (some .int), Cond.methodLink RX3 106 yX3_unlike, Cond.instanceMethod yX3_unlike, Cond.selects RX3 yX3_unlike yX3_unlike, Cond.code yX3_unlike cX3_unlike 6 (some .int), Cond.methodLink RX3 109 yX3_holds, Cond.instanceMethod yX3_holds, Cond.selects RX3 yX3_holds yX3_holds, Cond.code yX3_holds cX3_holds 4 (some .boolean), Cond.methodLink RL 72 yX2_most, Cond.instanceMethod yX2_most]
def wsL_law_r17 : List Cond := [Cond.selects RX2 yX2_most yX2_most, Cond.code yX2_most cX2_most 3 (some .int), Cond.methodLink RL 75 yX3_most, Cond.instanceMethod yX3_most, Cond.selects RX3 yX3_most yX3_most, Cond.code yX3_most cX3_most 3 (some .int), Cond.methodLink RL 76 yX2_kept, Cond.instanceMethod yX2_kept, Cond.selects RX2 yX2_kept yX2_kept, Cond.code yX2_kept cX2_kept 3 (some .int), Cond.methodLink RX2 134 yX2_tellKept, Cond.instanceMethod yX2_tellKept, Cond.selects RX2 yX2_tellKept yX2_tellKept, Cond.code yX2_tellKept cX2_tellKept 2 none, Cond.methodLink RX2 218 yX1_clear, Cond.instanceMethod yX1_clear, Cond.selects RX1 yX1_clear yX1_clear, Cond.code yX1_clear cX1_clear 1 none, Cond.methodLink RX2 221 yX1_add, Cond.instanceMethod yX1_add, Cond.selects RX1 yX1_add yX1_add, Cond.code yX1_add cX1_add 4 none, Cond.methodLink RX1 22 yX1_isAhead, Cond.instanceMethod yX1_isAhead]
def wsL_law_r18 : List Cond := [Cond.selects RX1 yX1_isAhead yX1_isAhead, Cond.code yX1_isAhead cX1_isAhead 4 (some .boolean), Cond.methodLink RX2 224 yX2_growBy, Cond.instanceMethod yX2_growBy, Cond.selects RX2 yX2_growBy yX2_growBy, Cond.code yX2_growBy cX2_growBy 6 none, Cond.methodLink RX2 227 yX1_takeFirst, Cond.instanceMethod yX1_takeFirst, Cond.selects RX1 yX1_takeFirst yX1_takeFirst, Cond.code yX1_takeFirst cX1_takeFirst 3 none, Cond.methodLink RX1 26 Lib.Math.min.name, Cond.methodLink RX1 32 arraycopyName, Cond.methodLink RX2 140 yX1_hasAt, Cond.instanceMethod yX1_hasAt, Cond.selects RX1 yX1_hasAt yX1_hasAt, Cond.code yX1_hasAt cX1_hasAt 2 (some .boolean), Cond.methodLink RL 79 yX3_kept, Cond.instanceMethod yX3_kept, Cond.selects RX3 yX3_kept yX3_kept, Cond.code yX3_kept cX3_kept 3 (some .int), Cond.fieldLink RX3 112 "FrozenBitsModel" "kept" "I", Cond.methodLink RX3 127 yX3_layKept, Cond.instanceMethod yX3_layKept, Cond.selects RX3 yX3_layKept yX3_layKept]
def wsL_law_r19 : List Cond := [Cond.code yX3_layKept cX3_layKept 4 none, Cond.methodLink RX3 124 yX3_sort, Cond.instanceMethod yX3_sort, Cond.selects RX3 yX3_sort yX3_sort, Cond.code yX3_sort cX3_sort 3 none, Cond.methodLink RX3 116 yX3_isAhead, Cond.instanceMethod yX3_isAhead, Cond.selects RX3 yX3_isAhead yX3_isAhead, Cond.code yX3_isAhead cX3_isAhead 3 (some .boolean), Cond.methodLink RX3 120 yX3_swap, Cond.instanceMethod yX3_swap, Cond.selects RX3 yX3_swap yX3_swap, Cond.code yX3_swap cX3_swap 5 none, Cond.methodLink RL 80 yX2_chosen, Cond.instanceMethod yX2_chosen, Cond.selects RX2 yX2_chosen yX2_chosen, Cond.code yX2_chosen cX2_chosen 3 (some .int), Cond.methodLink RX2 149 yX2_firstThatHolds, Cond.instanceMethod yX2_firstThatHolds, Cond.selects RX2 yX2_firstThatHolds yX2_firstThatHolds, Cond.code yX2_firstThatHolds cX2_firstThatHolds 2 (some .int), Cond.methodLink RL 83 yX3_chosen, Cond.instanceMethod yX3_chosen, Cond.selects RX3 yX3_chosen yX3_chosen]
def wsL_law_r20 : List Cond := [Cond.code yX3_chosen cX3_chosen 3 (some .int), Cond.methodLink RL 84 yX2_check, Cond.instanceMethod yX2_check, Cond.selects RX2 yX2_check yX2_check, Cond.code yX2_check cX2_check 4 (some .int), Cond.methodLink RL 87 yX3_check, Cond.instanceMethod yX3_check, Cond.selects RX3 yX3_check yX3_check, Cond.code yX3_check cX3_check 4 (some .int), Cond.methodLink RL 88 yX2_open, Cond.instanceMethod yX2_open, Cond.selects RX2 yX2_open yX2_open, Cond.code yX2_open cX2_open 4 (some .int), Cond.methodLink RL 91 yX3_open, Cond.instanceMethod yX3_open, Cond.selects RX3 yX3_open yX3_open, Cond.code yX3_open cX3_open 3 (some .int), Cond.methodLink RX3 130 yX3_openFor, Cond.instanceMethod yX3_openFor, Cond.selects RX3 yX3_openFor yX3_openFor, Cond.code yX3_openFor cX3_openFor 7 (some .int), Cond.methodLink RL 92 yX2_fragile, Cond.instanceMethod yX2_fragile, Cond.selects RX2 yX2_fragile yX2_fragile]
def wsL_law_r21 : List Cond := [Cond.code yX2_fragile cX2_fragile 3 (some .int), Cond.methodLink RX2 163 yX2_leastSetThatOpens, Cond.instanceMethod yX2_leastSetThatOpens, Cond.selects RX2 yX2_leastSetThatOpens yX2_leastSetThatOpens, Cond.code yX2_leastSetThatOpens cX2_leastSetThatOpens 5 (some .int), Cond.methodLink RL 95 yX3_fragile, Cond.instanceMethod yX3_fragile, Cond.selects RX3 yX3_fragile yX3_fragile, Cond.code yX3_fragile cX3_fragile 7 (some .int), Cond.methodLink RL 96 yX2_image, Cond.instanceMethod yX2_image, Cond.selects RX2 yX2_image yX2_image, Cond.code yX2_image cX2_image 2 (some .int), Cond.methodLink RX2 166 yX2_imageAt, Cond.instanceMethod yX2_imageAt, Cond.selects RX2 yX2_imageAt yX2_imageAt, Cond.code yX2_imageAt cX2_imageAt 2 (some (.object "FrozenBits$Facts")), Cond.methodLink RX2 170 yX0_copyFrom, Cond.instanceMethod yX0_copyFrom, Cond.selects RX0 yX0_copyFrom yX0_copyFrom, Cond.code yX0_copyFrom cX0_copyFrom 2 none, Cond.methodLink RX0 34 arraycopyName, Cond.methodLink RL 99 yX3_image, Cond.instanceMethod yX3_image]
def wsL_law_r22 : List Cond := [Cond.selects RX3 yX3_image yX3_image, Cond.code yX3_image cX3_image 3 (some .int), Cond.methodLink RL 100 yX2_restore, Cond.instanceMethod yX2_restore, Cond.selects RX2 yX2_restore yX2_restore, Cond.code yX2_restore cX2_restore 2 (some .int), Cond.methodLink RL 103 yX3_restore, Cond.instanceMethod yX3_restore, Cond.selects RX3 yX3_restore yX3_restore, Cond.code yX3_restore cX3_restore 3 (some .int), Cond.methodLink RL 104 yX2_count, Cond.instanceMethod yX2_count, Cond.selects RX2 yX2_count yX2_count, Cond.code yX2_count cX2_count 2 (some .int), Cond.methodLink RX2 174 yX2_checkCounted, Cond.instanceMethod yX2_checkCounted, Cond.selects RX2 yX2_checkCounted yX2_checkCounted, Cond.code yX2_checkCounted cX2_checkCounted 2 (some .int), Cond.methodLink RL 107 yX3_count, Cond.instanceMethod yX3_count, Cond.selects RX3 yX3_count yX3_count, Cond.code yX3_count cX3_count 2 (some .int)]
def wsL_law : List Cond := (wsL_law_r1 ++ (wsL_law_r2 ++ (wsL_law_r3 ++ (wsL_law_r4 ++ (wsL_law_r5 ++ (wsL_law_r6 ++ (wsL_law_r7 ++ (wsL_law_r8 ++ (wsL_law_r9 ++ (wsL_law_r10 ++ (wsL_law_r11 ++ (wsL_law_r12 ++ (wsL_law_r13 ++ (wsL_law_r14 ++ (wsL_law_r15 ++ (wsL_law_r16 ++ (wsL_law_r17 ++ (wsL_law_r18 ++ (wsL_law_r19 ++ (wsL_law_r20 ++ (wsL_law_r21 ++ wsL_law_r22))))))))))))))))))))) ++ wsX20 ++ wsX30 ++ wsX00 ++ wsX10 ++ ([] : List Cond)
end
section
theorem zL_app {a b c : List Cond} (ha : ∀ w ∈ a, w ∈ c) (hb : ∀ w ∈ b, w ∈ c) : ∀ w ∈ a ++ b, w ∈ c := fun w h => (List.mem_append.mp h).elim (ha w) (hb w)
set_option maxRecDepth 20000 in
theorem wsL_in_r1 : ∀ w ∈ wsL_law_r1, w ∈ lw_tbl := fun w h => (goodIn_r (big := lw_tbl) wsL_law_r1 [55, 56, 48, 411, 412, 51, 57, 58, 59, 60, 61, 62, 63, 64, 49, 118, 119, 120, 121, 98, 122, 99, 100, 50] (by decide +kernel) (by decide +kernel) w h).1
set_option maxRecDepth 20000 in
theorem wsL_in_r2 : ∀ w ∈ wsL_law_r2, w ∈ lw_tbl := fun w h => (goodIn_r (big := lw_tbl) wsL_law_r2 [123, 124, 66, 67, 68, 69, 71, 73, 75, 77, 79, 81, 102, 103, 104, 105, 107, 109, 413, 414, 415, 416, 417, 418] (by decide +kernel) (by decide +kernel) w h).1
set_option maxRecDepth 20000 in
theorem wsL_in_r3 : ∀ w ∈ wsL_law_r3, w ∈ lw_tbl := fun w h => (goodIn_r (big := lw_tbl) wsL_law_r3 [439, 419, 420, 421, 422, 140, 141, 142, 143, 144, 145, 146, 147, 440, 441, 442, 443, 444, 445, 446, 148, 149, 150, 151] (by decide +kernel) (by decide +kernel) w h).1
set_option maxRecDepth 20000 in
theorem wsL_in_r4 : ∀ w ∈ wsL_law_r4, w ∈ lw_tbl := fun w h => (goodIn_r (big := lw_tbl) wsL_law_r4 [447, 448, 449, 450, 152, 153, 154, 155, 164, 165, 156, 158, 0, 159, 160, 162, 1, 163, 166, 168, 2, 169, 170, 171] (by decide +kernel) (by decide +kernel) w h).1
set_option maxRecDepth 20000 in
theorem wsL_in_r5 : ∀ w ∈ wsL_law_r5, w ∈ lw_tbl := fun w h => (goodIn_r (big := lw_tbl) wsL_law_r5 [173, 3, 174, 175, 176, 177, 451, 452, 453, 454, 463, 464, 455, 457, 26, 458, 459, 461, 27, 462, 465, 467, 28, 468] (by decide +kernel) (by decide +kernel) w h).1
set_option maxRecDepth 20000 in
theorem wsL_in_r6 : ∀ w ∈ wsL_law_r6, w ∈ lw_tbl := fun w h => (goodIn_r (big := lw_tbl) wsL_law_r6 [469, 470, 472, 29, 473, 474, 475, 476, 178, 179, 180, 181, 182, 184, 4, 185, 186, 188, 5, 189, 477, 478, 479, 480] (by decide +kernel) (by decide +kernel) w h).1
set_option maxRecDepth 20000 in
theorem wsL_in_r7 : ∀ w ∈ wsL_law_r7, w ∈ lw_tbl := fun w h => (goodIn_r (big := lw_tbl) wsL_law_r7 [481, 483, 30, 484, 485, 487, 31, 488, 190, 191, 192, 193, 194, 196, 6, 197, 198, 200, 7, 201, 202, 203, 52, 204] (by decide +kernel) (by decide +kernel) w h).1
set_option maxRecDepth 20000 in
theorem wsL_in_r8 : ∀ w ∈ wsL_law_r8, w ∈ lw_tbl := fun w h => (goodIn_r (big := lw_tbl) wsL_law_r8 [205, 206, 207, 489, 490, 491, 492, 493, 495, 32, 496, 497, 499, 33, 500, 501, 502, 503, 208, 209, 210, 211, 504, 505] (by decide +kernel) (by decide +kernel) w h).1
set_option maxRecDepth 20000 in
theorem wsL_in_r9 : ∀ w ∈ wsL_law_r9, w ∈ lw_tbl := fun w h => (goodIn_r (big := lw_tbl) wsL_law_r9 [506, 507, 212, 213, 214, 215, 216, 217, 218, 219, 508, 509, 510, 511, 512, 514, 34, 515, 516, 517, 518, 221, 222, 223] (by decide +kernel) (by decide +kernel) w h).1
set_option maxRecDepth 20000 in
theorem wsL_in_r10 : ∀ w ∈ wsL_law_r10, w ∈ lw_tbl := fun w h => (goodIn_r (big := lw_tbl) wsL_law_r10 [224, 225, 227, 8, 228, 229, 230, 231, 519, 520, 521, 522, 523, 525, 35, 526, 232, 233, 234, 235, 236, 238, 9, 239] (by decide +kernel) (by decide +kernel) w h).1
set_option maxRecDepth 20000 in
theorem wsL_in_r11 : ∀ w ∈ wsL_law_r11, w ∈ lw_tbl := fun w h => (goodIn_r (big := lw_tbl) wsL_law_r11 [240, 241, 53, 242, 243, 245, 10, 246, 247, 249, 11, 250, 251, 253, 12, 254, 255, 256, 257, 258, 259, 260, 527, 528] (by decide +kernel) (by decide +kernel) w h).1
set_option maxRecDepth 20000 in
theorem wsL_in_r12 : ∀ w ∈ wsL_law_r12, w ∈ lw_tbl := fun w h => (goodIn_r (big := lw_tbl) wsL_law_r12 [529, 530, 261, 262, 263, 264, 265, 266, 531, 532, 533, 534, 535, 536, 267, 268, 269, 270, 537, 538, 539, 540, 271, 272] (by decide +kernel) (by decide +kernel) w h).1
set_option maxRecDepth 20000 in
theorem wsL_in_r13 : ∀ w ∈ wsL_law_r13, w ∈ lw_tbl := fun w h => (goodIn_r (big := lw_tbl) wsL_law_r13 [273, 274, 541, 542, 543, 544, 275, 276, 277, 278, 279, 281, 13, 282, 283, 285, 14, 286, 287, 289, 288, 54, 290, 292] (by decide +kernel) (by decide +kernel) w h).1
set_option maxRecDepth 20000 in
theorem wsL_in_r14 : ∀ w ∈ wsL_law_r14, w ∈ lw_tbl := fun w h => (goodIn_r (big := lw_tbl) wsL_law_r14 [15, 293, 294, 295, 296, 297, 298, 299, 300, 302, 16, 303, 545, 546, 547, 548, 549, 551, 36, 552, 553, 555, 37, 556] (by decide +kernel) (by decide +kernel) w h).1
set_option maxRecDepth 20000 in
theorem wsL_in_r15 : ∀ w ∈ wsL_law_r15, w ∈ lw_tbl := fun w h => (goodIn_r (big := lw_tbl) wsL_law_r15 [557, 558, 559, 560, 561, 562, 304, 305, 306, 307, 308, 310, 17, 311, 312, 313, 314, 315, 317, 18, 318, 319, 320, 321] (by decide +kernel) (by decide +kernel) w h).1
set_option maxRecDepth 20000 in
theorem wsL_in_r16 : ∀ w ∈ wsL_law_r16, w ∈ lw_tbl := fun w h => (goodIn_r (big := lw_tbl) wsL_law_r16 [322, 323, 563, 564, 565, 566, 567, 569, 38, 570, 571, 573, 39, 574, 575, 577, 40, 578, 579, 581, 41, 582, 324, 325] (by decide +kernel) (by decide +kernel) w h).1
set_option maxRecDepth 20000 in
theorem wsL_in_r17 : ∀ w ∈ wsL_law_r17, w ∈ lw_tbl := fun w h => (goodIn_r (big := lw_tbl) wsL_law_r17 [326, 327, 583, 584, 585, 586, 328, 329, 330, 331, 332, 334, 19, 335, 336, 337, 338, 339, 340, 341, 342, 343, 344, 346] (by decide +kernel) (by decide +kernel) w h).1
set_option maxRecDepth 20000 in
theorem wsL_in_r18 : ∀ w ∈ wsL_law_r18, w ∈ lw_tbl := fun w h => (goodIn_r (big := lw_tbl) wsL_law_r18 [20, 347, 348, 350, 21, 351, 352, 353, 354, 355, 356, 357, 358, 359, 360, 361, 587, 588, 589, 590, 423, 591, 593, 42] (by decide +kernel) (by decide +kernel) w h).1
set_option maxRecDepth 20000 in
theorem wsL_in_r19 : ∀ w ∈ wsL_law_r19, w ∈ lw_tbl := fun w h => (goodIn_r (big := lw_tbl) wsL_law_r19 [594, 595, 597, 43, 598, 599, 601, 44, 602, 603, 605, 45, 606, 362, 363, 364, 365, 366, 368, 22, 369, 607, 608, 609] (by decide +kernel) (by decide +kernel) w h).1
set_option maxRecDepth 20000 in
theorem wsL_in_r20 : ∀ w ∈ wsL_law_r20, w ∈ lw_tbl := fun w h => (goodIn_r (big := lw_tbl) wsL_law_r20 [610, 370, 371, 372, 373, 611, 612, 613, 614, 374, 375, 376, 377, 615, 616, 617, 618, 619, 621, 46, 622, 378, 379, 380] (by decide +kernel) (by decide +kernel) w h).1
set_option maxRecDepth 20000 in
theorem wsL_in_r21 : ∀ w ∈ wsL_law_r21, w ∈ lw_tbl := fun w h => (goodIn_r (big := lw_tbl) wsL_law_r21 [381, 382, 384, 23, 385, 623, 624, 625, 626, 386, 387, 388, 389, 390, 392, 24, 393, 394, 395, 396, 397, 398, 627, 628] (by decide +kernel) (by decide +kernel) w h).1
set_option maxRecDepth 20000 in
theorem wsL_in_r22 : ∀ w ∈ wsL_law_r22, w ∈ lw_tbl := fun w h => (goodIn_r (big := lw_tbl) wsL_law_r22 [629, 630, 399, 400, 401, 402, 631, 632, 633, 634, 403, 404, 405, 406, 407, 409, 25, 410, 635, 636, 637, 638] (by decide +kernel) (by decide +kernel) w h).1
set_option maxRecDepth 20000 in
theorem wsL_in_wsX20 : ∀ w ∈ wsX20, w ∈ lw_tbl := fun w h => (goodIn_r (big := lw_tbl) wsX20 [125, 127, 129, 131, 133, 135, 137] (by decide +kernel) (by decide +kernel) w h).1
set_option maxRecDepth 20000 in
theorem wsL_in_wsX30 : ∀ w ∈ wsX30, w ∈ lw_tbl := fun w h => (goodIn_r (big := lw_tbl) wsX30 [424, 426, 428, 430, 432, 434, 436] (by decide +kernel) (by decide +kernel) w h).1
set_option maxRecDepth 20000 in
theorem wsL_in_wsX00 : ∀ w ∈ wsX00, w ∈ lw_tbl := fun w h => (goodIn_r (big := lw_tbl) wsX00 [83, 85, 87, 89, 91, 93, 95] (by decide +kernel) (by decide +kernel) w h).1
set_option maxRecDepth 20000 in
theorem wsL_in_wsX10 : ∀ w ∈ wsX10, w ∈ lw_tbl := fun w h => (goodIn_r (big := lw_tbl) wsX10 [111, 113, 115] (by decide +kernel) (by decide +kernel) w h).1
theorem wsL_law_in : ∀ w ∈ wsL_law, w ∈ lw_tbl := zL_app (zL_app (zL_app (zL_app (zL_app (zL_app (wsL_in_r1) (zL_app (wsL_in_r2) (zL_app (wsL_in_r3) (zL_app (wsL_in_r4) (zL_app (wsL_in_r5) (zL_app (wsL_in_r6) (zL_app (wsL_in_r7) (zL_app (wsL_in_r8) (zL_app (wsL_in_r9) (zL_app (wsL_in_r10) (zL_app (wsL_in_r11) (zL_app (wsL_in_r12) (zL_app (wsL_in_r13) (zL_app (wsL_in_r14) (zL_app (wsL_in_r15) (zL_app (wsL_in_r16) (zL_app (wsL_in_r17) (zL_app (wsL_in_r18) (zL_app (wsL_in_r19) (zL_app (wsL_in_r20) (zL_app (wsL_in_r21) (wsL_in_r22)))))))))))))))))))))) (wsL_in_wsX20)) (wsL_in_wsX30)) (wsL_in_wsX00)) (wsL_in_wsX10)) (fun _ h => absurd h List.not_mem_nil)
end
section
theorem inlX0 : ∀ w ∈ wsX00, w ∈ wsL_law := fun _ h => List.mem_append_left _ (List.mem_append_left _ (List.mem_append_right _ h))
theorem inX0 : ∀ w ∈ wsX00, w ∈ lw_tbl := fun w h => wsL_law_in w (inlX0 w h)
theorem inlX1 : ∀ w ∈ wsX10, w ∈ wsL_law := fun _ h => List.mem_append_left _ (List.mem_append_right _ h)
theorem inX1 : ∀ w ∈ wsX10, w ∈ lw_tbl := fun w h => wsL_law_in w (inlX1 w h)
theorem inlX2 : ∀ w ∈ wsX20, w ∈ wsL_law := fun _ h => List.mem_append_left _ (List.mem_append_left _ (List.mem_append_left _ (List.mem_append_left _ (List.mem_append_right _ h))))
theorem inX2 : ∀ w ∈ wsX20, w ∈ lw_tbl := fun w h => wsL_law_in w (inlX2 w h)
theorem inlX3 : ∀ w ∈ wsX30, w ∈ wsL_law := fun _ h => List.mem_append_left _ (List.mem_append_left _ (List.mem_append_left _ (List.mem_append_right _ h)))
theorem inX3 : ∀ w ∈ wsX30, w ∈ lw_tbl := fun w h => wsL_law_in w (inlX3 w h)
theorem inJ6 : ∀ w ∈ wsJ60, w ∈ lw_tbl := by decide +kernel
theorem inJ9 : ∀ w ∈ wsJ90, w ∈ lw_tbl := by decide +kernel
theorem inJ10 : ∀ w ∈ wsJ100, w ∈ lw_tbl := by decide +kernel
theorem dX0_init_0 : decode cX0_init 0 = .ok (.aload_n 0, 1) := by decide +kernel
theorem dX0_init_1 : decode cX0_init 1 = .ok (.invokespecial 3, 3) := by decide +kernel
theorem dX0_init_4 : decode cX0_init 4 = .ok (.aload_n 0, 1) := by decide +kernel
theorem dX0_init_5 : decode cX0_init 5 = .ok (.iconst 3, 1) := by decide +kernel
theorem dX0_init_6 : decode cX0_init 6 = .ok (.putfield 9, 3) := by decide +kernel
theorem dX0_init_9 : decode cX0_init 9 = .ok (.aload_n 0, 1) := by decide +kernel
theorem dX0_init_10 : decode cX0_init 10 = .ok (.iconst 1, 1) := by decide +kernel
theorem dX0_init_11 : decode cX0_init 11 = .ok (.putfield 15, 3) := by decide +kernel
theorem dX0_init_14 : decode cX0_init 14 = .ok (.aload_n 0, 1) := by decide +kernel
theorem dX0_init_15 : decode cX0_init 15 = .ok (.iconst 2, 1) := by decide +kernel
theorem dX0_init_16 : decode cX0_init 16 = .ok (.putfield 18, 3) := by decide +kernel
theorem dX0_init_19 : decode cX0_init 19 = .ok (.aload_n 0, 1) := by decide +kernel
theorem dX0_init_20 : decode cX0_init 20 = .ok (.iconst 0, 1) := by decide +kernel
theorem dX0_init_21 : decode cX0_init 21 = .ok (.putfield 21, 3) := by decide +kernel
theorem dX0_init_24 : decode cX0_init 24 = .ok (.aload_n 0, 1) := by decide +kernel
theorem dX0_init_25 : decode cX0_init 25 = .ok (.iconst 1, 1) := by decide +kernel
theorem dX0_init_26 : decode cX0_init 26 = .ok (.putfield 24, 3) := by decide +kernel
theorem dX0_init_29 : decode cX0_init 29 = .ok (.aload_n 0, 1) := by decide +kernel
theorem dX0_init_30 : decode cX0_init 30 = .ok (.bipush 16, 2) := by decide +kernel
theorem dX0_init_32 : decode cX0_init 32 = .ok (.newarray .int, 2) := by decide +kernel
theorem dX0_init_34 : decode cX0_init 34 = .ok (.putfield 27, 3) := by decide +kernel
theorem dX0_init_37 : decode cX0_init 37 = .ok (.aload_n 0, 1) := by decide +kernel
theorem dX0_init_38 : decode cX0_init 38 = .ok (.iconst 3, 1) := by decide +kernel
theorem dX0_init_39 : decode cX0_init 39 = .ok (.newarray .int, 2) := by decide +kernel
theorem dX0_init_41 : decode cX0_init 41 = .ok (.putfield 31, 3) := by decide +kernel
theorem dX0_init_44 : decode cX0_init 44 = .ok (.return_, 1) := by decide +kernel
theorem dX0_beginAnew_0 : decode cX0_beginAnew 0 = .ok (.aload_n 0, 1) := by decide +kernel
theorem dX0_beginAnew_1 : decode cX0_beginAnew 1 = .ok (.iload_n 1, 1) := by decide +kernel
theorem dX0_beginAnew_2 : decode cX0_beginAnew 2 = .ok (.putfield 9, 3) := by decide +kernel
theorem dX0_beginAnew_5 : decode cX0_beginAnew 5 = .ok (.aload_n 0, 1) := by decide +kernel
theorem dX0_beginAnew_6 : decode cX0_beginAnew 6 = .ok (.iconst 0, 1) := by decide +kernel
theorem dX0_beginAnew_7 : decode cX0_beginAnew 7 = .ok (.putfield 21, 3) := by decide +kernel
theorem dX0_beginAnew_10 : decode cX0_beginAnew 10 = .ok (.iconst 0, 1) := by decide +kernel
theorem dX0_beginAnew_11 : decode cX0_beginAnew 11 = .ok (.istore_n 2, 1) := by decide +kernel
theorem dX0_beginAnew_12 : decode cX0_beginAnew 12 = .ok (.iload_n 2, 1) := by decide +kernel
theorem dX0_beginAnew_13 : decode cX0_beginAnew 13 = .ok (.bipush 16, 2) := by decide +kernel
theorem dX0_beginAnew_15 : decode cX0_beginAnew 15 = .ok (.if_icmp .ge 16, 3) := by decide +kernel
theorem dX0_beginAnew_18 : decode cX0_beginAnew 18 = .ok (.aload_n 0, 1) := by decide +kernel
theorem dX0_beginAnew_19 : decode cX0_beginAnew 19 = .ok (.getfield 27, 3) := by decide +kernel
theorem dX0_beginAnew_22 : decode cX0_beginAnew 22 = .ok (.iload_n 2, 1) := by decide +kernel
theorem dX0_beginAnew_23 : decode cX0_beginAnew 23 = .ok (.iconst 0, 1) := by decide +kernel
theorem dX0_beginAnew_24 : decode cX0_beginAnew 24 = .ok (.iastore, 1) := by decide +kernel
theorem dX0_beginAnew_25 : decode cX0_beginAnew 25 = .ok (.iinc 2 1, 3) := by decide +kernel
theorem dX0_beginAnew_28 : decode cX0_beginAnew 28 = .ok (.goto (-16), 3) := by decide +kernel
theorem dX0_beginAnew_31 : decode cX0_beginAnew 31 = .ok (.iconst 0, 1) := by decide +kernel
theorem dX0_beginAnew_32 : decode cX0_beginAnew 32 = .ok (.istore_n 2, 1) := by decide +kernel
theorem dX0_beginAnew_33 : decode cX0_beginAnew 33 = .ok (.iload_n 2, 1) := by decide +kernel
theorem dX0_beginAnew_34 : decode cX0_beginAnew 34 = .ok (.iconst 3, 1) := by decide +kernel
theorem dX0_beginAnew_35 : decode cX0_beginAnew 35 = .ok (.if_icmp .ge 16, 3) := by decide +kernel
theorem dX0_beginAnew_38 : decode cX0_beginAnew 38 = .ok (.aload_n 0, 1) := by decide +kernel
theorem dX0_beginAnew_39 : decode cX0_beginAnew 39 = .ok (.getfield 31, 3) := by decide +kernel
theorem dX0_beginAnew_42 : decode cX0_beginAnew 42 = .ok (.iload_n 2, 1) := by decide +kernel
theorem dX0_beginAnew_43 : decode cX0_beginAnew 43 = .ok (.iconst 0, 1) := by decide +kernel
theorem dX0_beginAnew_44 : decode cX0_beginAnew 44 = .ok (.iastore, 1) := by decide +kernel
theorem dX0_beginAnew_45 : decode cX0_beginAnew 45 = .ok (.iinc 2 1, 3) := by decide +kernel
theorem dX0_beginAnew_48 : decode cX0_beginAnew 48 = .ok (.goto (-15), 3) := by decide +kernel
theorem dX0_beginAnew_51 : decode cX0_beginAnew 51 = .ok (.return_, 1) := by decide +kernel
theorem dX0_copyFrom_0 : decode cX0_copyFrom 0 = .ok (.aload_n 0, 1) := by decide +kernel
theorem dX0_copyFrom_1 : decode cX0_copyFrom 1 = .ok (.aload_n 1, 1) := by decide +kernel
theorem dX0_copyFrom_2 : decode cX0_copyFrom 2 = .ok (.getfield 9, 3) := by decide +kernel
theorem dX0_copyFrom_5 : decode cX0_copyFrom 5 = .ok (.putfield 9, 3) := by decide +kernel
theorem dX0_copyFrom_8 : decode cX0_copyFrom 8 = .ok (.aload_n 0, 1) := by decide +kernel
theorem dX0_copyFrom_9 : decode cX0_copyFrom 9 = .ok (.aload_n 1, 1) := by decide +kernel
theorem dX0_copyFrom_10 : decode cX0_copyFrom 10 = .ok (.getfield 15, 3) := by decide +kernel
theorem dX0_copyFrom_13 : decode cX0_copyFrom 13 = .ok (.putfield 15, 3) := by decide +kernel
theorem dX0_copyFrom_16 : decode cX0_copyFrom 16 = .ok (.aload_n 0, 1) := by decide +kernel
theorem dX0_copyFrom_17 : decode cX0_copyFrom 17 = .ok (.aload_n 1, 1) := by decide +kernel
theorem dX0_copyFrom_18 : decode cX0_copyFrom 18 = .ok (.getfield 18, 3) := by decide +kernel
theorem dX0_copyFrom_21 : decode cX0_copyFrom 21 = .ok (.putfield 18, 3) := by decide +kernel
theorem dX0_copyFrom_24 : decode cX0_copyFrom 24 = .ok (.aload_n 0, 1) := by decide +kernel
theorem dX0_copyFrom_25 : decode cX0_copyFrom 25 = .ok (.aload_n 1, 1) := by decide +kernel
theorem dX0_copyFrom_26 : decode cX0_copyFrom 26 = .ok (.getfield 21, 3) := by decide +kernel
theorem dX0_copyFrom_29 : decode cX0_copyFrom 29 = .ok (.putfield 21, 3) := by decide +kernel
theorem dX0_copyFrom_32 : decode cX0_copyFrom 32 = .ok (.aload_n 0, 1) := by decide +kernel
theorem dX0_copyFrom_33 : decode cX0_copyFrom 33 = .ok (.aload_n 1, 1) := by decide +kernel
theorem dX0_copyFrom_34 : decode cX0_copyFrom 34 = .ok (.getfield 24, 3) := by decide +kernel
theorem dX0_copyFrom_37 : decode cX0_copyFrom 37 = .ok (.putfield 24, 3) := by decide +kernel
theorem dX0_copyFrom_40 : decode cX0_copyFrom 40 = .ok (.aload_n 1, 1) := by decide +kernel
theorem dX0_copyFrom_41 : decode cX0_copyFrom 41 = .ok (.getfield 27, 3) := by decide +kernel
theorem dX0_copyFrom_44 : decode cX0_copyFrom 44 = .ok (.iconst 0, 1) := by decide +kernel
theorem dX0_copyFrom_45 : decode cX0_copyFrom 45 = .ok (.aload_n 0, 1) := by decide +kernel
theorem dX0_copyFrom_46 : decode cX0_copyFrom 46 = .ok (.getfield 27, 3) := by decide +kernel
theorem dX0_copyFrom_49 : decode cX0_copyFrom 49 = .ok (.iconst 0, 1) := by decide +kernel
theorem dX0_copyFrom_50 : decode cX0_copyFrom 50 = .ok (.bipush 16, 2) := by decide +kernel
theorem dX0_copyFrom_52 : decode cX0_copyFrom 52 = .ok (.invokestatic 34, 3) := by decide +kernel
theorem dX0_copyFrom_55 : decode cX0_copyFrom 55 = .ok (.aload_n 1, 1) := by decide +kernel
theorem dX0_copyFrom_56 : decode cX0_copyFrom 56 = .ok (.getfield 31, 3) := by decide +kernel
theorem dX0_copyFrom_59 : decode cX0_copyFrom 59 = .ok (.iconst 0, 1) := by decide +kernel
theorem dX0_copyFrom_60 : decode cX0_copyFrom 60 = .ok (.aload_n 0, 1) := by decide +kernel
theorem dX0_copyFrom_61 : decode cX0_copyFrom 61 = .ok (.getfield 31, 3) := by decide +kernel
theorem dX0_copyFrom_64 : decode cX0_copyFrom 64 = .ok (.iconst 0, 1) := by decide +kernel
theorem dX0_copyFrom_65 : decode cX0_copyFrom 65 = .ok (.iconst 3, 1) := by decide +kernel
theorem dX0_copyFrom_66 : decode cX0_copyFrom 66 = .ok (.invokestatic 34, 3) := by decide +kernel
theorem dX0_copyFrom_69 : decode cX0_copyFrom 69 = .ok (.return_, 1) := by decide +kernel
set_option maxRecDepth 20000 in
theorem ggX0_holds_J6_bitCount_0f7a4 : GoodIn wsX0_holds wsJ6_bitCount_0f7a4 := goodIn_r _ [5, 6, 7, 8] (by decide +kernel) (by decide +kernel)
set_option maxRecDepth 20000 in
theorem gX0_holds_J6_bitCount_0f7a4 : GoodIn wsX0_holds (va_wsS RX0 40 yJ6_bitCount_0f7a4 wsJ6_bitCount_0f7a4) := goodIn_app (goodIn_of _ (by decide +kernel)) ggX0_holds_J6_bitCount_0f7a4
theorem dX0_holds_0 : decode cX0_holds 0 = .ok (.iconst 0, 1) := by decide +kernel
theorem dX0_holds_1 : decode cX0_holds 1 = .ok (.istore_n 2, 1) := by decide +kernel
theorem dX0_holds_2 : decode cX0_holds 2 = .ok (.iload_n 2, 1) := by decide +kernel
theorem dX0_holds_3 : decode cX0_holds 3 = .ok (.iconst 3, 1) := by decide +kernel
theorem dX0_holds_4 : decode cX0_holds 4 = .ok (.if_icmp .ge 27, 3) := by decide +kernel
theorem dX0_holds_7 : decode cX0_holds 7 = .ok (.iload_n 1, 1) := by decide +kernel
theorem dX0_holds_8 : decode cX0_holds 8 = .ok (.aload_n 0, 1) := by decide +kernel
theorem dX0_holds_9 : decode cX0_holds 9 = .ok (.getfield 31, 3) := by decide +kernel
theorem dX0_holds_12 : decode cX0_holds 12 = .ok (.iload_n 2, 1) := by decide +kernel
theorem dX0_holds_13 : decode cX0_holds 13 = .ok (.iaload, 1) := by decide +kernel
theorem dX0_holds_14 : decode cX0_holds 14 = .ok (.iand, 1) := by decide +kernel
theorem dX0_holds_15 : decode cX0_holds 15 = .ok (.invokestatic 40, 3) := by decide +kernel
theorem dX0_holds_18 : decode cX0_holds 18 = .ok (.iconst 1, 1) := by decide +kernel
theorem dX0_holds_19 : decode cX0_holds 19 = .ok (.iand, 1) := by decide +kernel
theorem dX0_holds_20 : decode cX0_holds 20 = .ok (.ifCond .eq 5, 3) := by decide +kernel
theorem dX0_holds_23 : decode cX0_holds 23 = .ok (.iconst 0, 1) := by decide +kernel
theorem dX0_holds_24 : decode cX0_holds 24 = .ok (.ireturn, 1) := by decide +kernel
theorem dX0_holds_25 : decode cX0_holds 25 = .ok (.iinc 2 1, 3) := by decide +kernel
theorem dX0_holds_28 : decode cX0_holds 28 = .ok (.goto (-26), 3) := by decide +kernel
theorem dX0_holds_31 : decode cX0_holds 31 = .ok (.iconst 1, 1) := by decide +kernel
theorem dX0_holds_32 : decode cX0_holds 32 = .ok (.ireturn, 1) := by decide +kernel
theorem dX1_init_0 : decode cX1_init 0 = .ok (.aload_n 0, 1) := by decide +kernel
theorem dX1_init_1 : decode cX1_init 1 = .ok (.invokespecial 3, 3) := by decide +kernel
theorem dX1_init_4 : decode cX1_init 4 = .ok (.aload_n 0, 1) := by decide +kernel
theorem dX1_init_5 : decode cX1_init 5 = .ok (.bipush 16, 2) := by decide +kernel
theorem dX1_init_7 : decode cX1_init 7 = .ok (.newarray .int, 2) := by decide +kernel
theorem dX1_init_9 : decode cX1_init 9 = .ok (.putfield 11, 3) := by decide +kernel
theorem dX1_init_12 : decode cX1_init 12 = .ok (.aload_n 0, 1) := by decide +kernel
theorem dX1_init_13 : decode cX1_init 13 = .ok (.bipush 16, 2) := by decide +kernel
theorem dX1_init_15 : decode cX1_init 15 = .ok (.newarray .int, 2) := by decide +kernel
theorem dX1_init_17 : decode cX1_init 17 = .ok (.putfield 15, 3) := by decide +kernel
theorem dX1_init_20 : decode cX1_init 20 = .ok (.aload_n 0, 1) := by decide +kernel
theorem dX1_init_21 : decode cX1_init 21 = .ok (.iconst 0, 1) := by decide +kernel
theorem dX1_init_22 : decode cX1_init 22 = .ok (.putfield 18, 3) := by decide +kernel
theorem dX1_init_25 : decode cX1_init 25 = .ok (.return_, 1) := by decide +kernel
theorem dX1_clear_0 : decode cX1_clear 0 = .ok (.aload_n 0, 1) := by decide +kernel
theorem dX1_clear_1 : decode cX1_clear 1 = .ok (.iconst 0, 1) := by decide +kernel
theorem dX1_clear_2 : decode cX1_clear 2 = .ok (.putfield 18, 3) := by decide +kernel
theorem dX1_clear_5 : decode cX1_clear 5 = .ok (.return_, 1) := by decide +kernel
theorem dX1_hasAt_0 : decode cX1_hasAt 0 = .ok (.iload_n 1, 1) := by decide +kernel
theorem dX1_hasAt_1 : decode cX1_hasAt 1 = .ok (.ifCond .lt 15, 3) := by decide +kernel
theorem dX1_hasAt_4 : decode cX1_hasAt 4 = .ok (.iload_n 1, 1) := by decide +kernel
theorem dX1_hasAt_5 : decode cX1_hasAt 5 = .ok (.aload_n 0, 1) := by decide +kernel
theorem dX1_hasAt_6 : decode cX1_hasAt 6 = .ok (.getfield 18, 3) := by decide +kernel
theorem dX1_hasAt_9 : decode cX1_hasAt 9 = .ok (.if_icmp .ge 7, 3) := by decide +kernel
theorem dX1_hasAt_12 : decode cX1_hasAt 12 = .ok (.iconst 1, 1) := by decide +kernel
theorem dX1_hasAt_13 : decode cX1_hasAt 13 = .ok (.goto 4, 3) := by decide +kernel
theorem dX1_hasAt_16 : decode cX1_hasAt 16 = .ok (.iconst 0, 1) := by decide +kernel
theorem dX1_hasAt_17 : decode cX1_hasAt 17 = .ok (.ireturn, 1) := by decide +kernel
set_option maxRecDepth 20000 in
theorem ggX1_add_X1_isAhead : GoodIn wsX1_add wsX1_isAhead := goodIn_r _ [8, 3, 2, 9, 10, 11] (by decide +kernel) (by decide +kernel)
set_option maxRecDepth 20000 in
theorem gX1_add_X1_isAhead : GoodIn wsX1_add (wsV RX1 22 RX1 yX1_isAhead wsX1_isAhead) := goodIn_app (goodIn_of _ (by decide +kernel)) ggX1_add_X1_isAhead
theorem dX1_add_0 : decode cX1_add 0 = .ok (.aload_n 0, 1) := by decide +kernel
theorem dX1_add_1 : decode cX1_add 1 = .ok (.getfield 18, 3) := by decide +kernel
theorem dX1_add_4 : decode cX1_add 4 = .ok (.bipush 16, 2) := by decide +kernel
theorem dX1_add_6 : decode cX1_add 6 = .ok (.if_icmp .lt 4, 3) := by decide +kernel
theorem dX1_add_9 : decode cX1_add 9 = .ok (.return_, 1) := by decide +kernel
theorem dX1_add_10 : decode cX1_add 10 = .ok (.aload_n 0, 1) := by decide +kernel
theorem dX1_add_11 : decode cX1_add 11 = .ok (.getfield 18, 3) := by decide +kernel
theorem dX1_add_14 : decode cX1_add 14 = .ok (.istore_n 3, 1) := by decide +kernel
theorem dX1_add_15 : decode cX1_add 15 = .ok (.iload_n 3, 1) := by decide +kernel
theorem dX1_add_16 : decode cX1_add 16 = .ok (.ifCond .le 49, 3) := by decide +kernel
theorem dX1_add_19 : decode cX1_add 19 = .ok (.aload_n 0, 1) := by decide +kernel
theorem dX1_add_20 : decode cX1_add 20 = .ok (.iload_n 1, 1) := by decide +kernel
theorem dX1_add_21 : decode cX1_add 21 = .ok (.iload_n 2, 1) := by decide +kernel
theorem dX1_add_22 : decode cX1_add 22 = .ok (.iload_n 3, 1) := by decide +kernel
theorem dX1_add_23 : decode cX1_add 23 = .ok (.iconst 1, 1) := by decide +kernel
theorem dX1_add_24 : decode cX1_add 24 = .ok (.isub, 1) := by decide +kernel
theorem dX1_add_25 : decode cX1_add 25 = .ok (.invokevirtual 22, 3) := by decide +kernel
theorem dX1_add_28 : decode cX1_add 28 = .ok (.ifCond .eq 37, 3) := by decide +kernel
theorem dX1_add_31 : decode cX1_add 31 = .ok (.aload_n 0, 1) := by decide +kernel
theorem dX1_add_32 : decode cX1_add 32 = .ok (.getfield 11, 3) := by decide +kernel
theorem dX1_add_35 : decode cX1_add 35 = .ok (.iload_n 3, 1) := by decide +kernel
theorem dX1_add_36 : decode cX1_add 36 = .ok (.aload_n 0, 1) := by decide +kernel
theorem dX1_add_37 : decode cX1_add 37 = .ok (.getfield 11, 3) := by decide +kernel
theorem dX1_add_40 : decode cX1_add 40 = .ok (.iload_n 3, 1) := by decide +kernel
theorem dX1_add_41 : decode cX1_add 41 = .ok (.iconst 1, 1) := by decide +kernel
theorem dX1_add_42 : decode cX1_add 42 = .ok (.isub, 1) := by decide +kernel
theorem dX1_add_43 : decode cX1_add 43 = .ok (.iaload, 1) := by decide +kernel
theorem dX1_add_44 : decode cX1_add 44 = .ok (.iastore, 1) := by decide +kernel
theorem dX1_add_45 : decode cX1_add 45 = .ok (.aload_n 0, 1) := by decide +kernel
theorem dX1_add_46 : decode cX1_add 46 = .ok (.getfield 15, 3) := by decide +kernel
theorem dX1_add_49 : decode cX1_add 49 = .ok (.iload_n 3, 1) := by decide +kernel
theorem dX1_add_50 : decode cX1_add 50 = .ok (.aload_n 0, 1) := by decide +kernel
theorem dX1_add_51 : decode cX1_add 51 = .ok (.getfield 15, 3) := by decide +kernel
theorem dX1_add_54 : decode cX1_add 54 = .ok (.iload_n 3, 1) := by decide +kernel
theorem dX1_add_55 : decode cX1_add 55 = .ok (.iconst 1, 1) := by decide +kernel
theorem dX1_add_56 : decode cX1_add 56 = .ok (.isub, 1) := by decide +kernel
theorem dX1_add_57 : decode cX1_add 57 = .ok (.iaload, 1) := by decide +kernel
theorem dX1_add_58 : decode cX1_add 58 = .ok (.iastore, 1) := by decide +kernel
theorem dX1_add_59 : decode cX1_add 59 = .ok (.iinc 3 (-1), 3) := by decide +kernel
theorem dX1_add_62 : decode cX1_add 62 = .ok (.goto (-47), 3) := by decide +kernel
theorem dX1_add_65 : decode cX1_add 65 = .ok (.aload_n 0, 1) := by decide +kernel
theorem dX1_add_66 : decode cX1_add 66 = .ok (.getfield 11, 3) := by decide +kernel
theorem dX1_add_69 : decode cX1_add 69 = .ok (.iload_n 3, 1) := by decide +kernel
theorem dX1_add_70 : decode cX1_add 70 = .ok (.iload_n 1, 1) := by decide +kernel
theorem dX1_add_71 : decode cX1_add 71 = .ok (.iastore, 1) := by decide +kernel
theorem dX1_add_72 : decode cX1_add 72 = .ok (.aload_n 0, 1) := by decide +kernel
theorem dX1_add_73 : decode cX1_add 73 = .ok (.getfield 15, 3) := by decide +kernel
theorem dX1_add_76 : decode cX1_add 76 = .ok (.iload_n 3, 1) := by decide +kernel
theorem dX1_add_77 : decode cX1_add 77 = .ok (.iload_n 2, 1) := by decide +kernel
theorem dX1_add_78 : decode cX1_add 78 = .ok (.iastore, 1) := by decide +kernel
theorem dX1_add_79 : decode cX1_add 79 = .ok (.aload_n 0, 1) := by decide +kernel
theorem dX1_add_80 : decode cX1_add 80 = .ok (.dup, 1) := by decide +kernel
theorem dX1_add_81 : decode cX1_add 81 = .ok (.getfield 18, 3) := by decide +kernel
theorem dX1_add_84 : decode cX1_add 84 = .ok (.iconst 1, 1) := by decide +kernel
theorem dX1_add_85 : decode cX1_add 85 = .ok (.iadd, 1) := by decide +kernel
theorem dX1_add_86 : decode cX1_add 86 = .ok (.putfield 18, 3) := by decide +kernel
theorem dX1_add_89 : decode cX1_add 89 = .ok (.return_, 1) := by decide +kernel
theorem dX1_takeFirst_0 : decode cX1_takeFirst 0 = .ok (.aload_n 0, 1) := by decide +kernel
theorem dX1_takeFirst_1 : decode cX1_takeFirst 1 = .ok (.aload_n 1, 1) := by decide +kernel
theorem dX1_takeFirst_2 : decode cX1_takeFirst 2 = .ok (.getfield 18, 3) := by decide +kernel
theorem dX1_takeFirst_5 : decode cX1_takeFirst 5 = .ok (.iload_n 2, 1) := by decide +kernel
theorem dX1_takeFirst_6 : decode cX1_takeFirst 6 = .ok (.invokestatic 26, 3) := by decide +kernel
theorem dX1_takeFirst_9 : decode cX1_takeFirst 9 = .ok (.putfield 18, 3) := by decide +kernel
theorem dX1_takeFirst_12 : decode cX1_takeFirst 12 = .ok (.aload_n 1, 1) := by decide +kernel
theorem dX1_takeFirst_13 : decode cX1_takeFirst 13 = .ok (.getfield 11, 3) := by decide +kernel
theorem dX1_takeFirst_16 : decode cX1_takeFirst 16 = .ok (.iconst 0, 1) := by decide +kernel
theorem dX1_takeFirst_17 : decode cX1_takeFirst 17 = .ok (.aload_n 0, 1) := by decide +kernel
theorem dX1_takeFirst_18 : decode cX1_takeFirst 18 = .ok (.getfield 11, 3) := by decide +kernel
theorem dX1_takeFirst_21 : decode cX1_takeFirst 21 = .ok (.iconst 0, 1) := by decide +kernel
theorem dX1_takeFirst_22 : decode cX1_takeFirst 22 = .ok (.aload_n 0, 1) := by decide +kernel
theorem dX1_takeFirst_23 : decode cX1_takeFirst 23 = .ok (.getfield 18, 3) := by decide +kernel
theorem dX1_takeFirst_26 : decode cX1_takeFirst 26 = .ok (.invokestatic 32, 3) := by decide +kernel
theorem dX1_takeFirst_29 : decode cX1_takeFirst 29 = .ok (.aload_n 1, 1) := by decide +kernel
theorem dX1_takeFirst_30 : decode cX1_takeFirst 30 = .ok (.getfield 15, 3) := by decide +kernel
theorem dX1_takeFirst_33 : decode cX1_takeFirst 33 = .ok (.iconst 0, 1) := by decide +kernel
theorem dX1_takeFirst_34 : decode cX1_takeFirst 34 = .ok (.aload_n 0, 1) := by decide +kernel
theorem dX1_takeFirst_35 : decode cX1_takeFirst 35 = .ok (.getfield 15, 3) := by decide +kernel
theorem dX1_takeFirst_38 : decode cX1_takeFirst 38 = .ok (.iconst 0, 1) := by decide +kernel
theorem dX1_takeFirst_39 : decode cX1_takeFirst 39 = .ok (.aload_n 0, 1) := by decide +kernel
theorem dX1_takeFirst_40 : decode cX1_takeFirst 40 = .ok (.getfield 18, 3) := by decide +kernel
theorem dX1_takeFirst_43 : decode cX1_takeFirst 43 = .ok (.invokestatic 32, 3) := by decide +kernel
theorem dX1_takeFirst_46 : decode cX1_takeFirst 46 = .ok (.return_, 1) := by decide +kernel
theorem dX1_isAhead_0 : decode cX1_isAhead 0 = .ok (.iload_n 2, 1) := by decide +kernel
theorem dX1_isAhead_1 : decode cX1_isAhead 1 = .ok (.aload_n 0, 1) := by decide +kernel
theorem dX1_isAhead_2 : decode cX1_isAhead 2 = .ok (.getfield 15, 3) := by decide +kernel
theorem dX1_isAhead_5 : decode cX1_isAhead 5 = .ok (.iload_n 3, 1) := by decide +kernel
theorem dX1_isAhead_6 : decode cX1_isAhead 6 = .ok (.iaload, 1) := by decide +kernel
theorem dX1_isAhead_7 : decode cX1_isAhead 7 = .ok (.if_icmp .lt 23, 3) := by decide +kernel
theorem dX1_isAhead_10 : decode cX1_isAhead 10 = .ok (.iload_n 2, 1) := by decide +kernel
theorem dX1_isAhead_11 : decode cX1_isAhead 11 = .ok (.aload_n 0, 1) := by decide +kernel
theorem dX1_isAhead_12 : decode cX1_isAhead 12 = .ok (.getfield 15, 3) := by decide +kernel
theorem dX1_isAhead_15 : decode cX1_isAhead 15 = .ok (.iload_n 3, 1) := by decide +kernel
theorem dX1_isAhead_16 : decode cX1_isAhead 16 = .ok (.iaload, 1) := by decide +kernel
theorem dX1_isAhead_17 : decode cX1_isAhead 17 = .ok (.if_icmp .ne 17, 3) := by decide +kernel
theorem dX1_isAhead_20 : decode cX1_isAhead 20 = .ok (.iload_n 1, 1) := by decide +kernel
theorem dX1_isAhead_21 : decode cX1_isAhead 21 = .ok (.aload_n 0, 1) := by decide +kernel
theorem dX1_isAhead_22 : decode cX1_isAhead 22 = .ok (.getfield 11, 3) := by decide +kernel
theorem dX1_isAhead_25 : decode cX1_isAhead 25 = .ok (.iload_n 3, 1) := by decide +kernel
theorem dX1_isAhead_26 : decode cX1_isAhead 26 = .ok (.iaload, 1) := by decide +kernel
theorem dX1_isAhead_27 : decode cX1_isAhead 27 = .ok (.if_icmp .ge 7, 3) := by decide +kernel
theorem dX1_isAhead_30 : decode cX1_isAhead 30 = .ok (.iconst 1, 1) := by decide +kernel
theorem dX1_isAhead_31 : decode cX1_isAhead 31 = .ok (.goto 4, 3) := by decide +kernel
theorem dX1_isAhead_34 : decode cX1_isAhead 34 = .ok (.iconst 0, 1) := by decide +kernel
theorem dX1_isAhead_35 : decode cX1_isAhead 35 = .ok (.ireturn, 1) := by decide +kernel
set_option maxRecDepth 20000 in
theorem ggX2_init_X0_init : GoodIn wsX2_init wsX0_init := goodIn_r _ [19, 20, 2, 3, 21, 22, 23, 24, 25, 11, 26, 27, 34, 35, 36, 37, 38, 39, 40] (by decide +kernel) (by decide +kernel)
set_option maxRecDepth 20000 in
theorem gX2_init_X0_init_n9 : GoodIn wsX2_init (wsX0_init) := ggX2_init_X0_init
set_option maxRecDepth 20000 in
theorem ggX2_init_X1_init : GoodIn wsX2_init wsX1_init := goodIn_r _ [29, 30, 2, 3, 11, 31, 32, 33, 48, 49, 50] (by decide +kernel) (by decide +kernel)
set_option maxRecDepth 20000 in
theorem gX2_init_X1_init_n32 : GoodIn wsX2_init (wsX1_init) := ggX2_init_X1_init
theorem dX2_init_0 : decode cX2_init 0 = .ok (.aload_n 0, 1) := by decide +kernel
theorem dX2_init_1 : decode cX2_init 1 = .ok (.invokespecial 1, 3) := by decide +kernel
theorem dX2_init_4 : decode cX2_init 4 = .ok (.aload_n 0, 1) := by decide +kernel
theorem dX2_init_5 : decode cX2_init 5 = .ok (.new 7, 3) := by decide +kernel
theorem dX2_init_8 : decode cX2_init 8 = .ok (.dup, 1) := by decide +kernel
theorem dX2_init_9 : decode cX2_init 9 = .ok (.invokespecial 9, 3) := by decide +kernel
theorem dX2_init_12 : decode cX2_init 12 = .ok (.putfield 10, 3) := by decide +kernel
theorem dX2_init_15 : decode cX2_init 15 = .ok (.aload_n 0, 1) := by decide +kernel
theorem dX2_init_16 : decode cX2_init 16 = .ok (.new 7, 3) := by decide +kernel
theorem dX2_init_19 : decode cX2_init 19 = .ok (.dup, 1) := by decide +kernel
theorem dX2_init_20 : decode cX2_init 20 = .ok (.invokespecial 9, 3) := by decide +kernel
theorem dX2_init_23 : decode cX2_init 23 = .ok (.putfield 16, 3) := by decide +kernel
theorem dX2_init_26 : decode cX2_init 26 = .ok (.aload_n 0, 1) := by decide +kernel
theorem dX2_init_27 : decode cX2_init 27 = .ok (.new 7, 3) := by decide +kernel
theorem dX2_init_30 : decode cX2_init 30 = .ok (.dup, 1) := by decide +kernel
theorem dX2_init_31 : decode cX2_init 31 = .ok (.invokespecial 9, 3) := by decide +kernel
theorem dX2_init_34 : decode cX2_init 34 = .ok (.putfield 19, 3) := by decide +kernel
theorem dX2_init_37 : decode cX2_init 37 = .ok (.aload_n 0, 1) := by decide +kernel
theorem dX2_init_38 : decode cX2_init 38 = .ok (.iconst 0, 1) := by decide +kernel
theorem dX2_init_39 : decode cX2_init 39 = .ok (.putfield 22, 3) := by decide +kernel
theorem dX2_init_42 : decode cX2_init 42 = .ok (.aload_n 0, 1) := by decide +kernel
theorem dX2_init_43 : decode cX2_init 43 = .ok (.bipush 16, 2) := by decide +kernel
theorem dX2_init_45 : decode cX2_init 45 = .ok (.newarray .int, 2) := by decide +kernel
theorem dX2_init_47 : decode cX2_init 47 = .ok (.putfield 26, 3) := by decide +kernel
theorem dX2_init_50 : decode cX2_init 50 = .ok (.aload_n 0, 1) := by decide +kernel
theorem dX2_init_51 : decode cX2_init 51 = .ok (.new 30, 3) := by decide +kernel
theorem dX2_init_54 : decode cX2_init 54 = .ok (.dup, 1) := by decide +kernel
theorem dX2_init_55 : decode cX2_init 55 = .ok (.invokespecial 32, 3) := by decide +kernel
theorem dX2_init_58 : decode cX2_init 58 = .ok (.putfield 33, 3) := by decide +kernel
theorem dX2_init_61 : decode cX2_init 61 = .ok (.aload_n 0, 1) := by decide +kernel
theorem dX2_init_62 : decode cX2_init 62 = .ok (.new 30, 3) := by decide +kernel
theorem dX2_init_65 : decode cX2_init 65 = .ok (.dup, 1) := by decide +kernel
theorem dX2_init_66 : decode cX2_init 66 = .ok (.invokespecial 32, 3) := by decide +kernel
theorem dX2_init_69 : decode cX2_init 69 = .ok (.putfield 37, 3) := by decide +kernel
theorem dX2_init_72 : decode cX2_init 72 = .ok (.return_, 1) := by decide +kernel
set_option maxRecDepth 20000 in
theorem ggX2_deep_X0_beginAnew : GoodIn wsX2_deep wsX0_beginAnew := goodIn_r _ [6, 7, 8, 9, 10, 18, 19, 20, 21, 22, 23, 24] (by decide +kernel) (by decide +kernel)
set_option maxRecDepth 20000 in
theorem gX2_deep_X0_beginAnew : GoodIn wsX2_deep (wsV RX2 43 RX0 yX0_beginAnew wsX0_beginAnew) := goodIn_app (goodIn_of _ (by decide +kernel)) ggX2_deep_X0_beginAnew
theorem dX2_deep_0 : decode cX2_deep 0 = .ok (.iload_n 1, 1) := by decide +kernel
theorem dX2_deep_1 : decode cX2_deep 1 = .ok (.iconst 1, 1) := by decide +kernel
theorem dX2_deep_2 : decode cX2_deep 2 = .ok (.if_icmp .lt 8, 3) := by decide +kernel
theorem dX2_deep_5 : decode cX2_deep 5 = .ok (.iload_n 1, 1) := by decide +kernel
theorem dX2_deep_6 : decode cX2_deep 6 = .ok (.iconst 4, 1) := by decide +kernel
theorem dX2_deep_7 : decode cX2_deep 7 = .ok (.if_icmp .le 6, 3) := by decide +kernel
theorem dX2_deep_10 : decode cX2_deep 10 = .ok (.bipush (-2), 2) := by decide +kernel
theorem dX2_deep_12 : decode cX2_deep 12 = .ok (.ireturn, 1) := by decide +kernel
theorem dX2_deep_13 : decode cX2_deep 13 = .ok (.aload_n 0, 1) := by decide +kernel
theorem dX2_deep_14 : decode cX2_deep 14 = .ok (.getfield 10, 3) := by decide +kernel
theorem dX2_deep_17 : decode cX2_deep 17 = .ok (.getfield 40, 3) := by decide +kernel
theorem dX2_deep_20 : decode cX2_deep 20 = .ok (.istore_n 2, 1) := by decide +kernel
theorem dX2_deep_21 : decode cX2_deep 21 = .ok (.aload_n 0, 1) := by decide +kernel
theorem dX2_deep_22 : decode cX2_deep 22 = .ok (.getfield 10, 3) := by decide +kernel
theorem dX2_deep_25 : decode cX2_deep 25 = .ok (.iload_n 1, 1) := by decide +kernel
theorem dX2_deep_26 : decode cX2_deep 26 = .ok (.invokevirtual 43, 3) := by decide +kernel
theorem dX2_deep_29 : decode cX2_deep 29 = .ok (.iload_n 2, 1) := by decide +kernel
theorem dX2_deep_30 : decode cX2_deep 30 = .ok (.ireturn, 1) := by decide +kernel
theorem dX2_loss_0 : decode cX2_loss 0 = .ok (.iload_n 2, 1) := by decide +kernel
theorem dX2_loss_1 : decode cX2_loss 1 = .ok (.iconst 2, 1) := by decide +kernel
theorem dX2_loss_2 : decode cX2_loss 2 = .ok (.if_icmp .lt 18, 3) := by decide +kernel
theorem dX2_loss_5 : decode cX2_loss 5 = .ok (.iload_n 2, 1) := by decide +kernel
theorem dX2_loss_6 : decode cX2_loss 6 = .ok (.bipush 10, 2) := by decide +kernel
theorem dX2_loss_8 : decode cX2_loss 8 = .ok (.if_icmp .gt 12, 3) := by decide +kernel
theorem dX2_loss_11 : decode cX2_loss 11 = .ok (.iload_n 1, 1) := by decide +kernel
theorem dX2_loss_12 : decode cX2_loss 12 = .ok (.ifCond .lt 8, 3) := by decide +kernel
theorem dX2_loss_15 : decode cX2_loss 15 = .ok (.iload_n 1, 1) := by decide +kernel
theorem dX2_loss_16 : decode cX2_loss 16 = .ok (.iload_n 2, 1) := by decide +kernel
theorem dX2_loss_17 : decode cX2_loss 17 = .ok (.if_icmp .le 6, 3) := by decide +kernel
theorem dX2_loss_20 : decode cX2_loss 20 = .ok (.bipush (-2), 2) := by decide +kernel
theorem dX2_loss_22 : decode cX2_loss 22 = .ok (.ireturn, 1) := by decide +kernel
theorem dX2_loss_23 : decode cX2_loss 23 = .ok (.aload_n 0, 1) := by decide +kernel
theorem dX2_loss_24 : decode cX2_loss 24 = .ok (.getfield 10, 3) := by decide +kernel
theorem dX2_loss_27 : decode cX2_loss 27 = .ok (.getfield 47, 3) := by decide +kernel
theorem dX2_loss_30 : decode cX2_loss 30 = .ok (.istore_n 3, 1) := by decide +kernel
theorem dX2_loss_31 : decode cX2_loss 31 = .ok (.aload_n 0, 1) := by decide +kernel
theorem dX2_loss_32 : decode cX2_loss 32 = .ok (.getfield 10, 3) := by decide +kernel
theorem dX2_loss_35 : decode cX2_loss 35 = .ok (.iload_n 1, 1) := by decide +kernel
theorem dX2_loss_36 : decode cX2_loss 36 = .ok (.putfield 50, 3) := by decide +kernel
theorem dX2_loss_39 : decode cX2_loss 39 = .ok (.aload_n 0, 1) := by decide +kernel
theorem dX2_loss_40 : decode cX2_loss 40 = .ok (.getfield 10, 3) := by decide +kernel
theorem dX2_loss_43 : decode cX2_loss 43 = .ok (.iload_n 2, 1) := by decide +kernel
theorem dX2_loss_44 : decode cX2_loss 44 = .ok (.putfield 47, 3) := by decide +kernel
theorem dX2_loss_47 : decode cX2_loss 47 = .ok (.iload_n 3, 1) := by decide +kernel
theorem dX2_loss_48 : decode cX2_loss 48 = .ok (.ireturn, 1) := by decide +kernel
set_option maxRecDepth 20000 in
theorem ggX2_split_X2_isPlace : GoodIn wsX2_split wsX2_isPlace := goodIn_r _ [7, 8, 9, 10, 6, 11, 12, 25, 26, 27, 28, 29, 30, 31, 32, 33, 34, 35, 36, 37, 38] (by decide +kernel) (by decide +kernel)
set_option maxRecDepth 20000 in
theorem gX2_split_X2_isPlace : GoodIn wsX2_split (wsV RX2 53 RX2 yX2_isPlace wsX2_isPlace) := goodIn_app (goodIn_of _ (by decide +kernel)) ggX2_split_X2_isPlace
set_option maxRecDepth 20000 in
theorem ggX2_split_X2_upperLoss : GoodIn wsX2_split wsX2_upperLoss := goodIn_r _ [16, 12, 17, 8, 9, 10, 6, 11, 25, 26, 27, 28, 29, 30, 31, 32, 33, 34, 35, 36, 37, 38] (by decide +kernel) (by decide +kernel)
set_option maxRecDepth 20000 in
theorem gX2_split_X2_upperLoss : GoodIn wsX2_split (wsV RX2 61 RX2 yX2_upperLoss wsX2_upperLoss) := goodIn_app (goodIn_of _ (by decide +kernel)) ggX2_split_X2_upperLoss
set_option maxRecDepth 20000 in
theorem ggX2_split_X2_lowerLoss : GoodIn wsX2_split wsX2_lowerLoss := goodIn_r _ [21, 12, 25, 26, 27, 28, 29, 30, 31, 32, 33, 34, 35, 36, 37, 38] (by decide +kernel) (by decide +kernel)
set_option maxRecDepth 20000 in
theorem gX2_split_X2_lowerLoss : GoodIn wsX2_split (wsV RX2 65 RX2 yX2_lowerLoss wsX2_lowerLoss) := goodIn_app (goodIn_of _ (by decide +kernel)) ggX2_split_X2_lowerLoss
set_option maxRecDepth 20000 in
theorem ggX2_split_X2_commonDivisor : GoodIn wsX2_split wsX2_commonDivisor := goodIn_r _ [24] (by decide +kernel) (by decide +kernel)
set_option maxRecDepth 20000 in
theorem gX2_split_X2_commonDivisor : GoodIn wsX2_split (va_wsS RX2 69 yX2_commonDivisor wsX2_commonDivisor) := goodIn_app (goodIn_of _ (by decide +kernel)) ggX2_split_X2_commonDivisor
theorem dX2_split_0 : decode cX2_split 0 = .ok (.aload_n 0, 1) := by decide +kernel
theorem dX2_split_1 : decode cX2_split 1 = .ok (.iload_n 1, 1) := by decide +kernel
theorem dX2_split_2 : decode cX2_split 2 = .ok (.invokevirtual 53, 3) := by decide +kernel
theorem dX2_split_5 : decode cX2_split 5 = .ok (.ifCond .ne 7, 3) := by decide +kernel
theorem dX2_split_8 : decode cX2_split 8 = .ok (.ldc2_w 57, 3) := by decide +kernel
theorem dX2_split_11 : decode cX2_split 11 = .ok (.lreturn, 1) := by decide +kernel
theorem dX2_split_12 : decode cX2_split 12 = .ok (.iload_n 2, 1) := by decide +kernel
theorem dX2_split_13 : decode cX2_split 13 = .ok (.ifCond .lt 8, 3) := by decide +kernel
theorem dX2_split_16 : decode cX2_split 16 = .ok (.iload_n 2, 1) := by decide +kernel
theorem dX2_split_17 : decode cX2_split 17 = .ok (.iconst 1, 1) := by decide +kernel
theorem dX2_split_18 : decode cX2_split 18 = .ok (.if_icmp .le 7, 3) := by decide +kernel
theorem dX2_split_21 : decode cX2_split 21 = .ok (.ldc2_w 59, 3) := by decide +kernel
theorem dX2_split_24 : decode cX2_split 24 = .ok (.lreturn, 1) := by decide +kernel
theorem dX2_split_25 : decode cX2_split 25 = .ok (.aload_n 0, 1) := by decide +kernel
theorem dX2_split_26 : decode cX2_split 26 = .ok (.iload_n 1, 1) := by decide +kernel
theorem dX2_split_27 : decode cX2_split 27 = .ok (.invokevirtual 61, 3) := by decide +kernel
theorem dX2_split_30 : decode cX2_split 30 = .ok (.lstore_n 3, 1) := by decide +kernel
theorem dX2_split_31 : decode cX2_split 31 = .ok (.aload_n 0, 1) := by decide +kernel
theorem dX2_split_32 : decode cX2_split 32 = .ok (.invokevirtual 65, 3) := by decide +kernel
theorem dX2_split_35 : decode cX2_split 35 = .ok (.lstore 5, 2) := by decide +kernel
theorem dX2_split_37 : decode cX2_split 37 = .ok (.lload_n 3, 1) := by decide +kernel
theorem dX2_split_38 : decode cX2_split 38 = .ok (.lload 5, 2) := by decide +kernel
theorem dX2_split_40 : decode cX2_split 40 = .ok (.invokestatic 69, 3) := by decide +kernel
theorem dX2_split_43 : decode cX2_split 43 = .ok (.lstore 7, 2) := by decide +kernel
theorem dX2_split_45 : decode cX2_split 45 = .ok (.lload 7, 2) := by decide +kernel
theorem dX2_split_47 : decode cX2_split 47 = .ok (.lconst 1, 1) := by decide +kernel
theorem dX2_split_48 : decode cX2_split 48 = .ok (.lcmp, 1) := by decide +kernel
theorem dX2_split_49 : decode cX2_split 49 = .ok (.ifCond .ge 7, 3) := by decide +kernel
theorem dX2_split_52 : decode cX2_split 52 = .ok (.ldc2_w 59, 3) := by decide +kernel
theorem dX2_split_55 : decode cX2_split 55 = .ok (.lreturn, 1) := by decide +kernel
theorem dX2_split_56 : decode cX2_split 56 = .ok (.iload_n 2, 1) := by decide +kernel
theorem dX2_split_57 : decode cX2_split 57 = .ok (.ifCond .ne 10, 3) := by decide +kernel
theorem dX2_split_60 : decode cX2_split 60 = .ok (.lload_n 3, 1) := by decide +kernel
theorem dX2_split_61 : decode cX2_split 61 = .ok (.lload 7, 2) := by decide +kernel
theorem dX2_split_63 : decode cX2_split 63 = .ok (.ldiv, 1) := by decide +kernel
theorem dX2_split_64 : decode cX2_split 64 = .ok (.goto 8, 3) := by decide +kernel
theorem dX2_split_67 : decode cX2_split 67 = .ok (.lload 5, 2) := by decide +kernel
theorem dX2_split_69 : decode cX2_split 69 = .ok (.lload 7, 2) := by decide +kernel
theorem dX2_split_71 : decode cX2_split 71 = .ok (.ldiv, 1) := by decide +kernel
theorem dX2_split_72 : decode cX2_split 72 = .ok (.lreturn, 1) := by decide +kernel
set_option maxRecDepth 20000 in
theorem ggX2_rank_X2_isPlace : GoodIn wsX2_rank wsX2_isPlace := goodIn_r _ [5, 6, 7, 8, 4, 9, 10, 24, 25, 26, 27, 28, 29, 30, 31, 32, 33, 34, 35, 36, 37] (by decide +kernel) (by decide +kernel)
set_option maxRecDepth 20000 in
theorem gX2_rank_X2_isPlace : GoodIn wsX2_rank (wsV RX2 53 RX2 yX2_isPlace wsX2_isPlace) := goodIn_app (goodIn_of _ (by decide +kernel)) ggX2_rank_X2_isPlace
set_option maxRecDepth 20000 in
theorem ggX2_rank_X2_bitOfRank : GoodIn wsX2_rank wsX2_bitOfRank := goodIn_r _ [14, 6, 7, 8, 4, 9, 10, 15, 16, 17, 18, 19, 20, 21, 22, 23, 24, 25, 26, 27, 28, 29, 30, 31, 32, 33, 34, 35, 36, 37] (by decide +kernel) (by decide +kernel)
set_option maxRecDepth 20000 in
theorem gX2_rank_X2_bitOfRank : GoodIn wsX2_rank (wsV RX2 73 RX2 yX2_bitOfRank wsX2_bitOfRank) := goodIn_app (goodIn_of _ (by decide +kernel)) ggX2_rank_X2_bitOfRank
set_option maxRecDepth 20000 in
theorem ggX2_rank_X2_howManyBetter : GoodIn wsX2_rank wsX2_howManyBetter := goodIn_r _ [18, 19, 20, 21, 4, 22, 10, 23, 6, 7, 8, 9, 24, 25, 26, 27, 28, 29, 30, 31, 32, 33, 34, 35, 36, 37] (by decide +kernel) (by decide +kernel)
set_option maxRecDepth 20000 in
theorem gX2_rank_X2_howManyBetter : GoodIn wsX2_rank (wsV RX2 77 RX2 yX2_howManyBetter wsX2_howManyBetter) := goodIn_app (goodIn_of _ (by decide +kernel)) ggX2_rank_X2_howManyBetter
theorem dX2_rank_0 : decode cX2_rank 0 = .ok (.aload_n 0, 1) := by decide +kernel
theorem dX2_rank_1 : decode cX2_rank 1 = .ok (.iload_n 1, 1) := by decide +kernel
theorem dX2_rank_2 : decode cX2_rank 2 = .ok (.invokevirtual 53, 3) := by decide +kernel
theorem dX2_rank_5 : decode cX2_rank 5 = .ok (.ifCond .ne 5, 3) := by decide +kernel
theorem dX2_rank_8 : decode cX2_rank 8 = .ok (.iconst (-1), 1) := by decide +kernel
theorem dX2_rank_9 : decode cX2_rank 9 = .ok (.ireturn, 1) := by decide +kernel
theorem dX2_rank_10 : decode cX2_rank 10 = .ok (.iload_n 2, 1) := by decide +kernel
theorem dX2_rank_11 : decode cX2_rank 11 = .ok (.ifCond .lt 8, 3) := by decide +kernel
theorem dX2_rank_14 : decode cX2_rank 14 = .ok (.iload_n 2, 1) := by decide +kernel
theorem dX2_rank_15 : decode cX2_rank 15 = .ok (.iconst 1, 1) := by decide +kernel
theorem dX2_rank_16 : decode cX2_rank 16 = .ok (.if_icmp .le 6, 3) := by decide +kernel
theorem dX2_rank_19 : decode cX2_rank 19 = .ok (.bipush (-2), 2) := by decide +kernel
theorem dX2_rank_21 : decode cX2_rank 21 = .ok (.ireturn, 1) := by decide +kernel
theorem dX2_rank_22 : decode cX2_rank 22 = .ok (.iload_n 2, 1) := by decide +kernel
theorem dX2_rank_23 : decode cX2_rank 23 = .ok (.ifCond .ne 11, 3) := by decide +kernel
theorem dX2_rank_26 : decode cX2_rank 26 = .ok (.aload_n 0, 1) := by decide +kernel
theorem dX2_rank_27 : decode cX2_rank 27 = .ok (.iload_n 1, 1) := by decide +kernel
theorem dX2_rank_28 : decode cX2_rank 28 = .ok (.invokevirtual 73, 3) := by decide +kernel
theorem dX2_rank_31 : decode cX2_rank 31 = .ok (.goto 8, 3) := by decide +kernel
theorem dX2_rank_34 : decode cX2_rank 34 = .ok (.aload_n 0, 1) := by decide +kernel
theorem dX2_rank_35 : decode cX2_rank 35 = .ok (.iload_n 1, 1) := by decide +kernel
theorem dX2_rank_36 : decode cX2_rank 36 = .ok (.invokevirtual 77, 3) := by decide +kernel
theorem dX2_rank_39 : decode cX2_rank 39 = .ok (.ireturn, 1) := by decide +kernel
set_option maxRecDepth 20000 in
theorem ggX2_freeze_X2_isSet : GoodIn wsX2_freeze wsX2_isSet := goodIn_r _ [6, 7, 8, 9, 5, 10, 1, 22, 23, 24, 25, 26, 27, 28, 29, 30, 31, 32, 33, 34, 35] (by decide +kernel) (by decide +kernel)
set_option maxRecDepth 20000 in
theorem gX2_freeze_X2_isSet : GoodIn wsX2_freeze (wsV RX2 80 RX2 yX2_isSet wsX2_isSet) := goodIn_app (goodIn_of _ (by decide +kernel)) ggX2_freeze_X2_isSet
set_option maxRecDepth 20000 in
theorem ggX2_freeze_X2_howManyFree : GoodIn wsX2_freeze wsX2_howManyFree := goodIn_r _ [14, 1, 7, 8, 9, 5, 10, 15, 16, 17, 18, 19, 20, 21, 22, 23, 24, 25, 26, 27, 28, 29, 30, 31, 32, 33, 34, 35] (by decide +kernel) (by decide +kernel)
set_option maxRecDepth 20000 in
theorem gX2_freeze_X2_howManyFree : GoodIn wsX2_freeze (wsV RX2 86 RX2 yX2_howManyFree wsX2_howManyFree) := goodIn_app (goodIn_of _ (by decide +kernel)) ggX2_freeze_X2_howManyFree
theorem dX2_freeze_0 : decode cX2_freeze 0 = .ok (.aload_n 0, 1) := by decide +kernel
theorem dX2_freeze_1 : decode cX2_freeze 1 = .ok (.iload_n 1, 1) := by decide +kernel
theorem dX2_freeze_2 : decode cX2_freeze 2 = .ok (.invokevirtual 80, 3) := by decide +kernel
theorem dX2_freeze_5 : decode cX2_freeze 5 = .ok (.ifCond .ne 6, 3) := by decide +kernel
theorem dX2_freeze_8 : decode cX2_freeze 8 = .ok (.bipush (-2), 2) := by decide +kernel
theorem dX2_freeze_10 : decode cX2_freeze 10 = .ok (.ireturn, 1) := by decide +kernel
theorem dX2_freeze_11 : decode cX2_freeze 11 = .ok (.aload_n 0, 1) := by decide +kernel
theorem dX2_freeze_12 : decode cX2_freeze 12 = .ok (.getfield 10, 3) := by decide +kernel
theorem dX2_freeze_15 : decode cX2_freeze 15 = .ok (.iload_n 1, 1) := by decide +kernel
theorem dX2_freeze_16 : decode cX2_freeze 16 = .ok (.putfield 83, 3) := by decide +kernel
theorem dX2_freeze_19 : decode cX2_freeze 19 = .ok (.aload_n 0, 1) := by decide +kernel
theorem dX2_freeze_20 : decode cX2_freeze 20 = .ok (.invokevirtual 86, 3) := by decide +kernel
theorem dX2_freeze_23 : decode cX2_freeze 23 = .ok (.ireturn, 1) := by decide +kernel
set_option maxRecDepth 20000 in
theorem ggX2_best_X2_places : GoodIn wsX2_best wsX2_places := goodIn_r _ [6, 1, 16, 17, 18, 19, 20, 21, 22, 23, 24, 25, 26, 27, 28, 29] (by decide +kernel) (by decide +kernel)
set_option maxRecDepth 20000 in
theorem gX2_best_X2_places : GoodIn wsX2_best (wsV RX2 90 RX2 yX2_places wsX2_places) := goodIn_app (goodIn_of _ (by decide +kernel)) ggX2_best_X2_places
set_option maxRecDepth 20000 in
theorem ggX2_best_X2_howManyBetter : GoodIn wsX2_best wsX2_howManyBetter := goodIn_r _ [10, 11, 12, 13, 5, 14, 1, 15, 2, 3, 4, 6, 16, 17, 18, 19, 20, 21, 22, 23, 24, 25, 26, 27, 28, 29] (by decide +kernel) (by decide +kernel)
set_option maxRecDepth 20000 in
theorem gX2_best_X2_howManyBetter : GoodIn wsX2_best (wsV RX2 77 RX2 yX2_howManyBetter wsX2_howManyBetter) := goodIn_app (goodIn_of _ (by decide +kernel)) ggX2_best_X2_howManyBetter
theorem dX2_best_0 : decode cX2_best 0 = .ok (.iload_n 1, 1) := by decide +kernel
theorem dX2_best_1 : decode cX2_best 1 = .ok (.ifCond .lt 11, 3) := by decide +kernel
theorem dX2_best_4 : decode cX2_best 4 = .ok (.iload_n 1, 1) := by decide +kernel
theorem dX2_best_5 : decode cX2_best 5 = .ok (.aload_n 0, 1) := by decide +kernel
theorem dX2_best_6 : decode cX2_best 6 = .ok (.invokevirtual 90, 3) := by decide +kernel
theorem dX2_best_9 : decode cX2_best 9 = .ok (.if_icmp .le 6, 3) := by decide +kernel
theorem dX2_best_12 : decode cX2_best 12 = .ok (.bipush (-2), 2) := by decide +kernel
theorem dX2_best_14 : decode cX2_best 14 = .ok (.ireturn, 1) := by decide +kernel
theorem dX2_best_15 : decode cX2_best 15 = .ok (.iconst 0, 1) := by decide +kernel
theorem dX2_best_16 : decode cX2_best 16 = .ok (.istore_n 2, 1) := by decide +kernel
theorem dX2_best_17 : decode cX2_best 17 = .ok (.iconst 0, 1) := by decide +kernel
theorem dX2_best_18 : decode cX2_best 18 = .ok (.istore_n 3, 1) := by decide +kernel
theorem dX2_best_19 : decode cX2_best 19 = .ok (.iload_n 3, 1) := by decide +kernel
theorem dX2_best_20 : decode cX2_best 20 = .ok (.aload_n 0, 1) := by decide +kernel
theorem dX2_best_21 : decode cX2_best 21 = .ok (.invokevirtual 90, 3) := by decide +kernel
theorem dX2_best_24 : decode cX2_best 24 = .ok (.if_icmp .ge 24, 3) := by decide +kernel
theorem dX2_best_27 : decode cX2_best 27 = .ok (.aload_n 0, 1) := by decide +kernel
theorem dX2_best_28 : decode cX2_best 28 = .ok (.iload_n 3, 1) := by decide +kernel
theorem dX2_best_29 : decode cX2_best 29 = .ok (.invokevirtual 77, 3) := by decide +kernel
theorem dX2_best_32 : decode cX2_best 32 = .ok (.iload_n 1, 1) := by decide +kernel
theorem dX2_best_33 : decode cX2_best 33 = .ok (.if_icmp .lt 9, 3) := by decide +kernel
theorem dX2_best_36 : decode cX2_best 36 = .ok (.iload_n 2, 1) := by decide +kernel
theorem dX2_best_37 : decode cX2_best 37 = .ok (.iconst 1, 1) := by decide +kernel
theorem dX2_best_38 : decode cX2_best 38 = .ok (.iload_n 3, 1) := by decide +kernel
theorem dX2_best_39 : decode cX2_best 39 = .ok (.ishl, 1) := by decide +kernel
theorem dX2_best_40 : decode cX2_best 40 = .ok (.ior, 1) := by decide +kernel
theorem dX2_best_41 : decode cX2_best 41 = .ok (.istore_n 2, 1) := by decide +kernel
theorem dX2_best_42 : decode cX2_best 42 = .ok (.iinc 3 1, 3) := by decide +kernel
theorem dX2_best_45 : decode cX2_best 45 = .ok (.goto (-26), 3) := by decide +kernel
theorem dX2_best_48 : decode cX2_best 48 = .ok (.aload_n 0, 1) := by decide +kernel
theorem dX2_best_49 : decode cX2_best 49 = .ok (.getfield 10, 3) := by decide +kernel
theorem dX2_best_52 : decode cX2_best 52 = .ok (.iload_n 2, 1) := by decide +kernel
theorem dX2_best_53 : decode cX2_best 53 = .ok (.putfield 83, 3) := by decide +kernel
theorem dX2_best_56 : decode cX2_best 56 = .ok (.iload_n 2, 1) := by decide +kernel
theorem dX2_best_57 : decode cX2_best 57 = .ok (.ireturn, 1) := by decide +kernel
set_option maxRecDepth 20000 in
theorem ggX2_coded_X2_isSet : GoodIn wsX2_coded wsX2_isSet := goodIn_r _ [5, 6, 7, 8, 4, 9, 10, 15, 16, 17, 18, 19, 20, 21, 22, 23, 24, 25, 26, 27, 28] (by decide +kernel) (by decide +kernel)
set_option maxRecDepth 20000 in
theorem gX2_coded_X2_isSet : GoodIn wsX2_coded (wsV RX2 80 RX2 yX2_isSet wsX2_isSet) := goodIn_app (goodIn_of _ (by decide +kernel)) ggX2_coded_X2_isSet
set_option maxRecDepth 20000 in
theorem ggX2_coded_X2_codedOf : GoodIn wsX2_coded wsX2_codedOf := goodIn_r _ [13, 14] (by decide +kernel) (by decide +kernel)
set_option maxRecDepth 20000 in
theorem gX2_coded_X2_codedOf : GoodIn wsX2_coded (va_wsS RX2 93 yX2_codedOf wsX2_codedOf) := goodIn_app (goodIn_of _ (by decide +kernel)) ggX2_coded_X2_codedOf
theorem dX2_coded_0 : decode cX2_coded 0 = .ok (.aload_n 0, 1) := by decide +kernel
theorem dX2_coded_1 : decode cX2_coded 1 = .ok (.iload_n 1, 1) := by decide +kernel
theorem dX2_coded_2 : decode cX2_coded 2 = .ok (.invokevirtual 80, 3) := by decide +kernel
theorem dX2_coded_5 : decode cX2_coded 5 = .ok (.ifCond .eq 10, 3) := by decide +kernel
theorem dX2_coded_8 : decode cX2_coded 8 = .ok (.iload_n 1, 1) := by decide +kernel
theorem dX2_coded_9 : decode cX2_coded 9 = .ok (.invokestatic 93, 3) := by decide +kernel
theorem dX2_coded_12 : decode cX2_coded 12 = .ok (.goto 5, 3) := by decide +kernel
theorem dX2_coded_15 : decode cX2_coded 15 = .ok (.bipush (-2), 2) := by decide +kernel
theorem dX2_coded_17 : decode cX2_coded 17 = .ok (.ireturn, 1) := by decide +kernel
set_option maxRecDepth 20000 in
theorem ggX2_word_X2_howManyFree : GoodIn wsX2_word wsX2_howManyFree := goodIn_r _ [5, 6, 7, 8, 9, 4, 10, 11, 12, 13, 14, 15, 16, 17, 25, 26, 27, 28, 29, 30, 31, 32, 33, 34, 35, 36, 37, 38] (by decide +kernel) (by decide +kernel)
set_option maxRecDepth 20000 in
theorem gX2_word_X2_howManyFree : GoodIn wsX2_word (wsV RX2 86 RX2 yX2_howManyFree wsX2_howManyFree) := goodIn_app (goodIn_of _ (by decide +kernel)) ggX2_word_X2_howManyFree
set_option maxRecDepth 20000 in
theorem ggX2_word_X2_places : GoodIn wsX2_word wsX2_places := goodIn_r _ [10, 6, 25, 26, 27, 28, 29, 30, 31, 32, 33, 34, 35, 36, 37, 38] (by decide +kernel) (by decide +kernel)
set_option maxRecDepth 20000 in
theorem gX2_word_X2_places : GoodIn wsX2_word (wsV RX2 90 RX2 yX2_places wsX2_places) := goodIn_app (goodIn_of _ (by decide +kernel)) ggX2_word_X2_places
set_option maxRecDepth 20000 in
theorem ggX2_word_X2_isFree : GoodIn wsX2_word wsX2_isFree := goodIn_r _ [21, 6, 22, 23, 4, 24, 25, 26, 27, 28, 29, 30, 31, 32, 33, 34, 35, 36, 37, 38] (by decide +kernel) (by decide +kernel)
set_option maxRecDepth 20000 in
theorem gX2_word_X2_isFree : GoodIn wsX2_word (wsV RX2 96 RX2 yX2_isFree wsX2_isFree) := goodIn_app (goodIn_of _ (by decide +kernel)) ggX2_word_X2_isFree
theorem dX2_word_0 : decode cX2_word 0 = .ok (.iload_n 1, 1) := by decide +kernel
theorem dX2_word_1 : decode cX2_word 1 = .ok (.ifCond .lt 13, 3) := by decide +kernel
theorem dX2_word_4 : decode cX2_word 4 = .ok (.iload_n 1, 1) := by decide +kernel
theorem dX2_word_5 : decode cX2_word 5 = .ok (.iconst 1, 1) := by decide +kernel
theorem dX2_word_6 : decode cX2_word 6 = .ok (.aload_n 0, 1) := by decide +kernel
theorem dX2_word_7 : decode cX2_word 7 = .ok (.invokevirtual 86, 3) := by decide +kernel
theorem dX2_word_10 : decode cX2_word 10 = .ok (.ishl, 1) := by decide +kernel
theorem dX2_word_11 : decode cX2_word 11 = .ok (.if_icmp .lt 6, 3) := by decide +kernel
theorem dX2_word_14 : decode cX2_word 14 = .ok (.bipush (-2), 2) := by decide +kernel
theorem dX2_word_16 : decode cX2_word 16 = .ok (.ireturn, 1) := by decide +kernel
theorem dX2_word_17 : decode cX2_word 17 = .ok (.iconst 0, 1) := by decide +kernel
theorem dX2_word_18 : decode cX2_word 18 = .ok (.istore_n 2, 1) := by decide +kernel
theorem dX2_word_19 : decode cX2_word 19 = .ok (.iload_n 1, 1) := by decide +kernel
theorem dX2_word_20 : decode cX2_word 20 = .ok (.istore_n 3, 1) := by decide +kernel
theorem dX2_word_21 : decode cX2_word 21 = .ok (.iconst 0, 1) := by decide +kernel
theorem dX2_word_22 : decode cX2_word 22 = .ok (.istore 4, 2) := by decide +kernel
theorem dX2_word_24 : decode cX2_word 24 = .ok (.iload 4, 2) := by decide +kernel
theorem dX2_word_26 : decode cX2_word 26 = .ok (.aload_n 0, 1) := by decide +kernel
theorem dX2_word_27 : decode cX2_word 27 = .ok (.invokevirtual 90, 3) := by decide +kernel
theorem dX2_word_30 : decode cX2_word 30 = .ok (.if_icmp .ge 31, 3) := by decide +kernel
theorem dX2_word_33 : decode cX2_word 33 = .ok (.aload_n 0, 1) := by decide +kernel
theorem dX2_word_34 : decode cX2_word 34 = .ok (.iload 4, 2) := by decide +kernel
theorem dX2_word_36 : decode cX2_word 36 = .ok (.invokevirtual 96, 3) := by decide +kernel
theorem dX2_word_39 : decode cX2_word 39 = .ok (.ifCond .eq 16, 3) := by decide +kernel
theorem dX2_word_42 : decode cX2_word 42 = .ok (.iload_n 2, 1) := by decide +kernel
theorem dX2_word_43 : decode cX2_word 43 = .ok (.iload_n 3, 1) := by decide +kernel
theorem dX2_word_44 : decode cX2_word 44 = .ok (.iconst 1, 1) := by decide +kernel
theorem dX2_word_45 : decode cX2_word 45 = .ok (.iand, 1) := by decide +kernel
theorem dX2_word_46 : decode cX2_word 46 = .ok (.iload 4, 2) := by decide +kernel
theorem dX2_word_48 : decode cX2_word 48 = .ok (.ishl, 1) := by decide +kernel
theorem dX2_word_49 : decode cX2_word 49 = .ok (.ior, 1) := by decide +kernel
theorem dX2_word_50 : decode cX2_word 50 = .ok (.istore_n 2, 1) := by decide +kernel
theorem dX2_word_51 : decode cX2_word 51 = .ok (.iload_n 3, 1) := by decide +kernel
theorem dX2_word_52 : decode cX2_word 52 = .ok (.iconst 1, 1) := by decide +kernel
theorem dX2_word_53 : decode cX2_word 53 = .ok (.ishr, 1) := by decide +kernel
theorem dX2_word_54 : decode cX2_word 54 = .ok (.istore_n 3, 1) := by decide +kernel
theorem dX2_word_55 : decode cX2_word 55 = .ok (.iinc 4 1, 3) := by decide +kernel
theorem dX2_word_58 : decode cX2_word 58 = .ok (.goto (-34), 3) := by decide +kernel
theorem dX2_word_61 : decode cX2_word 61 = .ok (.iload_n 2, 1) := by decide +kernel
theorem dX2_word_62 : decode cX2_word 62 = .ok (.ireturn, 1) := by decide +kernel
set_option maxRecDepth 20000 in
theorem ggX2_light_X2_howManyFree : GoodIn wsX2_light wsX2_howManyFree := goodIn_r _ [5, 6, 7, 8, 9, 4, 10, 11, 12, 13, 14, 15, 16, 17, 55, 56, 57, 58, 59, 60, 61, 62, 63, 64, 65, 66, 67, 68] (by decide +kernel) (by decide +kernel)
set_option maxRecDepth 20000 in
theorem gX2_light_X2_howManyFree : GoodIn wsX2_light (wsV RX2 86 RX2 yX2_howManyFree wsX2_howManyFree) := goodIn_app (goodIn_of _ (by decide +kernel)) ggX2_light_X2_howManyFree
set_option maxRecDepth 20000 in
theorem ggX2_light_X2_leastWeight : GoodIn wsX2_light wsX2_leastWeight := goodIn_r _ [21, 22, 23, 24, 25, 7, 8, 9, 4, 10, 6, 26, 27, 28, 29, 30, 31, 32, 33, 34, 35, 36, 11, 12, 13, 14, 15, 16, 17, 55, 56, 57, 58, 59, 60, 61, 62, 63, 64, 65, 66, 67, 68] (by decide +kernel) (by decide +kernel)
set_option maxRecDepth 20000 in
theorem gX2_light_X2_leastWeight : GoodIn wsX2_light (wsV RX2 99 RX2 yX2_leastWeight wsX2_leastWeight) := goodIn_app (goodIn_of _ (by decide +kernel)) ggX2_light_X2_leastWeight
set_option maxRecDepth 20000 in
theorem ggX2_light_X2_howManySets : GoodIn wsX2_light wsX2_howManySets := goodIn_r _ [40, 7, 8, 9, 4, 10, 6, 41, 42, 43, 44, 33, 34, 35, 36, 45, 46, 47, 48, 49, 50, 51, 52, 53, 24, 54, 55, 56, 57, 58, 59, 60, 61, 62, 63, 64, 65, 66, 67, 68] (by decide +kernel) (by decide +kernel)
set_option maxRecDepth 20000 in
theorem gX2_light_X2_howManySets : GoodIn wsX2_light (wsV RX2 102 RX2 yX2_howManySets wsX2_howManySets) := goodIn_app (goodIn_of _ (by decide +kernel)) ggX2_light_X2_howManySets
theorem dX2_light_0 : decode cX2_light 0 = .ok (.iload_n 1, 1) := by decide +kernel
theorem dX2_light_1 : decode cX2_light 1 = .ok (.ifCond .lt 8, 3) := by decide +kernel
theorem dX2_light_4 : decode cX2_light 4 = .ok (.iload_n 1, 1) := by decide +kernel
theorem dX2_light_5 : decode cX2_light 5 = .ok (.iconst 1, 1) := by decide +kernel
theorem dX2_light_6 : decode cX2_light 6 = .ok (.if_icmp .le 6, 3) := by decide +kernel
theorem dX2_light_9 : decode cX2_light 9 = .ok (.bipush (-2), 2) := by decide +kernel
theorem dX2_light_11 : decode cX2_light 11 = .ok (.ireturn, 1) := by decide +kernel
theorem dX2_light_12 : decode cX2_light 12 = .ok (.aload_n 0, 1) := by decide +kernel
theorem dX2_light_13 : decode cX2_light 13 = .ok (.invokevirtual 86, 3) := by decide +kernel
theorem dX2_light_16 : decode cX2_light 16 = .ok (.ifCond .ne 6, 3) := by decide +kernel
theorem dX2_light_19 : decode cX2_light 19 = .ok (.bipush (-6), 2) := by decide +kernel
theorem dX2_light_21 : decode cX2_light 21 = .ok (.ireturn, 1) := by decide +kernel
theorem dX2_light_22 : decode cX2_light 22 = .ok (.aload_n 0, 1) := by decide +kernel
theorem dX2_light_23 : decode cX2_light 23 = .ok (.invokevirtual 99, 3) := by decide +kernel
theorem dX2_light_26 : decode cX2_light 26 = .ok (.istore_n 2, 1) := by decide +kernel
theorem dX2_light_27 : decode cX2_light 27 = .ok (.iload_n 1, 1) := by decide +kernel
theorem dX2_light_28 : decode cX2_light 28 = .ok (.ifCond .ne 7, 3) := by decide +kernel
theorem dX2_light_31 : decode cX2_light 31 = .ok (.iload_n 2, 1) := by decide +kernel
theorem dX2_light_32 : decode cX2_light 32 = .ok (.goto 9, 3) := by decide +kernel
theorem dX2_light_35 : decode cX2_light 35 = .ok (.aload_n 0, 1) := by decide +kernel
theorem dX2_light_36 : decode cX2_light 36 = .ok (.iload_n 2, 1) := by decide +kernel
theorem dX2_light_37 : decode cX2_light 37 = .ok (.iconst 1, 1) := by decide +kernel
theorem dX2_light_38 : decode cX2_light 38 = .ok (.invokevirtual 102, 3) := by decide +kernel
theorem dX2_light_41 : decode cX2_light 41 = .ok (.ireturn, 1) := by decide +kernel
set_option maxRecDepth 20000 in
theorem ggX2_put_X2_isPlace : GoodIn wsX2_put wsX2_isPlace := goodIn_r _ [8, 9, 10, 11, 7, 12, 3, 13, 14, 15, 16, 17, 18, 19, 20, 21, 22, 23, 24, 25, 26] (by decide +kernel) (by decide +kernel)
set_option maxRecDepth 20000 in
theorem gX2_put_X2_isPlace : GoodIn wsX2_put (wsV RX2 53 RX2 yX2_isPlace wsX2_isPlace) := goodIn_app (goodIn_of _ (by decide +kernel)) ggX2_put_X2_isPlace
theorem dX2_put_0 : decode cX2_put 0 = .ok (.aload_n 0, 1) := by decide +kernel
theorem dX2_put_1 : decode cX2_put 1 = .ok (.iload_n 1, 1) := by decide +kernel
theorem dX2_put_2 : decode cX2_put 2 = .ok (.invokevirtual 53, 3) := by decide +kernel
theorem dX2_put_5 : decode cX2_put 5 = .ok (.ifCond .ne 6, 3) := by decide +kernel
theorem dX2_put_8 : decode cX2_put 8 = .ok (.ldc 106, 2) := by decide +kernel
theorem dX2_put_10 : decode cX2_put 10 = .ok (.ireturn, 1) := by decide +kernel
theorem dX2_put_11 : decode cX2_put 11 = .ok (.iload_n 2, 1) := by decide +kernel
theorem dX2_put_12 : decode cX2_put 12 = .ok (.bipush (-99), 2) := by decide +kernel
theorem dX2_put_14 : decode cX2_put 14 = .ok (.if_icmp .lt 9, 3) := by decide +kernel
theorem dX2_put_17 : decode cX2_put 17 = .ok (.iload_n 2, 1) := by decide +kernel
theorem dX2_put_18 : decode cX2_put 18 = .ok (.bipush 99, 2) := by decide +kernel
theorem dX2_put_20 : decode cX2_put 20 = .ok (.if_icmp .le 6, 3) := by decide +kernel
theorem dX2_put_23 : decode cX2_put 23 = .ok (.ldc 107, 2) := by decide +kernel
theorem dX2_put_25 : decode cX2_put 25 = .ok (.ireturn, 1) := by decide +kernel
theorem dX2_put_26 : decode cX2_put 26 = .ok (.aload_n 0, 1) := by decide +kernel
theorem dX2_put_27 : decode cX2_put 27 = .ok (.getfield 10, 3) := by decide +kernel
theorem dX2_put_30 : decode cX2_put 30 = .ok (.getfield 108, 3) := by decide +kernel
theorem dX2_put_33 : decode cX2_put 33 = .ok (.iload_n 1, 1) := by decide +kernel
theorem dX2_put_34 : decode cX2_put 34 = .ok (.iaload, 1) := by decide +kernel
theorem dX2_put_35 : decode cX2_put 35 = .ok (.istore_n 3, 1) := by decide +kernel
theorem dX2_put_36 : decode cX2_put 36 = .ok (.aload_n 0, 1) := by decide +kernel
theorem dX2_put_37 : decode cX2_put 37 = .ok (.getfield 10, 3) := by decide +kernel
theorem dX2_put_40 : decode cX2_put 40 = .ok (.getfield 108, 3) := by decide +kernel
theorem dX2_put_43 : decode cX2_put 43 = .ok (.iload_n 1, 1) := by decide +kernel
theorem dX2_put_44 : decode cX2_put 44 = .ok (.iload_n 2, 1) := by decide +kernel
theorem dX2_put_45 : decode cX2_put 45 = .ok (.iastore, 1) := by decide +kernel
theorem dX2_put_46 : decode cX2_put 46 = .ok (.iload_n 3, 1) := by decide +kernel
theorem dX2_put_47 : decode cX2_put 47 = .ok (.ireturn, 1) := by decide +kernel
set_option maxRecDepth 20000 in
theorem ggX2_hear_X2_isSet : GoodIn wsX2_hear wsX2_isSet := goodIn_r _ [6, 7, 8, 9, 5, 10, 1, 18, 19, 20, 21, 22, 23, 24, 25, 26, 27, 28, 29, 30, 31] (by decide +kernel) (by decide +kernel)
set_option maxRecDepth 20000 in
theorem gX2_hear_X2_isSet : GoodIn wsX2_hear (wsV RX2 80 RX2 yX2_isSet wsX2_isSet) := goodIn_app (goodIn_of _ (by decide +kernel)) ggX2_hear_X2_isSet
set_option maxRecDepth 20000 in
theorem ggX2_hear_X2_codedOf : GoodIn wsX2_hear wsX2_codedOf := goodIn_r _ [13, 14] (by decide +kernel) (by decide +kernel)
set_option maxRecDepth 20000 in
theorem gX2_hear_X2_codedOf : GoodIn wsX2_hear (va_wsS RX2 93 yX2_codedOf wsX2_codedOf) := goodIn_app (goodIn_of _ (by decide +kernel)) ggX2_hear_X2_codedOf
set_option maxRecDepth 20000 in
theorem ggX2_hear_X2_places : GoodIn wsX2_hear wsX2_places := goodIn_r _ [10, 1, 18, 19, 20, 21, 22, 23, 24, 25, 26, 27, 28, 29, 30, 31] (by decide +kernel) (by decide +kernel)
set_option maxRecDepth 20000 in
theorem gX2_hear_X2_places : GoodIn wsX2_hear (wsV RX2 90 RX2 yX2_places wsX2_places) := goodIn_app (goodIn_of _ (by decide +kernel)) ggX2_hear_X2_places
set_option maxRecDepth 20000 in
theorem ggX2_hear_X2_has : GoodIn wsX2_hear wsX2_has := goodIn_r _ [17] (by decide +kernel) (by decide +kernel)
set_option maxRecDepth 20000 in
theorem gX2_hear_X2_has : GoodIn wsX2_hear (va_wsS RX2 111 yX2_has wsX2_has) := goodIn_app (goodIn_of _ (by decide +kernel)) ggX2_hear_X2_has
theorem dX2_hear_0 : decode cX2_hear 0 = .ok (.aload_n 0, 1) := by decide +kernel
theorem dX2_hear_1 : decode cX2_hear 1 = .ok (.iload_n 1, 1) := by decide +kernel
theorem dX2_hear_2 : decode cX2_hear 2 = .ok (.invokevirtual 80, 3) := by decide +kernel
theorem dX2_hear_5 : decode cX2_hear 5 = .ok (.ifCond .eq 14, 3) := by decide +kernel
theorem dX2_hear_8 : decode cX2_hear 8 = .ok (.iload_n 2, 1) := by decide +kernel
theorem dX2_hear_9 : decode cX2_hear 9 = .ok (.iconst 1, 1) := by decide +kernel
theorem dX2_hear_10 : decode cX2_hear 10 = .ok (.if_icmp .lt 9, 3) := by decide +kernel
theorem dX2_hear_13 : decode cX2_hear 13 = .ok (.iload_n 2, 1) := by decide +kernel
theorem dX2_hear_14 : decode cX2_hear 14 = .ok (.bipush 99, 2) := by decide +kernel
theorem dX2_hear_16 : decode cX2_hear 16 = .ok (.if_icmp .le 6, 3) := by decide +kernel
theorem dX2_hear_19 : decode cX2_hear 19 = .ok (.bipush (-2), 2) := by decide +kernel
theorem dX2_hear_21 : decode cX2_hear 21 = .ok (.ireturn, 1) := by decide +kernel
theorem dX2_hear_22 : decode cX2_hear 22 = .ok (.iload_n 1, 1) := by decide +kernel
theorem dX2_hear_23 : decode cX2_hear 23 = .ok (.invokestatic 93, 3) := by decide +kernel
theorem dX2_hear_26 : decode cX2_hear 26 = .ok (.istore_n 3, 1) := by decide +kernel
theorem dX2_hear_27 : decode cX2_hear 27 = .ok (.iconst 0, 1) := by decide +kernel
theorem dX2_hear_28 : decode cX2_hear 28 = .ok (.istore 4, 2) := by decide +kernel
theorem dX2_hear_30 : decode cX2_hear 30 = .ok (.iload 4, 2) := by decide +kernel
theorem dX2_hear_32 : decode cX2_hear 32 = .ok (.aload_n 0, 1) := by decide +kernel
theorem dX2_hear_33 : decode cX2_hear 33 = .ok (.invokevirtual 90, 3) := by decide +kernel
theorem dX2_hear_36 : decode cX2_hear 36 = .ok (.if_icmp .ge 34, 3) := by decide +kernel
theorem dX2_hear_39 : decode cX2_hear 39 = .ok (.aload_n 0, 1) := by decide +kernel
theorem dX2_hear_40 : decode cX2_hear 40 = .ok (.getfield 10, 3) := by decide +kernel
theorem dX2_hear_43 : decode cX2_hear 43 = .ok (.getfield 108, 3) := by decide +kernel
theorem dX2_hear_46 : decode cX2_hear 46 = .ok (.iload 4, 2) := by decide +kernel
theorem dX2_hear_48 : decode cX2_hear 48 = .ok (.iload_n 3, 1) := by decide +kernel
theorem dX2_hear_49 : decode cX2_hear 49 = .ok (.iload 4, 2) := by decide +kernel
theorem dX2_hear_51 : decode cX2_hear 51 = .ok (.invokestatic 111, 3) := by decide +kernel
theorem dX2_hear_54 : decode cX2_hear 54 = .ok (.ifCond .eq 8, 3) := by decide +kernel
theorem dX2_hear_57 : decode cX2_hear 57 = .ok (.iload_n 2, 1) := by decide +kernel
theorem dX2_hear_58 : decode cX2_hear 58 = .ok (.ineg, 1) := by decide +kernel
theorem dX2_hear_59 : decode cX2_hear 59 = .ok (.goto 4, 3) := by decide +kernel
theorem dX2_hear_62 : decode cX2_hear 62 = .ok (.iload_n 2, 1) := by decide +kernel
theorem dX2_hear_63 : decode cX2_hear 63 = .ok (.iastore, 1) := by decide +kernel
theorem dX2_hear_64 : decode cX2_hear 64 = .ok (.iinc 4 1, 3) := by decide +kernel
theorem dX2_hear_67 : decode cX2_hear 67 = .ok (.goto (-37), 3) := by decide +kernel
theorem dX2_hear_70 : decode cX2_hear 70 = .ok (.iload_n 3, 1) := by decide +kernel
theorem dX2_hear_71 : decode cX2_hear 71 = .ok (.ireturn, 1) := by decide +kernel
set_option maxRecDepth 20000 in
theorem ggX2_spoil_X2_isSet : GoodIn wsX2_spoil wsX2_isSet := goodIn_r _ [6, 7, 8, 9, 5, 10, 1, 14, 15, 16, 17, 18, 19, 20, 21, 22, 23, 24, 25, 26, 27] (by decide +kernel) (by decide +kernel)
set_option maxRecDepth 20000 in
theorem gX2_spoil_X2_isSet : GoodIn wsX2_spoil (wsV RX2 80 RX2 yX2_isSet wsX2_isSet) := goodIn_app (goodIn_of _ (by decide +kernel)) ggX2_spoil_X2_isSet
set_option maxRecDepth 20000 in
theorem ggX2_spoil_X2_places : GoodIn wsX2_spoil wsX2_places := goodIn_r _ [10, 1, 14, 15, 16, 17, 18, 19, 20, 21, 22, 23, 24, 25, 26, 27] (by decide +kernel) (by decide +kernel)
set_option maxRecDepth 20000 in
theorem gX2_spoil_X2_places : GoodIn wsX2_spoil (wsV RX2 90 RX2 yX2_places wsX2_places) := goodIn_app (goodIn_of _ (by decide +kernel)) ggX2_spoil_X2_places
set_option maxRecDepth 20000 in
theorem ggX2_spoil_X2_has : GoodIn wsX2_spoil wsX2_has := goodIn_r _ [13] (by decide +kernel) (by decide +kernel)
set_option maxRecDepth 20000 in
theorem gX2_spoil_X2_has : GoodIn wsX2_spoil (va_wsS RX2 111 yX2_has wsX2_has) := goodIn_app (goodIn_of _ (by decide +kernel)) ggX2_spoil_X2_has
theorem dX2_spoil_0 : decode cX2_spoil 0 = .ok (.aload_n 0, 1) := by decide +kernel
theorem dX2_spoil_1 : decode cX2_spoil 1 = .ok (.iload_n 1, 1) := by decide +kernel
theorem dX2_spoil_2 : decode cX2_spoil 2 = .ok (.invokevirtual 80, 3) := by decide +kernel
theorem dX2_spoil_5 : decode cX2_spoil 5 = .ok (.ifCond .eq 12, 3) := by decide +kernel
theorem dX2_spoil_8 : decode cX2_spoil 8 = .ok (.iload_n 2, 1) := by decide +kernel
theorem dX2_spoil_9 : decode cX2_spoil 9 = .ok (.ifCond .lt 8, 3) := by decide +kernel
theorem dX2_spoil_12 : decode cX2_spoil 12 = .ok (.iload_n 2, 1) := by decide +kernel
theorem dX2_spoil_13 : decode cX2_spoil 13 = .ok (.iconst 1, 1) := by decide +kernel
theorem dX2_spoil_14 : decode cX2_spoil 14 = .ok (.if_icmp .le 6, 3) := by decide +kernel
theorem dX2_spoil_17 : decode cX2_spoil 17 = .ok (.bipush (-2), 2) := by decide +kernel
theorem dX2_spoil_19 : decode cX2_spoil 19 = .ok (.ireturn, 1) := by decide +kernel
theorem dX2_spoil_20 : decode cX2_spoil 20 = .ok (.iconst 0, 1) := by decide +kernel
theorem dX2_spoil_21 : decode cX2_spoil 21 = .ok (.istore_n 3, 1) := by decide +kernel
theorem dX2_spoil_22 : decode cX2_spoil 22 = .ok (.iconst 0, 1) := by decide +kernel
theorem dX2_spoil_23 : decode cX2_spoil 23 = .ok (.istore 4, 2) := by decide +kernel
theorem dX2_spoil_25 : decode cX2_spoil 25 = .ok (.iload 4, 2) := by decide +kernel
theorem dX2_spoil_27 : decode cX2_spoil 27 = .ok (.aload_n 0, 1) := by decide +kernel
theorem dX2_spoil_28 : decode cX2_spoil 28 = .ok (.invokevirtual 90, 3) := by decide +kernel
theorem dX2_spoil_31 : decode cX2_spoil 31 = .ok (.if_icmp .ge 63, 3) := by decide +kernel
theorem dX2_spoil_34 : decode cX2_spoil 34 = .ok (.iload_n 1, 1) := by decide +kernel
theorem dX2_spoil_35 : decode cX2_spoil 35 = .ok (.iload 4, 2) := by decide +kernel
theorem dX2_spoil_37 : decode cX2_spoil 37 = .ok (.invokestatic 111, 3) := by decide +kernel
theorem dX2_spoil_40 : decode cX2_spoil 40 = .ok (.ifCond .eq 48, 3) := by decide +kernel
theorem dX2_spoil_43 : decode cX2_spoil 43 = .ok (.aload_n 0, 1) := by decide +kernel
theorem dX2_spoil_44 : decode cX2_spoil 44 = .ok (.getfield 10, 3) := by decide +kernel
theorem dX2_spoil_47 : decode cX2_spoil 47 = .ok (.getfield 108, 3) := by decide +kernel
theorem dX2_spoil_50 : decode cX2_spoil 50 = .ok (.iload 4, 2) := by decide +kernel
theorem dX2_spoil_52 : decode cX2_spoil 52 = .ok (.iaload, 1) := by decide +kernel
theorem dX2_spoil_53 : decode cX2_spoil 53 = .ok (.ifCond .eq 35, 3) := by decide +kernel
theorem dX2_spoil_56 : decode cX2_spoil 56 = .ok (.iinc 3 1, 3) := by decide +kernel
theorem dX2_spoil_59 : decode cX2_spoil 59 = .ok (.aload_n 0, 1) := by decide +kernel
theorem dX2_spoil_60 : decode cX2_spoil 60 = .ok (.getfield 10, 3) := by decide +kernel
theorem dX2_spoil_63 : decode cX2_spoil 63 = .ok (.getfield 108, 3) := by decide +kernel
theorem dX2_spoil_66 : decode cX2_spoil 66 = .ok (.iload 4, 2) := by decide +kernel
theorem dX2_spoil_68 : decode cX2_spoil 68 = .ok (.iload_n 2, 1) := by decide +kernel
theorem dX2_spoil_69 : decode cX2_spoil 69 = .ok (.ifCond .ne 7, 3) := by decide +kernel
theorem dX2_spoil_72 : decode cX2_spoil 72 = .ok (.iconst 0, 1) := by decide +kernel
theorem dX2_spoil_73 : decode cX2_spoil 73 = .ok (.goto 14, 3) := by decide +kernel
theorem dX2_spoil_76 : decode cX2_spoil 76 = .ok (.aload_n 0, 1) := by decide +kernel
theorem dX2_spoil_77 : decode cX2_spoil 77 = .ok (.getfield 10, 3) := by decide +kernel
theorem dX2_spoil_80 : decode cX2_spoil 80 = .ok (.getfield 108, 3) := by decide +kernel
theorem dX2_spoil_83 : decode cX2_spoil 83 = .ok (.iload 4, 2) := by decide +kernel
theorem dX2_spoil_85 : decode cX2_spoil 85 = .ok (.iaload, 1) := by decide +kernel
theorem dX2_spoil_86 : decode cX2_spoil 86 = .ok (.ineg, 1) := by decide +kernel
theorem dX2_spoil_87 : decode cX2_spoil 87 = .ok (.iastore, 1) := by decide +kernel
theorem dX2_spoil_88 : decode cX2_spoil 88 = .ok (.iinc 4 1, 3) := by decide +kernel
theorem dX2_spoil_91 : decode cX2_spoil 91 = .ok (.goto (-66), 3) := by decide +kernel
theorem dX2_spoil_94 : decode cX2_spoil 94 = .ok (.iload_n 3, 1) := by decide +kernel
theorem dX2_spoil_95 : decode cX2_spoil 95 = .ok (.ireturn, 1) := by decide +kernel
set_option maxRecDepth 20000 in
theorem ggX2_measure_X2_isPlace : GoodIn wsX2_measure wsX2_isPlace := goodIn_r _ [8, 9, 10, 11, 7, 12, 3, 55, 56, 57, 58, 59, 60, 61, 62, 63, 64, 65, 66, 67, 68] (by decide +kernel) (by decide +kernel)
set_option maxRecDepth 20000 in
theorem gX2_measure_X2_isPlace : GoodIn wsX2_measure (wsV RX2 53 RX2 yX2_isPlace wsX2_isPlace) := goodIn_app (goodIn_of _ (by decide +kernel)) ggX2_measure_X2_isPlace
set_option maxRecDepth 20000 in
theorem ggX2_measure_X2_rowRead : GoodIn wsX2_measure wsX2_rowRead := goodIn_r _ [16, 9, 10, 11, 7, 12, 3, 17, 18, 19, 20, 21, 22, 23, 24, 25, 26, 27, 28, 29, 30, 31, 32, 33, 34, 35, 36, 37, 38, 39, 40, 41, 42, 43, 44, 45, 46, 47, 48, 49, 50, 51, 52, 53, 54, 55, 56, 57, 58, 59, 60, 61, 62, 63, 64, 65, 66, 67, 68] (by decide +kernel) (by decide +kernel)
set_option maxRecDepth 20000 in
theorem gX2_measure_X2_rowRead : GoodIn wsX2_measure (wsV RX2 115 RX2 yX2_rowRead wsX2_rowRead) := goodIn_app (goodIn_of _ (by decide +kernel)) ggX2_measure_X2_rowRead
set_option maxRecDepth 20000 in
theorem ggX2_measure_X2_seenOf : GoodIn wsX2_measure wsX2_seenOf := goodIn_r _ [27, 3, 28, 29, 30, 31, 32, 9, 10, 11, 7, 12, 33, 34, 35, 36, 37, 38, 39, 40, 41, 42, 43, 44, 45, 46, 47, 48, 49, 50, 51, 52, 53, 54, 21, 22, 23, 55, 56, 57, 58, 59, 60, 61, 62, 63, 64, 65, 66, 67, 68] (by decide +kernel) (by decide +kernel)
set_option maxRecDepth 20000 in
theorem gX2_measure_X2_seenOf : GoodIn wsX2_measure (wsV RX2 118 RX2 yX2_seenOf wsX2_seenOf) := goodIn_app (goodIn_of _ (by decide +kernel)) ggX2_measure_X2_seenOf
theorem dX2_measure_0 : decode cX2_measure 0 = .ok (.aload_n 0, 1) := by decide +kernel
theorem dX2_measure_1 : decode cX2_measure 1 = .ok (.iload_n 1, 1) := by decide +kernel
theorem dX2_measure_2 : decode cX2_measure 2 = .ok (.invokevirtual 53, 3) := by decide +kernel
theorem dX2_measure_5 : decode cX2_measure 5 = .ok (.ifCond .ne 6, 3) := by decide +kernel
theorem dX2_measure_8 : decode cX2_measure 8 = .ok (.ldc 106, 2) := by decide +kernel
theorem dX2_measure_10 : decode cX2_measure 10 = .ok (.ireturn, 1) := by decide +kernel
theorem dX2_measure_11 : decode cX2_measure 11 = .ok (.iload_n 2, 1) := by decide +kernel
theorem dX2_measure_12 : decode cX2_measure 12 = .ok (.ifCond .lt 8, 3) := by decide +kernel
theorem dX2_measure_15 : decode cX2_measure 15 = .ok (.iload_n 2, 1) := by decide +kernel
theorem dX2_measure_16 : decode cX2_measure 16 = .ok (.iconst 1, 1) := by decide +kernel
theorem dX2_measure_17 : decode cX2_measure 17 = .ok (.if_icmp .le 6, 3) := by decide +kernel
theorem dX2_measure_20 : decode cX2_measure 20 = .ok (.ldc 107, 2) := by decide +kernel
theorem dX2_measure_22 : decode cX2_measure 22 = .ok (.ireturn, 1) := by decide +kernel
theorem dX2_measure_23 : decode cX2_measure 23 = .ok (.iload_n 2, 1) := by decide +kernel
theorem dX2_measure_24 : decode cX2_measure 24 = .ok (.ifCond .ne 15, 3) := by decide +kernel
theorem dX2_measure_27 : decode cX2_measure 27 = .ok (.aload_n 0, 1) := by decide +kernel
theorem dX2_measure_28 : decode cX2_measure 28 = .ok (.getfield 10, 3) := by decide +kernel
theorem dX2_measure_31 : decode cX2_measure 31 = .ok (.getfield 108, 3) := by decide +kernel
theorem dX2_measure_34 : decode cX2_measure 34 = .ok (.iload_n 1, 1) := by decide +kernel
theorem dX2_measure_35 : decode cX2_measure 35 = .ok (.iaload, 1) := by decide +kernel
theorem dX2_measure_36 : decode cX2_measure 36 = .ok (.goto 12, 3) := by decide +kernel
theorem dX2_measure_39 : decode cX2_measure 39 = .ok (.aload_n 0, 1) := by decide +kernel
theorem dX2_measure_40 : decode cX2_measure 40 = .ok (.iload_n 1, 1) := by decide +kernel
theorem dX2_measure_41 : decode cX2_measure 41 = .ok (.aload_n 0, 1) := by decide +kernel
theorem dX2_measure_42 : decode cX2_measure 42 = .ok (.invokevirtual 115, 3) := by decide +kernel
theorem dX2_measure_45 : decode cX2_measure 45 = .ok (.invokevirtual 118, 3) := by decide +kernel
theorem dX2_measure_48 : decode cX2_measure 48 = .ok (.ireturn, 1) := by decide +kernel
set_option maxRecDepth 20000 in
theorem ggX2_read_X2_rowRead : GoodIn wsX2_read wsX2_rowRead := goodIn_r _ [6, 7, 8, 9, 5, 10, 1, 11, 12, 13, 14, 15, 16, 17, 18, 19, 20, 21, 22, 23, 24, 25, 26, 27, 28, 29, 30, 31, 32, 33, 34, 35, 36, 37, 38, 39, 40, 41, 42, 43, 44, 45, 46, 47, 48, 76, 77, 78, 79, 80, 81, 82, 83, 84, 85, 86, 87, 88, 89] (by decide +kernel) (by decide +kernel)
set_option maxRecDepth 20000 in
theorem gX2_read_X2_rowRead : GoodIn wsX2_read (wsV RX2 115 RX2 yX2_rowRead wsX2_rowRead) := goodIn_app (goodIn_of _ (by decide +kernel)) ggX2_read_X2_rowRead
set_option maxRecDepth 20000 in
theorem ggX2_read_X2_fineOf : GoodIn wsX2_read wsX2_fineOf := goodIn_r _ [52, 7, 8, 9, 5, 10, 1, 18, 19, 20, 21, 22, 23, 24, 25, 26, 27, 28, 29, 30, 31, 32, 33, 34, 35, 36, 37, 38, 39, 40, 41, 42, 43, 44, 45, 46, 47, 48, 15, 16, 17, 53, 54, 55, 56, 57, 58, 76, 77, 78, 79, 80, 81, 82, 83, 84, 85, 86, 87, 88, 89] (by decide +kernel) (by decide +kernel)
set_option maxRecDepth 20000 in
theorem gX2_read_X2_fineOf : GoodIn wsX2_read (wsV RX2 122 RX2 yX2_fineOf wsX2_fineOf) := goodIn_app (goodIn_of _ (by decide +kernel)) ggX2_read_X2_fineOf
set_option maxRecDepth 20000 in
theorem ggX2_read_X2_codedOf : GoodIn wsX2_read wsX2_codedOf := goodIn_r _ [43, 44] (by decide +kernel) (by decide +kernel)
set_option maxRecDepth 20000 in
theorem gX2_read_X2_codedOf : GoodIn wsX2_read (va_wsS RX2 93 yX2_codedOf wsX2_codedOf) := goodIn_app (goodIn_of _ (by decide +kernel)) ggX2_read_X2_codedOf
set_option maxRecDepth 20000 in
theorem ggX2_read_X2_howManyToldOtherwise : GoodIn wsX2_read wsX2_howManyToldOtherwise := goodIn_r _ [62, 1, 7, 8, 9, 5, 10, 15, 16, 17, 76, 77, 78, 79, 80, 81, 82, 83, 84, 85, 86, 87, 88, 89] (by decide +kernel) (by decide +kernel)
set_option maxRecDepth 20000 in
theorem gX2_read_X2_howManyToldOtherwise : GoodIn wsX2_read (wsV RX2 125 RX2 yX2_howManyToldOtherwise wsX2_howManyToldOtherwise) := goodIn_app (goodIn_of _ (by decide +kernel)) ggX2_read_X2_howManyToldOtherwise
set_option maxRecDepth 20000 in
theorem ggX2_read_X0_holds : GoodIn wsX2_read wsX0_holds := goodIn_r _ [67, 68, 69, 70, 71, 72, 73, 74, 75, 83, 84, 85, 86, 87, 88, 89] (by decide +kernel) (by decide +kernel)
set_option maxRecDepth 20000 in
theorem gX2_read_X0_holds : GoodIn wsX2_read (wsV RX2 128 RX0 yX0_holds wsX0_holds) := goodIn_app (goodIn_of _ (by decide +kernel)) ggX2_read_X0_holds
theorem dX2_read_0 : decode cX2_read 0 = .ok (.iload_n 1, 1) := by decide +kernel
theorem dX2_read_1 : decode cX2_read 1 = .ok (.ifCond .lt 8, 3) := by decide +kernel
theorem dX2_read_4 : decode cX2_read 4 = .ok (.iload_n 1, 1) := by decide +kernel
theorem dX2_read_5 : decode cX2_read 5 = .ok (.iconst 3, 1) := by decide +kernel
theorem dX2_read_6 : decode cX2_read 6 = .ok (.if_icmp .le 6, 3) := by decide +kernel
theorem dX2_read_9 : decode cX2_read 9 = .ok (.bipush (-2), 2) := by decide +kernel
theorem dX2_read_11 : decode cX2_read 11 = .ok (.ireturn, 1) := by decide +kernel
theorem dX2_read_12 : decode cX2_read 12 = .ok (.aload_n 0, 1) := by decide +kernel
theorem dX2_read_13 : decode cX2_read 13 = .ok (.invokevirtual 115, 3) := by decide +kernel
theorem dX2_read_16 : decode cX2_read 16 = .ok (.istore_n 2, 1) := by decide +kernel
theorem dX2_read_17 : decode cX2_read 17 = .ok (.iload_n 1, 1) := by decide +kernel
theorem dX2_read_18 : decode cX2_read 18 = .ok (.tableswitch 43 0 2 #[26, 28, 34], 26) := by decide +kernel
theorem dX2_read_44 : decode cX2_read 44 = .ok (.iload_n 2, 1) := by decide +kernel
theorem dX2_read_45 : decode cX2_read 45 = .ok (.ireturn, 1) := by decide +kernel
theorem dX2_read_46 : decode cX2_read 46 = .ok (.aload_n 0, 1) := by decide +kernel
theorem dX2_read_47 : decode cX2_read 47 = .ok (.iload_n 2, 1) := by decide +kernel
theorem dX2_read_48 : decode cX2_read 48 = .ok (.invokevirtual 122, 3) := by decide +kernel
theorem dX2_read_51 : decode cX2_read 51 = .ok (.ireturn, 1) := by decide +kernel
theorem dX2_read_52 : decode cX2_read 52 = .ok (.aload_n 0, 1) := by decide +kernel
theorem dX2_read_53 : decode cX2_read 53 = .ok (.iload_n 2, 1) := by decide +kernel
theorem dX2_read_54 : decode cX2_read 54 = .ok (.invokestatic 93, 3) := by decide +kernel
theorem dX2_read_57 : decode cX2_read 57 = .ok (.invokevirtual 125, 3) := by decide +kernel
theorem dX2_read_60 : decode cX2_read 60 = .ok (.ireturn, 1) := by decide +kernel
theorem dX2_read_61 : decode cX2_read 61 = .ok (.aload_n 0, 1) := by decide +kernel
theorem dX2_read_62 : decode cX2_read 62 = .ok (.getfield 10, 3) := by decide +kernel
theorem dX2_read_65 : decode cX2_read 65 = .ok (.iload_n 2, 1) := by decide +kernel
theorem dX2_read_66 : decode cX2_read 66 = .ok (.invokevirtual 128, 3) := by decide +kernel
theorem dX2_read_69 : decode cX2_read 69 = .ok (.ifCond .eq 7, 3) := by decide +kernel
theorem dX2_read_72 : decode cX2_read 72 = .ok (.iconst 1, 1) := by decide +kernel
theorem dX2_read_73 : decode cX2_read 73 = .ok (.goto 4, 3) := by decide +kernel
theorem dX2_read_76 : decode cX2_read 76 = .ok (.iconst 0, 1) := by decide +kernel
theorem dX2_read_77 : decode cX2_read 77 = .ok (.ireturn, 1) := by decide +kernel
theorem dX2_most_0 : decode cX2_most 0 = .ok (.iload_n 1, 1) := by decide +kernel
theorem dX2_most_1 : decode cX2_most 1 = .ok (.iconst 1, 1) := by decide +kernel
theorem dX2_most_2 : decode cX2_most 2 = .ok (.if_icmp .lt 9, 3) := by decide +kernel
theorem dX2_most_5 : decode cX2_most 5 = .ok (.iload_n 1, 1) := by decide +kernel
theorem dX2_most_6 : decode cX2_most 6 = .ok (.bipush 8, 2) := by decide +kernel
theorem dX2_most_8 : decode cX2_most 8 = .ok (.if_icmp .le 6, 3) := by decide +kernel
theorem dX2_most_11 : decode cX2_most 11 = .ok (.bipush (-2), 2) := by decide +kernel
theorem dX2_most_13 : decode cX2_most 13 = .ok (.ireturn, 1) := by decide +kernel
theorem dX2_most_14 : decode cX2_most 14 = .ok (.aload_n 0, 1) := by decide +kernel
theorem dX2_most_15 : decode cX2_most 15 = .ok (.getfield 10, 3) := by decide +kernel
theorem dX2_most_18 : decode cX2_most 18 = .ok (.getfield 131, 3) := by decide +kernel
theorem dX2_most_21 : decode cX2_most 21 = .ok (.istore_n 2, 1) := by decide +kernel
theorem dX2_most_22 : decode cX2_most 22 = .ok (.aload_n 0, 1) := by decide +kernel
theorem dX2_most_23 : decode cX2_most 23 = .ok (.getfield 10, 3) := by decide +kernel
theorem dX2_most_26 : decode cX2_most 26 = .ok (.iload_n 1, 1) := by decide +kernel
theorem dX2_most_27 : decode cX2_most 27 = .ok (.putfield 131, 3) := by decide +kernel
theorem dX2_most_30 : decode cX2_most 30 = .ok (.iload_n 2, 1) := by decide +kernel
theorem dX2_most_31 : decode cX2_most 31 = .ok (.ireturn, 1) := by decide +kernel
set_option maxRecDepth 20000 in
theorem ggX2_kept_X2_tellKept : GoodIn wsX2_kept wsX2_tellKept := goodIn_r _ [7, 1, 8, 2, 9, 10, 11, 12, 13, 14, 15, 16, 17, 18, 19, 20, 21, 22, 23, 24, 25, 26, 27, 6, 28, 29, 30, 31, 32, 33, 34, 35, 36, 37, 38, 39, 40, 41, 42, 43, 44, 45, 46, 47, 48, 49, 50, 51, 52, 53, 54, 55, 56, 57, 58, 59, 60, 61, 62, 63, 64, 65, 66, 67, 68, 69, 70, 71, 72, 73, 74, 75, 76, 77, 78, 79, 80, 81, 82, 100, 101, 102, 103, 104, 105, 106, 110, 111, 112, 113, 114, 115, 116, 107, 108, 109] (by decide +kernel) (by decide +kernel)
set_option maxRecDepth 20000 in
theorem gX2_kept_X2_tellKept : GoodIn wsX2_kept (wsV RX2 134 RX2 yX2_tellKept wsX2_tellKept) := goodIn_app (goodIn_of _ (by decide +kernel)) ggX2_kept_X2_tellKept
set_option maxRecDepth 20000 in
theorem ggX2_kept_X1_hasAt : GoodIn wsX2_kept wsX1_hasAt := goodIn_r _ [86, 14, 107, 108, 109] (by decide +kernel) (by decide +kernel)
set_option maxRecDepth 20000 in
theorem gX2_kept_X1_hasAt : GoodIn wsX2_kept (wsV RX2 140 RX1 yX1_hasAt wsX1_hasAt) := goodIn_app (goodIn_of _ (by decide +kernel)) ggX2_kept_X1_hasAt
set_option maxRecDepth 20000 in
theorem ggX2_kept_X0_holds : GoodIn wsX2_kept wsX0_holds := goodIn_r _ [91, 92, 93, 94, 95, 96, 97, 98, 99, 110, 111, 112, 113, 114, 115, 116] (by decide +kernel) (by decide +kernel)
set_option maxRecDepth 20000 in
theorem gX2_kept_X0_holds : GoodIn wsX2_kept (wsV RX2 128 RX0 yX0_holds wsX0_holds) := goodIn_app (goodIn_of _ (by decide +kernel)) ggX2_kept_X0_holds
theorem dX2_kept_0 : decode cX2_kept 0 = .ok (.iload_n 2, 1) := by decide +kernel
theorem dX2_kept_1 : decode cX2_kept 1 = .ok (.ifCond .lt 8, 3) := by decide +kernel
theorem dX2_kept_4 : decode cX2_kept 4 = .ok (.iload_n 2, 1) := by decide +kernel
theorem dX2_kept_5 : decode cX2_kept 5 = .ok (.iconst 2, 1) := by decide +kernel
theorem dX2_kept_6 : decode cX2_kept 6 = .ok (.if_icmp .le 6, 3) := by decide +kernel
theorem dX2_kept_9 : decode cX2_kept 9 = .ok (.bipush (-2), 2) := by decide +kernel
theorem dX2_kept_11 : decode cX2_kept 11 = .ok (.ireturn, 1) := by decide +kernel
theorem dX2_kept_12 : decode cX2_kept 12 = .ok (.aload_n 0, 1) := by decide +kernel
theorem dX2_kept_13 : decode cX2_kept 13 = .ok (.invokevirtual 134, 3) := by decide +kernel
theorem dX2_kept_16 : decode cX2_kept 16 = .ok (.iload_n 1, 1) := by decide +kernel
theorem dX2_kept_17 : decode cX2_kept 17 = .ok (.iconst (-1), 1) := by decide +kernel
theorem dX2_kept_18 : decode cX2_kept 18 = .ok (.if_icmp .ne 11, 3) := by decide +kernel
theorem dX2_kept_21 : decode cX2_kept 21 = .ok (.aload_n 0, 1) := by decide +kernel
theorem dX2_kept_22 : decode cX2_kept 22 = .ok (.getfield 33, 3) := by decide +kernel
theorem dX2_kept_25 : decode cX2_kept 25 = .ok (.getfield 137, 3) := by decide +kernel
theorem dX2_kept_28 : decode cX2_kept 28 = .ok (.ireturn, 1) := by decide +kernel
theorem dX2_kept_29 : decode cX2_kept 29 = .ok (.aload_n 0, 1) := by decide +kernel
theorem dX2_kept_30 : decode cX2_kept 30 = .ok (.getfield 33, 3) := by decide +kernel
theorem dX2_kept_33 : decode cX2_kept 33 = .ok (.iload_n 1, 1) := by decide +kernel
theorem dX2_kept_34 : decode cX2_kept 34 = .ok (.invokevirtual 140, 3) := by decide +kernel
theorem dX2_kept_37 : decode cX2_kept 37 = .ok (.ifCond .ne 6, 3) := by decide +kernel
theorem dX2_kept_40 : decode cX2_kept 40 = .ok (.bipush (-6), 2) := by decide +kernel
theorem dX2_kept_42 : decode cX2_kept 42 = .ok (.ireturn, 1) := by decide +kernel
theorem dX2_kept_43 : decode cX2_kept 43 = .ok (.iload_n 2, 1) := by decide +kernel
theorem dX2_kept_44 : decode cX2_kept 44 = .ok (.lookupswitch 48 #[(0, 28), (1, 38)], 28) := by decide +kernel
theorem dX2_kept_72 : decode cX2_kept 72 = .ok (.aload_n 0, 1) := by decide +kernel
theorem dX2_kept_73 : decode cX2_kept 73 = .ok (.getfield 33, 3) := by decide +kernel
theorem dX2_kept_76 : decode cX2_kept 76 = .ok (.getfield 143, 3) := by decide +kernel
theorem dX2_kept_79 : decode cX2_kept 79 = .ok (.iload_n 1, 1) := by decide +kernel
theorem dX2_kept_80 : decode cX2_kept 80 = .ok (.iaload, 1) := by decide +kernel
theorem dX2_kept_81 : decode cX2_kept 81 = .ok (.ireturn, 1) := by decide +kernel
theorem dX2_kept_82 : decode cX2_kept 82 = .ok (.aload_n 0, 1) := by decide +kernel
theorem dX2_kept_83 : decode cX2_kept 83 = .ok (.getfield 33, 3) := by decide +kernel
theorem dX2_kept_86 : decode cX2_kept 86 = .ok (.getfield 146, 3) := by decide +kernel
theorem dX2_kept_89 : decode cX2_kept 89 = .ok (.iload_n 1, 1) := by decide +kernel
theorem dX2_kept_90 : decode cX2_kept 90 = .ok (.iaload, 1) := by decide +kernel
theorem dX2_kept_91 : decode cX2_kept 91 = .ok (.ireturn, 1) := by decide +kernel
theorem dX2_kept_92 : decode cX2_kept 92 = .ok (.aload_n 0, 1) := by decide +kernel
theorem dX2_kept_93 : decode cX2_kept 93 = .ok (.getfield 10, 3) := by decide +kernel
theorem dX2_kept_96 : decode cX2_kept 96 = .ok (.aload_n 0, 1) := by decide +kernel
theorem dX2_kept_97 : decode cX2_kept 97 = .ok (.getfield 33, 3) := by decide +kernel
theorem dX2_kept_100 : decode cX2_kept 100 = .ok (.getfield 143, 3) := by decide +kernel
theorem dX2_kept_103 : decode cX2_kept 103 = .ok (.iload_n 1, 1) := by decide +kernel
theorem dX2_kept_104 : decode cX2_kept 104 = .ok (.iaload, 1) := by decide +kernel
theorem dX2_kept_105 : decode cX2_kept 105 = .ok (.invokevirtual 128, 3) := by decide +kernel
theorem dX2_kept_108 : decode cX2_kept 108 = .ok (.ifCond .eq 7, 3) := by decide +kernel
theorem dX2_kept_111 : decode cX2_kept 111 = .ok (.iconst 1, 1) := by decide +kernel
theorem dX2_kept_112 : decode cX2_kept 112 = .ok (.goto 4, 3) := by decide +kernel
theorem dX2_kept_115 : decode cX2_kept 115 = .ok (.iconst 0, 1) := by decide +kernel
theorem dX2_kept_116 : decode cX2_kept 116 = .ok (.ireturn, 1) := by decide +kernel
set_option maxRecDepth 20000 in
theorem ggX2_chosen_X2_tellKept : GoodIn wsX2_chosen wsX2_tellKept := goodIn_r _ [6, 1, 7, 8, 9, 10, 11, 12, 13, 14, 15, 16, 17, 18, 19, 20, 21, 22, 23, 24, 25, 26, 27, 5, 28, 29, 30, 31, 32, 33, 34, 35, 36, 37, 38, 39, 40, 41, 42, 43, 44, 45, 46, 47, 48, 49, 50, 51, 52, 53, 54, 55, 56, 57, 58, 59, 60, 61, 62, 63, 64, 65, 66, 67, 68, 69, 70, 71, 72, 73, 74, 75, 76, 77, 78, 79, 80, 81, 82, 104, 105, 106, 107, 108, 109, 110, 114, 115, 116, 117, 118, 119, 120, 111, 112, 113] (by decide +kernel) (by decide +kernel)
set_option maxRecDepth 20000 in
theorem gX2_chosen_X2_tellKept : GoodIn wsX2_chosen (wsV RX2 134 RX2 yX2_tellKept wsX2_tellKept) := goodIn_app (goodIn_of _ (by decide +kernel)) ggX2_chosen_X2_tellKept
set_option maxRecDepth 20000 in
theorem ggX2_chosen_X2_firstThatHolds : GoodIn wsX2_chosen wsX2_firstThatHolds := goodIn_r _ [86, 1, 8, 87, 88, 89, 90, 91, 92, 93, 94, 95, 96, 97, 98, 99, 104, 105, 106, 107, 108, 109, 110, 111, 112, 113, 114, 115, 116, 117, 118, 119, 120] (by decide +kernel) (by decide +kernel)
set_option maxRecDepth 20000 in
theorem gX2_chosen_X2_firstThatHolds : GoodIn wsX2_chosen (wsV RX2 149 RX2 yX2_firstThatHolds wsX2_firstThatHolds) := goodIn_app (goodIn_of _ (by decide +kernel)) ggX2_chosen_X2_firstThatHolds
set_option maxRecDepth 20000 in
theorem ggX2_chosen_X1_hasAt : GoodIn wsX2_chosen wsX1_hasAt := goodIn_r _ [103, 14, 111, 112, 113] (by decide +kernel) (by decide +kernel)
set_option maxRecDepth 20000 in
theorem gX2_chosen_X1_hasAt : GoodIn wsX2_chosen (wsV RX2 140 RX1 yX1_hasAt wsX1_hasAt) := goodIn_app (goodIn_of _ (by decide +kernel)) ggX2_chosen_X1_hasAt
theorem dX2_chosen_0 : decode cX2_chosen 0 = .ok (.iload_n 1, 1) := by decide +kernel
theorem dX2_chosen_1 : decode cX2_chosen 1 = .ok (.ifCond .lt 8, 3) := by decide +kernel
theorem dX2_chosen_4 : decode cX2_chosen 4 = .ok (.iload_n 1, 1) := by decide +kernel
theorem dX2_chosen_5 : decode cX2_chosen 5 = .ok (.iconst 2, 1) := by decide +kernel
theorem dX2_chosen_6 : decode cX2_chosen 6 = .ok (.if_icmp .le 6, 3) := by decide +kernel
theorem dX2_chosen_9 : decode cX2_chosen 9 = .ok (.bipush (-2), 2) := by decide +kernel
theorem dX2_chosen_11 : decode cX2_chosen 11 = .ok (.ireturn, 1) := by decide +kernel
theorem dX2_chosen_12 : decode cX2_chosen 12 = .ok (.aload_n 0, 1) := by decide +kernel
theorem dX2_chosen_13 : decode cX2_chosen 13 = .ok (.invokevirtual 134, 3) := by decide +kernel
theorem dX2_chosen_16 : decode cX2_chosen 16 = .ok (.aload_n 0, 1) := by decide +kernel
theorem dX2_chosen_17 : decode cX2_chosen 17 = .ok (.invokevirtual 149, 3) := by decide +kernel
theorem dX2_chosen_20 : decode cX2_chosen 20 = .ok (.istore_n 2, 1) := by decide +kernel
theorem dX2_chosen_21 : decode cX2_chosen 21 = .ok (.aload_n 0, 1) := by decide +kernel
theorem dX2_chosen_22 : decode cX2_chosen 22 = .ok (.getfield 33, 3) := by decide +kernel
theorem dX2_chosen_25 : decode cX2_chosen 25 = .ok (.iload_n 2, 1) := by decide +kernel
theorem dX2_chosen_26 : decode cX2_chosen 26 = .ok (.invokevirtual 140, 3) := by decide +kernel
theorem dX2_chosen_29 : decode cX2_chosen 29 = .ok (.ifCond .ne 6, 3) := by decide +kernel
theorem dX2_chosen_32 : decode cX2_chosen 32 = .ok (.bipush (-6), 2) := by decide +kernel
theorem dX2_chosen_34 : decode cX2_chosen 34 = .ok (.ireturn, 1) := by decide +kernel
theorem dX2_chosen_35 : decode cX2_chosen 35 = .ok (.iload_n 1, 1) := by decide +kernel
theorem dX2_chosen_36 : decode cX2_chosen 36 = .ok (.lookupswitch 40 #[(0, 28), (1, 38)], 28) := by decide +kernel
theorem dX2_chosen_64 : decode cX2_chosen 64 = .ok (.aload_n 0, 1) := by decide +kernel
theorem dX2_chosen_65 : decode cX2_chosen 65 = .ok (.getfield 33, 3) := by decide +kernel
theorem dX2_chosen_68 : decode cX2_chosen 68 = .ok (.getfield 143, 3) := by decide +kernel
theorem dX2_chosen_71 : decode cX2_chosen 71 = .ok (.iload_n 2, 1) := by decide +kernel
theorem dX2_chosen_72 : decode cX2_chosen 72 = .ok (.iaload, 1) := by decide +kernel
theorem dX2_chosen_73 : decode cX2_chosen 73 = .ok (.ireturn, 1) := by decide +kernel
theorem dX2_chosen_74 : decode cX2_chosen 74 = .ok (.iload_n 2, 1) := by decide +kernel
theorem dX2_chosen_75 : decode cX2_chosen 75 = .ok (.ireturn, 1) := by decide +kernel
theorem dX2_chosen_76 : decode cX2_chosen 76 = .ok (.aload_n 0, 1) := by decide +kernel
theorem dX2_chosen_77 : decode cX2_chosen 77 = .ok (.getfield 33, 3) := by decide +kernel
theorem dX2_chosen_80 : decode cX2_chosen 80 = .ok (.getfield 146, 3) := by decide +kernel
theorem dX2_chosen_83 : decode cX2_chosen 83 = .ok (.iload_n 2, 1) := by decide +kernel
theorem dX2_chosen_84 : decode cX2_chosen 84 = .ok (.iaload, 1) := by decide +kernel
theorem dX2_chosen_85 : decode cX2_chosen 85 = .ok (.ireturn, 1) := by decide +kernel
set_option maxRecDepth 20000 in
theorem ggX2_check_X2_isSet : GoodIn wsX2_check wsX2_isSet := goodIn_r _ [6, 7, 8, 9, 5, 10, 1, 11, 12, 13, 14, 15, 16, 17, 18, 19, 20, 21, 22, 23, 24] (by decide +kernel) (by decide +kernel)
set_option maxRecDepth 20000 in
theorem gX2_check_X2_isSet : GoodIn wsX2_check (wsV RX2 80 RX2 yX2_isSet wsX2_isSet) := goodIn_app (goodIn_of _ (by decide +kernel)) ggX2_check_X2_isSet
theorem dX2_check_0 : decode cX2_check 0 = .ok (.iload_n 1, 1) := by decide +kernel
theorem dX2_check_1 : decode cX2_check 1 = .ok (.ifCond .lt 8, 3) := by decide +kernel
theorem dX2_check_4 : decode cX2_check 4 = .ok (.iload_n 1, 1) := by decide +kernel
theorem dX2_check_5 : decode cX2_check 5 = .ok (.iconst 3, 1) := by decide +kernel
theorem dX2_check_6 : decode cX2_check 6 = .ok (.if_icmp .lt 5, 3) := by decide +kernel
theorem dX2_check_9 : decode cX2_check 9 = .ok (.iconst (-1), 1) := by decide +kernel
theorem dX2_check_10 : decode cX2_check 10 = .ok (.ireturn, 1) := by decide +kernel
theorem dX2_check_11 : decode cX2_check 11 = .ok (.aload_n 0, 1) := by decide +kernel
theorem dX2_check_12 : decode cX2_check 12 = .ok (.iload_n 2, 1) := by decide +kernel
theorem dX2_check_13 : decode cX2_check 13 = .ok (.invokevirtual 80, 3) := by decide +kernel
theorem dX2_check_16 : decode cX2_check 16 = .ok (.ifCond .ne 6, 3) := by decide +kernel
theorem dX2_check_19 : decode cX2_check 19 = .ok (.bipush (-2), 2) := by decide +kernel
theorem dX2_check_21 : decode cX2_check 21 = .ok (.ireturn, 1) := by decide +kernel
theorem dX2_check_22 : decode cX2_check 22 = .ok (.aload_n 0, 1) := by decide +kernel
theorem dX2_check_23 : decode cX2_check 23 = .ok (.getfield 10, 3) := by decide +kernel
theorem dX2_check_26 : decode cX2_check 26 = .ok (.getfield 152, 3) := by decide +kernel
theorem dX2_check_29 : decode cX2_check 29 = .ok (.iload_n 1, 1) := by decide +kernel
theorem dX2_check_30 : decode cX2_check 30 = .ok (.iaload, 1) := by decide +kernel
theorem dX2_check_31 : decode cX2_check 31 = .ok (.istore_n 3, 1) := by decide +kernel
theorem dX2_check_32 : decode cX2_check 32 = .ok (.aload_n 0, 1) := by decide +kernel
theorem dX2_check_33 : decode cX2_check 33 = .ok (.getfield 10, 3) := by decide +kernel
theorem dX2_check_36 : decode cX2_check 36 = .ok (.getfield 152, 3) := by decide +kernel
theorem dX2_check_39 : decode cX2_check 39 = .ok (.iload_n 1, 1) := by decide +kernel
theorem dX2_check_40 : decode cX2_check 40 = .ok (.iload_n 2, 1) := by decide +kernel
theorem dX2_check_41 : decode cX2_check 41 = .ok (.iastore, 1) := by decide +kernel
theorem dX2_check_42 : decode cX2_check 42 = .ok (.iload_n 3, 1) := by decide +kernel
theorem dX2_check_43 : decode cX2_check 43 = .ok (.ireturn, 1) := by decide +kernel
set_option maxRecDepth 20000 in
theorem ggX2_open_X2_isSet : GoodIn wsX2_open wsX2_isSet := goodIn_r _ [5, 6, 7, 8, 4, 9, 10, 23, 24, 25, 26, 27, 28, 29, 30, 31, 32, 33, 34, 35, 36] (by decide +kernel) (by decide +kernel)
set_option maxRecDepth 20000 in
theorem gX2_open_X2_isSet : GoodIn wsX2_open (wsV RX2 80 RX2 yX2_isSet wsX2_isSet) := goodIn_app (goodIn_of _ (by decide +kernel)) ggX2_open_X2_isSet
set_option maxRecDepth 20000 in
theorem ggX2_open_X2_openFor : GoodIn wsX2_open wsX2_openFor := goodIn_r _ [14, 15, 10, 23, 24, 25, 26, 27, 28, 29, 30, 31, 32, 33, 34, 35, 36] (by decide +kernel) (by decide +kernel)
set_option maxRecDepth 20000 in
theorem gX2_open_X2_openFor : GoodIn wsX2_open (wsV RX2 155 RX2 yX2_openFor wsX2_openFor) := goodIn_app (goodIn_of _ (by decide +kernel)) ggX2_open_X2_openFor
set_option maxRecDepth 20000 in
theorem ggX2_open_J6_bitCount_0f7a4 : GoodIn wsX2_open wsJ6_bitCount_0f7a4 := goodIn_r _ [19, 20, 21, 22] (by decide +kernel) (by decide +kernel)
set_option maxRecDepth 20000 in
theorem gX2_open_J6_bitCount_0f7a4 : GoodIn wsX2_open (va_wsS RX2 158 yJ6_bitCount_0f7a4 wsJ6_bitCount_0f7a4) := goodIn_app (goodIn_of _ (by decide +kernel)) ggX2_open_J6_bitCount_0f7a4
theorem dX2_open_0 : decode cX2_open 0 = .ok (.aload_n 0, 1) := by decide +kernel
theorem dX2_open_1 : decode cX2_open 1 = .ok (.iload_n 1, 1) := by decide +kernel
theorem dX2_open_2 : decode cX2_open 2 = .ok (.invokevirtual 80, 3) := by decide +kernel
theorem dX2_open_5 : decode cX2_open 5 = .ok (.ifCond .eq 12, 3) := by decide +kernel
theorem dX2_open_8 : decode cX2_open 8 = .ok (.iload_n 2, 1) := by decide +kernel
theorem dX2_open_9 : decode cX2_open 9 = .ok (.ifCond .lt 8, 3) := by decide +kernel
theorem dX2_open_12 : decode cX2_open 12 = .ok (.iload_n 2, 1) := by decide +kernel
theorem dX2_open_13 : decode cX2_open 13 = .ok (.iconst 1, 1) := by decide +kernel
theorem dX2_open_14 : decode cX2_open 14 = .ok (.if_icmp .le 6, 3) := by decide +kernel
theorem dX2_open_17 : decode cX2_open 17 = .ok (.bipush (-2), 2) := by decide +kernel
theorem dX2_open_19 : decode cX2_open 19 = .ok (.ireturn, 1) := by decide +kernel
theorem dX2_open_20 : decode cX2_open 20 = .ok (.aload_n 0, 1) := by decide +kernel
theorem dX2_open_21 : decode cX2_open 21 = .ok (.iload_n 1, 1) := by decide +kernel
theorem dX2_open_22 : decode cX2_open 22 = .ok (.invokevirtual 155, 3) := by decide +kernel
theorem dX2_open_25 : decode cX2_open 25 = .ok (.istore_n 3, 1) := by decide +kernel
theorem dX2_open_26 : decode cX2_open 26 = .ok (.iload_n 2, 1) := by decide +kernel
theorem dX2_open_27 : decode cX2_open 27 = .ok (.ifCond .ne 7, 3) := by decide +kernel
theorem dX2_open_30 : decode cX2_open 30 = .ok (.iload_n 3, 1) := by decide +kernel
theorem dX2_open_31 : decode cX2_open 31 = .ok (.goto 7, 3) := by decide +kernel
theorem dX2_open_34 : decode cX2_open 34 = .ok (.iload_n 3, 1) := by decide +kernel
theorem dX2_open_35 : decode cX2_open 35 = .ok (.invokestatic 158, 3) := by decide +kernel
theorem dX2_open_38 : decode cX2_open 38 = .ok (.ireturn, 1) := by decide +kernel
set_option maxRecDepth 20000 in
theorem ggX2_fragile_X2_howManyFree : GoodIn wsX2_fragile wsX2_howManyFree := goodIn_r _ [5, 6, 7, 8, 9, 4, 10, 11, 12, 13, 14, 15, 16, 17, 59, 60, 61, 62, 63, 64, 65, 66, 67, 68, 69, 70, 71, 72] (by decide +kernel) (by decide +kernel)
set_option maxRecDepth 20000 in
theorem gX2_fragile_X2_howManyFree : GoodIn wsX2_fragile (wsV RX2 86 RX2 yX2_howManyFree wsX2_howManyFree) := goodIn_app (goodIn_of _ (by decide +kernel)) ggX2_fragile_X2_howManyFree
set_option maxRecDepth 20000 in
theorem ggX2_fragile_X2_leastWeight : GoodIn wsX2_fragile wsX2_leastWeight := goodIn_r _ [21, 22, 23, 24, 25, 7, 8, 9, 4, 10, 6, 26, 27, 28, 29, 30, 31, 32, 33, 34, 35, 36, 11, 12, 13, 14, 15, 16, 17, 59, 60, 61, 62, 63, 64, 65, 66, 67, 68, 69, 70, 71, 72] (by decide +kernel) (by decide +kernel)
set_option maxRecDepth 20000 in
theorem gX2_fragile_X2_leastWeight : GoodIn wsX2_fragile (wsV RX2 99 RX2 yX2_leastWeight wsX2_leastWeight) := goodIn_app (goodIn_of _ (by decide +kernel)) ggX2_fragile_X2_leastWeight
set_option maxRecDepth 20000 in
theorem ggX2_fragile_X2_howManySets : GoodIn wsX2_fragile wsX2_howManySets := goodIn_r _ [40, 7, 8, 9, 4, 10, 6, 41, 42, 43, 44, 33, 34, 35, 36, 45, 46, 47, 48, 49, 50, 51, 52, 53, 24, 54, 59, 60, 61, 62, 63, 64, 65, 66, 67, 68, 69, 70, 71, 72] (by decide +kernel) (by decide +kernel)
set_option maxRecDepth 20000 in
theorem gX2_fragile_X2_howManySets : GoodIn wsX2_fragile (wsV RX2 102 RX2 yX2_howManySets wsX2_howManySets) := goodIn_app (goodIn_of _ (by decide +kernel)) ggX2_fragile_X2_howManySets
set_option maxRecDepth 20000 in
theorem ggX2_fragile_X2_leastSetThatOpens : GoodIn wsX2_fragile wsX2_leastSetThatOpens := goodIn_r _ [58, 7, 8, 9, 4, 10, 6, 45, 46, 47, 48, 36, 49, 50, 51, 52, 53, 24, 54, 59, 60, 61, 62, 63, 64, 65, 66, 67, 68, 69, 70, 71, 72] (by decide +kernel) (by decide +kernel)
set_option maxRecDepth 20000 in
theorem gX2_fragile_X2_leastSetThatOpens : GoodIn wsX2_fragile (wsV RX2 163 RX2 yX2_leastSetThatOpens wsX2_leastSetThatOpens) := goodIn_app (goodIn_of _ (by decide +kernel)) ggX2_fragile_X2_leastSetThatOpens
theorem dX2_fragile_0 : decode cX2_fragile 0 = .ok (.iload_n 1, 1) := by decide +kernel
theorem dX2_fragile_1 : decode cX2_fragile 1 = .ok (.ifCond .lt 8, 3) := by decide +kernel
theorem dX2_fragile_4 : decode cX2_fragile 4 = .ok (.iload_n 1, 1) := by decide +kernel
theorem dX2_fragile_5 : decode cX2_fragile 5 = .ok (.iconst 2, 1) := by decide +kernel
theorem dX2_fragile_6 : decode cX2_fragile 6 = .ok (.if_icmp .le 6, 3) := by decide +kernel
theorem dX2_fragile_9 : decode cX2_fragile 9 = .ok (.bipush (-2), 2) := by decide +kernel
theorem dX2_fragile_11 : decode cX2_fragile 11 = .ok (.ireturn, 1) := by decide +kernel
theorem dX2_fragile_12 : decode cX2_fragile 12 = .ok (.aload_n 0, 1) := by decide +kernel
theorem dX2_fragile_13 : decode cX2_fragile 13 = .ok (.invokevirtual 86, 3) := by decide +kernel
theorem dX2_fragile_16 : decode cX2_fragile 16 = .ok (.ifCond .ne 6, 3) := by decide +kernel
theorem dX2_fragile_19 : decode cX2_fragile 19 = .ok (.bipush (-6), 2) := by decide +kernel
theorem dX2_fragile_21 : decode cX2_fragile 21 = .ok (.ireturn, 1) := by decide +kernel
theorem dX2_fragile_22 : decode cX2_fragile 22 = .ok (.aload_n 0, 1) := by decide +kernel
theorem dX2_fragile_23 : decode cX2_fragile 23 = .ok (.invokevirtual 99, 3) := by decide +kernel
theorem dX2_fragile_26 : decode cX2_fragile 26 = .ok (.istore_n 2, 1) := by decide +kernel
theorem dX2_fragile_27 : decode cX2_fragile 27 = .ok (.iload_n 1, 1) := by decide +kernel
theorem dX2_fragile_28 : decode cX2_fragile 28 = .ok (.lookupswitch 37 #[(0, 28), (1, 30)], 28) := by decide +kernel
theorem dX2_fragile_56 : decode cX2_fragile 56 = .ok (.iload_n 2, 1) := by decide +kernel
theorem dX2_fragile_57 : decode cX2_fragile 57 = .ok (.ireturn, 1) := by decide +kernel
theorem dX2_fragile_58 : decode cX2_fragile 58 = .ok (.aload_n 0, 1) := by decide +kernel
theorem dX2_fragile_59 : decode cX2_fragile 59 = .ok (.iload_n 2, 1) := by decide +kernel
theorem dX2_fragile_60 : decode cX2_fragile 60 = .ok (.iconst 0, 1) := by decide +kernel
theorem dX2_fragile_61 : decode cX2_fragile 61 = .ok (.invokevirtual 102, 3) := by decide +kernel
theorem dX2_fragile_64 : decode cX2_fragile 64 = .ok (.ireturn, 1) := by decide +kernel
theorem dX2_fragile_65 : decode cX2_fragile 65 = .ok (.aload_n 0, 1) := by decide +kernel
theorem dX2_fragile_66 : decode cX2_fragile 66 = .ok (.iload_n 2, 1) := by decide +kernel
theorem dX2_fragile_67 : decode cX2_fragile 67 = .ok (.invokevirtual 163, 3) := by decide +kernel
theorem dX2_fragile_70 : decode cX2_fragile 70 = .ok (.ireturn, 1) := by decide +kernel
set_option maxRecDepth 20000 in
theorem ggX2_image_X2_imageAt : GoodIn wsX2_image wsX2_imageAt := goodIn_r _ [7, 8, 9, 26, 27, 28, 29, 30, 31, 32] (by decide +kernel) (by decide +kernel)
set_option maxRecDepth 20000 in
theorem gX2_image_X2_imageAt : GoodIn wsX2_image (wsV RX2 166 RX2 yX2_imageAt wsX2_imageAt) := goodIn_app (goodIn_of _ (by decide +kernel)) ggX2_image_X2_imageAt
set_option maxRecDepth 20000 in
theorem ggX2_image_X0_copyFrom : GoodIn wsX2_image wsX0_copyFrom := goodIn_r _ [14, 15, 16, 17, 18, 19, 20, 21, 22, 23, 24, 25, 33, 34, 35, 36, 37, 38, 39] (by decide +kernel) (by decide +kernel)
set_option maxRecDepth 20000 in
theorem gX2_image_X0_copyFrom : GoodIn wsX2_image (wsV RX2 170 RX0 yX0_copyFrom wsX0_copyFrom) := goodIn_app (goodIn_of _ (by decide +kernel)) ggX2_image_X0_copyFrom
theorem dX2_image_0 : decode cX2_image 0 = .ok (.iload_n 1, 1) := by decide +kernel
theorem dX2_image_1 : decode cX2_image 1 = .ok (.ifCond .lt 8, 3) := by decide +kernel
theorem dX2_image_4 : decode cX2_image 4 = .ok (.iload_n 1, 1) := by decide +kernel
theorem dX2_image_5 : decode cX2_image 5 = .ok (.iconst 2, 1) := by decide +kernel
theorem dX2_image_6 : decode cX2_image 6 = .ok (.if_icmp .lt 6, 3) := by decide +kernel
theorem dX2_image_9 : decode cX2_image 9 = .ok (.bipush (-2), 2) := by decide +kernel
theorem dX2_image_11 : decode cX2_image 11 = .ok (.ireturn, 1) := by decide +kernel
theorem dX2_image_12 : decode cX2_image 12 = .ok (.aload_n 0, 1) := by decide +kernel
theorem dX2_image_13 : decode cX2_image 13 = .ok (.iload_n 1, 1) := by decide +kernel
theorem dX2_image_14 : decode cX2_image 14 = .ok (.invokevirtual 166, 3) := by decide +kernel
theorem dX2_image_17 : decode cX2_image 17 = .ok (.aload_n 0, 1) := by decide +kernel
theorem dX2_image_18 : decode cX2_image 18 = .ok (.getfield 10, 3) := by decide +kernel
theorem dX2_image_21 : decode cX2_image 21 = .ok (.invokevirtual 170, 3) := by decide +kernel
theorem dX2_image_24 : decode cX2_image 24 = .ok (.aload_n 0, 1) := by decide +kernel
theorem dX2_image_25 : decode cX2_image 25 = .ok (.dup, 1) := by decide +kernel
theorem dX2_image_26 : decode cX2_image 26 = .ok (.getfield 22, 3) := by decide +kernel
theorem dX2_image_29 : decode cX2_image 29 = .ok (.iconst 1, 1) := by decide +kernel
theorem dX2_image_30 : decode cX2_image 30 = .ok (.iload_n 1, 1) := by decide +kernel
theorem dX2_image_31 : decode cX2_image 31 = .ok (.ishl, 1) := by decide +kernel
theorem dX2_image_32 : decode cX2_image 32 = .ok (.ior, 1) := by decide +kernel
theorem dX2_image_33 : decode cX2_image 33 = .ok (.putfield 22, 3) := by decide +kernel
theorem dX2_image_36 : decode cX2_image 36 = .ok (.iconst 1, 1) := by decide +kernel
theorem dX2_image_37 : decode cX2_image 37 = .ok (.ireturn, 1) := by decide +kernel
set_option maxRecDepth 20000 in
theorem ggX2_restore_X2_has : GoodIn wsX2_restore wsX2_has := goodIn_r _ [6] (by decide +kernel) (by decide +kernel)
set_option maxRecDepth 20000 in
theorem gX2_restore_X2_has : GoodIn wsX2_restore (va_wsS RX2 111 yX2_has wsX2_has) := goodIn_app (goodIn_of _ (by decide +kernel)) ggX2_restore_X2_has
set_option maxRecDepth 20000 in
theorem ggX2_restore_X2_imageAt : GoodIn wsX2_restore wsX2_imageAt := goodIn_r _ [10, 11, 12, 29, 30, 31, 32, 33, 34, 35] (by decide +kernel) (by decide +kernel)
set_option maxRecDepth 20000 in
theorem gX2_restore_X2_imageAt : GoodIn wsX2_restore (wsV RX2 166 RX2 yX2_imageAt wsX2_imageAt) := goodIn_app (goodIn_of _ (by decide +kernel)) ggX2_restore_X2_imageAt
set_option maxRecDepth 20000 in
theorem ggX2_restore_X0_copyFrom : GoodIn wsX2_restore wsX0_copyFrom := goodIn_r _ [17, 18, 19, 20, 21, 22, 23, 24, 25, 26, 27, 28, 36, 37, 38, 39, 40, 41, 42] (by decide +kernel) (by decide +kernel)
set_option maxRecDepth 20000 in
theorem gX2_restore_X0_copyFrom : GoodIn wsX2_restore (wsV RX2 170 RX0 yX0_copyFrom wsX0_copyFrom) := goodIn_app (goodIn_of _ (by decide +kernel)) ggX2_restore_X0_copyFrom
theorem dX2_restore_0 : decode cX2_restore 0 = .ok (.iload_n 1, 1) := by decide +kernel
theorem dX2_restore_1 : decode cX2_restore 1 = .ok (.ifCond .lt 8, 3) := by decide +kernel
theorem dX2_restore_4 : decode cX2_restore 4 = .ok (.iload_n 1, 1) := by decide +kernel
theorem dX2_restore_5 : decode cX2_restore 5 = .ok (.iconst 2, 1) := by decide +kernel
theorem dX2_restore_6 : decode cX2_restore 6 = .ok (.if_icmp .lt 6, 3) := by decide +kernel
theorem dX2_restore_9 : decode cX2_restore 9 = .ok (.bipush (-2), 2) := by decide +kernel
theorem dX2_restore_11 : decode cX2_restore 11 = .ok (.ireturn, 1) := by decide +kernel
theorem dX2_restore_12 : decode cX2_restore 12 = .ok (.aload_n 0, 1) := by decide +kernel
theorem dX2_restore_13 : decode cX2_restore 13 = .ok (.getfield 22, 3) := by decide +kernel
theorem dX2_restore_16 : decode cX2_restore 16 = .ok (.iload_n 1, 1) := by decide +kernel
theorem dX2_restore_17 : decode cX2_restore 17 = .ok (.invokestatic 111, 3) := by decide +kernel
theorem dX2_restore_20 : decode cX2_restore 20 = .ok (.ifCond .ne 6, 3) := by decide +kernel
theorem dX2_restore_23 : decode cX2_restore 23 = .ok (.bipush (-3), 2) := by decide +kernel
theorem dX2_restore_25 : decode cX2_restore 25 = .ok (.ireturn, 1) := by decide +kernel
theorem dX2_restore_26 : decode cX2_restore 26 = .ok (.aload_n 0, 1) := by decide +kernel
theorem dX2_restore_27 : decode cX2_restore 27 = .ok (.getfield 10, 3) := by decide +kernel
theorem dX2_restore_30 : decode cX2_restore 30 = .ok (.aload_n 0, 1) := by decide +kernel
theorem dX2_restore_31 : decode cX2_restore 31 = .ok (.iload_n 1, 1) := by decide +kernel
theorem dX2_restore_32 : decode cX2_restore 32 = .ok (.invokevirtual 166, 3) := by decide +kernel
theorem dX2_restore_35 : decode cX2_restore 35 = .ok (.invokevirtual 170, 3) := by decide +kernel
theorem dX2_restore_38 : decode cX2_restore 38 = .ok (.iconst 1, 1) := by decide +kernel
theorem dX2_restore_39 : decode cX2_restore 39 = .ok (.ireturn, 1) := by decide +kernel
set_option maxRecDepth 20000 in
theorem ggX2_count_X2_howManyFree : GoodIn wsX2_count wsX2_howManyFree := goodIn_r _ [7, 1, 8, 9, 10, 6, 11, 12, 13, 14, 15, 16, 17, 18, 23, 24, 25, 26, 27, 28, 29, 30, 31, 32, 33, 34, 35, 36] (by decide +kernel) (by decide +kernel)
set_option maxRecDepth 20000 in
theorem gX2_count_X2_howManyFree : GoodIn wsX2_count (wsV RX2 86 RX2 yX2_howManyFree wsX2_howManyFree) := goodIn_app (goodIn_of _ (by decide +kernel)) ggX2_count_X2_howManyFree
set_option maxRecDepth 20000 in
theorem ggX2_count_X2_checkCounted : GoodIn wsX2_count wsX2_checkCounted := goodIn_r _ [22, 1, 23, 24, 25, 26, 27, 28, 29, 30, 31, 32, 33, 34, 35, 36] (by decide +kernel) (by decide +kernel)
set_option maxRecDepth 20000 in
theorem gX2_count_X2_checkCounted : GoodIn wsX2_count (wsV RX2 174 RX2 yX2_checkCounted wsX2_checkCounted) := goodIn_app (goodIn_of _ (by decide +kernel)) ggX2_count_X2_checkCounted
theorem dX2_count_0 : decode cX2_count 0 = .ok (.iload_n 1, 1) := by decide +kernel
theorem dX2_count_1 : decode cX2_count 1 = .ok (.tableswitch 93 0 6 #[43, 51, 59, 67, 75, 80, 88], 43) := by decide +kernel
theorem dX2_count_44 : decode cX2_count 44 = .ok (.aload_n 0, 1) := by decide +kernel
theorem dX2_count_45 : decode cX2_count 45 = .ok (.getfield 10, 3) := by decide +kernel
theorem dX2_count_48 : decode cX2_count 48 = .ok (.getfield 40, 3) := by decide +kernel
theorem dX2_count_51 : decode cX2_count 51 = .ok (.ireturn, 1) := by decide +kernel
theorem dX2_count_52 : decode cX2_count 52 = .ok (.aload_n 0, 1) := by decide +kernel
theorem dX2_count_53 : decode cX2_count 53 = .ok (.getfield 10, 3) := by decide +kernel
theorem dX2_count_56 : decode cX2_count 56 = .ok (.getfield 50, 3) := by decide +kernel
theorem dX2_count_59 : decode cX2_count 59 = .ok (.ireturn, 1) := by decide +kernel
theorem dX2_count_60 : decode cX2_count 60 = .ok (.aload_n 0, 1) := by decide +kernel
theorem dX2_count_61 : decode cX2_count 61 = .ok (.getfield 10, 3) := by decide +kernel
theorem dX2_count_64 : decode cX2_count 64 = .ok (.getfield 47, 3) := by decide +kernel
theorem dX2_count_67 : decode cX2_count 67 = .ok (.ireturn, 1) := by decide +kernel
theorem dX2_count_68 : decode cX2_count 68 = .ok (.aload_n 0, 1) := by decide +kernel
theorem dX2_count_69 : decode cX2_count 69 = .ok (.getfield 10, 3) := by decide +kernel
theorem dX2_count_72 : decode cX2_count 72 = .ok (.getfield 83, 3) := by decide +kernel
theorem dX2_count_75 : decode cX2_count 75 = .ok (.ireturn, 1) := by decide +kernel
theorem dX2_count_76 : decode cX2_count 76 = .ok (.aload_n 0, 1) := by decide +kernel
theorem dX2_count_77 : decode cX2_count 77 = .ok (.invokevirtual 86, 3) := by decide +kernel
theorem dX2_count_80 : decode cX2_count 80 = .ok (.ireturn, 1) := by decide +kernel
theorem dX2_count_81 : decode cX2_count 81 = .ok (.aload_n 0, 1) := by decide +kernel
theorem dX2_count_82 : decode cX2_count 82 = .ok (.getfield 10, 3) := by decide +kernel
theorem dX2_count_85 : decode cX2_count 85 = .ok (.getfield 131, 3) := by decide +kernel
theorem dX2_count_88 : decode cX2_count 88 = .ok (.ireturn, 1) := by decide +kernel
theorem dX2_count_89 : decode cX2_count 89 = .ok (.aload_n 0, 1) := by decide +kernel
theorem dX2_count_90 : decode cX2_count 90 = .ok (.getfield 22, 3) := by decide +kernel
theorem dX2_count_93 : decode cX2_count 93 = .ok (.ireturn, 1) := by decide +kernel
theorem dX2_count_94 : decode cX2_count 94 = .ok (.aload_n 0, 1) := by decide +kernel
theorem dX2_count_95 : decode cX2_count 95 = .ok (.iload_n 1, 1) := by decide +kernel
theorem dX2_count_96 : decode cX2_count 96 = .ok (.invokevirtual 174, 3) := by decide +kernel
theorem dX2_count_99 : decode cX2_count 99 = .ok (.ireturn, 1) := by decide +kernel
theorem dX2_places_0 : decode cX2_places 0 = .ok (.iconst 1, 1) := by decide +kernel
theorem dX2_places_1 : decode cX2_places 1 = .ok (.aload_n 0, 1) := by decide +kernel
theorem dX2_places_2 : decode cX2_places 2 = .ok (.getfield 10, 3) := by decide +kernel
theorem dX2_places_5 : decode cX2_places 5 = .ok (.getfield 40, 3) := by decide +kernel
theorem dX2_places_8 : decode cX2_places 8 = .ok (.ishl, 1) := by decide +kernel
theorem dX2_places_9 : decode cX2_places 9 = .ok (.ireturn, 1) := by decide +kernel
set_option maxRecDepth 20000 in
theorem ggX2_isPlace_X2_places : GoodIn wsX2_isPlace wsX2_places := goodIn_r _ [5, 6, 7, 8, 9, 10, 11, 12, 13, 14, 15, 16, 17, 18, 19, 20] (by decide +kernel) (by decide +kernel)
set_option maxRecDepth 20000 in
theorem gX2_isPlace_X2_places : GoodIn wsX2_isPlace (wsV RX2 90 RX2 yX2_places wsX2_places) := goodIn_app (goodIn_of _ (by decide +kernel)) ggX2_isPlace_X2_places
theorem dX2_isPlace_0 : decode cX2_isPlace 0 = .ok (.iload_n 1, 1) := by decide +kernel
theorem dX2_isPlace_1 : decode cX2_isPlace 1 = .ok (.ifCond .lt 15, 3) := by decide +kernel
theorem dX2_isPlace_4 : decode cX2_isPlace 4 = .ok (.iload_n 1, 1) := by decide +kernel
theorem dX2_isPlace_5 : decode cX2_isPlace 5 = .ok (.aload_n 0, 1) := by decide +kernel
theorem dX2_isPlace_6 : decode cX2_isPlace 6 = .ok (.invokevirtual 90, 3) := by decide +kernel
theorem dX2_isPlace_9 : decode cX2_isPlace 9 = .ok (.if_icmp .ge 7, 3) := by decide +kernel
theorem dX2_isPlace_12 : decode cX2_isPlace 12 = .ok (.iconst 1, 1) := by decide +kernel
theorem dX2_isPlace_13 : decode cX2_isPlace 13 = .ok (.goto 4, 3) := by decide +kernel
theorem dX2_isPlace_16 : decode cX2_isPlace 16 = .ok (.iconst 0, 1) := by decide +kernel
theorem dX2_isPlace_17 : decode cX2_isPlace 17 = .ok (.ireturn, 1) := by decide +kernel
set_option maxRecDepth 20000 in
theorem ggX2_isSet_X2_places : GoodIn wsX2_isSet wsX2_places := goodIn_r _ [5, 6, 7, 8, 9, 10, 11, 12, 13, 14, 15, 16, 17, 18, 19, 20] (by decide +kernel) (by decide +kernel)
set_option maxRecDepth 20000 in
theorem gX2_isSet_X2_places : GoodIn wsX2_isSet (wsV RX2 90 RX2 yX2_places wsX2_places) := goodIn_app (goodIn_of _ (by decide +kernel)) ggX2_isSet_X2_places
theorem dX2_isSet_0 : decode cX2_isSet 0 = .ok (.iload_n 1, 1) := by decide +kernel
theorem dX2_isSet_1 : decode cX2_isSet 1 = .ok (.ifCond .lt 17, 3) := by decide +kernel
theorem dX2_isSet_4 : decode cX2_isSet 4 = .ok (.iload_n 1, 1) := by decide +kernel
theorem dX2_isSet_5 : decode cX2_isSet 5 = .ok (.iconst 1, 1) := by decide +kernel
theorem dX2_isSet_6 : decode cX2_isSet 6 = .ok (.aload_n 0, 1) := by decide +kernel
theorem dX2_isSet_7 : decode cX2_isSet 7 = .ok (.invokevirtual 90, 3) := by decide +kernel
theorem dX2_isSet_10 : decode cX2_isSet 10 = .ok (.ishl, 1) := by decide +kernel
theorem dX2_isSet_11 : decode cX2_isSet 11 = .ok (.if_icmp .ge 7, 3) := by decide +kernel
theorem dX2_isSet_14 : decode cX2_isSet 14 = .ok (.iconst 1, 1) := by decide +kernel
theorem dX2_isSet_15 : decode cX2_isSet 15 = .ok (.goto 4, 3) := by decide +kernel
theorem dX2_isSet_18 : decode cX2_isSet 18 = .ok (.iconst 0, 1) := by decide +kernel
theorem dX2_isSet_19 : decode cX2_isSet 19 = .ok (.ireturn, 1) := by decide +kernel
theorem dX2_has_0 : decode cX2_has 0 = .ok (.iload_n 0, 1) := by decide +kernel
theorem dX2_has_1 : decode cX2_has 1 = .ok (.iload_n 1, 1) := by decide +kernel
theorem dX2_has_2 : decode cX2_has 2 = .ok (.ishr, 1) := by decide +kernel
theorem dX2_has_3 : decode cX2_has 3 = .ok (.iconst 1, 1) := by decide +kernel
theorem dX2_has_4 : decode cX2_has 4 = .ok (.iand, 1) := by decide +kernel
theorem dX2_has_5 : decode cX2_has 5 = .ok (.iconst 1, 1) := by decide +kernel
theorem dX2_has_6 : decode cX2_has 6 = .ok (.if_icmp .ne 7, 3) := by decide +kernel
theorem dX2_has_9 : decode cX2_has 9 = .ok (.iconst 1, 1) := by decide +kernel
theorem dX2_has_10 : decode cX2_has 10 = .ok (.goto 4, 3) := by decide +kernel
theorem dX2_has_13 : decode cX2_has 13 = .ok (.iconst 0, 1) := by decide +kernel
theorem dX2_has_14 : decode cX2_has 14 = .ok (.ireturn, 1) := by decide +kernel
set_option maxRecDepth 20000 in
theorem ggX2_isFree_X2_has : GoodIn wsX2_isFree wsX2_has := goodIn_r _ [5] (by decide +kernel) (by decide +kernel)
set_option maxRecDepth 20000 in
theorem gX2_isFree_X2_has : GoodIn wsX2_isFree (va_wsS RX2 111 yX2_has wsX2_has) := goodIn_app (goodIn_of _ (by decide +kernel)) ggX2_isFree_X2_has
theorem dX2_isFree_0 : decode cX2_isFree 0 = .ok (.aload_n 0, 1) := by decide +kernel
theorem dX2_isFree_1 : decode cX2_isFree 1 = .ok (.getfield 10, 3) := by decide +kernel
theorem dX2_isFree_4 : decode cX2_isFree 4 = .ok (.getfield 83, 3) := by decide +kernel
theorem dX2_isFree_7 : decode cX2_isFree 7 = .ok (.iload_n 1, 1) := by decide +kernel
theorem dX2_isFree_8 : decode cX2_isFree 8 = .ok (.invokestatic 111, 3) := by decide +kernel
theorem dX2_isFree_11 : decode cX2_isFree 11 = .ok (.ifCond .ne 7, 3) := by decide +kernel
theorem dX2_isFree_14 : decode cX2_isFree 14 = .ok (.iconst 1, 1) := by decide +kernel
theorem dX2_isFree_15 : decode cX2_isFree 15 = .ok (.goto 4, 3) := by decide +kernel
theorem dX2_isFree_18 : decode cX2_isFree 18 = .ok (.iconst 0, 1) := by decide +kernel
theorem dX2_isFree_19 : decode cX2_isFree 19 = .ok (.ireturn, 1) := by decide +kernel
set_option maxRecDepth 20000 in
theorem ggX2_howManyFree_X2_places : GoodIn wsX2_howManyFree wsX2_places := goodIn_r _ [6, 1, 14, 15, 16, 17, 18, 19, 20, 21, 22, 23, 24, 25, 26, 27] (by decide +kernel) (by decide +kernel)
set_option maxRecDepth 20000 in
theorem gX2_howManyFree_X2_places : GoodIn wsX2_howManyFree (wsV RX2 90 RX2 yX2_places wsX2_places) := goodIn_app (goodIn_of _ (by decide +kernel)) ggX2_howManyFree_X2_places
set_option maxRecDepth 20000 in
theorem ggX2_howManyFree_J6_bitCount_0f7a4 : GoodIn wsX2_howManyFree wsJ6_bitCount_0f7a4 := goodIn_r _ [10, 11, 12, 13] (by decide +kernel) (by decide +kernel)
set_option maxRecDepth 20000 in
theorem gX2_howManyFree_J6_bitCount_0f7a4 : GoodIn wsX2_howManyFree (va_wsS RX2 158 yJ6_bitCount_0f7a4 wsJ6_bitCount_0f7a4) := goodIn_app (goodIn_of _ (by decide +kernel)) ggX2_howManyFree_J6_bitCount_0f7a4
theorem dX2_howManyFree_0 : decode cX2_howManyFree 0 = .ok (.aload_n 0, 1) := by decide +kernel
end
section
theorem dX2_howManyFree_1 : decode cX2_howManyFree 1 = .ok (.invokevirtual 90, 3) := by decide +kernel
theorem dX2_howManyFree_4 : decode cX2_howManyFree 4 = .ok (.aload_n 0, 1) := by decide +kernel
theorem dX2_howManyFree_5 : decode cX2_howManyFree 5 = .ok (.getfield 10, 3) := by decide +kernel
theorem dX2_howManyFree_8 : decode cX2_howManyFree 8 = .ok (.getfield 83, 3) := by decide +kernel
theorem dX2_howManyFree_11 : decode cX2_howManyFree 11 = .ok (.invokestatic 158, 3) := by decide +kernel
theorem dX2_howManyFree_14 : decode cX2_howManyFree 14 = .ok (.isub, 1) := by decide +kernel
theorem dX2_howManyFree_15 : decode cX2_howManyFree 15 = .ok (.ireturn, 1) := by decide +kernel
theorem dX2_nextOfSize_0 : decode cX2_nextOfSize 0 = .ok (.iload_n 0, 1) := by decide +kernel
theorem dX2_nextOfSize_1 : decode cX2_nextOfSize 1 = .ok (.iload_n 0, 1) := by decide +kernel
theorem dX2_nextOfSize_2 : decode cX2_nextOfSize 2 = .ok (.ineg, 1) := by decide +kernel
theorem dX2_nextOfSize_3 : decode cX2_nextOfSize 3 = .ok (.iand, 1) := by decide +kernel
theorem dX2_nextOfSize_4 : decode cX2_nextOfSize 4 = .ok (.iconst 1, 1) := by decide +kernel
theorem dX2_nextOfSize_5 : decode cX2_nextOfSize 5 = .ok (.invokestatic 177, 3) := by decide +kernel
theorem dX2_nextOfSize_8 : decode cX2_nextOfSize 8 = .ok (.istore_n 1, 1) := by decide +kernel
theorem dX2_nextOfSize_9 : decode cX2_nextOfSize 9 = .ok (.iload_n 0, 1) := by decide +kernel
theorem dX2_nextOfSize_10 : decode cX2_nextOfSize 10 = .ok (.iload_n 1, 1) := by decide +kernel
theorem dX2_nextOfSize_11 : decode cX2_nextOfSize 11 = .ok (.iadd, 1) := by decide +kernel
theorem dX2_nextOfSize_12 : decode cX2_nextOfSize 12 = .ok (.istore_n 2, 1) := by decide +kernel
theorem dX2_nextOfSize_13 : decode cX2_nextOfSize 13 = .ok (.iload_n 0, 1) := by decide +kernel
theorem dX2_nextOfSize_14 : decode cX2_nextOfSize 14 = .ok (.iload_n 2, 1) := by decide +kernel
theorem dX2_nextOfSize_15 : decode cX2_nextOfSize 15 = .ok (.ixor, 1) := by decide +kernel
theorem dX2_nextOfSize_16 : decode cX2_nextOfSize 16 = .ok (.iconst 2, 1) := by decide +kernel
theorem dX2_nextOfSize_17 : decode cX2_nextOfSize 17 = .ok (.ishr, 1) := by decide +kernel
theorem dX2_nextOfSize_18 : decode cX2_nextOfSize 18 = .ok (.iload_n 1, 1) := by decide +kernel
theorem dX2_nextOfSize_19 : decode cX2_nextOfSize 19 = .ok (.idiv, 1) := by decide +kernel
theorem dX2_nextOfSize_20 : decode cX2_nextOfSize 20 = .ok (.istore_n 3, 1) := by decide +kernel
theorem dX2_nextOfSize_21 : decode cX2_nextOfSize 21 = .ok (.iload_n 2, 1) := by decide +kernel
theorem dX2_nextOfSize_22 : decode cX2_nextOfSize 22 = .ok (.iload_n 3, 1) := by decide +kernel
theorem dX2_nextOfSize_23 : decode cX2_nextOfSize 23 = .ok (.ior, 1) := by decide +kernel
theorem dX2_nextOfSize_24 : decode cX2_nextOfSize 24 = .ok (.ireturn, 1) := by decide +kernel
set_option maxRecDepth 20000 in
theorem ggX2_upperLoss_X2_places : GoodIn wsX2_upperLoss wsX2_places := goodIn_r _ [7, 1, 8, 9, 10, 11, 12, 13, 14, 15, 16, 17, 18, 19, 20, 21] (by decide +kernel) (by decide +kernel)
set_option maxRecDepth 20000 in
theorem gX2_upperLoss_X2_places : GoodIn wsX2_upperLoss (wsV RX2 90 RX2 yX2_places wsX2_places) := goodIn_app (goodIn_of _ (by decide +kernel)) ggX2_upperLoss_X2_places
theorem dX2_upperLoss_0 : decode cX2_upperLoss 0 = .ok (.aload_n 0, 1) := by decide +kernel
theorem dX2_upperLoss_1 : decode cX2_upperLoss 1 = .ok (.getfield 10, 3) := by decide +kernel
theorem dX2_upperLoss_4 : decode cX2_upperLoss 4 = .ok (.getfield 50, 3) := by decide +kernel
theorem dX2_upperLoss_7 : decode cX2_upperLoss 7 = .ok (.i2l, 1) := by decide +kernel
theorem dX2_upperLoss_8 : decode cX2_upperLoss 8 = .ok (.lstore_n 2, 1) := by decide +kernel
theorem dX2_upperLoss_9 : decode cX2_upperLoss 9 = .ok (.aload_n 0, 1) := by decide +kernel
theorem dX2_upperLoss_10 : decode cX2_upperLoss 10 = .ok (.getfield 10, 3) := by decide +kernel
theorem dX2_upperLoss_13 : decode cX2_upperLoss 13 = .ok (.getfield 47, 3) := by decide +kernel
theorem dX2_upperLoss_16 : decode cX2_upperLoss 16 = .ok (.i2l, 1) := by decide +kernel
theorem dX2_upperLoss_17 : decode cX2_upperLoss 17 = .ok (.lstore 4, 2) := by decide +kernel
theorem dX2_upperLoss_19 : decode cX2_upperLoss 19 = .ok (.aload_n 0, 1) := by decide +kernel
theorem dX2_upperLoss_20 : decode cX2_upperLoss 20 = .ok (.invokevirtual 90, 3) := by decide +kernel
theorem dX2_upperLoss_23 : decode cX2_upperLoss 23 = .ok (.iconst 1, 1) := by decide +kernel
theorem dX2_upperLoss_24 : decode cX2_upperLoss 24 = .ok (.ishr, 1) := by decide +kernel
theorem dX2_upperLoss_25 : decode cX2_upperLoss 25 = .ok (.istore 6, 2) := by decide +kernel
theorem dX2_upperLoss_27 : decode cX2_upperLoss 27 = .ok (.iload 6, 2) := by decide +kernel
theorem dX2_upperLoss_29 : decode cX2_upperLoss 29 = .ok (.ifCond .le 57, 3) := by decide +kernel
theorem dX2_upperLoss_32 : decode cX2_upperLoss 32 = .ok (.iload_n 1, 1) := by decide +kernel
theorem dX2_upperLoss_33 : decode cX2_upperLoss 33 = .ok (.iload 6, 2) := by decide +kernel
theorem dX2_upperLoss_35 : decode cX2_upperLoss 35 = .ok (.iand, 1) := by decide +kernel
theorem dX2_upperLoss_36 : decode cX2_upperLoss 36 = .ok (.ifCond .eq 7, 3) := by decide +kernel
theorem dX2_upperLoss_39 : decode cX2_upperLoss 39 = .ok (.iconst 1, 1) := by decide +kernel
theorem dX2_upperLoss_40 : decode cX2_upperLoss 40 = .ok (.goto 4, 3) := by decide +kernel
theorem dX2_upperLoss_43 : decode cX2_upperLoss 43 = .ok (.iconst 0, 1) := by decide +kernel
theorem dX2_upperLoss_44 : decode cX2_upperLoss 44 = .ok (.istore 7, 2) := by decide +kernel
theorem dX2_upperLoss_46 : decode cX2_upperLoss 46 = .ok (.iload 7, 2) := by decide +kernel
theorem dX2_upperLoss_48 : decode cX2_upperLoss 48 = .ok (.ifCond .eq 9, 3) := by decide +kernel
theorem dX2_upperLoss_51 : decode cX2_upperLoss 51 = .ok (.lload_n 2, 1) := by decide +kernel
theorem dX2_upperLoss_52 : decode cX2_upperLoss 52 = .ok (.lload_n 2, 1) := by decide +kernel
theorem dX2_upperLoss_53 : decode cX2_upperLoss 53 = .ok (.lmul, 1) := by decide +kernel
theorem dX2_upperLoss_54 : decode cX2_upperLoss 54 = .ok (.goto 15, 3) := by decide +kernel
theorem dX2_upperLoss_57 : decode cX2_upperLoss 57 = .ok (.ldc2_w 182, 3) := by decide +kernel
theorem dX2_upperLoss_60 : decode cX2_upperLoss 60 = .ok (.lload_n 2, 1) := by decide +kernel
theorem dX2_upperLoss_61 : decode cX2_upperLoss 61 = .ok (.lmul, 1) := by decide +kernel
theorem dX2_upperLoss_62 : decode cX2_upperLoss 62 = .ok (.lload 4, 2) := by decide +kernel
theorem dX2_upperLoss_64 : decode cX2_upperLoss 64 = .ok (.lmul, 1) := by decide +kernel
theorem dX2_upperLoss_65 : decode cX2_upperLoss 65 = .ok (.lload_n 2, 1) := by decide +kernel
theorem dX2_upperLoss_66 : decode cX2_upperLoss 66 = .ok (.lload_n 2, 1) := by decide +kernel
theorem dX2_upperLoss_67 : decode cX2_upperLoss 67 = .ok (.lmul, 1) := by decide +kernel
theorem dX2_upperLoss_68 : decode cX2_upperLoss 68 = .ok (.lsub, 1) := by decide +kernel
theorem dX2_upperLoss_69 : decode cX2_upperLoss 69 = .ok (.lstore_n 2, 1) := by decide +kernel
theorem dX2_upperLoss_70 : decode cX2_upperLoss 70 = .ok (.lload 4, 2) := by decide +kernel
theorem dX2_upperLoss_72 : decode cX2_upperLoss 72 = .ok (.lload 4, 2) := by decide +kernel
theorem dX2_upperLoss_74 : decode cX2_upperLoss 74 = .ok (.lmul, 1) := by decide +kernel
theorem dX2_upperLoss_75 : decode cX2_upperLoss 75 = .ok (.lstore 4, 2) := by decide +kernel
theorem dX2_upperLoss_77 : decode cX2_upperLoss 77 = .ok (.iload 6, 2) := by decide +kernel
theorem dX2_upperLoss_79 : decode cX2_upperLoss 79 = .ok (.iconst 1, 1) := by decide +kernel
theorem dX2_upperLoss_80 : decode cX2_upperLoss 80 = .ok (.ishr, 1) := by decide +kernel
theorem dX2_upperLoss_81 : decode cX2_upperLoss 81 = .ok (.istore 6, 2) := by decide +kernel
theorem dX2_upperLoss_83 : decode cX2_upperLoss 83 = .ok (.goto (-56), 3) := by decide +kernel
theorem dX2_upperLoss_86 : decode cX2_upperLoss 86 = .ok (.lload_n 2, 1) := by decide +kernel
theorem dX2_upperLoss_87 : decode cX2_upperLoss 87 = .ok (.lreturn, 1) := by decide +kernel
theorem dX2_lowerLoss_0 : decode cX2_lowerLoss 0 = .ok (.aload_n 0, 1) := by decide +kernel
theorem dX2_lowerLoss_1 : decode cX2_lowerLoss 1 = .ok (.getfield 10, 3) := by decide +kernel
theorem dX2_lowerLoss_4 : decode cX2_lowerLoss 4 = .ok (.getfield 47, 3) := by decide +kernel
theorem dX2_lowerLoss_7 : decode cX2_lowerLoss 7 = .ok (.i2l, 1) := by decide +kernel
theorem dX2_lowerLoss_8 : decode cX2_lowerLoss 8 = .ok (.lstore_n 1, 1) := by decide +kernel
theorem dX2_lowerLoss_9 : decode cX2_lowerLoss 9 = .ok (.iconst 0, 1) := by decide +kernel
theorem dX2_lowerLoss_10 : decode cX2_lowerLoss 10 = .ok (.istore_n 3, 1) := by decide +kernel
theorem dX2_lowerLoss_11 : decode cX2_lowerLoss 11 = .ok (.iload_n 3, 1) := by decide +kernel
theorem dX2_lowerLoss_12 : decode cX2_lowerLoss 12 = .ok (.aload_n 0, 1) := by decide +kernel
theorem dX2_lowerLoss_13 : decode cX2_lowerLoss 13 = .ok (.getfield 10, 3) := by decide +kernel
theorem dX2_lowerLoss_16 : decode cX2_lowerLoss 16 = .ok (.getfield 40, 3) := by decide +kernel
theorem dX2_lowerLoss_19 : decode cX2_lowerLoss 19 = .ok (.if_icmp .ge 13, 3) := by decide +kernel
theorem dX2_lowerLoss_22 : decode cX2_lowerLoss 22 = .ok (.lload_n 1, 1) := by decide +kernel
theorem dX2_lowerLoss_23 : decode cX2_lowerLoss 23 = .ok (.lload_n 1, 1) := by decide +kernel
theorem dX2_lowerLoss_24 : decode cX2_lowerLoss 24 = .ok (.lmul, 1) := by decide +kernel
theorem dX2_lowerLoss_25 : decode cX2_lowerLoss 25 = .ok (.lstore_n 1, 1) := by decide +kernel
theorem dX2_lowerLoss_26 : decode cX2_lowerLoss 26 = .ok (.iinc 3 1, 3) := by decide +kernel
theorem dX2_lowerLoss_29 : decode cX2_lowerLoss 29 = .ok (.goto (-18), 3) := by decide +kernel
theorem dX2_lowerLoss_32 : decode cX2_lowerLoss 32 = .ok (.lload_n 1, 1) := by decide +kernel
theorem dX2_lowerLoss_33 : decode cX2_lowerLoss 33 = .ok (.lreturn, 1) := by decide +kernel
theorem dX2_commonDivisor_0 : decode cX2_commonDivisor 0 = .ok (.lload_n 2, 1) := by decide +kernel
theorem dX2_commonDivisor_1 : decode cX2_commonDivisor 1 = .ok (.lstore 4, 2) := by decide +kernel
theorem dX2_commonDivisor_3 : decode cX2_commonDivisor 3 = .ok (.lload_n 0, 1) := by decide +kernel
theorem dX2_commonDivisor_4 : decode cX2_commonDivisor 4 = .ok (.lstore 6, 2) := by decide +kernel
theorem dX2_commonDivisor_6 : decode cX2_commonDivisor 6 = .ok (.iconst 0, 1) := by decide +kernel
theorem dX2_commonDivisor_7 : decode cX2_commonDivisor 7 = .ok (.istore 8, 2) := by decide +kernel
theorem dX2_commonDivisor_9 : decode cX2_commonDivisor 9 = .ok (.iload 8, 2) := by decide +kernel
theorem dX2_commonDivisor_11 : decode cX2_commonDivisor 11 = .ok (.bipush 100, 2) := by decide +kernel
theorem dX2_commonDivisor_13 : decode cX2_commonDivisor 13 = .ok (.if_icmp .ge 31, 3) := by decide +kernel
theorem dX2_commonDivisor_16 : decode cX2_commonDivisor 16 = .ok (.lload 6, 2) := by decide +kernel
theorem dX2_commonDivisor_18 : decode cX2_commonDivisor 18 = .ok (.lconst 0, 1) := by decide +kernel
theorem dX2_commonDivisor_19 : decode cX2_commonDivisor 19 = .ok (.lcmp, 1) := by decide +kernel
theorem dX2_commonDivisor_20 : decode cX2_commonDivisor 20 = .ok (.ifCond .eq 24, 3) := by decide +kernel
theorem dX2_commonDivisor_23 : decode cX2_commonDivisor 23 = .ok (.lload 4, 2) := by decide +kernel
theorem dX2_commonDivisor_25 : decode cX2_commonDivisor 25 = .ok (.lload 6, 2) := by decide +kernel
theorem dX2_commonDivisor_27 : decode cX2_commonDivisor 27 = .ok (.lrem, 1) := by decide +kernel
theorem dX2_commonDivisor_28 : decode cX2_commonDivisor 28 = .ok (.lstore 9, 2) := by decide +kernel
theorem dX2_commonDivisor_30 : decode cX2_commonDivisor 30 = .ok (.lload 6, 2) := by decide +kernel
theorem dX2_commonDivisor_32 : decode cX2_commonDivisor 32 = .ok (.lstore 4, 2) := by decide +kernel
theorem dX2_commonDivisor_34 : decode cX2_commonDivisor 34 = .ok (.lload 9, 2) := by decide +kernel
theorem dX2_commonDivisor_36 : decode cX2_commonDivisor 36 = .ok (.lstore 6, 2) := by decide +kernel
theorem dX2_commonDivisor_38 : decode cX2_commonDivisor 38 = .ok (.iinc 8 1, 3) := by decide +kernel
theorem dX2_commonDivisor_41 : decode cX2_commonDivisor 41 = .ok (.goto (-32), 3) := by decide +kernel
theorem dX2_commonDivisor_44 : decode cX2_commonDivisor 44 = .ok (.lload 4, 2) := by decide +kernel
theorem dX2_commonDivisor_46 : decode cX2_commonDivisor 46 = .ok (.lreturn, 1) := by decide +kernel
set_option maxRecDepth 20000 in
theorem ggX2_howManyBetter_X2_upperLoss : GoodIn wsX2_howManyBetter wsX2_upperLoss := goodIn_r _ [5, 6, 7, 8, 9, 10, 4, 11, 12, 13, 14, 15, 16, 17, 18, 19, 20, 21, 22, 23, 24, 25] (by decide +kernel) (by decide +kernel)
set_option maxRecDepth 20000 in
theorem gX2_howManyBetter_X2_upperLoss : GoodIn wsX2_howManyBetter (wsV RX2 61 RX2 yX2_upperLoss wsX2_upperLoss) := goodIn_app (goodIn_of _ (by decide +kernel)) ggX2_howManyBetter_X2_upperLoss
set_option maxRecDepth 20000 in
theorem ggX2_howManyBetter_X2_places : GoodIn wsX2_howManyBetter wsX2_places := goodIn_r _ [11, 6, 12, 13, 14, 15, 16, 17, 18, 19, 20, 21, 22, 23, 24, 25] (by decide +kernel) (by decide +kernel)
set_option maxRecDepth 20000 in
theorem gX2_howManyBetter_X2_places : GoodIn wsX2_howManyBetter (wsV RX2 90 RX2 yX2_places wsX2_places) := goodIn_app (goodIn_of _ (by decide +kernel)) ggX2_howManyBetter_X2_places
theorem dX2_howManyBetter_0 : decode cX2_howManyBetter 0 = .ok (.aload_n 0, 1) := by decide +kernel
theorem dX2_howManyBetter_1 : decode cX2_howManyBetter 1 = .ok (.iload_n 1, 1) := by decide +kernel
theorem dX2_howManyBetter_2 : decode cX2_howManyBetter 2 = .ok (.invokevirtual 61, 3) := by decide +kernel
theorem dX2_howManyBetter_5 : decode cX2_howManyBetter 5 = .ok (.lstore_n 2, 1) := by decide +kernel
theorem dX2_howManyBetter_6 : decode cX2_howManyBetter 6 = .ok (.iconst 0, 1) := by decide +kernel
theorem dX2_howManyBetter_7 : decode cX2_howManyBetter 7 = .ok (.istore 4, 2) := by decide +kernel
theorem dX2_howManyBetter_9 : decode cX2_howManyBetter 9 = .ok (.iconst 0, 1) := by decide +kernel
theorem dX2_howManyBetter_10 : decode cX2_howManyBetter 10 = .ok (.istore 5, 2) := by decide +kernel
theorem dX2_howManyBetter_12 : decode cX2_howManyBetter 12 = .ok (.iload 5, 2) := by decide +kernel
theorem dX2_howManyBetter_14 : decode cX2_howManyBetter 14 = .ok (.aload_n 0, 1) := by decide +kernel
theorem dX2_howManyBetter_15 : decode cX2_howManyBetter 15 = .ok (.invokevirtual 90, 3) := by decide +kernel
theorem dX2_howManyBetter_18 : decode cX2_howManyBetter 18 = .ok (.if_icmp .ge 40, 3) := by decide +kernel
theorem dX2_howManyBetter_21 : decode cX2_howManyBetter 21 = .ok (.aload_n 0, 1) := by decide +kernel
theorem dX2_howManyBetter_22 : decode cX2_howManyBetter 22 = .ok (.iload 5, 2) := by decide +kernel
theorem dX2_howManyBetter_24 : decode cX2_howManyBetter 24 = .ok (.invokevirtual 61, 3) := by decide +kernel
theorem dX2_howManyBetter_27 : decode cX2_howManyBetter 27 = .ok (.lstore 6, 2) := by decide +kernel
theorem dX2_howManyBetter_29 : decode cX2_howManyBetter 29 = .ok (.lload 6, 2) := by decide +kernel
theorem dX2_howManyBetter_31 : decode cX2_howManyBetter 31 = .ok (.lload_n 2, 1) := by decide +kernel
theorem dX2_howManyBetter_32 : decode cX2_howManyBetter 32 = .ok (.lcmp, 1) := by decide +kernel
theorem dX2_howManyBetter_33 : decode cX2_howManyBetter 33 = .ok (.ifCond .lt 16, 3) := by decide +kernel
theorem dX2_howManyBetter_36 : decode cX2_howManyBetter 36 = .ok (.lload 6, 2) := by decide +kernel
theorem dX2_howManyBetter_38 : decode cX2_howManyBetter 38 = .ok (.lload_n 2, 1) := by decide +kernel
theorem dX2_howManyBetter_39 : decode cX2_howManyBetter 39 = .ok (.lcmp, 1) := by decide +kernel
theorem dX2_howManyBetter_40 : decode cX2_howManyBetter 40 = .ok (.ifCond .ne 12, 3) := by decide +kernel
theorem dX2_howManyBetter_43 : decode cX2_howManyBetter 43 = .ok (.iload 5, 2) := by decide +kernel
theorem dX2_howManyBetter_45 : decode cX2_howManyBetter 45 = .ok (.iload_n 1, 1) := by decide +kernel
theorem dX2_howManyBetter_46 : decode cX2_howManyBetter 46 = .ok (.if_icmp .le 6, 3) := by decide +kernel
theorem dX2_howManyBetter_49 : decode cX2_howManyBetter 49 = .ok (.iinc 4 1, 3) := by decide +kernel
theorem dX2_howManyBetter_52 : decode cX2_howManyBetter 52 = .ok (.iinc 5 1, 3) := by decide +kernel
theorem dX2_howManyBetter_55 : decode cX2_howManyBetter 55 = .ok (.goto (-43), 3) := by decide +kernel
theorem dX2_howManyBetter_58 : decode cX2_howManyBetter 58 = .ok (.iload 4, 2) := by decide +kernel
theorem dX2_howManyBetter_60 : decode cX2_howManyBetter 60 = .ok (.ireturn, 1) := by decide +kernel
set_option maxRecDepth 20000 in
theorem ggX2_bitOfRank_X2_places : GoodIn wsX2_bitOfRank wsX2_places := goodIn_r _ [5, 6, 16, 17, 18, 19, 20, 21, 22, 23, 24, 25, 26, 27, 28, 29] (by decide +kernel) (by decide +kernel)
set_option maxRecDepth 20000 in
theorem gX2_bitOfRank_X2_places : GoodIn wsX2_bitOfRank (wsV RX2 90 RX2 yX2_places wsX2_places) := goodIn_app (goodIn_of _ (by decide +kernel)) ggX2_bitOfRank_X2_places
set_option maxRecDepth 20000 in
theorem ggX2_bitOfRank_X2_howManyBetter : GoodIn wsX2_bitOfRank wsX2_howManyBetter := goodIn_r _ [10, 11, 12, 13, 4, 14, 6, 15, 1, 2, 3, 5, 16, 17, 18, 19, 20, 21, 22, 23, 24, 25, 26, 27, 28, 29] (by decide +kernel) (by decide +kernel)
set_option maxRecDepth 20000 in
theorem gX2_bitOfRank_X2_howManyBetter : GoodIn wsX2_bitOfRank (wsV RX2 77 RX2 yX2_howManyBetter wsX2_howManyBetter) := goodIn_app (goodIn_of _ (by decide +kernel)) ggX2_bitOfRank_X2_howManyBetter
theorem dX2_bitOfRank_0 : decode cX2_bitOfRank 0 = .ok (.iconst 0, 1) := by decide +kernel
theorem dX2_bitOfRank_1 : decode cX2_bitOfRank 1 = .ok (.istore_n 2, 1) := by decide +kernel
theorem dX2_bitOfRank_2 : decode cX2_bitOfRank 2 = .ok (.iload_n 2, 1) := by decide +kernel
theorem dX2_bitOfRank_3 : decode cX2_bitOfRank 3 = .ok (.aload_n 0, 1) := by decide +kernel
theorem dX2_bitOfRank_4 : decode cX2_bitOfRank 4 = .ok (.invokevirtual 90, 3) := by decide +kernel
theorem dX2_bitOfRank_7 : decode cX2_bitOfRank 7 = .ok (.if_icmp .ge 20, 3) := by decide +kernel
theorem dX2_bitOfRank_10 : decode cX2_bitOfRank 10 = .ok (.aload_n 0, 1) := by decide +kernel
theorem dX2_bitOfRank_11 : decode cX2_bitOfRank 11 = .ok (.iload_n 2, 1) := by decide +kernel
theorem dX2_bitOfRank_12 : decode cX2_bitOfRank 12 = .ok (.invokevirtual 77, 3) := by decide +kernel
theorem dX2_bitOfRank_15 : decode cX2_bitOfRank 15 = .ok (.iload_n 1, 1) := by decide +kernel
theorem dX2_bitOfRank_16 : decode cX2_bitOfRank 16 = .ok (.if_icmp .ne 5, 3) := by decide +kernel
theorem dX2_bitOfRank_19 : decode cX2_bitOfRank 19 = .ok (.iload_n 2, 1) := by decide +kernel
theorem dX2_bitOfRank_20 : decode cX2_bitOfRank 20 = .ok (.ireturn, 1) := by decide +kernel
theorem dX2_bitOfRank_21 : decode cX2_bitOfRank 21 = .ok (.iinc 2 1, 3) := by decide +kernel
theorem dX2_bitOfRank_24 : decode cX2_bitOfRank 24 = .ok (.goto (-22), 3) := by decide +kernel
theorem dX2_bitOfRank_27 : decode cX2_bitOfRank 27 = .ok (.iconst (-1), 1) := by decide +kernel
theorem dX2_bitOfRank_28 : decode cX2_bitOfRank 28 = .ok (.ireturn, 1) := by decide +kernel
theorem dX2_codedOf_0 : decode cX2_codedOf 0 = .ok (.iload_n 0, 1) := by decide +kernel
theorem dX2_codedOf_1 : decode cX2_codedOf 1 = .ok (.istore_n 1, 1) := by decide +kernel
theorem dX2_codedOf_2 : decode cX2_codedOf 2 = .ok (.iconst 0, 1) := by decide +kernel
theorem dX2_codedOf_3 : decode cX2_codedOf 3 = .ok (.istore_n 2, 1) := by decide +kernel
theorem dX2_codedOf_4 : decode cX2_codedOf 4 = .ok (.iload_n 2, 1) := by decide +kernel
theorem dX2_codedOf_5 : decode cX2_codedOf 5 = .ok (.getstatic 184, 3) := by decide +kernel
theorem dX2_codedOf_8 : decode cX2_codedOf 8 = .ok (.arraylength, 1) := by decide +kernel
theorem dX2_codedOf_9 : decode cX2_codedOf 9 = .ok (.if_icmp .ge 23, 3) := by decide +kernel
theorem dX2_codedOf_12 : decode cX2_codedOf 12 = .ok (.iload_n 1, 1) := by decide +kernel
theorem dX2_codedOf_13 : decode cX2_codedOf 13 = .ok (.iload_n 1, 1) := by decide +kernel
theorem dX2_codedOf_14 : decode cX2_codedOf 14 = .ok (.iconst 1, 1) := by decide +kernel
theorem dX2_codedOf_15 : decode cX2_codedOf 15 = .ok (.iload_n 2, 1) := by decide +kernel
theorem dX2_codedOf_16 : decode cX2_codedOf 16 = .ok (.ishl, 1) := by decide +kernel
theorem dX2_codedOf_17 : decode cX2_codedOf 17 = .ok (.ishr, 1) := by decide +kernel
theorem dX2_codedOf_18 : decode cX2_codedOf 18 = .ok (.getstatic 184, 3) := by decide +kernel
theorem dX2_codedOf_21 : decode cX2_codedOf 21 = .ok (.iload_n 2, 1) := by decide +kernel
theorem dX2_codedOf_22 : decode cX2_codedOf 22 = .ok (.iaload, 1) := by decide +kernel
theorem dX2_codedOf_23 : decode cX2_codedOf 23 = .ok (.iand, 1) := by decide +kernel
theorem dX2_codedOf_24 : decode cX2_codedOf 24 = .ok (.ixor, 1) := by decide +kernel
theorem dX2_codedOf_25 : decode cX2_codedOf 25 = .ok (.istore_n 1, 1) := by decide +kernel
theorem dX2_codedOf_26 : decode cX2_codedOf 26 = .ok (.iinc 2 1, 3) := by decide +kernel
theorem dX2_codedOf_29 : decode cX2_codedOf 29 = .ok (.goto (-25), 3) := by decide +kernel
theorem dX2_codedOf_32 : decode cX2_codedOf 32 = .ok (.iload_n 1, 1) := by decide +kernel
theorem dX2_codedOf_33 : decode cX2_codedOf 33 = .ok (.ireturn, 1) := by decide +kernel
set_option maxRecDepth 20000 in
theorem ggX2_leastWeight_X2_places : GoodIn wsX2_leastWeight wsX2_places := goodIn_r _ [9, 10, 29, 30, 31, 32, 33, 34, 35, 36, 37, 38, 39, 40, 41, 42] (by decide +kernel) (by decide +kernel)
set_option maxRecDepth 20000 in
theorem gX2_leastWeight_X2_places : GoodIn wsX2_leastWeight (wsV RX2 90 RX2 yX2_places wsX2_places) := goodIn_app (goodIn_of _ (by decide +kernel)) ggX2_leastWeight_X2_places
set_option maxRecDepth 20000 in
theorem ggX2_leastWeight_X2_isFree : GoodIn wsX2_leastWeight wsX2_isFree := goodIn_r _ [14, 10, 15, 16, 8, 17, 29, 30, 31, 32, 33, 34, 35, 36, 37, 38, 39, 40, 41, 42] (by decide +kernel) (by decide +kernel)
set_option maxRecDepth 20000 in
theorem gX2_leastWeight_X2_isFree : GoodIn wsX2_leastWeight (wsV RX2 96 RX2 yX2_isFree wsX2_isFree) := goodIn_app (goodIn_of _ (by decide +kernel)) ggX2_leastWeight_X2_isFree
set_option maxRecDepth 20000 in
theorem ggX2_leastWeight_X2_codedOf : GoodIn wsX2_leastWeight wsX2_codedOf := goodIn_r _ [20, 21] (by decide +kernel) (by decide +kernel)
set_option maxRecDepth 20000 in
theorem gX2_leastWeight_X2_codedOf : GoodIn wsX2_leastWeight (va_wsS RX2 93 yX2_codedOf wsX2_codedOf) := goodIn_app (goodIn_of _ (by decide +kernel)) ggX2_leastWeight_X2_codedOf
set_option maxRecDepth 20000 in
theorem ggX2_leastWeight_J6_bitCount_0f7a4 : GoodIn wsX2_leastWeight wsJ6_bitCount_0f7a4 := goodIn_r _ [25, 26, 27, 28] (by decide +kernel) (by decide +kernel)
set_option maxRecDepth 20000 in
theorem gX2_leastWeight_J6_bitCount_0f7a4 : GoodIn wsX2_leastWeight (va_wsS RX2 158 yJ6_bitCount_0f7a4 wsJ6_bitCount_0f7a4) := goodIn_app (goodIn_of _ (by decide +kernel)) ggX2_leastWeight_J6_bitCount_0f7a4
theorem dX2_leastWeight_0 : decode cX2_leastWeight 0 = .ok (.bipush 16, 2) := by decide +kernel
theorem dX2_leastWeight_2 : decode cX2_leastWeight 2 = .ok (.istore_n 1, 1) := by decide +kernel
theorem dX2_leastWeight_3 : decode cX2_leastWeight 3 = .ok (.iconst 0, 1) := by decide +kernel
theorem dX2_leastWeight_4 : decode cX2_leastWeight 4 = .ok (.istore_n 2, 1) := by decide +kernel
theorem dX2_leastWeight_5 : decode cX2_leastWeight 5 = .ok (.iload_n 2, 1) := by decide +kernel
theorem dX2_leastWeight_6 : decode cX2_leastWeight 6 = .ok (.aload_n 0, 1) := by decide +kernel
theorem dX2_leastWeight_7 : decode cX2_leastWeight 7 = .ok (.invokevirtual 90, 3) := by decide +kernel
theorem dX2_leastWeight_10 : decode cX2_leastWeight 10 = .ok (.if_icmp .ge 31, 3) := by decide +kernel
theorem dX2_leastWeight_13 : decode cX2_leastWeight 13 = .ok (.aload_n 0, 1) := by decide +kernel
theorem dX2_leastWeight_14 : decode cX2_leastWeight 14 = .ok (.iload_n 2, 1) := by decide +kernel
theorem dX2_leastWeight_15 : decode cX2_leastWeight 15 = .ok (.invokevirtual 96, 3) := by decide +kernel
theorem dX2_leastWeight_18 : decode cX2_leastWeight 18 = .ok (.ifCond .eq 17, 3) := by decide +kernel
theorem dX2_leastWeight_21 : decode cX2_leastWeight 21 = .ok (.iload_n 1, 1) := by decide +kernel
theorem dX2_leastWeight_22 : decode cX2_leastWeight 22 = .ok (.iconst 1, 1) := by decide +kernel
theorem dX2_leastWeight_23 : decode cX2_leastWeight 23 = .ok (.iload_n 2, 1) := by decide +kernel
theorem dX2_leastWeight_24 : decode cX2_leastWeight 24 = .ok (.ishl, 1) := by decide +kernel
theorem dX2_leastWeight_25 : decode cX2_leastWeight 25 = .ok (.invokestatic 93, 3) := by decide +kernel
theorem dX2_leastWeight_28 : decode cX2_leastWeight 28 = .ok (.invokestatic 158, 3) := by decide +kernel
theorem dX2_leastWeight_31 : decode cX2_leastWeight 31 = .ok (.invokestatic 187, 3) := by decide +kernel
theorem dX2_leastWeight_34 : decode cX2_leastWeight 34 = .ok (.istore_n 1, 1) := by decide +kernel
theorem dX2_leastWeight_35 : decode cX2_leastWeight 35 = .ok (.iinc 2 1, 3) := by decide +kernel
theorem dX2_leastWeight_38 : decode cX2_leastWeight 38 = .ok (.goto (-33), 3) := by decide +kernel
theorem dX2_leastWeight_41 : decode cX2_leastWeight 41 = .ok (.iload_n 1, 1) := by decide +kernel
theorem dX2_leastWeight_42 : decode cX2_leastWeight 42 = .ok (.ireturn, 1) := by decide +kernel
set_option maxRecDepth 20000 in
theorem ggX2_isSentAsWord_X2_codedOf : GoodIn wsX2_isSentAsWord wsX2_codedOf := goodIn_r _ [5, 6] (by decide +kernel) (by decide +kernel)
set_option maxRecDepth 20000 in
theorem gX2_isSentAsWord_X2_codedOf : GoodIn wsX2_isSentAsWord (va_wsS RX2 93 yX2_codedOf wsX2_codedOf) := goodIn_app (goodIn_of _ (by decide +kernel)) ggX2_isSentAsWord_X2_codedOf
theorem dX2_isSentAsWord_0 : decode cX2_isSentAsWord 0 = .ok (.iload_n 1, 1) := by decide +kernel
theorem dX2_isSentAsWord_1 : decode cX2_isSentAsWord 1 = .ok (.invokestatic 93, 3) := by decide +kernel
theorem dX2_isSentAsWord_4 : decode cX2_isSentAsWord 4 = .ok (.aload_n 0, 1) := by decide +kernel
theorem dX2_isSentAsWord_5 : decode cX2_isSentAsWord 5 = .ok (.getfield 10, 3) := by decide +kernel
theorem dX2_isSentAsWord_8 : decode cX2_isSentAsWord 8 = .ok (.getfield 83, 3) := by decide +kernel
theorem dX2_isSentAsWord_11 : decode cX2_isSentAsWord 11 = .ok (.iand, 1) := by decide +kernel
theorem dX2_isSentAsWord_12 : decode cX2_isSentAsWord 12 = .ok (.ifCond .ne 7, 3) := by decide +kernel
theorem dX2_isSentAsWord_15 : decode cX2_isSentAsWord 15 = .ok (.iconst 1, 1) := by decide +kernel
theorem dX2_isSentAsWord_16 : decode cX2_isSentAsWord 16 = .ok (.goto 4, 3) := by decide +kernel
theorem dX2_isSentAsWord_19 : decode cX2_isSentAsWord 19 = .ok (.iconst 0, 1) := by decide +kernel
theorem dX2_isSentAsWord_20 : decode cX2_isSentAsWord 20 = .ok (.ireturn, 1) := by decide +kernel
set_option maxRecDepth 20000 in
theorem ggX2_howManySets_X2_places : GoodIn wsX2_howManySets wsX2_places := goodIn_r _ [5, 6, 26, 27, 28, 29, 30, 31, 32, 33, 34, 35, 36, 37, 38, 39] (by decide +kernel) (by decide +kernel)
set_option maxRecDepth 20000 in
theorem gX2_howManySets_X2_places : GoodIn wsX2_howManySets (wsV RX2 90 RX2 yX2_places wsX2_places) := goodIn_app (goodIn_of _ (by decide +kernel)) ggX2_howManySets_X2_places
set_option maxRecDepth 20000 in
theorem ggX2_howManySets_X2_isSentAsWord : GoodIn wsX2_howManySets wsX2_isSentAsWord := goodIn_r _ [10, 6, 11, 12, 4, 13, 14, 26, 27, 28, 29, 30, 31, 32, 33, 34, 35, 36, 37, 38, 39] (by decide +kernel) (by decide +kernel)
set_option maxRecDepth 20000 in
theorem gX2_howManySets_X2_isSentAsWord : GoodIn wsX2_howManySets (wsV RX2 190 RX2 yX2_isSentAsWord wsX2_isSentAsWord) := goodIn_app (goodIn_of _ (by decide +kernel)) ggX2_howManySets_X2_isSentAsWord
set_option maxRecDepth 20000 in
theorem ggX2_howManySets_X2_openFor : GoodIn wsX2_howManySets wsX2_openFor := goodIn_r _ [18, 14, 6, 26, 27, 28, 29, 30, 31, 32, 33, 34, 35, 36, 37, 38, 39] (by decide +kernel) (by decide +kernel)
set_option maxRecDepth 20000 in
theorem gX2_howManySets_X2_openFor : GoodIn wsX2_howManySets (wsV RX2 155 RX2 yX2_openFor wsX2_openFor) := goodIn_app (goodIn_of _ (by decide +kernel)) ggX2_howManySets_X2_openFor
set_option maxRecDepth 20000 in
theorem ggX2_howManySets_X2_nextOfSize : GoodIn wsX2_howManySets wsX2_nextOfSize := goodIn_r _ [21, 22, 23, 24, 25] (by decide +kernel) (by decide +kernel)
set_option maxRecDepth 20000 in
theorem gX2_howManySets_X2_nextOfSize : GoodIn wsX2_howManySets (va_wsS RX2 193 yX2_nextOfSize wsX2_nextOfSize) := goodIn_app (goodIn_of _ (by decide +kernel)) ggX2_howManySets_X2_nextOfSize
theorem dX2_howManySets_0 : decode cX2_howManySets 0 = .ok (.iconst 1, 1) := by decide +kernel
theorem dX2_howManySets_1 : decode cX2_howManySets 1 = .ok (.aload_n 0, 1) := by decide +kernel
theorem dX2_howManySets_2 : decode cX2_howManySets 2 = .ok (.invokevirtual 90, 3) := by decide +kernel
theorem dX2_howManySets_5 : decode cX2_howManySets 5 = .ok (.ishl, 1) := by decide +kernel
theorem dX2_howManySets_6 : decode cX2_howManySets 6 = .ok (.istore_n 3, 1) := by decide +kernel
theorem dX2_howManySets_7 : decode cX2_howManySets 7 = .ok (.iconst 0, 1) := by decide +kernel
theorem dX2_howManySets_8 : decode cX2_howManySets 8 = .ok (.istore 4, 2) := by decide +kernel
theorem dX2_howManySets_10 : decode cX2_howManySets 10 = .ok (.iconst 1, 1) := by decide +kernel
theorem dX2_howManySets_11 : decode cX2_howManySets 11 = .ok (.iload_n 1, 1) := by decide +kernel
theorem dX2_howManySets_12 : decode cX2_howManySets 12 = .ok (.ishl, 1) := by decide +kernel
theorem dX2_howManySets_13 : decode cX2_howManySets 13 = .ok (.iconst 1, 1) := by decide +kernel
theorem dX2_howManySets_14 : decode cX2_howManySets 14 = .ok (.isub, 1) := by decide +kernel
theorem dX2_howManySets_15 : decode cX2_howManySets 15 = .ok (.istore 5, 2) := by decide +kernel
theorem dX2_howManySets_17 : decode cX2_howManySets 17 = .ok (.iconst 0, 1) := by decide +kernel
theorem dX2_howManySets_18 : decode cX2_howManySets 18 = .ok (.istore 6, 2) := by decide +kernel
theorem dX2_howManySets_20 : decode cX2_howManySets 20 = .ok (.iload 6, 2) := by decide +kernel
theorem dX2_howManySets_22 : decode cX2_howManySets 22 = .ok (.iload_n 3, 1) := by decide +kernel
theorem dX2_howManySets_23 : decode cX2_howManySets 23 = .ok (.if_icmp .ge 50, 3) := by decide +kernel
theorem dX2_howManySets_26 : decode cX2_howManySets 26 = .ok (.iload 5, 2) := by decide +kernel
theorem dX2_howManySets_28 : decode cX2_howManySets 28 = .ok (.iload_n 3, 1) := by decide +kernel
theorem dX2_howManySets_29 : decode cX2_howManySets 29 = .ok (.if_icmp .ge 44, 3) := by decide +kernel
theorem dX2_howManySets_32 : decode cX2_howManySets 32 = .ok (.iload_n 2, 1) := by decide +kernel
theorem dX2_howManySets_33 : decode cX2_howManySets 33 = .ok (.ifCond .eq 15, 3) := by decide +kernel
theorem dX2_howManySets_36 : decode cX2_howManySets 36 = .ok (.aload_n 0, 1) := by decide +kernel
theorem dX2_howManySets_37 : decode cX2_howManySets 37 = .ok (.iload 5, 2) := by decide +kernel
theorem dX2_howManySets_39 : decode cX2_howManySets 39 = .ok (.invokevirtual 190, 3) := by decide +kernel
theorem dX2_howManySets_42 : decode cX2_howManySets 42 = .ok (.ifCond .eq 18, 3) := by decide +kernel
theorem dX2_howManySets_45 : decode cX2_howManySets 45 = .ok (.goto 12, 3) := by decide +kernel
theorem dX2_howManySets_48 : decode cX2_howManySets 48 = .ok (.aload_n 0, 1) := by decide +kernel
theorem dX2_howManySets_49 : decode cX2_howManySets 49 = .ok (.iload 5, 2) := by decide +kernel
theorem dX2_howManySets_51 : decode cX2_howManySets 51 = .ok (.invokevirtual 155, 3) := by decide +kernel
theorem dX2_howManySets_54 : decode cX2_howManySets 54 = .ok (.ifCond .eq 6, 3) := by decide +kernel
theorem dX2_howManySets_57 : decode cX2_howManySets 57 = .ok (.iinc 4 1, 3) := by decide +kernel
theorem dX2_howManySets_60 : decode cX2_howManySets 60 = .ok (.iload 5, 2) := by decide +kernel
theorem dX2_howManySets_62 : decode cX2_howManySets 62 = .ok (.invokestatic 193, 3) := by decide +kernel
theorem dX2_howManySets_65 : decode cX2_howManySets 65 = .ok (.istore 5, 2) := by decide +kernel
theorem dX2_howManySets_67 : decode cX2_howManySets 67 = .ok (.iinc 6 1, 3) := by decide +kernel
theorem dX2_howManySets_70 : decode cX2_howManySets 70 = .ok (.goto (-50), 3) := by decide +kernel
theorem dX2_howManySets_73 : decode cX2_howManySets 73 = .ok (.iload 4, 2) := by decide +kernel
theorem dX2_howManySets_75 : decode cX2_howManySets 75 = .ok (.ireturn, 1) := by decide +kernel
set_option maxRecDepth 20000 in
theorem ggX2_seenOf_X2_places : GoodIn wsX2_seenOf wsX2_places := goodIn_r _ [11, 1, 37, 38, 39, 40, 41, 42, 43, 44, 45, 46, 47, 48, 49, 50] (by decide +kernel) (by decide +kernel)
set_option maxRecDepth 20000 in
theorem gX2_seenOf_X2_places : GoodIn wsX2_seenOf (wsV RX2 90 RX2 yX2_places wsX2_places) := goodIn_app (goodIn_of _ (by decide +kernel)) ggX2_seenOf_X2_places
set_option maxRecDepth 20000 in
theorem ggX2_seenOf_X2_goFirst : GoodIn wsX2_seenOf wsX2_goFirst := goodIn_r _ [15, 2, 16, 17, 10, 18, 19, 20, 21, 22, 23, 24, 25, 37, 38, 39, 40, 41, 42, 43] (by decide +kernel) (by decide +kernel)
set_option maxRecDepth 20000 in
theorem gX2_seenOf_X2_goFirst : GoodIn wsX2_seenOf (wsV RX2 202 RX2 yX2_goFirst wsX2_goFirst) := goodIn_app (goodIn_of _ (by decide +kernel)) ggX2_seenOf_X2_goFirst
set_option maxRecDepth 20000 in
theorem ggX2_seenOf_X2_codedOf : GoodIn wsX2_seenOf wsX2_codedOf := goodIn_r _ [28, 29] (by decide +kernel) (by decide +kernel)
set_option maxRecDepth 20000 in
theorem gX2_seenOf_X2_codedOf : GoodIn wsX2_seenOf (va_wsS RX2 93 yX2_codedOf wsX2_codedOf) := goodIn_app (goodIn_of _ (by decide +kernel)) ggX2_seenOf_X2_codedOf
set_option maxRecDepth 20000 in
theorem ggX2_seenOf_X2_goSecond : GoodIn wsX2_seenOf wsX2_goSecond := goodIn_r _ [33, 2, 34, 35, 10, 36, 37, 38, 39, 40, 41, 42, 43] (by decide +kernel) (by decide +kernel)
set_option maxRecDepth 20000 in
theorem gX2_seenOf_X2_goSecond : GoodIn wsX2_seenOf (wsV RX2 205 RX2 yX2_goSecond wsX2_goSecond) := goodIn_app (goodIn_of _ (by decide +kernel)) ggX2_seenOf_X2_goSecond
theorem dX2_seenOf_0 : decode cX2_seenOf 0 = .ok (.aload_n 0, 1) := by decide +kernel
theorem dX2_seenOf_1 : decode cX2_seenOf 1 = .ok (.getfield 10, 3) := by decide +kernel
theorem dX2_seenOf_4 : decode cX2_seenOf 4 = .ok (.getfield 108, 3) := by decide +kernel
theorem dX2_seenOf_7 : decode cX2_seenOf 7 = .ok (.iconst 0, 1) := by decide +kernel
theorem dX2_seenOf_8 : decode cX2_seenOf 8 = .ok (.aload_n 0, 1) := by decide +kernel
theorem dX2_seenOf_9 : decode cX2_seenOf 9 = .ok (.getfield 26, 3) := by decide +kernel
theorem dX2_seenOf_12 : decode cX2_seenOf 12 = .ok (.iconst 0, 1) := by decide +kernel
theorem dX2_seenOf_13 : decode cX2_seenOf 13 = .ok (.bipush 16, 2) := by decide +kernel
theorem dX2_seenOf_15 : decode cX2_seenOf 15 = .ok (.invokestatic 196, 3) := by decide +kernel
theorem dX2_seenOf_18 : decode cX2_seenOf 18 = .ok (.iconst 0, 1) := by decide +kernel
theorem dX2_seenOf_19 : decode cX2_seenOf 19 = .ok (.istore_n 3, 1) := by decide +kernel
theorem dX2_seenOf_20 : decode cX2_seenOf 20 = .ok (.aload_n 0, 1) := by decide +kernel
theorem dX2_seenOf_21 : decode cX2_seenOf 21 = .ok (.invokevirtual 90, 3) := by decide +kernel
theorem dX2_seenOf_24 : decode cX2_seenOf 24 = .ok (.iconst 1, 1) := by decide +kernel
theorem dX2_seenOf_25 : decode cX2_seenOf 25 = .ok (.ishr, 1) := by decide +kernel
theorem dX2_seenOf_26 : decode cX2_seenOf 26 = .ok (.istore 4, 2) := by decide +kernel
theorem dX2_seenOf_28 : decode cX2_seenOf 28 = .ok (.iload 4, 2) := by decide +kernel
theorem dX2_seenOf_30 : decode cX2_seenOf 30 = .ok (.ifCond .le 52, 3) := by decide +kernel
theorem dX2_seenOf_33 : decode cX2_seenOf 33 = .ok (.iload_n 1, 1) := by decide +kernel
theorem dX2_seenOf_34 : decode cX2_seenOf 34 = .ok (.iload 4, 2) := by decide +kernel
theorem dX2_seenOf_36 : decode cX2_seenOf 36 = .ok (.iand, 1) := by decide +kernel
theorem dX2_seenOf_37 : decode cX2_seenOf 37 = .ok (.ifCond .ne 12, 3) := by decide +kernel
theorem dX2_seenOf_40 : decode cX2_seenOf 40 = .ok (.aload_n 0, 1) := by decide +kernel
theorem dX2_seenOf_41 : decode cX2_seenOf 41 = .ok (.iload 4, 2) := by decide +kernel
theorem dX2_seenOf_43 : decode cX2_seenOf 43 = .ok (.invokevirtual 202, 3) := by decide +kernel
theorem dX2_seenOf_46 : decode cX2_seenOf 46 = .ok (.goto 27, 3) := by decide +kernel
theorem dX2_seenOf_49 : decode cX2_seenOf 49 = .ok (.aload_n 0, 1) := by decide +kernel
theorem dX2_seenOf_50 : decode cX2_seenOf 50 = .ok (.iload 4, 2) := by decide +kernel
theorem dX2_seenOf_52 : decode cX2_seenOf 52 = .ok (.iload_n 2, 1) := by decide +kernel
theorem dX2_seenOf_53 : decode cX2_seenOf 53 = .ok (.iload_n 3, 1) := by decide +kernel
theorem dX2_seenOf_54 : decode cX2_seenOf 54 = .ok (.ishr, 1) := by decide +kernel
theorem dX2_seenOf_55 : decode cX2_seenOf 55 = .ok (.iconst 1, 1) := by decide +kernel
theorem dX2_seenOf_56 : decode cX2_seenOf 56 = .ok (.iload 4, 2) := by decide +kernel
theorem dX2_seenOf_58 : decode cX2_seenOf 58 = .ok (.ishl, 1) := by decide +kernel
theorem dX2_seenOf_59 : decode cX2_seenOf 59 = .ok (.iconst 1, 1) := by decide +kernel
theorem dX2_seenOf_60 : decode cX2_seenOf 60 = .ok (.isub, 1) := by decide +kernel
theorem dX2_seenOf_61 : decode cX2_seenOf 61 = .ok (.iand, 1) := by decide +kernel
theorem dX2_seenOf_62 : decode cX2_seenOf 62 = .ok (.invokestatic 93, 3) := by decide +kernel
theorem dX2_seenOf_65 : decode cX2_seenOf 65 = .ok (.invokevirtual 205, 3) := by decide +kernel
theorem dX2_seenOf_68 : decode cX2_seenOf 68 = .ok (.iload_n 3, 1) := by decide +kernel
theorem dX2_seenOf_69 : decode cX2_seenOf 69 = .ok (.iload 4, 2) := by decide +kernel
theorem dX2_seenOf_71 : decode cX2_seenOf 71 = .ok (.iadd, 1) := by decide +kernel
theorem dX2_seenOf_72 : decode cX2_seenOf 72 = .ok (.istore_n 3, 1) := by decide +kernel
theorem dX2_seenOf_73 : decode cX2_seenOf 73 = .ok (.iload 4, 2) := by decide +kernel
theorem dX2_seenOf_75 : decode cX2_seenOf 75 = .ok (.iconst 1, 1) := by decide +kernel
theorem dX2_seenOf_76 : decode cX2_seenOf 76 = .ok (.ishr, 1) := by decide +kernel
theorem dX2_seenOf_77 : decode cX2_seenOf 77 = .ok (.istore 4, 2) := by decide +kernel
theorem dX2_seenOf_79 : decode cX2_seenOf 79 = .ok (.goto (-51), 3) := by decide +kernel
theorem dX2_seenOf_82 : decode cX2_seenOf 82 = .ok (.aload_n 0, 1) := by decide +kernel
theorem dX2_seenOf_83 : decode cX2_seenOf 83 = .ok (.getfield 26, 3) := by decide +kernel
theorem dX2_seenOf_86 : decode cX2_seenOf 86 = .ok (.iconst 0, 1) := by decide +kernel
theorem dX2_seenOf_87 : decode cX2_seenOf 87 = .ok (.iaload, 1) := by decide +kernel
theorem dX2_seenOf_88 : decode cX2_seenOf 88 = .ok (.ireturn, 1) := by decide +kernel
set_option maxRecDepth 20000 in
theorem ggX2_goFirst_X2_weaker : GoodIn wsX2_goFirst wsX2_weaker := goodIn_r _ [5, 6, 7, 8, 9, 10, 11, 12] (by decide +kernel) (by decide +kernel)
set_option maxRecDepth 20000 in
theorem gX2_goFirst_X2_weaker : GoodIn wsX2_goFirst (va_wsS RX2 209 yX2_weaker wsX2_weaker) := goodIn_app (goodIn_of _ (by decide +kernel)) ggX2_goFirst_X2_weaker
theorem dX2_goFirst_0 : decode cX2_goFirst 0 = .ok (.iconst 0, 1) := by decide +kernel
theorem dX2_goFirst_1 : decode cX2_goFirst 1 = .ok (.istore_n 2, 1) := by decide +kernel
theorem dX2_goFirst_2 : decode cX2_goFirst 2 = .ok (.iload_n 2, 1) := by decide +kernel
theorem dX2_goFirst_3 : decode cX2_goFirst 3 = .ok (.iload_n 1, 1) := by decide +kernel
theorem dX2_goFirst_4 : decode cX2_goFirst 4 = .ok (.if_icmp .ge 32, 3) := by decide +kernel
theorem dX2_goFirst_7 : decode cX2_goFirst 7 = .ok (.aload_n 0, 1) := by decide +kernel
theorem dX2_goFirst_8 : decode cX2_goFirst 8 = .ok (.getfield 26, 3) := by decide +kernel
theorem dX2_goFirst_11 : decode cX2_goFirst 11 = .ok (.iload_n 2, 1) := by decide +kernel
theorem dX2_goFirst_12 : decode cX2_goFirst 12 = .ok (.aload_n 0, 1) := by decide +kernel
theorem dX2_goFirst_13 : decode cX2_goFirst 13 = .ok (.getfield 26, 3) := by decide +kernel
theorem dX2_goFirst_16 : decode cX2_goFirst 16 = .ok (.iload_n 2, 1) := by decide +kernel
theorem dX2_goFirst_17 : decode cX2_goFirst 17 = .ok (.iaload, 1) := by decide +kernel
theorem dX2_goFirst_18 : decode cX2_goFirst 18 = .ok (.aload_n 0, 1) := by decide +kernel
theorem dX2_goFirst_19 : decode cX2_goFirst 19 = .ok (.getfield 26, 3) := by decide +kernel
theorem dX2_goFirst_22 : decode cX2_goFirst 22 = .ok (.iload_n 2, 1) := by decide +kernel
theorem dX2_goFirst_23 : decode cX2_goFirst 23 = .ok (.iload_n 1, 1) := by decide +kernel
theorem dX2_goFirst_24 : decode cX2_goFirst 24 = .ok (.iadd, 1) := by decide +kernel
theorem dX2_goFirst_25 : decode cX2_goFirst 25 = .ok (.iaload, 1) := by decide +kernel
theorem dX2_goFirst_26 : decode cX2_goFirst 26 = .ok (.invokestatic 209, 3) := by decide +kernel
theorem dX2_goFirst_29 : decode cX2_goFirst 29 = .ok (.iastore, 1) := by decide +kernel
theorem dX2_goFirst_30 : decode cX2_goFirst 30 = .ok (.iinc 2 1, 3) := by decide +kernel
theorem dX2_goFirst_33 : decode cX2_goFirst 33 = .ok (.goto (-31), 3) := by decide +kernel
theorem dX2_goFirst_36 : decode cX2_goFirst 36 = .ok (.return_, 1) := by decide +kernel
set_option maxRecDepth 20000 in
theorem ggX2_goSecond_X2_has : GoodIn wsX2_goSecond wsX2_has := goodIn_r _ [5] (by decide +kernel) (by decide +kernel)
set_option maxRecDepth 20000 in
theorem gX2_goSecond_X2_has : GoodIn wsX2_goSecond (va_wsS RX2 111 yX2_has wsX2_has) := goodIn_app (goodIn_of _ (by decide +kernel)) ggX2_goSecond_X2_has
theorem dX2_goSecond_0 : decode cX2_goSecond 0 = .ok (.iconst 0, 1) := by decide +kernel
theorem dX2_goSecond_1 : decode cX2_goSecond 1 = .ok (.istore_n 3, 1) := by decide +kernel
theorem dX2_goSecond_2 : decode cX2_goSecond 2 = .ok (.iload_n 3, 1) := by decide +kernel
theorem dX2_goSecond_3 : decode cX2_goSecond 3 = .ok (.iload_n 1, 1) := by decide +kernel
theorem dX2_goSecond_4 : decode cX2_goSecond 4 = .ok (.if_icmp .ge 52, 3) := by decide +kernel
theorem dX2_goSecond_7 : decode cX2_goSecond 7 = .ok (.iload_n 2, 1) := by decide +kernel
theorem dX2_goSecond_8 : decode cX2_goSecond 8 = .ok (.iload_n 3, 1) := by decide +kernel
theorem dX2_goSecond_9 : decode cX2_goSecond 9 = .ok (.invokestatic 111, 3) := by decide +kernel
theorem dX2_goSecond_12 : decode cX2_goSecond 12 = .ok (.ifCond .eq 13, 3) := by decide +kernel
theorem dX2_goSecond_15 : decode cX2_goSecond 15 = .ok (.aload_n 0, 1) := by decide +kernel
theorem dX2_goSecond_16 : decode cX2_goSecond 16 = .ok (.getfield 26, 3) := by decide +kernel
theorem dX2_goSecond_19 : decode cX2_goSecond 19 = .ok (.iload_n 3, 1) := by decide +kernel
theorem dX2_goSecond_20 : decode cX2_goSecond 20 = .ok (.iaload, 1) := by decide +kernel
theorem dX2_goSecond_21 : decode cX2_goSecond 21 = .ok (.ineg, 1) := by decide +kernel
theorem dX2_goSecond_22 : decode cX2_goSecond 22 = .ok (.goto 9, 3) := by decide +kernel
theorem dX2_goSecond_25 : decode cX2_goSecond 25 = .ok (.aload_n 0, 1) := by decide +kernel
theorem dX2_goSecond_26 : decode cX2_goSecond 26 = .ok (.getfield 26, 3) := by decide +kernel
theorem dX2_goSecond_29 : decode cX2_goSecond 29 = .ok (.iload_n 3, 1) := by decide +kernel
theorem dX2_goSecond_30 : decode cX2_goSecond 30 = .ok (.iaload, 1) := by decide +kernel
theorem dX2_goSecond_31 : decode cX2_goSecond 31 = .ok (.istore 4, 2) := by decide +kernel
theorem dX2_goSecond_33 : decode cX2_goSecond 33 = .ok (.aload_n 0, 1) := by decide +kernel
theorem dX2_goSecond_34 : decode cX2_goSecond 34 = .ok (.getfield 26, 3) := by decide +kernel
theorem dX2_goSecond_37 : decode cX2_goSecond 37 = .ok (.iload_n 3, 1) := by decide +kernel
theorem dX2_goSecond_38 : decode cX2_goSecond 38 = .ok (.aload_n 0, 1) := by decide +kernel
theorem dX2_goSecond_39 : decode cX2_goSecond 39 = .ok (.getfield 26, 3) := by decide +kernel
theorem dX2_goSecond_42 : decode cX2_goSecond 42 = .ok (.iload_n 3, 1) := by decide +kernel
theorem dX2_goSecond_43 : decode cX2_goSecond 43 = .ok (.iload_n 1, 1) := by decide +kernel
theorem dX2_goSecond_44 : decode cX2_goSecond 44 = .ok (.iadd, 1) := by decide +kernel
theorem dX2_goSecond_45 : decode cX2_goSecond 45 = .ok (.iaload, 1) := by decide +kernel
theorem dX2_goSecond_46 : decode cX2_goSecond 46 = .ok (.iload 4, 2) := by decide +kernel
theorem dX2_goSecond_48 : decode cX2_goSecond 48 = .ok (.iadd, 1) := by decide +kernel
theorem dX2_goSecond_49 : decode cX2_goSecond 49 = .ok (.iastore, 1) := by decide +kernel
theorem dX2_goSecond_50 : decode cX2_goSecond 50 = .ok (.iinc 3 1, 3) := by decide +kernel
theorem dX2_goSecond_53 : decode cX2_goSecond 53 = .ok (.goto (-51), 3) := by decide +kernel
theorem dX2_goSecond_56 : decode cX2_goSecond 56 = .ok (.return_, 1) := by decide +kernel
theorem dX2_weaker_0 : decode cX2_weaker 0 = .ok (.iload_n 0, 1) := by decide +kernel
theorem dX2_weaker_1 : decode cX2_weaker 1 = .ok (.invokestatic 212, 3) := by decide +kernel
theorem dX2_weaker_4 : decode cX2_weaker 4 = .ok (.iload_n 1, 1) := by decide +kernel
theorem dX2_weaker_5 : decode cX2_weaker 5 = .ok (.invokestatic 212, 3) := by decide +kernel
theorem dX2_weaker_8 : decode cX2_weaker 8 = .ok (.invokestatic 187, 3) := by decide +kernel
theorem dX2_weaker_11 : decode cX2_weaker 11 = .ok (.istore_n 2, 1) := by decide +kernel
theorem dX2_weaker_12 : decode cX2_weaker 12 = .ok (.iload_n 0, 1) := by decide +kernel
theorem dX2_weaker_13 : decode cX2_weaker 13 = .ok (.ifCond .ge 7, 3) := by decide +kernel
theorem dX2_weaker_16 : decode cX2_weaker 16 = .ok (.iconst 1, 1) := by decide +kernel
theorem dX2_weaker_17 : decode cX2_weaker 17 = .ok (.goto 4, 3) := by decide +kernel
theorem dX2_weaker_20 : decode cX2_weaker 20 = .ok (.iconst 0, 1) := by decide +kernel
theorem dX2_weaker_21 : decode cX2_weaker 21 = .ok (.iload_n 1, 1) := by decide +kernel
theorem dX2_weaker_22 : decode cX2_weaker 22 = .ok (.ifCond .ge 7, 3) := by decide +kernel
theorem dX2_weaker_25 : decode cX2_weaker 25 = .ok (.iconst 1, 1) := by decide +kernel
theorem dX2_weaker_26 : decode cX2_weaker 26 = .ok (.goto 4, 3) := by decide +kernel
theorem dX2_weaker_29 : decode cX2_weaker 29 = .ok (.iconst 0, 1) := by decide +kernel
theorem dX2_weaker_30 : decode cX2_weaker 30 = .ok (.if_icmp .eq 8, 3) := by decide +kernel
theorem dX2_weaker_33 : decode cX2_weaker 33 = .ok (.iload_n 2, 1) := by decide +kernel
theorem dX2_weaker_34 : decode cX2_weaker 34 = .ok (.ineg, 1) := by decide +kernel
theorem dX2_weaker_35 : decode cX2_weaker 35 = .ok (.goto 4, 3) := by decide +kernel
theorem dX2_weaker_38 : decode cX2_weaker 38 = .ok (.iload_n 2, 1) := by decide +kernel
theorem dX2_weaker_39 : decode cX2_weaker 39 = .ok (.ireturn, 1) := by decide +kernel
set_option maxRecDepth 20000 in
theorem ggX2_rowRead_X2_places : GoodIn wsX2_rowRead wsX2_places := goodIn_r _ [5, 6, 45, 46, 47, 48, 49, 50, 51, 52, 53, 54, 55, 56, 57, 58] (by decide +kernel) (by decide +kernel)
set_option maxRecDepth 20000 in
theorem gX2_rowRead_X2_places : GoodIn wsX2_rowRead (wsV RX2 90 RX2 yX2_places wsX2_places) := goodIn_app (goodIn_of _ (by decide +kernel)) ggX2_rowRead_X2_places
set_option maxRecDepth 20000 in
theorem ggX2_rowRead_X2_isFree : GoodIn wsX2_rowRead wsX2_isFree := goodIn_r _ [10, 6, 11, 12, 4, 13, 45, 46, 47, 48, 49, 50, 51, 52, 53, 54, 55, 56, 57, 58] (by decide +kernel) (by decide +kernel)
set_option maxRecDepth 20000 in
theorem gX2_rowRead_X2_isFree : GoodIn wsX2_rowRead (wsV RX2 96 RX2 yX2_isFree wsX2_isFree) := goodIn_app (goodIn_of _ (by decide +kernel)) ggX2_rowRead_X2_isFree
set_option maxRecDepth 20000 in
theorem ggX2_rowRead_X2_seenOf : GoodIn wsX2_rowRead wsX2_seenOf := goodIn_r _ [17, 6, 18, 19, 20, 21, 22, 1, 2, 3, 4, 5, 23, 24, 25, 26, 27, 28, 29, 30, 31, 32, 33, 34, 35, 36, 37, 38, 39, 40, 41, 42, 43, 44, 11, 12, 13, 45, 46, 47, 48, 49, 50, 51, 52, 53, 54, 55, 56, 57, 58] (by decide +kernel) (by decide +kernel)
set_option maxRecDepth 20000 in
theorem gX2_rowRead_X2_seenOf : GoodIn wsX2_rowRead (wsV RX2 118 RX2 yX2_seenOf wsX2_seenOf) := goodIn_app (goodIn_of _ (by decide +kernel)) ggX2_rowRead_X2_seenOf
theorem dX2_rowRead_0 : decode cX2_rowRead 0 = .ok (.iconst 0, 1) := by decide +kernel
theorem dX2_rowRead_1 : decode cX2_rowRead 1 = .ok (.istore_n 1, 1) := by decide +kernel
theorem dX2_rowRead_2 : decode cX2_rowRead 2 = .ok (.iconst 0, 1) := by decide +kernel
theorem dX2_rowRead_3 : decode cX2_rowRead 3 = .ok (.istore_n 2, 1) := by decide +kernel
theorem dX2_rowRead_4 : decode cX2_rowRead 4 = .ok (.iload_n 2, 1) := by decide +kernel
theorem dX2_rowRead_5 : decode cX2_rowRead 5 = .ok (.aload_n 0, 1) := by decide +kernel
theorem dX2_rowRead_6 : decode cX2_rowRead 6 = .ok (.invokevirtual 90, 3) := by decide +kernel
theorem dX2_rowRead_9 : decode cX2_rowRead 9 = .ok (.if_icmp .ge 32, 3) := by decide +kernel
theorem dX2_rowRead_12 : decode cX2_rowRead 12 = .ok (.aload_n 0, 1) := by decide +kernel
theorem dX2_rowRead_13 : decode cX2_rowRead 13 = .ok (.iload_n 2, 1) := by decide +kernel
theorem dX2_rowRead_14 : decode cX2_rowRead 14 = .ok (.invokevirtual 96, 3) := by decide +kernel
theorem dX2_rowRead_17 : decode cX2_rowRead 17 = .ok (.ifCond .eq 18, 3) := by decide +kernel
theorem dX2_rowRead_20 : decode cX2_rowRead 20 = .ok (.aload_n 0, 1) := by decide +kernel
theorem dX2_rowRead_21 : decode cX2_rowRead 21 = .ok (.iload_n 2, 1) := by decide +kernel
theorem dX2_rowRead_22 : decode cX2_rowRead 22 = .ok (.iload_n 1, 1) := by decide +kernel
theorem dX2_rowRead_23 : decode cX2_rowRead 23 = .ok (.invokevirtual 118, 3) := by decide +kernel
theorem dX2_rowRead_26 : decode cX2_rowRead 26 = .ok (.ifCond .ge 9, 3) := by decide +kernel
theorem dX2_rowRead_29 : decode cX2_rowRead 29 = .ok (.iload_n 1, 1) := by decide +kernel
theorem dX2_rowRead_30 : decode cX2_rowRead 30 = .ok (.iconst 1, 1) := by decide +kernel
theorem dX2_rowRead_31 : decode cX2_rowRead 31 = .ok (.iload_n 2, 1) := by decide +kernel
theorem dX2_rowRead_32 : decode cX2_rowRead 32 = .ok (.ishl, 1) := by decide +kernel
theorem dX2_rowRead_33 : decode cX2_rowRead 33 = .ok (.ior, 1) := by decide +kernel
theorem dX2_rowRead_34 : decode cX2_rowRead 34 = .ok (.istore_n 1, 1) := by decide +kernel
theorem dX2_rowRead_35 : decode cX2_rowRead 35 = .ok (.iinc 2 1, 3) := by decide +kernel
theorem dX2_rowRead_38 : decode cX2_rowRead 38 = .ok (.goto (-34), 3) := by decide +kernel
theorem dX2_rowRead_41 : decode cX2_rowRead 41 = .ok (.iload_n 1, 1) := by decide +kernel
theorem dX2_rowRead_42 : decode cX2_rowRead 42 = .ok (.ireturn, 1) := by decide +kernel
set_option maxRecDepth 20000 in
theorem ggX2_fineOf_X2_places : GoodIn wsX2_fineOf wsX2_places := goodIn_r _ [5, 6, 47, 48, 49, 50, 51, 52, 53, 54, 55, 56, 57, 58, 59, 60] (by decide +kernel) (by decide +kernel)
set_option maxRecDepth 20000 in
theorem gX2_fineOf_X2_places : GoodIn wsX2_fineOf (wsV RX2 90 RX2 yX2_places wsX2_places) := goodIn_app (goodIn_of _ (by decide +kernel)) ggX2_fineOf_X2_places
set_option maxRecDepth 20000 in
theorem ggX2_fineOf_X2_seenOf : GoodIn wsX2_fineOf wsX2_seenOf := goodIn_r _ [10, 6, 11, 12, 13, 14, 15, 1, 2, 3, 4, 5, 16, 17, 18, 19, 20, 21, 22, 23, 24, 25, 26, 27, 28, 29, 30, 31, 32, 33, 34, 35, 36, 37, 38, 39, 40, 47, 48, 49, 50, 51, 52, 53, 54, 55, 56, 57, 58, 59, 60] (by decide +kernel) (by decide +kernel)
set_option maxRecDepth 20000 in
theorem gX2_fineOf_X2_seenOf : GoodIn wsX2_fineOf (wsV RX2 118 RX2 yX2_seenOf wsX2_seenOf) := goodIn_app (goodIn_of _ (by decide +kernel)) ggX2_fineOf_X2_seenOf
set_option maxRecDepth 20000 in
theorem ggX2_fineOf_X2_has : GoodIn wsX2_fineOf wsX2_has := goodIn_r _ [40] (by decide +kernel) (by decide +kernel)
set_option maxRecDepth 20000 in
theorem gX2_fineOf_X2_has : GoodIn wsX2_fineOf (va_wsS RX2 111 yX2_has wsX2_has) := goodIn_app (goodIn_of _ (by decide +kernel)) ggX2_fineOf_X2_has
set_option maxRecDepth 20000 in
theorem ggX2_fineOf_X2_fineOfBit : GoodIn wsX2_fineOf wsX2_fineOfBit := goodIn_r _ [43, 44, 45, 25, 46] (by decide +kernel) (by decide +kernel)
set_option maxRecDepth 20000 in
theorem gX2_fineOf_X2_fineOfBit : GoodIn wsX2_fineOf (va_wsS RX2 215 yX2_fineOfBit wsX2_fineOfBit) := goodIn_app (goodIn_of _ (by decide +kernel)) ggX2_fineOf_X2_fineOfBit
theorem dX2_fineOf_0 : decode cX2_fineOf 0 = .ok (.iconst 0, 1) := by decide +kernel
theorem dX2_fineOf_1 : decode cX2_fineOf 1 = .ok (.istore_n 2, 1) := by decide +kernel
theorem dX2_fineOf_2 : decode cX2_fineOf 2 = .ok (.iconst 0, 1) := by decide +kernel
theorem dX2_fineOf_3 : decode cX2_fineOf 3 = .ok (.istore_n 3, 1) := by decide +kernel
theorem dX2_fineOf_4 : decode cX2_fineOf 4 = .ok (.iload_n 3, 1) := by decide +kernel
theorem dX2_fineOf_5 : decode cX2_fineOf 5 = .ok (.aload_n 0, 1) := by decide +kernel
theorem dX2_fineOf_6 : decode cX2_fineOf 6 = .ok (.invokevirtual 90, 3) := by decide +kernel
theorem dX2_fineOf_9 : decode cX2_fineOf 9 = .ok (.if_icmp .ge 26, 3) := by decide +kernel
theorem dX2_fineOf_12 : decode cX2_fineOf 12 = .ok (.iload_n 2, 1) := by decide +kernel
theorem dX2_fineOf_13 : decode cX2_fineOf 13 = .ok (.aload_n 0, 1) := by decide +kernel
theorem dX2_fineOf_14 : decode cX2_fineOf 14 = .ok (.iload_n 3, 1) := by decide +kernel
theorem dX2_fineOf_15 : decode cX2_fineOf 15 = .ok (.iload_n 1, 1) := by decide +kernel
theorem dX2_fineOf_16 : decode cX2_fineOf 16 = .ok (.invokevirtual 118, 3) := by decide +kernel
theorem dX2_fineOf_19 : decode cX2_fineOf 19 = .ok (.iload_n 1, 1) := by decide +kernel
theorem dX2_fineOf_20 : decode cX2_fineOf 20 = .ok (.iload_n 3, 1) := by decide +kernel
theorem dX2_fineOf_21 : decode cX2_fineOf 21 = .ok (.invokestatic 111, 3) := by decide +kernel
theorem dX2_fineOf_24 : decode cX2_fineOf 24 = .ok (.invokestatic 215, 3) := by decide +kernel
theorem dX2_fineOf_27 : decode cX2_fineOf 27 = .ok (.iadd, 1) := by decide +kernel
theorem dX2_fineOf_28 : decode cX2_fineOf 28 = .ok (.istore_n 2, 1) := by decide +kernel
theorem dX2_fineOf_29 : decode cX2_fineOf 29 = .ok (.iinc 3 1, 3) := by decide +kernel
theorem dX2_fineOf_32 : decode cX2_fineOf 32 = .ok (.goto (-28), 3) := by decide +kernel
theorem dX2_fineOf_35 : decode cX2_fineOf 35 = .ok (.iload_n 2, 1) := by decide +kernel
theorem dX2_fineOf_36 : decode cX2_fineOf 36 = .ok (.ireturn, 1) := by decide +kernel
theorem dX2_fineOfBit_0 : decode cX2_fineOfBit 0 = .ok (.iload_n 1, 1) := by decide +kernel
theorem dX2_fineOfBit_1 : decode cX2_fineOfBit 1 = .ok (.ifCond .eq 11, 3) := by decide +kernel
theorem dX2_fineOfBit_4 : decode cX2_fineOfBit 4 = .ok (.iload_n 0, 1) := by decide +kernel
theorem dX2_fineOfBit_5 : decode cX2_fineOfBit 5 = .ok (.iconst 0, 1) := by decide +kernel
theorem dX2_fineOfBit_6 : decode cX2_fineOfBit 6 = .ok (.invokestatic 177, 3) := by decide +kernel
theorem dX2_fineOfBit_9 : decode cX2_fineOfBit 9 = .ok (.goto 9, 3) := by decide +kernel
theorem dX2_fineOfBit_12 : decode cX2_fineOfBit 12 = .ok (.iload_n 0, 1) := by decide +kernel
theorem dX2_fineOfBit_13 : decode cX2_fineOfBit 13 = .ok (.ineg, 1) := by decide +kernel
theorem dX2_fineOfBit_14 : decode cX2_fineOfBit 14 = .ok (.iconst 0, 1) := by decide +kernel
theorem dX2_fineOfBit_15 : decode cX2_fineOfBit 15 = .ok (.invokestatic 177, 3) := by decide +kernel
theorem dX2_fineOfBit_18 : decode cX2_fineOfBit 18 = .ok (.ireturn, 1) := by decide +kernel
set_option maxRecDepth 20000 in
theorem ggX2_howManyToldOtherwise_X2_places : GoodIn wsX2_howManyToldOtherwise wsX2_places := goodIn_r _ [6, 1, 10, 11, 12, 13, 14, 15, 16, 17, 18, 19, 20, 21, 22, 23] (by decide +kernel) (by decide +kernel)
set_option maxRecDepth 20000 in
theorem gX2_howManyToldOtherwise_X2_places : GoodIn wsX2_howManyToldOtherwise (wsV RX2 90 RX2 yX2_places wsX2_places) := goodIn_app (goodIn_of _ (by decide +kernel)) ggX2_howManyToldOtherwise_X2_places
set_option maxRecDepth 20000 in
theorem ggX2_howManyToldOtherwise_X2_has : GoodIn wsX2_howManyToldOtherwise wsX2_has := goodIn_r _ [9] (by decide +kernel) (by decide +kernel)
set_option maxRecDepth 20000 in
theorem gX2_howManyToldOtherwise_X2_has : GoodIn wsX2_howManyToldOtherwise (va_wsS RX2 111 yX2_has wsX2_has) := goodIn_app (goodIn_of _ (by decide +kernel)) ggX2_howManyToldOtherwise_X2_has
theorem dX2_howManyToldOtherwise_0 : decode cX2_howManyToldOtherwise 0 = .ok (.iconst 0, 1) := by decide +kernel
theorem dX2_howManyToldOtherwise_1 : decode cX2_howManyToldOtherwise 1 = .ok (.istore_n 2, 1) := by decide +kernel
theorem dX2_howManyToldOtherwise_2 : decode cX2_howManyToldOtherwise 2 = .ok (.iconst 0, 1) := by decide +kernel
theorem dX2_howManyToldOtherwise_3 : decode cX2_howManyToldOtherwise 3 = .ok (.istore_n 3, 1) := by decide +kernel
theorem dX2_howManyToldOtherwise_4 : decode cX2_howManyToldOtherwise 4 = .ok (.iload_n 3, 1) := by decide +kernel
theorem dX2_howManyToldOtherwise_5 : decode cX2_howManyToldOtherwise 5 = .ok (.aload_n 0, 1) := by decide +kernel
theorem dX2_howManyToldOtherwise_6 : decode cX2_howManyToldOtherwise 6 = .ok (.invokevirtual 90, 3) := by decide +kernel
theorem dX2_howManyToldOtherwise_9 : decode cX2_howManyToldOtherwise 9 = .ok (.if_icmp .ge 46, 3) := by decide +kernel
theorem dX2_howManyToldOtherwise_12 : decode cX2_howManyToldOtherwise 12 = .ok (.aload_n 0, 1) := by decide +kernel
theorem dX2_howManyToldOtherwise_13 : decode cX2_howManyToldOtherwise 13 = .ok (.getfield 10, 3) := by decide +kernel
theorem dX2_howManyToldOtherwise_16 : decode cX2_howManyToldOtherwise 16 = .ok (.getfield 108, 3) := by decide +kernel
theorem dX2_howManyToldOtherwise_19 : decode cX2_howManyToldOtherwise 19 = .ok (.iload_n 3, 1) := by decide +kernel
theorem dX2_howManyToldOtherwise_20 : decode cX2_howManyToldOtherwise 20 = .ok (.iaload, 1) := by decide +kernel
theorem dX2_howManyToldOtherwise_21 : decode cX2_howManyToldOtherwise 21 = .ok (.istore 4, 2) := by decide +kernel
theorem dX2_howManyToldOtherwise_23 : decode cX2_howManyToldOtherwise 23 = .ok (.iload 4, 2) := by decide +kernel
theorem dX2_howManyToldOtherwise_25 : decode cX2_howManyToldOtherwise 25 = .ok (.ifCond .eq 24, 3) := by decide +kernel
theorem dX2_howManyToldOtherwise_28 : decode cX2_howManyToldOtherwise 28 = .ok (.iload 4, 2) := by decide +kernel
theorem dX2_howManyToldOtherwise_30 : decode cX2_howManyToldOtherwise 30 = .ok (.ifCond .ge 7, 3) := by decide +kernel
theorem dX2_howManyToldOtherwise_33 : decode cX2_howManyToldOtherwise 33 = .ok (.iconst 1, 1) := by decide +kernel
theorem dX2_howManyToldOtherwise_34 : decode cX2_howManyToldOtherwise 34 = .ok (.goto 4, 3) := by decide +kernel
theorem dX2_howManyToldOtherwise_37 : decode cX2_howManyToldOtherwise 37 = .ok (.iconst 0, 1) := by decide +kernel
theorem dX2_howManyToldOtherwise_38 : decode cX2_howManyToldOtherwise 38 = .ok (.iload_n 1, 1) := by decide +kernel
theorem dX2_howManyToldOtherwise_39 : decode cX2_howManyToldOtherwise 39 = .ok (.iload_n 3, 1) := by decide +kernel
theorem dX2_howManyToldOtherwise_40 : decode cX2_howManyToldOtherwise 40 = .ok (.invokestatic 111, 3) := by decide +kernel
theorem dX2_howManyToldOtherwise_43 : decode cX2_howManyToldOtherwise 43 = .ok (.if_icmp .eq 6, 3) := by decide +kernel
theorem dX2_howManyToldOtherwise_46 : decode cX2_howManyToldOtherwise 46 = .ok (.iinc 2 1, 3) := by decide +kernel
theorem dX2_howManyToldOtherwise_49 : decode cX2_howManyToldOtherwise 49 = .ok (.iinc 3 1, 3) := by decide +kernel
theorem dX2_howManyToldOtherwise_52 : decode cX2_howManyToldOtherwise 52 = .ok (.goto (-48), 3) := by decide +kernel
theorem dX2_howManyToldOtherwise_55 : decode cX2_howManyToldOtherwise 55 = .ok (.iload_n 2, 1) := by decide +kernel
theorem dX2_howManyToldOtherwise_56 : decode cX2_howManyToldOtherwise 56 = .ok (.ireturn, 1) := by decide +kernel
set_option maxRecDepth 20000 in
theorem ggX2_tellKept_X1_clear : GoodIn wsX2_tellKept wsX1_clear := goodIn_r _ [8, 9, 93, 94, 95] (by decide +kernel) (by decide +kernel)
set_option maxRecDepth 20000 in
theorem gX2_tellKept_X1_clear : GoodIn wsX2_tellKept (wsV RX2 218 RX1 yX1_clear wsX1_clear) := goodIn_app (goodIn_of _ (by decide +kernel)) ggX2_tellKept_X1_clear
set_option maxRecDepth 20000 in
theorem ggX2_tellKept_X1_add : GoodIn wsX2_tellKept wsX1_add := goodIn_r _ [13, 9, 14, 15, 16, 17, 18, 7, 19, 93, 94, 95] (by decide +kernel) (by decide +kernel)
set_option maxRecDepth 20000 in
theorem gX2_tellKept_X1_add : GoodIn wsX2_tellKept (wsV RX2 221 RX1 yX1_add wsX1_add) := goodIn_app (goodIn_of _ (by decide +kernel)) ggX2_tellKept_X1_add
set_option maxRecDepth 20000 in
theorem ggX2_tellKept_X2_places : GoodIn wsX2_tellKept wsX2_places := goodIn_r _ [24, 3, 79, 80, 81, 82, 83, 84, 85, 86, 87, 88, 89, 90, 91, 92] (by decide +kernel) (by decide +kernel)
set_option maxRecDepth 20000 in
theorem gX2_tellKept_X2_places : GoodIn wsX2_tellKept (wsV RX2 90 RX2 yX2_places wsX2_places) := goodIn_app (goodIn_of _ (by decide +kernel)) ggX2_tellKept_X2_places
set_option maxRecDepth 20000 in
theorem ggX2_tellKept_X2_growBy : GoodIn wsX2_tellKept wsX2_growBy := goodIn_r _ [28, 2, 1, 4, 5, 6, 7, 8, 9, 29, 30, 31, 23, 32, 3, 33, 34, 35, 36, 37, 20, 21, 22, 24, 38, 39, 40, 41, 42, 43, 44, 45, 46, 47, 48, 49, 50, 51, 52, 53, 54, 55, 56, 57, 58, 59, 60, 61, 62, 63, 64, 65, 66, 67, 68, 10, 11, 12, 13, 14, 15, 16, 17, 18, 19, 69, 70, 71, 72, 79, 80, 81, 82, 83, 84, 85, 93, 94, 95, 86, 87, 88, 89, 90, 91, 92] (by decide +kernel) (by decide +kernel)
set_option maxRecDepth 20000 in
theorem gX2_tellKept_X2_growBy : GoodIn wsX2_tellKept (wsV RX2 224 RX2 yX2_growBy wsX2_growBy) := goodIn_app (goodIn_of _ (by decide +kernel)) ggX2_tellKept_X2_growBy
set_option maxRecDepth 20000 in
theorem ggX2_tellKept_X1_takeFirst : GoodIn wsX2_tellKept wsX1_takeFirst := goodIn_r _ [76, 9, 77, 50, 47, 51, 14, 78, 35, 36, 37, 15, 93, 94, 95] (by decide +kernel) (by decide +kernel)
set_option maxRecDepth 20000 in
theorem gX2_tellKept_X1_takeFirst : GoodIn wsX2_tellKept (wsV RX2 227 RX1 yX1_takeFirst wsX1_takeFirst) := goodIn_app (goodIn_of _ (by decide +kernel)) ggX2_tellKept_X1_takeFirst
theorem dX2_tellKept_0 : decode cX2_tellKept 0 = .ok (.aload_n 0, 1) := by decide +kernel
theorem dX2_tellKept_1 : decode cX2_tellKept 1 = .ok (.getfield 33, 3) := by decide +kernel
theorem dX2_tellKept_4 : decode cX2_tellKept 4 = .ok (.invokevirtual 218, 3) := by decide +kernel
theorem dX2_tellKept_7 : decode cX2_tellKept 7 = .ok (.aload_n 0, 1) := by decide +kernel
theorem dX2_tellKept_8 : decode cX2_tellKept 8 = .ok (.getfield 33, 3) := by decide +kernel
theorem dX2_tellKept_11 : decode cX2_tellKept 11 = .ok (.iconst 0, 1) := by decide +kernel
theorem dX2_tellKept_12 : decode cX2_tellKept 12 = .ok (.iconst 0, 1) := by decide +kernel
theorem dX2_tellKept_13 : decode cX2_tellKept 13 = .ok (.invokevirtual 221, 3) := by decide +kernel
theorem dX2_tellKept_16 : decode cX2_tellKept 16 = .ok (.iconst 0, 1) := by decide +kernel
theorem dX2_tellKept_17 : decode cX2_tellKept 17 = .ok (.istore_n 1, 1) := by decide +kernel
theorem dX2_tellKept_18 : decode cX2_tellKept 18 = .ok (.iload_n 1, 1) := by decide +kernel
theorem dX2_tellKept_19 : decode cX2_tellKept 19 = .ok (.aload_n 0, 1) := by decide +kernel
theorem dX2_tellKept_20 : decode cX2_tellKept 20 = .ok (.invokevirtual 90, 3) := by decide +kernel
theorem dX2_tellKept_23 : decode cX2_tellKept 23 = .ok (.if_icmp .ge 32, 3) := by decide +kernel
theorem dX2_tellKept_26 : decode cX2_tellKept 26 = .ok (.aload_n 0, 1) := by decide +kernel
theorem dX2_tellKept_27 : decode cX2_tellKept 27 = .ok (.iload_n 1, 1) := by decide +kernel
theorem dX2_tellKept_28 : decode cX2_tellKept 28 = .ok (.invokevirtual 224, 3) := by decide +kernel
theorem dX2_tellKept_31 : decode cX2_tellKept 31 = .ok (.aload_n 0, 1) := by decide +kernel
theorem dX2_tellKept_32 : decode cX2_tellKept 32 = .ok (.getfield 33, 3) := by decide +kernel
theorem dX2_tellKept_35 : decode cX2_tellKept 35 = .ok (.aload_n 0, 1) := by decide +kernel
theorem dX2_tellKept_36 : decode cX2_tellKept 36 = .ok (.getfield 37, 3) := by decide +kernel
theorem dX2_tellKept_39 : decode cX2_tellKept 39 = .ok (.aload_n 0, 1) := by decide +kernel
theorem dX2_tellKept_40 : decode cX2_tellKept 40 = .ok (.getfield 10, 3) := by decide +kernel
theorem dX2_tellKept_43 : decode cX2_tellKept 43 = .ok (.getfield 131, 3) := by decide +kernel
theorem dX2_tellKept_46 : decode cX2_tellKept 46 = .ok (.invokevirtual 227, 3) := by decide +kernel
theorem dX2_tellKept_49 : decode cX2_tellKept 49 = .ok (.iinc 1 1, 3) := by decide +kernel
theorem dX2_tellKept_52 : decode cX2_tellKept 52 = .ok (.goto (-34), 3) := by decide +kernel
theorem dX2_tellKept_55 : decode cX2_tellKept 55 = .ok (.return_, 1) := by decide +kernel
set_option maxRecDepth 20000 in
theorem ggX2_growBy_X1_clear : GoodIn wsX2_growBy wsX1_clear := goodIn_r _ [7, 8, 76, 77, 78] (by decide +kernel) (by decide +kernel)
set_option maxRecDepth 20000 in
theorem gX2_growBy_X1_clear : GoodIn wsX2_growBy (wsV RX2 218 RX1 yX1_clear wsX1_clear) := goodIn_app (goodIn_of _ (by decide +kernel)) ggX2_growBy_X1_clear
set_option maxRecDepth 20000 in
theorem ggX2_growBy_X2_seenOf : GoodIn wsX2_growBy wsX2_seenOf := goodIn_r _ [13, 14, 15, 16, 17, 18, 19, 20, 21, 22, 12, 23, 24, 25, 26, 27, 28, 29, 30, 31, 32, 33, 34, 35, 36, 37, 38, 39, 40, 41, 42, 43, 44, 45, 46, 47, 48, 69, 70, 71, 72, 73, 74, 75, 79, 80, 81, 82, 83, 84, 85] (by decide +kernel) (by decide +kernel)
set_option maxRecDepth 20000 in
theorem gX2_growBy_X2_seenOf : GoodIn wsX2_growBy (wsV RX2 118 RX2 yX2_seenOf wsX2_seenOf) := goodIn_app (goodIn_of _ (by decide +kernel)) ggX2_growBy_X2_seenOf
set_option maxRecDepth 20000 in
theorem ggX2_growBy_X2_fineOfBit : GoodIn wsX2_growBy wsX2_fineOfBit := goodIn_r _ [51, 52, 53, 33, 54] (by decide +kernel) (by decide +kernel)
set_option maxRecDepth 20000 in
theorem gX2_growBy_X2_fineOfBit : GoodIn wsX2_growBy (va_wsS RX2 215 yX2_fineOfBit wsX2_fineOfBit) := goodIn_app (goodIn_of _ (by decide +kernel)) ggX2_growBy_X2_fineOfBit
set_option maxRecDepth 20000 in
theorem ggX2_growBy_X1_add : GoodIn wsX2_growBy wsX1_add := goodIn_r _ [58, 8, 59, 60, 61, 62, 63, 6, 64, 76, 77, 78] (by decide +kernel) (by decide +kernel)
set_option maxRecDepth 20000 in
theorem gX2_growBy_X1_add : GoodIn wsX2_growBy (wsV RX2 221 RX1 yX1_add wsX1_add) := goodIn_app (goodIn_of _ (by decide +kernel)) ggX2_growBy_X1_add
set_option maxRecDepth 20000 in
theorem ggX2_growBy_X2_isFree : GoodIn wsX2_growBy wsX2_isFree := goodIn_r _ [68, 14, 46, 47, 12, 48, 69, 70, 71, 72, 73, 74, 75, 79, 80, 81, 82, 83, 84, 85] (by decide +kernel) (by decide +kernel)
set_option maxRecDepth 20000 in
theorem gX2_growBy_X2_isFree : GoodIn wsX2_growBy (wsV RX2 96 RX2 yX2_isFree wsX2_isFree) := goodIn_app (goodIn_of _ (by decide +kernel)) ggX2_growBy_X2_isFree
theorem dX2_growBy_0 : decode cX2_growBy 0 = .ok (.aload_n 0, 1) := by decide +kernel
theorem dX2_growBy_1 : decode cX2_growBy 1 = .ok (.getfield 37, 3) := by decide +kernel
theorem dX2_growBy_4 : decode cX2_growBy 4 = .ok (.invokevirtual 218, 3) := by decide +kernel
theorem dX2_growBy_7 : decode cX2_growBy 7 = .ok (.iconst 0, 1) := by decide +kernel
theorem dX2_growBy_8 : decode cX2_growBy 8 = .ok (.istore_n 2, 1) := by decide +kernel
theorem dX2_growBy_9 : decode cX2_growBy 9 = .ok (.iload_n 2, 1) := by decide +kernel
theorem dX2_growBy_10 : decode cX2_growBy 10 = .ok (.aload_n 0, 1) := by decide +kernel
theorem dX2_growBy_11 : decode cX2_growBy 11 = .ok (.getfield 33, 3) := by decide +kernel
theorem dX2_growBy_14 : decode cX2_growBy 14 = .ok (.getfield 137, 3) := by decide +kernel
theorem dX2_growBy_17 : decode cX2_growBy 17 = .ok (.if_icmp .ge 84, 3) := by decide +kernel
theorem dX2_growBy_20 : decode cX2_growBy 20 = .ok (.aload_n 0, 1) := by decide +kernel
theorem dX2_growBy_21 : decode cX2_growBy 21 = .ok (.getfield 33, 3) := by decide +kernel
theorem dX2_growBy_24 : decode cX2_growBy 24 = .ok (.getfield 143, 3) := by decide +kernel
theorem dX2_growBy_27 : decode cX2_growBy 27 = .ok (.iload_n 2, 1) := by decide +kernel
theorem dX2_growBy_28 : decode cX2_growBy 28 = .ok (.iaload, 1) := by decide +kernel
theorem dX2_growBy_29 : decode cX2_growBy 29 = .ok (.istore_n 3, 1) := by decide +kernel
theorem dX2_growBy_30 : decode cX2_growBy 30 = .ok (.aload_n 0, 1) := by decide +kernel
theorem dX2_growBy_31 : decode cX2_growBy 31 = .ok (.getfield 33, 3) := by decide +kernel
theorem dX2_growBy_34 : decode cX2_growBy 34 = .ok (.getfield 146, 3) := by decide +kernel
theorem dX2_growBy_37 : decode cX2_growBy 37 = .ok (.iload_n 2, 1) := by decide +kernel
theorem dX2_growBy_38 : decode cX2_growBy 38 = .ok (.iaload, 1) := by decide +kernel
theorem dX2_growBy_39 : decode cX2_growBy 39 = .ok (.istore 4, 2) := by decide +kernel
theorem dX2_growBy_41 : decode cX2_growBy 41 = .ok (.aload_n 0, 1) := by decide +kernel
theorem dX2_growBy_42 : decode cX2_growBy 42 = .ok (.iload_n 1, 1) := by decide +kernel
theorem dX2_growBy_43 : decode cX2_growBy 43 = .ok (.iload_n 3, 1) := by decide +kernel
theorem dX2_growBy_44 : decode cX2_growBy 44 = .ok (.invokevirtual 118, 3) := by decide +kernel
theorem dX2_growBy_47 : decode cX2_growBy 47 = .ok (.istore 5, 2) := by decide +kernel
theorem dX2_growBy_49 : decode cX2_growBy 49 = .ok (.aload_n 0, 1) := by decide +kernel
theorem dX2_growBy_50 : decode cX2_growBy 50 = .ok (.getfield 37, 3) := by decide +kernel
theorem dX2_growBy_53 : decode cX2_growBy 53 = .ok (.iload_n 3, 1) := by decide +kernel
theorem dX2_growBy_54 : decode cX2_growBy 54 = .ok (.iload 4, 2) := by decide +kernel
theorem dX2_growBy_56 : decode cX2_growBy 56 = .ok (.iload 5, 2) := by decide +kernel
theorem dX2_growBy_58 : decode cX2_growBy 58 = .ok (.iconst 0, 1) := by decide +kernel
theorem dX2_growBy_59 : decode cX2_growBy 59 = .ok (.invokestatic 215, 3) := by decide +kernel
theorem dX2_growBy_62 : decode cX2_growBy 62 = .ok (.iadd, 1) := by decide +kernel
theorem dX2_growBy_63 : decode cX2_growBy 63 = .ok (.invokevirtual 221, 3) := by decide +kernel
theorem dX2_growBy_66 : decode cX2_growBy 66 = .ok (.aload_n 0, 1) := by decide +kernel
theorem dX2_growBy_67 : decode cX2_growBy 67 = .ok (.iload_n 1, 1) := by decide +kernel
theorem dX2_growBy_68 : decode cX2_growBy 68 = .ok (.invokevirtual 96, 3) := by decide +kernel
theorem dX2_growBy_71 : decode cX2_growBy 71 = .ok (.ifCond .eq 24, 3) := by decide +kernel
theorem dX2_growBy_74 : decode cX2_growBy 74 = .ok (.aload_n 0, 1) := by decide +kernel
theorem dX2_growBy_75 : decode cX2_growBy 75 = .ok (.getfield 37, 3) := by decide +kernel
theorem dX2_growBy_78 : decode cX2_growBy 78 = .ok (.iload_n 3, 1) := by decide +kernel
theorem dX2_growBy_79 : decode cX2_growBy 79 = .ok (.iconst 1, 1) := by decide +kernel
theorem dX2_growBy_80 : decode cX2_growBy 80 = .ok (.iload_n 1, 1) := by decide +kernel
theorem dX2_growBy_81 : decode cX2_growBy 81 = .ok (.ishl, 1) := by decide +kernel
theorem dX2_growBy_82 : decode cX2_growBy 82 = .ok (.ior, 1) := by decide +kernel
theorem dX2_growBy_83 : decode cX2_growBy 83 = .ok (.iload 4, 2) := by decide +kernel
theorem dX2_growBy_85 : decode cX2_growBy 85 = .ok (.iload 5, 2) := by decide +kernel
theorem dX2_growBy_87 : decode cX2_growBy 87 = .ok (.iconst 1, 1) := by decide +kernel
theorem dX2_growBy_88 : decode cX2_growBy 88 = .ok (.invokestatic 215, 3) := by decide +kernel
theorem dX2_growBy_91 : decode cX2_growBy 91 = .ok (.iadd, 1) := by decide +kernel
theorem dX2_growBy_92 : decode cX2_growBy 92 = .ok (.invokevirtual 221, 3) := by decide +kernel
theorem dX2_growBy_95 : decode cX2_growBy 95 = .ok (.iinc 2 1, 3) := by decide +kernel
theorem dX2_growBy_98 : decode cX2_growBy 98 = .ok (.goto (-89), 3) := by decide +kernel
theorem dX2_growBy_101 : decode cX2_growBy 101 = .ok (.return_, 1) := by decide +kernel
set_option maxRecDepth 20000 in
theorem ggX2_firstThatHolds_X0_holds : GoodIn wsX2_firstThatHolds wsX0_holds := goodIn_r _ [7, 8, 9, 10, 11, 12, 13, 14, 15, 26, 27, 28, 29, 30, 31, 32] (by decide +kernel) (by decide +kernel)
set_option maxRecDepth 20000 in
theorem gX2_firstThatHolds_X0_holds : GoodIn wsX2_firstThatHolds (wsV RX2 128 RX0 yX0_holds wsX0_holds) := goodIn_app (goodIn_of _ (by decide +kernel)) ggX2_firstThatHolds_X0_holds
theorem dX2_firstThatHolds_0 : decode cX2_firstThatHolds 0 = .ok (.iconst 0, 1) := by decide +kernel
theorem dX2_firstThatHolds_1 : decode cX2_firstThatHolds 1 = .ok (.istore_n 1, 1) := by decide +kernel
theorem dX2_firstThatHolds_2 : decode cX2_firstThatHolds 2 = .ok (.iload_n 1, 1) := by decide +kernel
theorem dX2_firstThatHolds_3 : decode cX2_firstThatHolds 3 = .ok (.aload_n 0, 1) := by decide +kernel
theorem dX2_firstThatHolds_4 : decode cX2_firstThatHolds 4 = .ok (.getfield 33, 3) := by decide +kernel
theorem dX2_firstThatHolds_7 : decode cX2_firstThatHolds 7 = .ok (.getfield 137, 3) := by decide +kernel
theorem dX2_firstThatHolds_10 : decode cX2_firstThatHolds 10 = .ok (.if_icmp .ge 30, 3) := by decide +kernel
theorem dX2_firstThatHolds_13 : decode cX2_firstThatHolds 13 = .ok (.aload_n 0, 1) := by decide +kernel
theorem dX2_firstThatHolds_14 : decode cX2_firstThatHolds 14 = .ok (.getfield 10, 3) := by decide +kernel
theorem dX2_firstThatHolds_17 : decode cX2_firstThatHolds 17 = .ok (.aload_n 0, 1) := by decide +kernel
theorem dX2_firstThatHolds_18 : decode cX2_firstThatHolds 18 = .ok (.getfield 33, 3) := by decide +kernel
theorem dX2_firstThatHolds_21 : decode cX2_firstThatHolds 21 = .ok (.getfield 143, 3) := by decide +kernel
theorem dX2_firstThatHolds_24 : decode cX2_firstThatHolds 24 = .ok (.iload_n 1, 1) := by decide +kernel
theorem dX2_firstThatHolds_25 : decode cX2_firstThatHolds 25 = .ok (.iaload, 1) := by decide +kernel
theorem dX2_firstThatHolds_26 : decode cX2_firstThatHolds 26 = .ok (.invokevirtual 128, 3) := by decide +kernel
theorem dX2_firstThatHolds_29 : decode cX2_firstThatHolds 29 = .ok (.ifCond .eq 5, 3) := by decide +kernel
theorem dX2_firstThatHolds_32 : decode cX2_firstThatHolds 32 = .ok (.iload_n 1, 1) := by decide +kernel
theorem dX2_firstThatHolds_33 : decode cX2_firstThatHolds 33 = .ok (.ireturn, 1) := by decide +kernel
theorem dX2_firstThatHolds_34 : decode cX2_firstThatHolds 34 = .ok (.iinc 1 1, 3) := by decide +kernel
theorem dX2_firstThatHolds_37 : decode cX2_firstThatHolds 37 = .ok (.goto (-35), 3) := by decide +kernel
theorem dX2_firstThatHolds_40 : decode cX2_firstThatHolds 40 = .ok (.bipush (-6), 2) := by decide +kernel
theorem dX2_firstThatHolds_42 : decode cX2_firstThatHolds 42 = .ok (.ireturn, 1) := by decide +kernel
theorem dX2_openFor_0 : decode cX2_openFor 0 = .ok (.iload_n 1, 1) := by decide +kernel
theorem dX2_openFor_1 : decode cX2_openFor 1 = .ok (.istore_n 2, 1) := by decide +kernel
theorem dX2_openFor_2 : decode cX2_openFor 2 = .ok (.getstatic 184, 3) := by decide +kernel
theorem dX2_openFor_5 : decode cX2_openFor 5 = .ok (.arraylength, 1) := by decide +kernel
theorem dX2_openFor_6 : decode cX2_openFor 6 = .ok (.iconst 1, 1) := by decide +kernel
theorem dX2_openFor_7 : decode cX2_openFor 7 = .ok (.isub, 1) := by decide +kernel
theorem dX2_openFor_8 : decode cX2_openFor 8 = .ok (.istore_n 3, 1) := by decide +kernel
theorem dX2_openFor_9 : decode cX2_openFor 9 = .ok (.iload_n 3, 1) := by decide +kernel
theorem dX2_openFor_10 : decode cX2_openFor 10 = .ok (.ifCond .lt 52, 3) := by decide +kernel
theorem dX2_openFor_13 : decode cX2_openFor 13 = .ok (.iconst 1, 1) := by decide +kernel
theorem dX2_openFor_14 : decode cX2_openFor 14 = .ok (.iload_n 3, 1) := by decide +kernel
theorem dX2_openFor_15 : decode cX2_openFor 15 = .ok (.ishl, 1) := by decide +kernel
theorem dX2_openFor_16 : decode cX2_openFor 16 = .ok (.istore 4, 2) := by decide +kernel
theorem dX2_openFor_18 : decode cX2_openFor 18 = .ok (.getstatic 184, 3) := by decide +kernel
theorem dX2_openFor_21 : decode cX2_openFor 21 = .ok (.iload_n 3, 1) := by decide +kernel
theorem dX2_openFor_22 : decode cX2_openFor 22 = .ok (.iaload, 1) := by decide +kernel
theorem dX2_openFor_23 : decode cX2_openFor 23 = .ok (.istore 5, 2) := by decide +kernel
theorem dX2_openFor_25 : decode cX2_openFor 25 = .ok (.iload_n 2, 1) := by decide +kernel
theorem dX2_openFor_26 : decode cX2_openFor 26 = .ok (.iload_n 2, 1) := by decide +kernel
theorem dX2_openFor_27 : decode cX2_openFor 27 = .ok (.iload 4, 2) := by decide +kernel
theorem dX2_openFor_29 : decode cX2_openFor 29 = .ok (.ishr, 1) := by decide +kernel
theorem dX2_openFor_30 : decode cX2_openFor 30 = .ok (.ior, 1) := by decide +kernel
theorem dX2_openFor_31 : decode cX2_openFor 31 = .ok (.iload 5, 2) := by decide +kernel
theorem dX2_openFor_33 : decode cX2_openFor 33 = .ok (.iand, 1) := by decide +kernel
theorem dX2_openFor_34 : decode cX2_openFor 34 = .ok (.istore 6, 2) := by decide +kernel
theorem dX2_openFor_36 : decode cX2_openFor 36 = .ok (.iload_n 2, 1) := by decide +kernel
theorem dX2_openFor_37 : decode cX2_openFor 37 = .ok (.iload_n 2, 1) := by decide +kernel
theorem dX2_openFor_38 : decode cX2_openFor 38 = .ok (.iload 4, 2) := by decide +kernel
theorem dX2_openFor_40 : decode cX2_openFor 40 = .ok (.ishl, 1) := by decide +kernel
theorem dX2_openFor_41 : decode cX2_openFor 41 = .ok (.iand, 1) := by decide +kernel
theorem dX2_openFor_42 : decode cX2_openFor 42 = .ok (.iload 5, 2) := by decide +kernel
theorem dX2_openFor_44 : decode cX2_openFor 44 = .ok (.iload 4, 2) := by decide +kernel
theorem dX2_openFor_46 : decode cX2_openFor 46 = .ok (.ishl, 1) := by decide +kernel
theorem dX2_openFor_47 : decode cX2_openFor 47 = .ok (.iand, 1) := by decide +kernel
theorem dX2_openFor_48 : decode cX2_openFor 48 = .ok (.istore 7, 2) := by decide +kernel
theorem dX2_openFor_50 : decode cX2_openFor 50 = .ok (.iload 6, 2) := by decide +kernel
theorem dX2_openFor_52 : decode cX2_openFor 52 = .ok (.iload 7, 2) := by decide +kernel
theorem dX2_openFor_54 : decode cX2_openFor 54 = .ok (.ior, 1) := by decide +kernel
theorem dX2_openFor_55 : decode cX2_openFor 55 = .ok (.istore_n 2, 1) := by decide +kernel
theorem dX2_openFor_56 : decode cX2_openFor 56 = .ok (.iinc 3 (-1), 3) := by decide +kernel
theorem dX2_openFor_59 : decode cX2_openFor 59 = .ok (.goto (-50), 3) := by decide +kernel
theorem dX2_openFor_62 : decode cX2_openFor 62 = .ok (.iload_n 2, 1) := by decide +kernel
theorem dX2_openFor_63 : decode cX2_openFor 63 = .ok (.aload_n 0, 1) := by decide +kernel
theorem dX2_openFor_64 : decode cX2_openFor 64 = .ok (.getfield 10, 3) := by decide +kernel
theorem dX2_openFor_67 : decode cX2_openFor 67 = .ok (.getfield 83, 3) := by decide +kernel
theorem dX2_openFor_70 : decode cX2_openFor 70 = .ok (.iconst (-1), 1) := by decide +kernel
theorem dX2_openFor_71 : decode cX2_openFor 71 = .ok (.ixor, 1) := by decide +kernel
theorem dX2_openFor_72 : decode cX2_openFor 72 = .ok (.iand, 1) := by decide +kernel
theorem dX2_openFor_73 : decode cX2_openFor 73 = .ok (.ireturn, 1) := by decide +kernel
set_option maxRecDepth 20000 in
theorem ggX2_leastSetThatOpens_X2_places : GoodIn wsX2_leastSetThatOpens wsX2_places := goodIn_r _ [5, 6, 19, 20, 21, 22, 23, 24, 25, 26, 27, 28, 29, 30, 31, 32] (by decide +kernel) (by decide +kernel)
set_option maxRecDepth 20000 in
theorem gX2_leastSetThatOpens_X2_places : GoodIn wsX2_leastSetThatOpens (wsV RX2 90 RX2 yX2_places wsX2_places) := goodIn_app (goodIn_of _ (by decide +kernel)) ggX2_leastSetThatOpens_X2_places
set_option maxRecDepth 20000 in
theorem ggX2_leastSetThatOpens_X2_openFor : GoodIn wsX2_leastSetThatOpens wsX2_openFor := goodIn_r _ [10, 11, 6, 19, 20, 21, 22, 23, 24, 25, 26, 27, 28, 29, 30, 31, 32] (by decide +kernel) (by decide +kernel)
set_option maxRecDepth 20000 in
theorem gX2_leastSetThatOpens_X2_openFor : GoodIn wsX2_leastSetThatOpens (wsV RX2 155 RX2 yX2_openFor wsX2_openFor) := goodIn_app (goodIn_of _ (by decide +kernel)) ggX2_leastSetThatOpens_X2_openFor
set_option maxRecDepth 20000 in
theorem ggX2_leastSetThatOpens_X2_nextOfSize : GoodIn wsX2_leastSetThatOpens wsX2_nextOfSize := goodIn_r _ [14, 15, 16, 17, 18] (by decide +kernel) (by decide +kernel)
set_option maxRecDepth 20000 in
theorem gX2_leastSetThatOpens_X2_nextOfSize : GoodIn wsX2_leastSetThatOpens (va_wsS RX2 193 yX2_nextOfSize wsX2_nextOfSize) := goodIn_app (goodIn_of _ (by decide +kernel)) ggX2_leastSetThatOpens_X2_nextOfSize
theorem dX2_leastSetThatOpens_0 : decode cX2_leastSetThatOpens 0 = .ok (.iconst 1, 1) := by decide +kernel
theorem dX2_leastSetThatOpens_1 : decode cX2_leastSetThatOpens 1 = .ok (.aload_n 0, 1) := by decide +kernel
theorem dX2_leastSetThatOpens_2 : decode cX2_leastSetThatOpens 2 = .ok (.invokevirtual 90, 3) := by decide +kernel
theorem dX2_leastSetThatOpens_5 : decode cX2_leastSetThatOpens 5 = .ok (.ishl, 1) := by decide +kernel
theorem dX2_leastSetThatOpens_6 : decode cX2_leastSetThatOpens 6 = .ok (.istore_n 2, 1) := by decide +kernel
theorem dX2_leastSetThatOpens_7 : decode cX2_leastSetThatOpens 7 = .ok (.iconst 1, 1) := by decide +kernel
theorem dX2_leastSetThatOpens_8 : decode cX2_leastSetThatOpens 8 = .ok (.iload_n 1, 1) := by decide +kernel
theorem dX2_leastSetThatOpens_9 : decode cX2_leastSetThatOpens 9 = .ok (.ishl, 1) := by decide +kernel
theorem dX2_leastSetThatOpens_10 : decode cX2_leastSetThatOpens 10 = .ok (.iconst 1, 1) := by decide +kernel
theorem dX2_leastSetThatOpens_11 : decode cX2_leastSetThatOpens 11 = .ok (.isub, 1) := by decide +kernel
theorem dX2_leastSetThatOpens_12 : decode cX2_leastSetThatOpens 12 = .ok (.istore_n 3, 1) := by decide +kernel
theorem dX2_leastSetThatOpens_13 : decode cX2_leastSetThatOpens 13 = .ok (.iconst 0, 1) := by decide +kernel
theorem dX2_leastSetThatOpens_14 : decode cX2_leastSetThatOpens 14 = .ok (.istore 4, 2) := by decide +kernel
theorem dX2_leastSetThatOpens_16 : decode cX2_leastSetThatOpens 16 = .ok (.iload 4, 2) := by decide +kernel
theorem dX2_leastSetThatOpens_18 : decode cX2_leastSetThatOpens 18 = .ok (.iload_n 2, 1) := by decide +kernel
theorem dX2_leastSetThatOpens_19 : decode cX2_leastSetThatOpens 19 = .ok (.if_icmp .ge 29, 3) := by decide +kernel
theorem dX2_leastSetThatOpens_22 : decode cX2_leastSetThatOpens 22 = .ok (.iload_n 3, 1) := by decide +kernel
theorem dX2_leastSetThatOpens_23 : decode cX2_leastSetThatOpens 23 = .ok (.iload_n 2, 1) := by decide +kernel
theorem dX2_leastSetThatOpens_24 : decode cX2_leastSetThatOpens 24 = .ok (.if_icmp .ge 24, 3) := by decide +kernel
theorem dX2_leastSetThatOpens_27 : decode cX2_leastSetThatOpens 27 = .ok (.aload_n 0, 1) := by decide +kernel
theorem dX2_leastSetThatOpens_28 : decode cX2_leastSetThatOpens 28 = .ok (.iload_n 3, 1) := by decide +kernel
theorem dX2_leastSetThatOpens_29 : decode cX2_leastSetThatOpens 29 = .ok (.invokevirtual 155, 3) := by decide +kernel
theorem dX2_leastSetThatOpens_32 : decode cX2_leastSetThatOpens 32 = .ok (.ifCond .eq 5, 3) := by decide +kernel
theorem dX2_leastSetThatOpens_35 : decode cX2_leastSetThatOpens 35 = .ok (.iload_n 3, 1) := by decide +kernel
theorem dX2_leastSetThatOpens_36 : decode cX2_leastSetThatOpens 36 = .ok (.ireturn, 1) := by decide +kernel
theorem dX2_leastSetThatOpens_37 : decode cX2_leastSetThatOpens 37 = .ok (.iload_n 3, 1) := by decide +kernel
theorem dX2_leastSetThatOpens_38 : decode cX2_leastSetThatOpens 38 = .ok (.invokestatic 193, 3) := by decide +kernel
theorem dX2_leastSetThatOpens_41 : decode cX2_leastSetThatOpens 41 = .ok (.istore_n 3, 1) := by decide +kernel
theorem dX2_leastSetThatOpens_42 : decode cX2_leastSetThatOpens 42 = .ok (.iinc 4 1, 3) := by decide +kernel
theorem dX2_leastSetThatOpens_45 : decode cX2_leastSetThatOpens 45 = .ok (.goto (-29), 3) := by decide +kernel
theorem dX2_leastSetThatOpens_48 : decode cX2_leastSetThatOpens 48 = .ok (.bipush (-6), 2) := by decide +kernel
theorem dX2_leastSetThatOpens_50 : decode cX2_leastSetThatOpens 50 = .ok (.ireturn, 1) := by decide +kernel
theorem dX2_imageAt_0 : decode cX2_imageAt 0 = .ok (.iload_n 1, 1) := by decide +kernel
theorem dX2_imageAt_1 : decode cX2_imageAt 1 = .ok (.ifCond .ne 10, 3) := by decide +kernel
theorem dX2_imageAt_4 : decode cX2_imageAt 4 = .ok (.aload_n 0, 1) := by decide +kernel
theorem dX2_imageAt_5 : decode cX2_imageAt 5 = .ok (.getfield 16, 3) := by decide +kernel
theorem dX2_imageAt_8 : decode cX2_imageAt 8 = .ok (.goto 7, 3) := by decide +kernel
theorem dX2_imageAt_11 : decode cX2_imageAt 11 = .ok (.aload_n 0, 1) := by decide +kernel
theorem dX2_imageAt_12 : decode cX2_imageAt 12 = .ok (.getfield 19, 3) := by decide +kernel
theorem dX2_imageAt_15 : decode cX2_imageAt 15 = .ok (.areturn, 1) := by decide +kernel
theorem dX2_checkCounted_0 : decode cX2_checkCounted 0 = .ok (.iload_n 1, 1) := by decide +kernel
theorem dX2_checkCounted_1 : decode cX2_checkCounted 1 = .ok (.bipush 10, 2) := by decide +kernel
theorem dX2_checkCounted_3 : decode cX2_checkCounted 3 = .ok (.if_icmp .lt 9, 3) := by decide +kernel
theorem dX2_checkCounted_6 : decode cX2_checkCounted 6 = .ok (.iload_n 1, 1) := by decide +kernel
theorem dX2_checkCounted_7 : decode cX2_checkCounted 7 = .ok (.bipush 13, 2) := by decide +kernel
theorem dX2_checkCounted_9 : decode cX2_checkCounted 9 = .ok (.if_icmp .lt 6, 3) := by decide +kernel
theorem dX2_checkCounted_12 : decode cX2_checkCounted 12 = .ok (.bipush (-2), 2) := by decide +kernel
theorem dX2_checkCounted_14 : decode cX2_checkCounted 14 = .ok (.ireturn, 1) := by decide +kernel
theorem dX2_checkCounted_15 : decode cX2_checkCounted 15 = .ok (.aload_n 0, 1) := by decide +kernel
theorem dX2_checkCounted_16 : decode cX2_checkCounted 16 = .ok (.getfield 10, 3) := by decide +kernel
theorem dX2_checkCounted_19 : decode cX2_checkCounted 19 = .ok (.getfield 152, 3) := by decide +kernel
theorem dX2_checkCounted_22 : decode cX2_checkCounted 22 = .ok (.iload_n 1, 1) := by decide +kernel
theorem dX2_checkCounted_23 : decode cX2_checkCounted 23 = .ok (.bipush 10, 2) := by decide +kernel
theorem dX2_checkCounted_25 : decode cX2_checkCounted 25 = .ok (.isub, 1) := by decide +kernel
theorem dX2_checkCounted_26 : decode cX2_checkCounted 26 = .ok (.iaload, 1) := by decide +kernel
theorem dX2_checkCounted_27 : decode cX2_checkCounted 27 = .ok (.ireturn, 1) := by decide +kernel
theorem dX3_init_0 : decode cX3_init 0 = .ok (.aload_n 0, 1) := by decide +kernel
theorem dX3_init_1 : decode cX3_init 1 = .ok (.invokespecial 1, 3) := by decide +kernel
theorem dX3_init_4 : decode cX3_init 4 = .ok (.aload_n 0, 1) := by decide +kernel
theorem dX3_init_5 : decode cX3_init 5 = .ok (.bipush 24, 2) := by decide +kernel
theorem dX3_init_7 : decode cX3_init 7 = .ok (.newarray .int, 2) := by decide +kernel
theorem dX3_init_9 : decode cX3_init 9 = .ok (.putfield 7, 3) := by decide +kernel
theorem dX3_init_12 : decode cX3_init 12 = .ok (.aload_n 0, 1) := by decide +kernel
theorem dX3_init_13 : decode cX3_init 13 = .ok (.bipush 48, 2) := by decide +kernel
theorem dX3_init_15 : decode cX3_init 15 = .ok (.newarray .int, 2) := by decide +kernel
theorem dX3_init_17 : decode cX3_init 17 = .ok (.putfield 13, 3) := by decide +kernel
theorem dX3_init_20 : decode cX3_init 20 = .ok (.aload_n 0, 1) := by decide +kernel
theorem dX3_init_21 : decode cX3_init 21 = .ok (.iconst 2, 1) := by decide +kernel
theorem dX3_init_22 : decode cX3_init 22 = .ok (.newarray .boolean, 2) := by decide +kernel
theorem dX3_init_24 : decode cX3_init 24 = .ok (.putfield 16, 3) := by decide +kernel
theorem dX3_init_27 : decode cX3_init 27 = .ok (.aload_n 0, 1) := by decide +kernel
theorem dX3_init_28 : decode cX3_init 28 = .ok (.bipush 16, 2) := by decide +kernel
theorem dX3_init_30 : decode cX3_init 30 = .ok (.newarray .int, 2) := by decide +kernel
theorem dX3_init_32 : decode cX3_init 32 = .ok (.putfield 20, 3) := by decide +kernel
theorem dX3_init_35 : decode cX3_init 35 = .ok (.aload_n 0, 1) := by decide +kernel
theorem dX3_init_36 : decode cX3_init 36 = .ok (.bipush 16, 2) := by decide +kernel
theorem dX3_init_38 : decode cX3_init 38 = .ok (.newarray .int, 2) := by decide +kernel
theorem dX3_init_40 : decode cX3_init 40 = .ok (.putfield 23, 3) := by decide +kernel
theorem dX3_init_43 : decode cX3_init 43 = .ok (.aload_n 0, 1) := by decide +kernel
theorem dX3_init_44 : decode cX3_init 44 = .ok (.bipush 16, 2) := by decide +kernel
theorem dX3_init_46 : decode cX3_init 46 = .ok (.newarray .int, 2) := by decide +kernel
theorem dX3_init_48 : decode cX3_init 48 = .ok (.putfield 26, 3) := by decide +kernel
theorem dX3_init_51 : decode cX3_init 51 = .ok (.aload_n 0, 1) := by decide +kernel
theorem dX3_init_52 : decode cX3_init 52 = .ok (.getfield 7, 3) := by decide +kernel
theorem dX3_init_55 : decode cX3_init 55 = .ok (.iconst 0, 1) := by decide +kernel
theorem dX3_init_56 : decode cX3_init 56 = .ok (.iconst 3, 1) := by decide +kernel
theorem dX3_init_57 : decode cX3_init 57 = .ok (.iastore, 1) := by decide +kernel
theorem dX3_init_58 : decode cX3_init 58 = .ok (.aload_n 0, 1) := by decide +kernel
theorem dX3_init_59 : decode cX3_init 59 = .ok (.getfield 7, 3) := by decide +kernel
theorem dX3_init_62 : decode cX3_init 62 = .ok (.iconst 1, 1) := by decide +kernel
theorem dX3_init_63 : decode cX3_init 63 = .ok (.iconst 1, 1) := by decide +kernel
theorem dX3_init_64 : decode cX3_init 64 = .ok (.iastore, 1) := by decide +kernel
theorem dX3_init_65 : decode cX3_init 65 = .ok (.aload_n 0, 1) := by decide +kernel
theorem dX3_init_66 : decode cX3_init 66 = .ok (.getfield 7, 3) := by decide +kernel
theorem dX3_init_69 : decode cX3_init 69 = .ok (.iconst 2, 1) := by decide +kernel
theorem dX3_init_70 : decode cX3_init 70 = .ok (.iconst 2, 1) := by decide +kernel
theorem dX3_init_71 : decode cX3_init 71 = .ok (.iastore, 1) := by decide +kernel
theorem dX3_init_72 : decode cX3_init 72 = .ok (.aload_n 0, 1) := by decide +kernel
theorem dX3_init_73 : decode cX3_init 73 = .ok (.getfield 7, 3) := by decide +kernel
theorem dX3_init_76 : decode cX3_init 76 = .ok (.iconst 4, 1) := by decide +kernel
theorem dX3_init_77 : decode cX3_init 77 = .ok (.iconst 1, 1) := by decide +kernel
theorem dX3_init_78 : decode cX3_init 78 = .ok (.iastore, 1) := by decide +kernel
theorem dX3_init_79 : decode cX3_init 79 = .ok (.return_, 1) := by decide +kernel
theorem dX3_in_0 : decode cX3_in 0 = .ok (.iload_n 0, 1) := by decide +kernel
theorem dX3_in_1 : decode cX3_in 1 = .ok (.iload_n 1, 1) := by decide +kernel
theorem dX3_in_2 : decode cX3_in 2 = .ok (.if_icmp .lt 12, 3) := by decide +kernel
theorem dX3_in_5 : decode cX3_in 5 = .ok (.iload_n 0, 1) := by decide +kernel
theorem dX3_in_6 : decode cX3_in 6 = .ok (.iload_n 2, 1) := by decide +kernel
theorem dX3_in_7 : decode cX3_in 7 = .ok (.if_icmp .gt 7, 3) := by decide +kernel
theorem dX3_in_10 : decode cX3_in 10 = .ok (.iconst 1, 1) := by decide +kernel
theorem dX3_in_11 : decode cX3_in 11 = .ok (.goto 4, 3) := by decide +kernel
theorem dX3_in_14 : decode cX3_in 14 = .ok (.iconst 0, 1) := by decide +kernel
theorem dX3_in_15 : decode cX3_in 15 = .ok (.ireturn, 1) := by decide +kernel
theorem dX3_places_0 : decode cX3_places 0 = .ok (.iconst 1, 1) := by decide +kernel
theorem dX3_places_1 : decode cX3_places 1 = .ok (.aload_n 0, 1) := by decide +kernel
theorem dX3_places_2 : decode cX3_places 2 = .ok (.getfield 7, 3) := by decide +kernel
theorem dX3_places_5 : decode cX3_places 5 = .ok (.iconst 0, 1) := by decide +kernel
theorem dX3_places_6 : decode cX3_places 6 = .ok (.iaload, 1) := by decide +kernel
theorem dX3_places_7 : decode cX3_places 7 = .ok (.ishl, 1) := by decide +kernel
theorem dX3_places_8 : decode cX3_places 8 = .ok (.ireturn, 1) := by decide +kernel
set_option maxRecDepth 20000 in
theorem ggX3_isPlace_X3_places : GoodIn wsX3_isPlace wsX3_places := goodIn_r _ [5, 6, 10, 11, 12, 13, 14, 15, 16] (by decide +kernel) (by decide +kernel)
set_option maxRecDepth 20000 in
theorem gX3_isPlace_X3_places : GoodIn wsX3_isPlace (wsV RX3 29 RX3 yX3_places wsX3_places) := goodIn_app (goodIn_of _ (by decide +kernel)) ggX3_isPlace_X3_places
set_option maxRecDepth 20000 in
theorem ggX3_isPlace_X3_in : GoodIn wsX3_isPlace wsX3_in := goodIn_r _ [9] (by decide +kernel) (by decide +kernel)
set_option maxRecDepth 20000 in
theorem gX3_isPlace_X3_in : GoodIn wsX3_isPlace (va_wsS RX3 33 yX3_in wsX3_in) := goodIn_app (goodIn_of _ (by decide +kernel)) ggX3_isPlace_X3_in
theorem dX3_isPlace_0 : decode cX3_isPlace 0 = .ok (.iload_n 1, 1) := by decide +kernel
theorem dX3_isPlace_1 : decode cX3_isPlace 1 = .ok (.iconst 0, 1) := by decide +kernel
theorem dX3_isPlace_2 : decode cX3_isPlace 2 = .ok (.aload_n 0, 1) := by decide +kernel
theorem dX3_isPlace_3 : decode cX3_isPlace 3 = .ok (.invokevirtual 29, 3) := by decide +kernel
theorem dX3_isPlace_6 : decode cX3_isPlace 6 = .ok (.iconst 1, 1) := by decide +kernel
theorem dX3_isPlace_7 : decode cX3_isPlace 7 = .ok (.isub, 1) := by decide +kernel
theorem dX3_isPlace_8 : decode cX3_isPlace 8 = .ok (.invokestatic 33, 3) := by decide +kernel
theorem dX3_isPlace_11 : decode cX3_isPlace 11 = .ok (.ireturn, 1) := by decide +kernel
set_option maxRecDepth 20000 in
theorem ggX3_isRow_X3_places : GoodIn wsX3_isRow wsX3_places := goodIn_r _ [5, 6, 10, 11, 12, 13, 14, 15, 16] (by decide +kernel) (by decide +kernel)
set_option maxRecDepth 20000 in
theorem gX3_isRow_X3_places : GoodIn wsX3_isRow (wsV RX3 29 RX3 yX3_places wsX3_places) := goodIn_app (goodIn_of _ (by decide +kernel)) ggX3_isRow_X3_places
set_option maxRecDepth 20000 in
theorem ggX3_isRow_X3_in : GoodIn wsX3_isRow wsX3_in := goodIn_r _ [9] (by decide +kernel) (by decide +kernel)
set_option maxRecDepth 20000 in
theorem gX3_isRow_X3_in : GoodIn wsX3_isRow (va_wsS RX3 33 yX3_in wsX3_in) := goodIn_app (goodIn_of _ (by decide +kernel)) ggX3_isRow_X3_in
theorem dX3_isRow_0 : decode cX3_isRow 0 = .ok (.iload_n 1, 1) := by decide +kernel
theorem dX3_isRow_1 : decode cX3_isRow 1 = .ok (.iconst 0, 1) := by decide +kernel
theorem dX3_isRow_2 : decode cX3_isRow 2 = .ok (.iconst 1, 1) := by decide +kernel
theorem dX3_isRow_3 : decode cX3_isRow 3 = .ok (.aload_n 0, 1) := by decide +kernel
theorem dX3_isRow_4 : decode cX3_isRow 4 = .ok (.invokevirtual 29, 3) := by decide +kernel
theorem dX3_isRow_7 : decode cX3_isRow 7 = .ok (.ishl, 1) := by decide +kernel
theorem dX3_isRow_8 : decode cX3_isRow 8 = .ok (.iconst 1, 1) := by decide +kernel
theorem dX3_isRow_9 : decode cX3_isRow 9 = .ok (.isub, 1) := by decide +kernel
theorem dX3_isRow_10 : decode cX3_isRow 10 = .ok (.invokestatic 33, 3) := by decide +kernel
theorem dX3_isRow_13 : decode cX3_isRow 13 = .ok (.ireturn, 1) := by decide +kernel
theorem dX3_size_0 : decode cX3_size 0 = .ok (.iconst 0, 1) := by decide +kernel
theorem dX3_size_1 : decode cX3_size 1 = .ok (.istore_n 1, 1) := by decide +kernel
theorem dX3_size_2 : decode cX3_size 2 = .ok (.iconst 0, 1) := by decide +kernel
theorem dX3_size_3 : decode cX3_size 3 = .ok (.istore_n 2, 1) := by decide +kernel
theorem dX3_size_4 : decode cX3_size 4 = .ok (.iload_n 2, 1) := by decide +kernel
theorem dX3_size_5 : decode cX3_size 5 = .ok (.bipush 16, 2) := by decide +kernel
theorem dX3_size_7 : decode cX3_size 7 = .ok (.if_icmp .ge 17, 3) := by decide +kernel
theorem dX3_size_10 : decode cX3_size 10 = .ok (.iload_n 1, 1) := by decide +kernel
theorem dX3_size_11 : decode cX3_size 11 = .ok (.iload_n 0, 1) := by decide +kernel
theorem dX3_size_12 : decode cX3_size 12 = .ok (.iload_n 2, 1) := by decide +kernel
theorem dX3_size_13 : decode cX3_size 13 = .ok (.ishr, 1) := by decide +kernel
theorem dX3_size_14 : decode cX3_size 14 = .ok (.iconst 1, 1) := by decide +kernel
theorem dX3_size_15 : decode cX3_size 15 = .ok (.iand, 1) := by decide +kernel
theorem dX3_size_16 : decode cX3_size 16 = .ok (.iadd, 1) := by decide +kernel
theorem dX3_size_17 : decode cX3_size 17 = .ok (.istore_n 1, 1) := by decide +kernel
theorem dX3_size_18 : decode cX3_size 18 = .ok (.iinc 2 1, 3) := by decide +kernel
theorem dX3_size_21 : decode cX3_size 21 = .ok (.goto (-17), 3) := by decide +kernel
theorem dX3_size_24 : decode cX3_size 24 = .ok (.iload_n 1, 1) := by decide +kernel
theorem dX3_size_25 : decode cX3_size 25 = .ok (.ireturn, 1) := by decide +kernel
theorem dX3_plain_0 : decode cX3_plain 0 = .ok (.iload_n 0, 1) := by decide +kernel
theorem dX3_plain_1 : decode cX3_plain 1 = .ok (.ifCond .ge 8, 3) := by decide +kernel
theorem dX3_plain_4 : decode cX3_plain 4 = .ok (.iload_n 0, 1) := by decide +kernel
theorem dX3_plain_5 : decode cX3_plain 5 = .ok (.ineg, 1) := by decide +kernel
theorem dX3_plain_6 : decode cX3_plain 6 = .ok (.goto 4, 3) := by decide +kernel
theorem dX3_plain_9 : decode cX3_plain 9 = .ok (.iload_n 0, 1) := by decide +kernel
theorem dX3_plain_10 : decode cX3_plain 10 = .ok (.ireturn, 1) := by decide +kernel
set_option maxRecDepth 20000 in
theorem ggX3_free_X3_places : GoodIn wsX3_free wsX3_places := goodIn_r _ [6, 1, 7, 8, 9, 10, 11, 12, 13] (by decide +kernel) (by decide +kernel)
set_option maxRecDepth 20000 in
theorem gX3_free_X3_places : GoodIn wsX3_free (wsV RX3 29 RX3 yX3_places wsX3_places) := goodIn_app (goodIn_of _ (by decide +kernel)) ggX3_free_X3_places
theorem dX3_free_0 : decode cX3_free 0 = .ok (.iconst 1, 1) := by decide +kernel
theorem dX3_free_1 : decode cX3_free 1 = .ok (.aload_n 0, 1) := by decide +kernel
theorem dX3_free_2 : decode cX3_free 2 = .ok (.invokevirtual 29, 3) := by decide +kernel
theorem dX3_free_5 : decode cX3_free 5 = .ok (.ishl, 1) := by decide +kernel
theorem dX3_free_6 : decode cX3_free 6 = .ok (.iconst 1, 1) := by decide +kernel
theorem dX3_free_7 : decode cX3_free 7 = .ok (.isub, 1) := by decide +kernel
theorem dX3_free_8 : decode cX3_free 8 = .ok (.aload_n 0, 1) := by decide +kernel
theorem dX3_free_9 : decode cX3_free 9 = .ok (.getfield 7, 3) := by decide +kernel
theorem dX3_free_12 : decode cX3_free 12 = .ok (.iconst 3, 1) := by decide +kernel
theorem dX3_free_13 : decode cX3_free 13 = .ok (.iaload, 1) := by decide +kernel
theorem dX3_free_14 : decode cX3_free 14 = .ok (.iconst (-1), 1) := by decide +kernel
theorem dX3_free_15 : decode cX3_free 15 = .ok (.ixor, 1) := by decide +kernel
theorem dX3_free_16 : decode cX3_free 16 = .ok (.iand, 1) := by decide +kernel
theorem dX3_free_17 : decode cX3_free 17 = .ok (.ireturn, 1) := by decide +kernel
set_option maxRecDepth 20000 in
theorem ggX3_deep_X3_in : GoodIn wsX3_deep wsX3_in := goodIn_r _ [5] (by decide +kernel) (by decide +kernel)
set_option maxRecDepth 20000 in
theorem gX3_deep_X3_in : GoodIn wsX3_deep (va_wsS RX3 33 yX3_in wsX3_in) := goodIn_app (goodIn_of _ (by decide +kernel)) ggX3_deep_X3_in
theorem dX3_deep_0 : decode cX3_deep 0 = .ok (.iload_n 1, 1) := by decide +kernel
theorem dX3_deep_1 : decode cX3_deep 1 = .ok (.iconst 1, 1) := by decide +kernel
theorem dX3_deep_2 : decode cX3_deep 2 = .ok (.iconst 4, 1) := by decide +kernel
theorem dX3_deep_3 : decode cX3_deep 3 = .ok (.invokestatic 33, 3) := by decide +kernel
theorem dX3_deep_6 : decode cX3_deep 6 = .ok (.ifCond .ne 6, 3) := by decide +kernel
theorem dX3_deep_9 : decode cX3_deep 9 = .ok (.bipush (-2), 2) := by decide +kernel
theorem dX3_deep_11 : decode cX3_deep 11 = .ok (.ireturn, 1) := by decide +kernel
theorem dX3_deep_12 : decode cX3_deep 12 = .ok (.aload_n 0, 1) := by decide +kernel
theorem dX3_deep_13 : decode cX3_deep 13 = .ok (.getfield 7, 3) := by decide +kernel
theorem dX3_deep_16 : decode cX3_deep 16 = .ok (.iconst 0, 1) := by decide +kernel
theorem dX3_deep_17 : decode cX3_deep 17 = .ok (.iaload, 1) := by decide +kernel
theorem dX3_deep_18 : decode cX3_deep 18 = .ok (.istore_n 2, 1) := by decide +kernel
theorem dX3_deep_19 : decode cX3_deep 19 = .ok (.aload_n 0, 1) := by decide +kernel
theorem dX3_deep_20 : decode cX3_deep 20 = .ok (.getfield 7, 3) := by decide +kernel
theorem dX3_deep_23 : decode cX3_deep 23 = .ok (.iconst 0, 1) := by decide +kernel
theorem dX3_deep_24 : decode cX3_deep 24 = .ok (.iload_n 1, 1) := by decide +kernel
theorem dX3_deep_25 : decode cX3_deep 25 = .ok (.iastore, 1) := by decide +kernel
theorem dX3_deep_26 : decode cX3_deep 26 = .ok (.aload_n 0, 1) := by decide +kernel
theorem dX3_deep_27 : decode cX3_deep 27 = .ok (.getfield 7, 3) := by decide +kernel
theorem dX3_deep_30 : decode cX3_deep 30 = .ok (.iconst 3, 1) := by decide +kernel
theorem dX3_deep_31 : decode cX3_deep 31 = .ok (.iconst 0, 1) := by decide +kernel
theorem dX3_deep_32 : decode cX3_deep 32 = .ok (.iastore, 1) := by decide +kernel
theorem dX3_deep_33 : decode cX3_deep 33 = .ok (.iconst 5, 1) := by decide +kernel
theorem dX3_deep_34 : decode cX3_deep 34 = .ok (.istore_n 3, 1) := by decide +kernel
theorem dX3_deep_35 : decode cX3_deep 35 = .ok (.iload_n 3, 1) := by decide +kernel
theorem dX3_deep_36 : decode cX3_deep 36 = .ok (.bipush 24, 2) := by decide +kernel
theorem dX3_deep_38 : decode cX3_deep 38 = .ok (.if_icmp .ge 16, 3) := by decide +kernel
theorem dX3_deep_41 : decode cX3_deep 41 = .ok (.aload_n 0, 1) := by decide +kernel
theorem dX3_deep_42 : decode cX3_deep 42 = .ok (.getfield 7, 3) := by decide +kernel
theorem dX3_deep_45 : decode cX3_deep 45 = .ok (.iload_n 3, 1) := by decide +kernel
theorem dX3_deep_46 : decode cX3_deep 46 = .ok (.iconst 0, 1) := by decide +kernel
theorem dX3_deep_47 : decode cX3_deep 47 = .ok (.iastore, 1) := by decide +kernel
theorem dX3_deep_48 : decode cX3_deep 48 = .ok (.iinc 3 1, 3) := by decide +kernel
theorem dX3_deep_51 : decode cX3_deep 51 = .ok (.goto (-16), 3) := by decide +kernel
theorem dX3_deep_54 : decode cX3_deep 54 = .ok (.iload_n 2, 1) := by decide +kernel
theorem dX3_deep_55 : decode cX3_deep 55 = .ok (.ireturn, 1) := by decide +kernel
set_option maxRecDepth 20000 in
theorem ggX3_loss_X3_in : GoodIn wsX3_loss wsX3_in := goodIn_r _ [5] (by decide +kernel) (by decide +kernel)
set_option maxRecDepth 20000 in
theorem gX3_loss_X3_in : GoodIn wsX3_loss (va_wsS RX3 33 yX3_in wsX3_in) := goodIn_app (goodIn_of _ (by decide +kernel)) ggX3_loss_X3_in
theorem dX3_loss_0 : decode cX3_loss 0 = .ok (.iload_n 2, 1) := by decide +kernel
theorem dX3_loss_1 : decode cX3_loss 1 = .ok (.iconst 2, 1) := by decide +kernel
theorem dX3_loss_2 : decode cX3_loss 2 = .ok (.bipush 10, 2) := by decide +kernel
theorem dX3_loss_4 : decode cX3_loss 4 = .ok (.invokestatic 33, 3) := by decide +kernel
theorem dX3_loss_7 : decode cX3_loss 7 = .ok (.ifCond .eq 12, 3) := by decide +kernel
theorem dX3_loss_10 : decode cX3_loss 10 = .ok (.iload_n 1, 1) := by decide +kernel
theorem dX3_loss_11 : decode cX3_loss 11 = .ok (.iconst 0, 1) := by decide +kernel
theorem dX3_loss_12 : decode cX3_loss 12 = .ok (.iload_n 2, 1) := by decide +kernel
theorem dX3_loss_13 : decode cX3_loss 13 = .ok (.invokestatic 33, 3) := by decide +kernel
theorem dX3_loss_16 : decode cX3_loss 16 = .ok (.ifCond .ne 6, 3) := by decide +kernel
theorem dX3_loss_19 : decode cX3_loss 19 = .ok (.bipush (-2), 2) := by decide +kernel
theorem dX3_loss_21 : decode cX3_loss 21 = .ok (.ireturn, 1) := by decide +kernel
theorem dX3_loss_22 : decode cX3_loss 22 = .ok (.aload_n 0, 1) := by decide +kernel
theorem dX3_loss_23 : decode cX3_loss 23 = .ok (.getfield 7, 3) := by decide +kernel
theorem dX3_loss_26 : decode cX3_loss 26 = .ok (.iconst 2, 1) := by decide +kernel
theorem dX3_loss_27 : decode cX3_loss 27 = .ok (.iaload, 1) := by decide +kernel
theorem dX3_loss_28 : decode cX3_loss 28 = .ok (.istore_n 3, 1) := by decide +kernel
theorem dX3_loss_29 : decode cX3_loss 29 = .ok (.aload_n 0, 1) := by decide +kernel
theorem dX3_loss_30 : decode cX3_loss 30 = .ok (.getfield 7, 3) := by decide +kernel
theorem dX3_loss_33 : decode cX3_loss 33 = .ok (.iconst 1, 1) := by decide +kernel
theorem dX3_loss_34 : decode cX3_loss 34 = .ok (.iload_n 1, 1) := by decide +kernel
theorem dX3_loss_35 : decode cX3_loss 35 = .ok (.iastore, 1) := by decide +kernel
theorem dX3_loss_36 : decode cX3_loss 36 = .ok (.aload_n 0, 1) := by decide +kernel
theorem dX3_loss_37 : decode cX3_loss 37 = .ok (.getfield 7, 3) := by decide +kernel
theorem dX3_loss_40 : decode cX3_loss 40 = .ok (.iconst 2, 1) := by decide +kernel
theorem dX3_loss_41 : decode cX3_loss 41 = .ok (.iload_n 2, 1) := by decide +kernel
theorem dX3_loss_42 : decode cX3_loss 42 = .ok (.iastore, 1) := by decide +kernel
theorem dX3_loss_43 : decode cX3_loss 43 = .ok (.iload_n 3, 1) := by decide +kernel
theorem dX3_loss_44 : decode cX3_loss 44 = .ok (.ireturn, 1) := by decide +kernel
theorem dX3_lowOfAll_0 : decode cX3_lowOfAll 0 = .ok (.aload_n 0, 1) := by decide +kernel
theorem dX3_lowOfAll_1 : decode cX3_lowOfAll 1 = .ok (.getfield 7, 3) := by decide +kernel
theorem dX3_lowOfAll_4 : decode cX3_lowOfAll 4 = .ok (.iconst 2, 1) := by decide +kernel
theorem dX3_lowOfAll_5 : decode cX3_lowOfAll 5 = .ok (.iaload, 1) := by decide +kernel
theorem dX3_lowOfAll_6 : decode cX3_lowOfAll 6 = .ok (.i2l, 1) := by decide +kernel
theorem dX3_lowOfAll_7 : decode cX3_lowOfAll 7 = .ok (.lstore_n 1, 1) := by decide +kernel
theorem dX3_lowOfAll_8 : decode cX3_lowOfAll 8 = .ok (.iconst 0, 1) := by decide +kernel
theorem dX3_lowOfAll_9 : decode cX3_lowOfAll 9 = .ok (.istore_n 3, 1) := by decide +kernel
theorem dX3_lowOfAll_10 : decode cX3_lowOfAll 10 = .ok (.iload_n 3, 1) := by decide +kernel
theorem dX3_lowOfAll_11 : decode cX3_lowOfAll 11 = .ok (.aload_n 0, 1) := by decide +kernel
theorem dX3_lowOfAll_12 : decode cX3_lowOfAll 12 = .ok (.getfield 7, 3) := by decide +kernel
theorem dX3_lowOfAll_15 : decode cX3_lowOfAll 15 = .ok (.iconst 0, 1) := by decide +kernel
theorem dX3_lowOfAll_16 : decode cX3_lowOfAll 16 = .ok (.iaload, 1) := by decide +kernel
theorem dX3_lowOfAll_17 : decode cX3_lowOfAll 17 = .ok (.if_icmp .ge 13, 3) := by decide +kernel
theorem dX3_lowOfAll_20 : decode cX3_lowOfAll 20 = .ok (.lload_n 1, 1) := by decide +kernel
theorem dX3_lowOfAll_21 : decode cX3_lowOfAll 21 = .ok (.lload_n 1, 1) := by decide +kernel
theorem dX3_lowOfAll_22 : decode cX3_lowOfAll 22 = .ok (.lmul, 1) := by decide +kernel
theorem dX3_lowOfAll_23 : decode cX3_lowOfAll 23 = .ok (.lstore_n 1, 1) := by decide +kernel
theorem dX3_lowOfAll_24 : decode cX3_lowOfAll 24 = .ok (.iinc 3 1, 3) := by decide +kernel
theorem dX3_lowOfAll_27 : decode cX3_lowOfAll 27 = .ok (.goto (-17), 3) := by decide +kernel
theorem dX3_lowOfAll_30 : decode cX3_lowOfAll 30 = .ok (.lload_n 1, 1) := by decide +kernel
theorem dX3_lowOfAll_31 : decode cX3_lowOfAll 31 = .ok (.lreturn, 1) := by decide +kernel
theorem dX3_upOf_0 : decode cX3_upOf 0 = .ok (.aload_n 0, 1) := by decide +kernel
theorem dX3_upOf_1 : decode cX3_upOf 1 = .ok (.getfield 7, 3) := by decide +kernel
theorem dX3_upOf_4 : decode cX3_upOf 4 = .ok (.iconst 1, 1) := by decide +kernel
theorem dX3_upOf_5 : decode cX3_upOf 5 = .ok (.iaload, 1) := by decide +kernel
theorem dX3_upOf_6 : decode cX3_upOf 6 = .ok (.i2l, 1) := by decide +kernel
theorem dX3_upOf_7 : decode cX3_upOf 7 = .ok (.lstore_n 2, 1) := by decide +kernel
theorem dX3_upOf_8 : decode cX3_upOf 8 = .ok (.aload_n 0, 1) := by decide +kernel
theorem dX3_upOf_9 : decode cX3_upOf 9 = .ok (.getfield 7, 3) := by decide +kernel
theorem dX3_upOf_12 : decode cX3_upOf 12 = .ok (.iconst 2, 1) := by decide +kernel
theorem dX3_upOf_13 : decode cX3_upOf 13 = .ok (.iaload, 1) := by decide +kernel
theorem dX3_upOf_14 : decode cX3_upOf 14 = .ok (.i2l, 1) := by decide +kernel
theorem dX3_upOf_15 : decode cX3_upOf 15 = .ok (.lstore 4, 2) := by decide +kernel
theorem dX3_upOf_17 : decode cX3_upOf 17 = .ok (.aload_n 0, 1) := by decide +kernel
theorem dX3_upOf_18 : decode cX3_upOf 18 = .ok (.getfield 7, 3) := by decide +kernel
theorem dX3_upOf_21 : decode cX3_upOf 21 = .ok (.iconst 0, 1) := by decide +kernel
theorem dX3_upOf_22 : decode cX3_upOf 22 = .ok (.iaload, 1) := by decide +kernel
theorem dX3_upOf_23 : decode cX3_upOf 23 = .ok (.iconst 1, 1) := by decide +kernel
theorem dX3_upOf_24 : decode cX3_upOf 24 = .ok (.isub, 1) := by decide +kernel
theorem dX3_upOf_25 : decode cX3_upOf 25 = .ok (.istore 6, 2) := by decide +kernel
theorem dX3_upOf_27 : decode cX3_upOf 27 = .ok (.iload 6, 2) := by decide +kernel
theorem dX3_upOf_29 : decode cX3_upOf 29 = .ok (.ifCond .lt 44, 3) := by decide +kernel
theorem dX3_upOf_32 : decode cX3_upOf 32 = .ok (.iload_n 1, 1) := by decide +kernel
theorem dX3_upOf_33 : decode cX3_upOf 33 = .ok (.iload 6, 2) := by decide +kernel
theorem dX3_upOf_35 : decode cX3_upOf 35 = .ok (.ishr, 1) := by decide +kernel
theorem dX3_upOf_36 : decode cX3_upOf 36 = .ok (.iconst 1, 1) := by decide +kernel
theorem dX3_upOf_37 : decode cX3_upOf 37 = .ok (.iand, 1) := by decide +kernel
theorem dX3_upOf_38 : decode cX3_upOf 38 = .ok (.ifCond .ne 18, 3) := by decide +kernel
theorem dX3_upOf_41 : decode cX3_upOf 41 = .ok (.ldc2_w 37, 3) := by decide +kernel
theorem dX3_upOf_44 : decode cX3_upOf 44 = .ok (.lload_n 2, 1) := by decide +kernel
theorem dX3_upOf_45 : decode cX3_upOf 45 = .ok (.lmul, 1) := by decide +kernel
theorem dX3_upOf_46 : decode cX3_upOf 46 = .ok (.lload 4, 2) := by decide +kernel
theorem dX3_upOf_48 : decode cX3_upOf 48 = .ok (.lmul, 1) := by decide +kernel
theorem dX3_upOf_49 : decode cX3_upOf 49 = .ok (.lload_n 2, 1) := by decide +kernel
theorem dX3_upOf_50 : decode cX3_upOf 50 = .ok (.lload_n 2, 1) := by decide +kernel
theorem dX3_upOf_51 : decode cX3_upOf 51 = .ok (.lmul, 1) := by decide +kernel
theorem dX3_upOf_52 : decode cX3_upOf 52 = .ok (.lsub, 1) := by decide +kernel
theorem dX3_upOf_53 : decode cX3_upOf 53 = .ok (.goto 6, 3) := by decide +kernel
theorem dX3_upOf_56 : decode cX3_upOf 56 = .ok (.lload_n 2, 1) := by decide +kernel
theorem dX3_upOf_57 : decode cX3_upOf 57 = .ok (.lload_n 2, 1) := by decide +kernel
theorem dX3_upOf_58 : decode cX3_upOf 58 = .ok (.lmul, 1) := by decide +kernel
theorem dX3_upOf_59 : decode cX3_upOf 59 = .ok (.lstore_n 2, 1) := by decide +kernel
theorem dX3_upOf_60 : decode cX3_upOf 60 = .ok (.lload 4, 2) := by decide +kernel
theorem dX3_upOf_62 : decode cX3_upOf 62 = .ok (.lload 4, 2) := by decide +kernel
theorem dX3_upOf_64 : decode cX3_upOf 64 = .ok (.lmul, 1) := by decide +kernel
theorem dX3_upOf_65 : decode cX3_upOf 65 = .ok (.lstore 4, 2) := by decide +kernel
theorem dX3_upOf_67 : decode cX3_upOf 67 = .ok (.iinc 6 (-1), 3) := by decide +kernel
theorem dX3_upOf_70 : decode cX3_upOf 70 = .ok (.goto (-43), 3) := by decide +kernel
theorem dX3_upOf_73 : decode cX3_upOf 73 = .ok (.lload_n 2, 1) := by decide +kernel
theorem dX3_upOf_74 : decode cX3_upOf 74 = .ok (.lreturn, 1) := by decide +kernel
theorem dX3_common_0 : decode cX3_common 0 = .ok (.lload_n 0, 1) := by decide +kernel
theorem dX3_common_1 : decode cX3_common 1 = .ok (.lstore 4, 2) := by decide +kernel
theorem dX3_common_3 : decode cX3_common 3 = .ok (.lload_n 2, 1) := by decide +kernel
theorem dX3_common_4 : decode cX3_common 4 = .ok (.lstore 6, 2) := by decide +kernel
theorem dX3_common_6 : decode cX3_common 6 = .ok (.lload 6, 2) := by decide +kernel
theorem dX3_common_8 : decode cX3_common 8 = .ok (.lconst 0, 1) := by decide +kernel
theorem dX3_common_9 : decode cX3_common 9 = .ok (.lcmp, 1) := by decide +kernel
theorem dX3_common_10 : decode cX3_common 10 = .ok (.ifCond .eq 21, 3) := by decide +kernel
theorem dX3_common_13 : decode cX3_common 13 = .ok (.lload 4, 2) := by decide +kernel
theorem dX3_common_15 : decode cX3_common 15 = .ok (.lload 6, 2) := by decide +kernel
theorem dX3_common_17 : decode cX3_common 17 = .ok (.lrem, 1) := by decide +kernel
theorem dX3_common_18 : decode cX3_common 18 = .ok (.lstore 8, 2) := by decide +kernel
theorem dX3_common_20 : decode cX3_common 20 = .ok (.lload 6, 2) := by decide +kernel
theorem dX3_common_22 : decode cX3_common 22 = .ok (.lstore 4, 2) := by decide +kernel
theorem dX3_common_24 : decode cX3_common 24 = .ok (.lload 8, 2) := by decide +kernel
theorem dX3_common_26 : decode cX3_common 26 = .ok (.lstore 6, 2) := by decide +kernel
theorem dX3_common_28 : decode cX3_common 28 = .ok (.goto (-22), 3) := by decide +kernel
theorem dX3_common_31 : decode cX3_common 31 = .ok (.lload 4, 2) := by decide +kernel
theorem dX3_common_33 : decode cX3_common 33 = .ok (.lreturn, 1) := by decide +kernel
set_option maxRecDepth 20000 in
theorem ggX3_split_X3_isPlace : GoodIn wsX3_split wsX3_isPlace := goodIn_r _ [7, 8, 9, 10, 6, 11, 12, 13, 14, 15, 28, 29, 30, 31, 32, 33, 34] (by decide +kernel) (by decide +kernel)
set_option maxRecDepth 20000 in
theorem gX3_split_X3_isPlace : GoodIn wsX3_split (wsV RX3 39 RX3 yX3_isPlace wsX3_isPlace) := goodIn_app (goodIn_of _ (by decide +kernel)) ggX3_split_X3_isPlace
set_option maxRecDepth 20000 in
theorem ggX3_split_X3_in : GoodIn wsX3_split wsX3_in := goodIn_r _ [15] (by decide +kernel) (by decide +kernel)
set_option maxRecDepth 20000 in
theorem gX3_split_X3_in : GoodIn wsX3_split (va_wsS RX3 33 yX3_in wsX3_in) := goodIn_app (goodIn_of _ (by decide +kernel)) ggX3_split_X3_in
set_option maxRecDepth 20000 in
theorem ggX3_split_X3_upOf : GoodIn wsX3_split wsX3_upOf := goodIn_r _ [19, 12, 20, 28, 29, 30, 31, 32, 33, 34] (by decide +kernel) (by decide +kernel)
set_option maxRecDepth 20000 in
theorem gX3_split_X3_upOf : GoodIn wsX3_split (wsV RX3 47 RX3 yX3_upOf wsX3_upOf) := goodIn_app (goodIn_of _ (by decide +kernel)) ggX3_split_X3_upOf
set_option maxRecDepth 20000 in
theorem ggX3_split_X3_lowOfAll : GoodIn wsX3_split wsX3_lowOfAll := goodIn_r _ [24, 12, 28, 29, 30, 31, 32, 33, 34] (by decide +kernel) (by decide +kernel)
set_option maxRecDepth 20000 in
theorem gX3_split_X3_lowOfAll : GoodIn wsX3_split (wsV RX3 51 RX3 yX3_lowOfAll wsX3_lowOfAll) := goodIn_app (goodIn_of _ (by decide +kernel)) ggX3_split_X3_lowOfAll
set_option maxRecDepth 20000 in
theorem ggX3_split_X3_common : GoodIn wsX3_split wsX3_common := goodIn_r _ [27] (by decide +kernel) (by decide +kernel)
set_option maxRecDepth 20000 in
theorem gX3_split_X3_common : GoodIn wsX3_split (va_wsS RX3 55 yX3_common wsX3_common) := goodIn_app (goodIn_of _ (by decide +kernel)) ggX3_split_X3_common
theorem dX3_split_0 : decode cX3_split 0 = .ok (.aload_n 0, 1) := by decide +kernel
theorem dX3_split_1 : decode cX3_split 1 = .ok (.iload_n 1, 1) := by decide +kernel
theorem dX3_split_2 : decode cX3_split 2 = .ok (.invokevirtual 39, 3) := by decide +kernel
theorem dX3_split_5 : decode cX3_split 5 = .ok (.ifCond .ne 7, 3) := by decide +kernel
theorem dX3_split_8 : decode cX3_split 8 = .ok (.ldc2_w 43, 3) := by decide +kernel
theorem dX3_split_11 : decode cX3_split 11 = .ok (.lreturn, 1) := by decide +kernel
theorem dX3_split_12 : decode cX3_split 12 = .ok (.iload_n 2, 1) := by decide +kernel
theorem dX3_split_13 : decode cX3_split 13 = .ok (.iconst 0, 1) := by decide +kernel
theorem dX3_split_14 : decode cX3_split 14 = .ok (.iconst 1, 1) := by decide +kernel
theorem dX3_split_15 : decode cX3_split 15 = .ok (.invokestatic 33, 3) := by decide +kernel
theorem dX3_split_18 : decode cX3_split 18 = .ok (.ifCond .ne 7, 3) := by decide +kernel
theorem dX3_split_21 : decode cX3_split 21 = .ok (.ldc2_w 45, 3) := by decide +kernel
theorem dX3_split_24 : decode cX3_split 24 = .ok (.lreturn, 1) := by decide +kernel
theorem dX3_split_25 : decode cX3_split 25 = .ok (.aload_n 0, 1) := by decide +kernel
theorem dX3_split_26 : decode cX3_split 26 = .ok (.iload_n 1, 1) := by decide +kernel
theorem dX3_split_27 : decode cX3_split 27 = .ok (.invokevirtual 47, 3) := by decide +kernel
theorem dX3_split_30 : decode cX3_split 30 = .ok (.lstore_n 3, 1) := by decide +kernel
theorem dX3_split_31 : decode cX3_split 31 = .ok (.aload_n 0, 1) := by decide +kernel
theorem dX3_split_32 : decode cX3_split 32 = .ok (.invokevirtual 51, 3) := by decide +kernel
theorem dX3_split_35 : decode cX3_split 35 = .ok (.lstore 5, 2) := by decide +kernel
theorem dX3_split_37 : decode cX3_split 37 = .ok (.lload 5, 2) := by decide +kernel
theorem dX3_split_39 : decode cX3_split 39 = .ok (.lload_n 3, 1) := by decide +kernel
theorem dX3_split_40 : decode cX3_split 40 = .ok (.invokestatic 55, 3) := by decide +kernel
theorem dX3_split_43 : decode cX3_split 43 = .ok (.lstore 7, 2) := by decide +kernel
theorem dX3_split_45 : decode cX3_split 45 = .ok (.iload_n 2, 1) := by decide +kernel
theorem dX3_split_46 : decode cX3_split 46 = .ok (.ifCond .ne 10, 3) := by decide +kernel
theorem dX3_split_49 : decode cX3_split 49 = .ok (.lload_n 3, 1) := by decide +kernel
end
section
theorem dX3_split_50 : decode cX3_split 50 = .ok (.lload 7, 2) := by decide +kernel
theorem dX3_split_52 : decode cX3_split 52 = .ok (.ldiv, 1) := by decide +kernel
theorem dX3_split_53 : decode cX3_split 53 = .ok (.goto 8, 3) := by decide +kernel
theorem dX3_split_56 : decode cX3_split 56 = .ok (.lload 5, 2) := by decide +kernel
theorem dX3_split_58 : decode cX3_split 58 = .ok (.lload 7, 2) := by decide +kernel
theorem dX3_split_60 : decode cX3_split 60 = .ok (.ldiv, 1) := by decide +kernel
theorem dX3_split_61 : decode cX3_split 61 = .ok (.lreturn, 1) := by decide +kernel
set_option maxRecDepth 20000 in
theorem ggX3_aheadOf_X3_places : GoodIn wsX3_aheadOf wsX3_places := goodIn_r _ [5, 6, 12, 13, 14, 15, 16, 17, 18] (by decide +kernel) (by decide +kernel)
set_option maxRecDepth 20000 in
theorem gX3_aheadOf_X3_places : GoodIn wsX3_aheadOf (wsV RX3 29 RX3 yX3_places wsX3_places) := goodIn_app (goodIn_of _ (by decide +kernel)) ggX3_aheadOf_X3_places
set_option maxRecDepth 20000 in
theorem ggX3_aheadOf_X3_upOf : GoodIn wsX3_aheadOf wsX3_upOf := goodIn_r _ [10, 6, 11, 12, 13, 14, 15, 16, 17, 18] (by decide +kernel) (by decide +kernel)
set_option maxRecDepth 20000 in
theorem gX3_aheadOf_X3_upOf : GoodIn wsX3_aheadOf (wsV RX3 47 RX3 yX3_upOf wsX3_upOf) := goodIn_app (goodIn_of _ (by decide +kernel)) ggX3_aheadOf_X3_upOf
theorem dX3_aheadOf_0 : decode cX3_aheadOf 0 = .ok (.iconst 0, 1) := by decide +kernel
theorem dX3_aheadOf_1 : decode cX3_aheadOf 1 = .ok (.istore_n 2, 1) := by decide +kernel
theorem dX3_aheadOf_2 : decode cX3_aheadOf 2 = .ok (.iconst 0, 1) := by decide +kernel
theorem dX3_aheadOf_3 : decode cX3_aheadOf 3 = .ok (.istore_n 3, 1) := by decide +kernel
theorem dX3_aheadOf_4 : decode cX3_aheadOf 4 = .ok (.iload_n 3, 1) := by decide +kernel
theorem dX3_aheadOf_5 : decode cX3_aheadOf 5 = .ok (.aload_n 0, 1) := by decide +kernel
theorem dX3_aheadOf_6 : decode cX3_aheadOf 6 = .ok (.invokevirtual 29, 3) := by decide +kernel
theorem dX3_aheadOf_9 : decode cX3_aheadOf 9 = .ok (.if_icmp .ge 50, 3) := by decide +kernel
theorem dX3_aheadOf_12 : decode cX3_aheadOf 12 = .ok (.iload_n 2, 1) := by decide +kernel
theorem dX3_aheadOf_13 : decode cX3_aheadOf 13 = .ok (.aload_n 0, 1) := by decide +kernel
theorem dX3_aheadOf_14 : decode cX3_aheadOf 14 = .ok (.iload_n 3, 1) := by decide +kernel
theorem dX3_aheadOf_15 : decode cX3_aheadOf 15 = .ok (.invokevirtual 47, 3) := by decide +kernel
theorem dX3_aheadOf_18 : decode cX3_aheadOf 18 = .ok (.aload_n 0, 1) := by decide +kernel
theorem dX3_aheadOf_19 : decode cX3_aheadOf 19 = .ok (.iload_n 1, 1) := by decide +kernel
theorem dX3_aheadOf_20 : decode cX3_aheadOf 20 = .ok (.invokevirtual 47, 3) := by decide +kernel
theorem dX3_aheadOf_23 : decode cX3_aheadOf 23 = .ok (.lcmp, 1) := by decide +kernel
theorem dX3_aheadOf_24 : decode cX3_aheadOf 24 = .ok (.ifCond .lt 22, 3) := by decide +kernel
theorem dX3_aheadOf_27 : decode cX3_aheadOf 27 = .ok (.aload_n 0, 1) := by decide +kernel
theorem dX3_aheadOf_28 : decode cX3_aheadOf 28 = .ok (.iload_n 3, 1) := by decide +kernel
theorem dX3_aheadOf_29 : decode cX3_aheadOf 29 = .ok (.invokevirtual 47, 3) := by decide +kernel
theorem dX3_aheadOf_32 : decode cX3_aheadOf 32 = .ok (.aload_n 0, 1) := by decide +kernel
theorem dX3_aheadOf_33 : decode cX3_aheadOf 33 = .ok (.iload_n 1, 1) := by decide +kernel
theorem dX3_aheadOf_34 : decode cX3_aheadOf 34 = .ok (.invokevirtual 47, 3) := by decide +kernel
theorem dX3_aheadOf_37 : decode cX3_aheadOf 37 = .ok (.lcmp, 1) := by decide +kernel
theorem dX3_aheadOf_38 : decode cX3_aheadOf 38 = .ok (.ifCond .ne 12, 3) := by decide +kernel
theorem dX3_aheadOf_41 : decode cX3_aheadOf 41 = .ok (.iload_n 3, 1) := by decide +kernel
theorem dX3_aheadOf_42 : decode cX3_aheadOf 42 = .ok (.iload_n 1, 1) := by decide +kernel
theorem dX3_aheadOf_43 : decode cX3_aheadOf 43 = .ok (.if_icmp .le 7, 3) := by decide +kernel
theorem dX3_aheadOf_46 : decode cX3_aheadOf 46 = .ok (.iconst 1, 1) := by decide +kernel
theorem dX3_aheadOf_47 : decode cX3_aheadOf 47 = .ok (.goto 4, 3) := by decide +kernel
theorem dX3_aheadOf_50 : decode cX3_aheadOf 50 = .ok (.iconst 0, 1) := by decide +kernel
theorem dX3_aheadOf_51 : decode cX3_aheadOf 51 = .ok (.iadd, 1) := by decide +kernel
theorem dX3_aheadOf_52 : decode cX3_aheadOf 52 = .ok (.istore_n 2, 1) := by decide +kernel
theorem dX3_aheadOf_53 : decode cX3_aheadOf 53 = .ok (.iinc 3 1, 3) := by decide +kernel
theorem dX3_aheadOf_56 : decode cX3_aheadOf 56 = .ok (.goto (-52), 3) := by decide +kernel
theorem dX3_aheadOf_59 : decode cX3_aheadOf 59 = .ok (.iload_n 2, 1) := by decide +kernel
theorem dX3_aheadOf_60 : decode cX3_aheadOf 60 = .ok (.ireturn, 1) := by decide +kernel
set_option maxRecDepth 20000 in
theorem ggX3_bestAt_X3_aheadOf : GoodIn wsX3_bestAt wsX3_aheadOf := goodIn_r _ [5, 6, 7, 8, 4, 9, 10, 11, 12, 13, 14, 15, 16, 17, 18, 19, 20, 21, 22] (by decide +kernel) (by decide +kernel)
set_option maxRecDepth 20000 in
theorem gX3_bestAt_X3_aheadOf : GoodIn wsX3_bestAt (wsV RX3 59 RX3 yX3_aheadOf wsX3_aheadOf) := goodIn_app (goodIn_of _ (by decide +kernel)) ggX3_bestAt_X3_aheadOf
theorem dX3_bestAt_0 : decode cX3_bestAt 0 = .ok (.iconst 0, 1) := by decide +kernel
theorem dX3_bestAt_1 : decode cX3_bestAt 1 = .ok (.istore_n 2, 1) := by decide +kernel
theorem dX3_bestAt_2 : decode cX3_bestAt 2 = .ok (.aload_n 0, 1) := by decide +kernel
theorem dX3_bestAt_3 : decode cX3_bestAt 3 = .ok (.iload_n 2, 1) := by decide +kernel
theorem dX3_bestAt_4 : decode cX3_bestAt 4 = .ok (.invokevirtual 59, 3) := by decide +kernel
theorem dX3_bestAt_7 : decode cX3_bestAt 7 = .ok (.iload_n 1, 1) := by decide +kernel
theorem dX3_bestAt_8 : decode cX3_bestAt 8 = .ok (.if_icmp .eq 9, 3) := by decide +kernel
theorem dX3_bestAt_11 : decode cX3_bestAt 11 = .ok (.iinc 2 1, 3) := by decide +kernel
theorem dX3_bestAt_14 : decode cX3_bestAt 14 = .ok (.goto (-12), 3) := by decide +kernel
theorem dX3_bestAt_17 : decode cX3_bestAt 17 = .ok (.iload_n 2, 1) := by decide +kernel
theorem dX3_bestAt_18 : decode cX3_bestAt 18 = .ok (.ireturn, 1) := by decide +kernel
set_option maxRecDepth 20000 in
theorem ggX3_rank_X3_isPlace : GoodIn wsX3_rank wsX3_isPlace := goodIn_r _ [5, 6, 7, 8, 4, 9, 10, 11, 12, 13, 27, 28, 29, 30, 31, 32, 33] (by decide +kernel) (by decide +kernel)
set_option maxRecDepth 20000 in
theorem gX3_rank_X3_isPlace : GoodIn wsX3_rank (wsV RX3 39 RX3 yX3_isPlace wsX3_isPlace) := goodIn_app (goodIn_of _ (by decide +kernel)) ggX3_rank_X3_isPlace
set_option maxRecDepth 20000 in
theorem ggX3_rank_X3_bestAt : GoodIn wsX3_rank wsX3_bestAt := goodIn_r _ [17, 18, 19, 20, 4, 21, 6, 7, 8, 9, 10, 22, 23, 24, 25, 26, 27, 28, 29, 30, 31, 32, 33] (by decide +kernel) (by decide +kernel)
set_option maxRecDepth 20000 in
theorem gX3_rank_X3_bestAt : GoodIn wsX3_rank (wsV RX3 63 RX3 yX3_bestAt wsX3_bestAt) := goodIn_app (goodIn_of _ (by decide +kernel)) ggX3_rank_X3_bestAt
set_option maxRecDepth 20000 in
theorem ggX3_rank_X3_aheadOf : GoodIn wsX3_rank wsX3_aheadOf := goodIn_r _ [21, 6, 7, 8, 4, 9, 10, 22, 23, 24, 25, 26, 27, 28, 29, 30, 31, 32, 33] (by decide +kernel) (by decide +kernel)
set_option maxRecDepth 20000 in
theorem gX3_rank_X3_aheadOf : GoodIn wsX3_rank (wsV RX3 59 RX3 yX3_aheadOf wsX3_aheadOf) := goodIn_app (goodIn_of _ (by decide +kernel)) ggX3_rank_X3_aheadOf
theorem dX3_rank_0 : decode cX3_rank 0 = .ok (.aload_n 0, 1) := by decide +kernel
theorem dX3_rank_1 : decode cX3_rank 1 = .ok (.iload_n 1, 1) := by decide +kernel
theorem dX3_rank_2 : decode cX3_rank 2 = .ok (.invokevirtual 39, 3) := by decide +kernel
theorem dX3_rank_5 : decode cX3_rank 5 = .ok (.ifCond .ne 5, 3) := by decide +kernel
theorem dX3_rank_8 : decode cX3_rank 8 = .ok (.iconst (-1), 1) := by decide +kernel
theorem dX3_rank_9 : decode cX3_rank 9 = .ok (.ireturn, 1) := by decide +kernel
theorem dX3_rank_10 : decode cX3_rank 10 = .ok (.iload_n 2, 1) := by decide +kernel
theorem dX3_rank_11 : decode cX3_rank 11 = .ok (.ifCond .ne 11, 3) := by decide +kernel
theorem dX3_rank_14 : decode cX3_rank 14 = .ok (.aload_n 0, 1) := by decide +kernel
theorem dX3_rank_15 : decode cX3_rank 15 = .ok (.iload_n 1, 1) := by decide +kernel
theorem dX3_rank_16 : decode cX3_rank 16 = .ok (.invokevirtual 63, 3) := by decide +kernel
theorem dX3_rank_19 : decode cX3_rank 19 = .ok (.goto 18, 3) := by decide +kernel
theorem dX3_rank_22 : decode cX3_rank 22 = .ok (.iload_n 2, 1) := by decide +kernel
theorem dX3_rank_23 : decode cX3_rank 23 = .ok (.iconst 1, 1) := by decide +kernel
theorem dX3_rank_24 : decode cX3_rank 24 = .ok (.if_icmp .ne 11, 3) := by decide +kernel
theorem dX3_rank_27 : decode cX3_rank 27 = .ok (.aload_n 0, 1) := by decide +kernel
theorem dX3_rank_28 : decode cX3_rank 28 = .ok (.iload_n 1, 1) := by decide +kernel
theorem dX3_rank_29 : decode cX3_rank 29 = .ok (.invokevirtual 59, 3) := by decide +kernel
theorem dX3_rank_32 : decode cX3_rank 32 = .ok (.goto 5, 3) := by decide +kernel
theorem dX3_rank_35 : decode cX3_rank 35 = .ok (.bipush (-2), 2) := by decide +kernel
theorem dX3_rank_37 : decode cX3_rank 37 = .ok (.ireturn, 1) := by decide +kernel
set_option maxRecDepth 20000 in
theorem ggX3_freeze_X3_isRow : GoodIn wsX3_freeze wsX3_isRow := goodIn_r _ [6, 7, 8, 9, 5, 10, 1, 11, 12, 13, 21, 22, 23, 24, 25, 26, 27] (by decide +kernel) (by decide +kernel)
set_option maxRecDepth 20000 in
theorem gX3_freeze_X3_isRow : GoodIn wsX3_freeze (wsV RX3 66 RX3 yX3_isRow wsX3_isRow) := goodIn_app (goodIn_of _ (by decide +kernel)) ggX3_freeze_X3_isRow
set_option maxRecDepth 20000 in
theorem ggX3_freeze_X3_free : GoodIn wsX3_freeze wsX3_free := goodIn_r _ [17, 1, 7, 8, 9, 5, 10, 21, 22, 23, 24, 25, 26, 27] (by decide +kernel) (by decide +kernel)
set_option maxRecDepth 20000 in
theorem gX3_freeze_X3_free : GoodIn wsX3_freeze (wsV RX3 69 RX3 yX3_free wsX3_free) := goodIn_app (goodIn_of _ (by decide +kernel)) ggX3_freeze_X3_free
set_option maxRecDepth 20000 in
theorem ggX3_freeze_X3_size : GoodIn wsX3_freeze wsX3_size := goodIn_r _ [20] (by decide +kernel) (by decide +kernel)
set_option maxRecDepth 20000 in
theorem gX3_freeze_X3_size : GoodIn wsX3_freeze (va_wsS RX3 72 yX3_size wsX3_size) := goodIn_app (goodIn_of _ (by decide +kernel)) ggX3_freeze_X3_size
theorem dX3_freeze_0 : decode cX3_freeze 0 = .ok (.aload_n 0, 1) := by decide +kernel
theorem dX3_freeze_1 : decode cX3_freeze 1 = .ok (.iload_n 1, 1) := by decide +kernel
theorem dX3_freeze_2 : decode cX3_freeze 2 = .ok (.invokevirtual 66, 3) := by decide +kernel
theorem dX3_freeze_5 : decode cX3_freeze 5 = .ok (.ifCond .ne 6, 3) := by decide +kernel
theorem dX3_freeze_8 : decode cX3_freeze 8 = .ok (.bipush (-2), 2) := by decide +kernel
theorem dX3_freeze_10 : decode cX3_freeze 10 = .ok (.ireturn, 1) := by decide +kernel
theorem dX3_freeze_11 : decode cX3_freeze 11 = .ok (.aload_n 0, 1) := by decide +kernel
theorem dX3_freeze_12 : decode cX3_freeze 12 = .ok (.getfield 7, 3) := by decide +kernel
theorem dX3_freeze_15 : decode cX3_freeze 15 = .ok (.iconst 3, 1) := by decide +kernel
theorem dX3_freeze_16 : decode cX3_freeze 16 = .ok (.iload_n 1, 1) := by decide +kernel
theorem dX3_freeze_17 : decode cX3_freeze 17 = .ok (.iastore, 1) := by decide +kernel
theorem dX3_freeze_18 : decode cX3_freeze 18 = .ok (.aload_n 0, 1) := by decide +kernel
theorem dX3_freeze_19 : decode cX3_freeze 19 = .ok (.invokevirtual 69, 3) := by decide +kernel
theorem dX3_freeze_22 : decode cX3_freeze 22 = .ok (.invokestatic 72, 3) := by decide +kernel
theorem dX3_freeze_25 : decode cX3_freeze 25 = .ok (.ireturn, 1) := by decide +kernel
set_option maxRecDepth 20000 in
theorem ggX3_best_X3_places : GoodIn wsX3_best wsX3_places := goodIn_r _ [6, 1, 23, 24, 25, 26, 27, 28, 29] (by decide +kernel) (by decide +kernel)
set_option maxRecDepth 20000 in
theorem gX3_best_X3_places : GoodIn wsX3_best (wsV RX3 29 RX3 yX3_places wsX3_places) := goodIn_app (goodIn_of _ (by decide +kernel)) ggX3_best_X3_places
set_option maxRecDepth 20000 in
theorem ggX3_best_X3_in : GoodIn wsX3_best wsX3_in := goodIn_r _ [9] (by decide +kernel) (by decide +kernel)
set_option maxRecDepth 20000 in
theorem gX3_best_X3_in : GoodIn wsX3_best (va_wsS RX3 33 yX3_in wsX3_in) := goodIn_app (goodIn_of _ (by decide +kernel)) ggX3_best_X3_in
set_option maxRecDepth 20000 in
theorem ggX3_best_X3_bestAt : GoodIn wsX3_best wsX3_bestAt := goodIn_r _ [13, 14, 15, 16, 5, 17, 2, 3, 4, 6, 1, 18, 19, 20, 21, 22, 23, 24, 25, 26, 27, 28, 29] (by decide +kernel) (by decide +kernel)
set_option maxRecDepth 20000 in
theorem gX3_best_X3_bestAt : GoodIn wsX3_best (wsV RX3 63 RX3 yX3_bestAt wsX3_bestAt) := goodIn_app (goodIn_of _ (by decide +kernel)) ggX3_best_X3_bestAt
theorem dX3_best_0 : decode cX3_best 0 = .ok (.iload_n 1, 1) := by decide +kernel
theorem dX3_best_1 : decode cX3_best 1 = .ok (.iconst 0, 1) := by decide +kernel
theorem dX3_best_2 : decode cX3_best 2 = .ok (.aload_n 0, 1) := by decide +kernel
theorem dX3_best_3 : decode cX3_best 3 = .ok (.invokevirtual 29, 3) := by decide +kernel
theorem dX3_best_6 : decode cX3_best 6 = .ok (.invokestatic 33, 3) := by decide +kernel
theorem dX3_best_9 : decode cX3_best 9 = .ok (.ifCond .ne 6, 3) := by decide +kernel
theorem dX3_best_12 : decode cX3_best 12 = .ok (.bipush (-2), 2) := by decide +kernel
theorem dX3_best_14 : decode cX3_best 14 = .ok (.ireturn, 1) := by decide +kernel
theorem dX3_best_15 : decode cX3_best 15 = .ok (.iconst 1, 1) := by decide +kernel
theorem dX3_best_16 : decode cX3_best 16 = .ok (.aload_n 0, 1) := by decide +kernel
theorem dX3_best_17 : decode cX3_best 17 = .ok (.invokevirtual 29, 3) := by decide +kernel
theorem dX3_best_20 : decode cX3_best 20 = .ok (.ishl, 1) := by decide +kernel
theorem dX3_best_21 : decode cX3_best 21 = .ok (.iconst 1, 1) := by decide +kernel
theorem dX3_best_22 : decode cX3_best 22 = .ok (.isub, 1) := by decide +kernel
theorem dX3_best_23 : decode cX3_best 23 = .ok (.istore_n 2, 1) := by decide +kernel
theorem dX3_best_24 : decode cX3_best 24 = .ok (.iconst 0, 1) := by decide +kernel
theorem dX3_best_25 : decode cX3_best 25 = .ok (.istore_n 3, 1) := by decide +kernel
theorem dX3_best_26 : decode cX3_best 26 = .ok (.iload_n 3, 1) := by decide +kernel
theorem dX3_best_27 : decode cX3_best 27 = .ok (.iload_n 1, 1) := by decide +kernel
theorem dX3_best_28 : decode cX3_best 28 = .ok (.if_icmp .ge 21, 3) := by decide +kernel
theorem dX3_best_31 : decode cX3_best 31 = .ok (.iload_n 2, 1) := by decide +kernel
theorem dX3_best_32 : decode cX3_best 32 = .ok (.iconst 1, 1) := by decide +kernel
theorem dX3_best_33 : decode cX3_best 33 = .ok (.aload_n 0, 1) := by decide +kernel
theorem dX3_best_34 : decode cX3_best 34 = .ok (.iload_n 3, 1) := by decide +kernel
theorem dX3_best_35 : decode cX3_best 35 = .ok (.invokevirtual 63, 3) := by decide +kernel
theorem dX3_best_38 : decode cX3_best 38 = .ok (.ishl, 1) := by decide +kernel
theorem dX3_best_39 : decode cX3_best 39 = .ok (.iconst (-1), 1) := by decide +kernel
theorem dX3_best_40 : decode cX3_best 40 = .ok (.ixor, 1) := by decide +kernel
theorem dX3_best_41 : decode cX3_best 41 = .ok (.iand, 1) := by decide +kernel
theorem dX3_best_42 : decode cX3_best 42 = .ok (.istore_n 2, 1) := by decide +kernel
theorem dX3_best_43 : decode cX3_best 43 = .ok (.iinc 3 1, 3) := by decide +kernel
theorem dX3_best_46 : decode cX3_best 46 = .ok (.goto (-20), 3) := by decide +kernel
theorem dX3_best_49 : decode cX3_best 49 = .ok (.aload_n 0, 1) := by decide +kernel
theorem dX3_best_50 : decode cX3_best 50 = .ok (.getfield 7, 3) := by decide +kernel
theorem dX3_best_53 : decode cX3_best 53 = .ok (.iconst 3, 1) := by decide +kernel
theorem dX3_best_54 : decode cX3_best 54 = .ok (.iload_n 2, 1) := by decide +kernel
theorem dX3_best_55 : decode cX3_best 55 = .ok (.iastore, 1) := by decide +kernel
theorem dX3_best_56 : decode cX3_best 56 = .ok (.iload_n 2, 1) := by decide +kernel
theorem dX3_best_57 : decode cX3_best 57 = .ok (.ireturn, 1) := by decide +kernel
theorem dX3_codedOf_0 : decode cX3_codedOf 0 = .ok (.iload_n 0, 1) := by decide +kernel
theorem dX3_codedOf_1 : decode cX3_codedOf 1 = .ok (.iload_n 1, 1) := by decide +kernel
theorem dX3_codedOf_2 : decode cX3_codedOf 2 = .ok (.ishr, 1) := by decide +kernel
theorem dX3_codedOf_3 : decode cX3_codedOf 3 = .ok (.iconst 1, 1) := by decide +kernel
theorem dX3_codedOf_4 : decode cX3_codedOf 4 = .ok (.iload_n 2, 1) := by decide +kernel
theorem dX3_codedOf_5 : decode cX3_codedOf 5 = .ok (.ishl, 1) := by decide +kernel
theorem dX3_codedOf_6 : decode cX3_codedOf 6 = .ok (.iconst 1, 1) := by decide +kernel
theorem dX3_codedOf_7 : decode cX3_codedOf 7 = .ok (.isub, 1) := by decide +kernel
theorem dX3_codedOf_8 : decode cX3_codedOf 8 = .ok (.iand, 1) := by decide +kernel
theorem dX3_codedOf_9 : decode cX3_codedOf 9 = .ok (.istore_n 3, 1) := by decide +kernel
theorem dX3_codedOf_10 : decode cX3_codedOf 10 = .ok (.iconst 1, 1) := by decide +kernel
theorem dX3_codedOf_11 : decode cX3_codedOf 11 = .ok (.istore 4, 2) := by decide +kernel
theorem dX3_codedOf_13 : decode cX3_codedOf 13 = .ok (.iload 4, 2) := by decide +kernel
theorem dX3_codedOf_15 : decode cX3_codedOf 15 = .ok (.iload_n 2, 1) := by decide +kernel
theorem dX3_codedOf_16 : decode cX3_codedOf 16 = .ok (.if_icmp .ge 76, 3) := by decide +kernel
theorem dX3_codedOf_19 : decode cX3_codedOf 19 = .ok (.iconst 0, 1) := by decide +kernel
theorem dX3_codedOf_20 : decode cX3_codedOf 20 = .ok (.istore 5, 2) := by decide +kernel
theorem dX3_codedOf_22 : decode cX3_codedOf 22 = .ok (.iconst 0, 1) := by decide +kernel
theorem dX3_codedOf_23 : decode cX3_codedOf 23 = .ok (.istore 6, 2) := by decide +kernel
theorem dX3_codedOf_25 : decode cX3_codedOf 25 = .ok (.iload 6, 2) := by decide +kernel
theorem dX3_codedOf_27 : decode cX3_codedOf 27 = .ok (.iload_n 2, 1) := by decide +kernel
theorem dX3_codedOf_28 : decode cX3_codedOf 28 = .ok (.if_icmp .ge 52, 3) := by decide +kernel
theorem dX3_codedOf_31 : decode cX3_codedOf 31 = .ok (.iload_n 3, 1) := by decide +kernel
theorem dX3_codedOf_32 : decode cX3_codedOf 32 = .ok (.iload 6, 2) := by decide +kernel
theorem dX3_codedOf_34 : decode cX3_codedOf 34 = .ok (.ishr, 1) := by decide +kernel
theorem dX3_codedOf_35 : decode cX3_codedOf 35 = .ok (.iconst 1, 1) := by decide +kernel
theorem dX3_codedOf_36 : decode cX3_codedOf 36 = .ok (.iand, 1) := by decide +kernel
theorem dX3_codedOf_37 : decode cX3_codedOf 37 = .ok (.istore 7, 2) := by decide +kernel
theorem dX3_codedOf_39 : decode cX3_codedOf 39 = .ok (.iload 5, 2) := by decide +kernel
theorem dX3_codedOf_41 : decode cX3_codedOf 41 = .ok (.iload 6, 2) := by decide +kernel
theorem dX3_codedOf_43 : decode cX3_codedOf 43 = .ok (.iload 4, 2) := by decide +kernel
theorem dX3_codedOf_45 : decode cX3_codedOf 45 = .ok (.idiv, 1) := by decide +kernel
theorem dX3_codedOf_46 : decode cX3_codedOf 46 = .ok (.iconst 2, 1) := by decide +kernel
theorem dX3_codedOf_47 : decode cX3_codedOf 47 = .ok (.irem, 1) := by decide +kernel
theorem dX3_codedOf_48 : decode cX3_codedOf 48 = .ok (.ifCond .ne 18, 3) := by decide +kernel
theorem dX3_codedOf_51 : decode cX3_codedOf 51 = .ok (.iload 7, 2) := by decide +kernel
theorem dX3_codedOf_53 : decode cX3_codedOf 53 = .ok (.iload_n 3, 1) := by decide +kernel
theorem dX3_codedOf_54 : decode cX3_codedOf 54 = .ok (.iload 6, 2) := by decide +kernel
theorem dX3_codedOf_56 : decode cX3_codedOf 56 = .ok (.iload 4, 2) := by decide +kernel
theorem dX3_codedOf_58 : decode cX3_codedOf 58 = .ok (.iadd, 1) := by decide +kernel
theorem dX3_codedOf_59 : decode cX3_codedOf 59 = .ok (.ishr, 1) := by decide +kernel
theorem dX3_codedOf_60 : decode cX3_codedOf 60 = .ok (.iconst 1, 1) := by decide +kernel
theorem dX3_codedOf_61 : decode cX3_codedOf 61 = .ok (.iand, 1) := by decide +kernel
theorem dX3_codedOf_62 : decode cX3_codedOf 62 = .ok (.ixor, 1) := by decide +kernel
theorem dX3_codedOf_63 : decode cX3_codedOf 63 = .ok (.goto 5, 3) := by decide +kernel
theorem dX3_codedOf_66 : decode cX3_codedOf 66 = .ok (.iload 7, 2) := by decide +kernel
theorem dX3_codedOf_68 : decode cX3_codedOf 68 = .ok (.iload 6, 2) := by decide +kernel
theorem dX3_codedOf_70 : decode cX3_codedOf 70 = .ok (.ishl, 1) := by decide +kernel
theorem dX3_codedOf_71 : decode cX3_codedOf 71 = .ok (.ior, 1) := by decide +kernel
theorem dX3_codedOf_72 : decode cX3_codedOf 72 = .ok (.istore 5, 2) := by decide +kernel
theorem dX3_codedOf_74 : decode cX3_codedOf 74 = .ok (.iinc 6 1, 3) := by decide +kernel
theorem dX3_codedOf_77 : decode cX3_codedOf 77 = .ok (.goto (-52), 3) := by decide +kernel
theorem dX3_codedOf_80 : decode cX3_codedOf 80 = .ok (.iload 5, 2) := by decide +kernel
theorem dX3_codedOf_82 : decode cX3_codedOf 82 = .ok (.istore_n 3, 1) := by decide +kernel
theorem dX3_codedOf_83 : decode cX3_codedOf 83 = .ok (.iload 4, 2) := by decide +kernel
theorem dX3_codedOf_85 : decode cX3_codedOf 85 = .ok (.iconst 2, 1) := by decide +kernel
theorem dX3_codedOf_86 : decode cX3_codedOf 86 = .ok (.imul, 1) := by decide +kernel
theorem dX3_codedOf_87 : decode cX3_codedOf 87 = .ok (.istore 4, 2) := by decide +kernel
theorem dX3_codedOf_89 : decode cX3_codedOf 89 = .ok (.goto (-76), 3) := by decide +kernel
theorem dX3_codedOf_92 : decode cX3_codedOf 92 = .ok (.iload_n 3, 1) := by decide +kernel
theorem dX3_codedOf_93 : decode cX3_codedOf 93 = .ok (.ireturn, 1) := by decide +kernel
set_option maxRecDepth 20000 in
theorem ggX3_codedAll_X3_places : GoodIn wsX3_codedAll wsX3_places := goodIn_r _ [5, 6, 10, 11, 12, 13, 14, 15, 16] (by decide +kernel) (by decide +kernel)
set_option maxRecDepth 20000 in
theorem gX3_codedAll_X3_places : GoodIn wsX3_codedAll (wsV RX3 29 RX3 yX3_places wsX3_places) := goodIn_app (goodIn_of _ (by decide +kernel)) ggX3_codedAll_X3_places
set_option maxRecDepth 20000 in
theorem ggX3_codedAll_X3_codedOf : GoodIn wsX3_codedAll wsX3_codedOf := goodIn_r _ [9] (by decide +kernel) (by decide +kernel)
set_option maxRecDepth 20000 in
theorem gX3_codedAll_X3_codedOf : GoodIn wsX3_codedAll (va_wsS RX3 75 yX3_codedOf wsX3_codedOf) := goodIn_app (goodIn_of _ (by decide +kernel)) ggX3_codedAll_X3_codedOf
theorem dX3_codedAll_0 : decode cX3_codedAll 0 = .ok (.iload_n 1, 1) := by decide +kernel
theorem dX3_codedAll_1 : decode cX3_codedAll 1 = .ok (.iconst 0, 1) := by decide +kernel
theorem dX3_codedAll_2 : decode cX3_codedAll 2 = .ok (.aload_n 0, 1) := by decide +kernel
theorem dX3_codedAll_3 : decode cX3_codedAll 3 = .ok (.invokevirtual 29, 3) := by decide +kernel
theorem dX3_codedAll_6 : decode cX3_codedAll 6 = .ok (.invokestatic 75, 3) := by decide +kernel
theorem dX3_codedAll_9 : decode cX3_codedAll 9 = .ok (.ireturn, 1) := by decide +kernel
set_option maxRecDepth 20000 in
theorem ggX3_coded_X3_isRow : GoodIn wsX3_coded wsX3_isRow := goodIn_r _ [5, 6, 7, 8, 4, 9, 10, 11, 12, 13, 21, 22, 23, 24, 25, 26, 27] (by decide +kernel) (by decide +kernel)
set_option maxRecDepth 20000 in
theorem gX3_coded_X3_isRow : GoodIn wsX3_coded (wsV RX3 66 RX3 yX3_isRow wsX3_isRow) := goodIn_app (goodIn_of _ (by decide +kernel)) ggX3_coded_X3_isRow
set_option maxRecDepth 20000 in
theorem ggX3_coded_X3_codedAll : GoodIn wsX3_coded wsX3_codedAll := goodIn_r _ [17, 6, 7, 8, 4, 9, 10, 18, 19, 20, 21, 22, 23, 24, 25, 26, 27] (by decide +kernel) (by decide +kernel)
set_option maxRecDepth 20000 in
theorem gX3_coded_X3_codedAll : GoodIn wsX3_coded (wsV RX3 79 RX3 yX3_codedAll wsX3_codedAll) := goodIn_app (goodIn_of _ (by decide +kernel)) ggX3_coded_X3_codedAll
theorem dX3_coded_0 : decode cX3_coded 0 = .ok (.aload_n 0, 1) := by decide +kernel
theorem dX3_coded_1 : decode cX3_coded 1 = .ok (.iload_n 1, 1) := by decide +kernel
theorem dX3_coded_2 : decode cX3_coded 2 = .ok (.invokevirtual 66, 3) := by decide +kernel
theorem dX3_coded_5 : decode cX3_coded 5 = .ok (.ifCond .eq 11, 3) := by decide +kernel
theorem dX3_coded_8 : decode cX3_coded 8 = .ok (.aload_n 0, 1) := by decide +kernel
theorem dX3_coded_9 : decode cX3_coded 9 = .ok (.iload_n 1, 1) := by decide +kernel
theorem dX3_coded_10 : decode cX3_coded 10 = .ok (.invokevirtual 79, 3) := by decide +kernel
theorem dX3_coded_13 : decode cX3_coded 13 = .ok (.goto 5, 3) := by decide +kernel
theorem dX3_coded_16 : decode cX3_coded 16 = .ok (.bipush (-2), 2) := by decide +kernel
theorem dX3_coded_18 : decode cX3_coded 18 = .ok (.ireturn, 1) := by decide +kernel
set_option maxRecDepth 20000 in
theorem ggX3_wordOf_X3_places : GoodIn wsX3_wordOf wsX3_places := goodIn_r _ [5, 6, 11, 12, 13, 14, 15, 16, 17] (by decide +kernel) (by decide +kernel)
set_option maxRecDepth 20000 in
theorem gX3_wordOf_X3_places : GoodIn wsX3_wordOf (wsV RX3 29 RX3 yX3_places wsX3_places) := goodIn_app (goodIn_of _ (by decide +kernel)) ggX3_wordOf_X3_places
set_option maxRecDepth 20000 in
theorem ggX3_wordOf_X3_free : GoodIn wsX3_wordOf wsX3_free := goodIn_r _ [10, 6, 1, 2, 3, 4, 5, 11, 12, 13, 14, 15, 16, 17] (by decide +kernel) (by decide +kernel)
set_option maxRecDepth 20000 in
theorem gX3_wordOf_X3_free : GoodIn wsX3_wordOf (wsV RX3 69 RX3 yX3_free wsX3_free) := goodIn_app (goodIn_of _ (by decide +kernel)) ggX3_wordOf_X3_free
theorem dX3_wordOf_0 : decode cX3_wordOf 0 = .ok (.iconst 0, 1) := by decide +kernel
theorem dX3_wordOf_1 : decode cX3_wordOf 1 = .ok (.istore_n 2, 1) := by decide +kernel
theorem dX3_wordOf_2 : decode cX3_wordOf 2 = .ok (.iload_n 1, 1) := by decide +kernel
theorem dX3_wordOf_3 : decode cX3_wordOf 3 = .ok (.istore_n 3, 1) := by decide +kernel
theorem dX3_wordOf_4 : decode cX3_wordOf 4 = .ok (.iconst 0, 1) := by decide +kernel
theorem dX3_wordOf_5 : decode cX3_wordOf 5 = .ok (.istore 4, 2) := by decide +kernel
theorem dX3_wordOf_7 : decode cX3_wordOf 7 = .ok (.iload 4, 2) := by decide +kernel
theorem dX3_wordOf_9 : decode cX3_wordOf 9 = .ok (.aload_n 0, 1) := by decide +kernel
theorem dX3_wordOf_10 : decode cX3_wordOf 10 = .ok (.invokevirtual 29, 3) := by decide +kernel
theorem dX3_wordOf_13 : decode cX3_wordOf 13 = .ok (.if_icmp .ge 35, 3) := by decide +kernel
theorem dX3_wordOf_16 : decode cX3_wordOf 16 = .ok (.aload_n 0, 1) := by decide +kernel
theorem dX3_wordOf_17 : decode cX3_wordOf 17 = .ok (.invokevirtual 69, 3) := by decide +kernel
theorem dX3_wordOf_20 : decode cX3_wordOf 20 = .ok (.iload 4, 2) := by decide +kernel
theorem dX3_wordOf_22 : decode cX3_wordOf 22 = .ok (.ishr, 1) := by decide +kernel
theorem dX3_wordOf_23 : decode cX3_wordOf 23 = .ok (.iconst 1, 1) := by decide +kernel
theorem dX3_wordOf_24 : decode cX3_wordOf 24 = .ok (.iand, 1) := by decide +kernel
theorem dX3_wordOf_25 : decode cX3_wordOf 25 = .ok (.iconst 1, 1) := by decide +kernel
theorem dX3_wordOf_26 : decode cX3_wordOf 26 = .ok (.if_icmp .ne 16, 3) := by decide +kernel
theorem dX3_wordOf_29 : decode cX3_wordOf 29 = .ok (.iload_n 2, 1) := by decide +kernel
theorem dX3_wordOf_30 : decode cX3_wordOf 30 = .ok (.iload_n 3, 1) := by decide +kernel
theorem dX3_wordOf_31 : decode cX3_wordOf 31 = .ok (.iconst 1, 1) := by decide +kernel
theorem dX3_wordOf_32 : decode cX3_wordOf 32 = .ok (.iand, 1) := by decide +kernel
theorem dX3_wordOf_33 : decode cX3_wordOf 33 = .ok (.iload 4, 2) := by decide +kernel
theorem dX3_wordOf_35 : decode cX3_wordOf 35 = .ok (.ishl, 1) := by decide +kernel
theorem dX3_wordOf_36 : decode cX3_wordOf 36 = .ok (.ior, 1) := by decide +kernel
theorem dX3_wordOf_37 : decode cX3_wordOf 37 = .ok (.istore_n 2, 1) := by decide +kernel
theorem dX3_wordOf_38 : decode cX3_wordOf 38 = .ok (.iload_n 3, 1) := by decide +kernel
theorem dX3_wordOf_39 : decode cX3_wordOf 39 = .ok (.iconst 1, 1) := by decide +kernel
theorem dX3_wordOf_40 : decode cX3_wordOf 40 = .ok (.ishr, 1) := by decide +kernel
theorem dX3_wordOf_41 : decode cX3_wordOf 41 = .ok (.istore_n 3, 1) := by decide +kernel
theorem dX3_wordOf_42 : decode cX3_wordOf 42 = .ok (.iinc 4 1, 3) := by decide +kernel
theorem dX3_wordOf_45 : decode cX3_wordOf 45 = .ok (.goto (-38), 3) := by decide +kernel
theorem dX3_wordOf_48 : decode cX3_wordOf 48 = .ok (.iload_n 2, 1) := by decide +kernel
theorem dX3_wordOf_49 : decode cX3_wordOf 49 = .ok (.ireturn, 1) := by decide +kernel
set_option maxRecDepth 20000 in
theorem ggX3_word_X3_free : GoodIn wsX3_word wsX3_free := goodIn_r _ [5, 6, 7, 8, 9, 4, 10, 21, 22, 23, 24, 25, 26, 27] (by decide +kernel) (by decide +kernel)
set_option maxRecDepth 20000 in
theorem gX3_word_X3_free : GoodIn wsX3_word (wsV RX3 69 RX3 yX3_free wsX3_free) := goodIn_app (goodIn_of _ (by decide +kernel)) ggX3_word_X3_free
set_option maxRecDepth 20000 in
theorem ggX3_word_X3_size : GoodIn wsX3_word wsX3_size := goodIn_r _ [13] (by decide +kernel) (by decide +kernel)
set_option maxRecDepth 20000 in
theorem gX3_word_X3_size : GoodIn wsX3_word (va_wsS RX3 72 yX3_size wsX3_size) := goodIn_app (goodIn_of _ (by decide +kernel)) ggX3_word_X3_size
set_option maxRecDepth 20000 in
theorem ggX3_word_X3_in : GoodIn wsX3_word wsX3_in := goodIn_r _ [16] (by decide +kernel) (by decide +kernel)
set_option maxRecDepth 20000 in
theorem gX3_word_X3_in : GoodIn wsX3_word (va_wsS RX3 33 yX3_in wsX3_in) := goodIn_app (goodIn_of _ (by decide +kernel)) ggX3_word_X3_in
set_option maxRecDepth 20000 in
theorem ggX3_word_X3_wordOf : GoodIn wsX3_word wsX3_wordOf := goodIn_r _ [20, 7, 8, 9, 4, 10, 6, 1, 2, 3, 5, 21, 22, 23, 24, 25, 26, 27] (by decide +kernel) (by decide +kernel)
set_option maxRecDepth 20000 in
theorem gX3_word_X3_wordOf : GoodIn wsX3_word (wsV RX3 82 RX3 yX3_wordOf wsX3_wordOf) := goodIn_app (goodIn_of _ (by decide +kernel)) ggX3_word_X3_wordOf
theorem dX3_word_0 : decode cX3_word 0 = .ok (.iload_n 1, 1) := by decide +kernel
theorem dX3_word_1 : decode cX3_word 1 = .ok (.iconst 0, 1) := by decide +kernel
theorem dX3_word_2 : decode cX3_word 2 = .ok (.iconst 1, 1) := by decide +kernel
theorem dX3_word_3 : decode cX3_word 3 = .ok (.aload_n 0, 1) := by decide +kernel
theorem dX3_word_4 : decode cX3_word 4 = .ok (.invokevirtual 69, 3) := by decide +kernel
theorem dX3_word_7 : decode cX3_word 7 = .ok (.invokestatic 72, 3) := by decide +kernel
theorem dX3_word_10 : decode cX3_word 10 = .ok (.ishl, 1) := by decide +kernel
theorem dX3_word_11 : decode cX3_word 11 = .ok (.iconst 1, 1) := by decide +kernel
theorem dX3_word_12 : decode cX3_word 12 = .ok (.isub, 1) := by decide +kernel
theorem dX3_word_13 : decode cX3_word 13 = .ok (.invokestatic 33, 3) := by decide +kernel
theorem dX3_word_16 : decode cX3_word 16 = .ok (.ifCond .eq 11, 3) := by decide +kernel
theorem dX3_word_19 : decode cX3_word 19 = .ok (.aload_n 0, 1) := by decide +kernel
theorem dX3_word_20 : decode cX3_word 20 = .ok (.iload_n 1, 1) := by decide +kernel
theorem dX3_word_21 : decode cX3_word 21 = .ok (.invokevirtual 82, 3) := by decide +kernel
theorem dX3_word_24 : decode cX3_word 24 = .ok (.goto 5, 3) := by decide +kernel
theorem dX3_word_27 : decode cX3_word 27 = .ok (.bipush (-2), 2) := by decide +kernel
theorem dX3_word_29 : decode cX3_word 29 = .ok (.ireturn, 1) := by decide +kernel
set_option maxRecDepth 20000 in
theorem ggX3_light_X3_in : GoodIn wsX3_light wsX3_in := goodIn_r _ [4] (by decide +kernel) (by decide +kernel)
set_option maxRecDepth 20000 in
theorem gX3_light_X3_in : GoodIn wsX3_light (va_wsS RX3 33 yX3_in wsX3_in) := goodIn_app (goodIn_of _ (by decide +kernel)) ggX3_light_X3_in
set_option maxRecDepth 20000 in
theorem ggX3_light_X3_free : GoodIn wsX3_light wsX3_free := goodIn_r _ [8, 9, 10, 11, 12, 3, 13, 28, 29, 30, 31, 32, 33, 34] (by decide +kernel) (by decide +kernel)
set_option maxRecDepth 20000 in
theorem gX3_light_X3_free : GoodIn wsX3_light (wsV RX3 69 RX3 yX3_free wsX3_free) := goodIn_app (goodIn_of _ (by decide +kernel)) ggX3_light_X3_free
set_option maxRecDepth 20000 in
theorem ggX3_light_X3_size : GoodIn wsX3_light wsX3_size := goodIn_r _ [16] (by decide +kernel) (by decide +kernel)
set_option maxRecDepth 20000 in
theorem gX3_light_X3_size : GoodIn wsX3_light (va_wsS RX3 72 yX3_size wsX3_size) := goodIn_app (goodIn_of _ (by decide +kernel)) ggX3_light_X3_size
set_option maxRecDepth 20000 in
theorem ggX3_light_X3_wordOf : GoodIn wsX3_light wsX3_wordOf := goodIn_r _ [20, 10, 11, 12, 3, 13, 9, 5, 6, 7, 8, 28, 29, 30, 31, 32, 33, 34] (by decide +kernel) (by decide +kernel)
set_option maxRecDepth 20000 in
theorem gX3_light_X3_wordOf : GoodIn wsX3_light (wsV RX3 82 RX3 yX3_wordOf wsX3_wordOf) := goodIn_app (goodIn_of _ (by decide +kernel)) ggX3_light_X3_wordOf
set_option maxRecDepth 20000 in
theorem ggX3_light_X3_codedAll : GoodIn wsX3_light wsX3_codedAll := goodIn_r _ [24, 10, 11, 12, 3, 13, 9, 25, 26, 27, 28, 29, 30, 31, 32, 33, 34] (by decide +kernel) (by decide +kernel)
set_option maxRecDepth 20000 in
theorem gX3_light_X3_codedAll : GoodIn wsX3_light (wsV RX3 79 RX3 yX3_codedAll wsX3_codedAll) := goodIn_app (goodIn_of _ (by decide +kernel)) ggX3_light_X3_codedAll
theorem dX3_light_0 : decode cX3_light 0 = .ok (.iload_n 1, 1) := by decide +kernel
theorem dX3_light_1 : decode cX3_light 1 = .ok (.iconst 0, 1) := by decide +kernel
theorem dX3_light_2 : decode cX3_light 2 = .ok (.iconst 1, 1) := by decide +kernel
theorem dX3_light_3 : decode cX3_light 3 = .ok (.invokestatic 33, 3) := by decide +kernel
theorem dX3_light_6 : decode cX3_light 6 = .ok (.ifCond .ne 6, 3) := by decide +kernel
theorem dX3_light_9 : decode cX3_light 9 = .ok (.bipush (-2), 2) := by decide +kernel
theorem dX3_light_11 : decode cX3_light 11 = .ok (.ireturn, 1) := by decide +kernel
theorem dX3_light_12 : decode cX3_light 12 = .ok (.bipush (-6), 2) := by decide +kernel
theorem dX3_light_14 : decode cX3_light 14 = .ok (.istore_n 2, 1) := by decide +kernel
theorem dX3_light_15 : decode cX3_light 15 = .ok (.iconst 0, 1) := by decide +kernel
theorem dX3_light_16 : decode cX3_light 16 = .ok (.istore_n 3, 1) := by decide +kernel
theorem dX3_light_17 : decode cX3_light 17 = .ok (.iconst 1, 1) := by decide +kernel
theorem dX3_light_18 : decode cX3_light 18 = .ok (.istore 4, 2) := by decide +kernel
theorem dX3_light_20 : decode cX3_light 20 = .ok (.iload 4, 2) := by decide +kernel
theorem dX3_light_22 : decode cX3_light 22 = .ok (.iconst 1, 1) := by decide +kernel
theorem dX3_light_23 : decode cX3_light 23 = .ok (.aload_n 0, 1) := by decide +kernel
theorem dX3_light_24 : decode cX3_light 24 = .ok (.invokevirtual 69, 3) := by decide +kernel
theorem dX3_light_27 : decode cX3_light 27 = .ok (.invokestatic 72, 3) := by decide +kernel
theorem dX3_light_30 : decode cX3_light 30 = .ok (.ishl, 1) := by decide +kernel
theorem dX3_light_31 : decode cX3_light 31 = .ok (.if_icmp .ge 71, 3) := by decide +kernel
theorem dX3_light_34 : decode cX3_light 34 = .ok (.aload_n 0, 1) := by decide +kernel
theorem dX3_light_35 : decode cX3_light 35 = .ok (.aload_n 0, 1) := by decide +kernel
theorem dX3_light_36 : decode cX3_light 36 = .ok (.iload 4, 2) := by decide +kernel
theorem dX3_light_38 : decode cX3_light 38 = .ok (.invokevirtual 82, 3) := by decide +kernel
theorem dX3_light_41 : decode cX3_light 41 = .ok (.invokevirtual 79, 3) := by decide +kernel
theorem dX3_light_44 : decode cX3_light 44 = .ok (.invokestatic 72, 3) := by decide +kernel
theorem dX3_light_47 : decode cX3_light 47 = .ok (.istore 5, 2) := by decide +kernel
theorem dX3_light_49 : decode cX3_light 49 = .ok (.iload_n 2, 1) := by decide +kernel
theorem dX3_light_50 : decode cX3_light 50 = .ok (.ifCond .lt 9, 3) := by decide +kernel
theorem dX3_light_53 : decode cX3_light 53 = .ok (.iload 5, 2) := by decide +kernel
theorem dX3_light_55 : decode cX3_light 55 = .ok (.iload_n 2, 1) := by decide +kernel
theorem dX3_light_56 : decode cX3_light 56 = .ok (.if_icmp .ge 7, 3) := by decide +kernel
theorem dX3_light_59 : decode cX3_light 59 = .ok (.iconst 0, 1) := by decide +kernel
theorem dX3_light_60 : decode cX3_light 60 = .ok (.goto 4, 3) := by decide +kernel
theorem dX3_light_63 : decode cX3_light 63 = .ok (.iload_n 3, 1) := by decide +kernel
theorem dX3_light_64 : decode cX3_light 64 = .ok (.istore_n 3, 1) := by decide +kernel
theorem dX3_light_65 : decode cX3_light 65 = .ok (.iload_n 2, 1) := by decide +kernel
theorem dX3_light_66 : decode cX3_light 66 = .ok (.ifCond .lt 9, 3) := by decide +kernel
theorem dX3_light_69 : decode cX3_light 69 = .ok (.iload 5, 2) := by decide +kernel
theorem dX3_light_71 : decode cX3_light 71 = .ok (.iload_n 2, 1) := by decide +kernel
theorem dX3_light_72 : decode cX3_light 72 = .ok (.if_icmp .ge 8, 3) := by decide +kernel
theorem dX3_light_75 : decode cX3_light 75 = .ok (.iload 5, 2) := by decide +kernel
theorem dX3_light_77 : decode cX3_light 77 = .ok (.goto 4, 3) := by decide +kernel
theorem dX3_light_80 : decode cX3_light 80 = .ok (.iload_n 2, 1) := by decide +kernel
theorem dX3_light_81 : decode cX3_light 81 = .ok (.istore_n 2, 1) := by decide +kernel
theorem dX3_light_82 : decode cX3_light 82 = .ok (.iload_n 3, 1) := by decide +kernel
theorem dX3_light_83 : decode cX3_light 83 = .ok (.iload 5, 2) := by decide +kernel
theorem dX3_light_85 : decode cX3_light 85 = .ok (.iload_n 2, 1) := by decide +kernel
theorem dX3_light_86 : decode cX3_light 86 = .ok (.if_icmp .ne 7, 3) := by decide +kernel
theorem dX3_light_89 : decode cX3_light 89 = .ok (.iconst 1, 1) := by decide +kernel
theorem dX3_light_90 : decode cX3_light 90 = .ok (.goto 4, 3) := by decide +kernel
theorem dX3_light_93 : decode cX3_light 93 = .ok (.iconst 0, 1) := by decide +kernel
theorem dX3_light_94 : decode cX3_light 94 = .ok (.iadd, 1) := by decide +kernel
theorem dX3_light_95 : decode cX3_light 95 = .ok (.istore_n 3, 1) := by decide +kernel
theorem dX3_light_96 : decode cX3_light 96 = .ok (.iinc 4 1, 3) := by decide +kernel
theorem dX3_light_99 : decode cX3_light 99 = .ok (.goto (-79), 3) := by decide +kernel
theorem dX3_light_102 : decode cX3_light 102 = .ok (.iload_n 2, 1) := by decide +kernel
theorem dX3_light_103 : decode cX3_light 103 = .ok (.ifCond .lt 7, 3) := by decide +kernel
theorem dX3_light_106 : decode cX3_light 106 = .ok (.iload_n 1, 1) := by decide +kernel
theorem dX3_light_107 : decode cX3_light 107 = .ok (.ifCond .ne 7, 3) := by decide +kernel
theorem dX3_light_110 : decode cX3_light 110 = .ok (.iload_n 2, 1) := by decide +kernel
theorem dX3_light_111 : decode cX3_light 111 = .ok (.goto 4, 3) := by decide +kernel
theorem dX3_light_114 : decode cX3_light 114 = .ok (.iload_n 3, 1) := by decide +kernel
theorem dX3_light_115 : decode cX3_light 115 = .ok (.ireturn, 1) := by decide +kernel
set_option maxRecDepth 20000 in
theorem ggX3_put_X3_isPlace : GoodIn wsX3_put wsX3_isPlace := goodIn_r _ [8, 9, 10, 11, 7, 12, 3, 13, 14, 15, 16, 17, 18, 19, 20, 21, 22] (by decide +kernel) (by decide +kernel)
set_option maxRecDepth 20000 in
theorem gX3_put_X3_isPlace : GoodIn wsX3_put (wsV RX3 39 RX3 yX3_isPlace wsX3_isPlace) := goodIn_app (goodIn_of _ (by decide +kernel)) ggX3_put_X3_isPlace
set_option maxRecDepth 20000 in
theorem ggX3_put_X3_in : GoodIn wsX3_put wsX3_in := goodIn_r _ [15] (by decide +kernel) (by decide +kernel)
set_option maxRecDepth 20000 in
theorem gX3_put_X3_in : GoodIn wsX3_put (va_wsS RX3 33 yX3_in wsX3_in) := goodIn_app (goodIn_of _ (by decide +kernel)) ggX3_put_X3_in
theorem dX3_put_0 : decode cX3_put 0 = .ok (.aload_n 0, 1) := by decide +kernel
theorem dX3_put_1 : decode cX3_put 1 = .ok (.iload_n 1, 1) := by decide +kernel
theorem dX3_put_2 : decode cX3_put 2 = .ok (.invokevirtual 39, 3) := by decide +kernel
theorem dX3_put_5 : decode cX3_put 5 = .ok (.ifCond .ne 6, 3) := by decide +kernel
theorem dX3_put_8 : decode cX3_put 8 = .ok (.ldc 85, 2) := by decide +kernel
theorem dX3_put_10 : decode cX3_put 10 = .ok (.ireturn, 1) := by decide +kernel
theorem dX3_put_11 : decode cX3_put 11 = .ok (.iload_n 2, 1) := by decide +kernel
theorem dX3_put_12 : decode cX3_put 12 = .ok (.bipush (-99), 2) := by decide +kernel
theorem dX3_put_14 : decode cX3_put 14 = .ok (.bipush 99, 2) := by decide +kernel
theorem dX3_put_16 : decode cX3_put 16 = .ok (.invokestatic 33, 3) := by decide +kernel
theorem dX3_put_19 : decode cX3_put 19 = .ok (.ifCond .ne 6, 3) := by decide +kernel
theorem dX3_put_22 : decode cX3_put 22 = .ok (.ldc 86, 2) := by decide +kernel
theorem dX3_put_24 : decode cX3_put 24 = .ok (.ireturn, 1) := by decide +kernel
theorem dX3_put_25 : decode cX3_put 25 = .ok (.aload_n 0, 1) := by decide +kernel
theorem dX3_put_26 : decode cX3_put 26 = .ok (.getfield 7, 3) := by decide +kernel
theorem dX3_put_29 : decode cX3_put 29 = .ok (.bipush 8, 2) := by decide +kernel
theorem dX3_put_31 : decode cX3_put 31 = .ok (.iload_n 1, 1) := by decide +kernel
theorem dX3_put_32 : decode cX3_put 32 = .ok (.iadd, 1) := by decide +kernel
theorem dX3_put_33 : decode cX3_put 33 = .ok (.iaload, 1) := by decide +kernel
theorem dX3_put_34 : decode cX3_put 34 = .ok (.istore_n 3, 1) := by decide +kernel
theorem dX3_put_35 : decode cX3_put 35 = .ok (.aload_n 0, 1) := by decide +kernel
theorem dX3_put_36 : decode cX3_put 36 = .ok (.getfield 7, 3) := by decide +kernel
theorem dX3_put_39 : decode cX3_put 39 = .ok (.bipush 8, 2) := by decide +kernel
theorem dX3_put_41 : decode cX3_put 41 = .ok (.iload_n 1, 1) := by decide +kernel
theorem dX3_put_42 : decode cX3_put 42 = .ok (.iadd, 1) := by decide +kernel
theorem dX3_put_43 : decode cX3_put 43 = .ok (.iload_n 2, 1) := by decide +kernel
theorem dX3_put_44 : decode cX3_put 44 = .ok (.iastore, 1) := by decide +kernel
theorem dX3_put_45 : decode cX3_put 45 = .ok (.iload_n 3, 1) := by decide +kernel
theorem dX3_put_46 : decode cX3_put 46 = .ok (.ireturn, 1) := by decide +kernel
set_option maxRecDepth 20000 in
theorem ggX3_hear_X3_isRow : GoodIn wsX3_hear wsX3_isRow := goodIn_r _ [6, 7, 8, 9, 5, 10, 1, 11, 12, 13, 21, 22, 23, 24, 25, 26, 27] (by decide +kernel) (by decide +kernel)
set_option maxRecDepth 20000 in
theorem gX3_hear_X3_isRow : GoodIn wsX3_hear (wsV RX3 66 RX3 yX3_isRow wsX3_isRow) := goodIn_app (goodIn_of _ (by decide +kernel)) ggX3_hear_X3_isRow
set_option maxRecDepth 20000 in
theorem ggX3_hear_X3_in : GoodIn wsX3_hear wsX3_in := goodIn_r _ [13] (by decide +kernel) (by decide +kernel)
set_option maxRecDepth 20000 in
theorem gX3_hear_X3_in : GoodIn wsX3_hear (va_wsS RX3 33 yX3_in wsX3_in) := goodIn_app (goodIn_of _ (by decide +kernel)) ggX3_hear_X3_in
set_option maxRecDepth 20000 in
theorem ggX3_hear_X3_codedAll : GoodIn wsX3_hear wsX3_codedAll := goodIn_r _ [17, 7, 8, 9, 5, 10, 1, 18, 19, 20, 21, 22, 23, 24, 25, 26, 27] (by decide +kernel) (by decide +kernel)
set_option maxRecDepth 20000 in
theorem gX3_hear_X3_codedAll : GoodIn wsX3_hear (wsV RX3 79 RX3 yX3_codedAll wsX3_codedAll) := goodIn_app (goodIn_of _ (by decide +kernel)) ggX3_hear_X3_codedAll
set_option maxRecDepth 20000 in
theorem ggX3_hear_X3_places : GoodIn wsX3_hear wsX3_places := goodIn_r _ [10, 1, 21, 22, 23, 24, 25, 26, 27] (by decide +kernel) (by decide +kernel)
set_option maxRecDepth 20000 in
theorem gX3_hear_X3_places : GoodIn wsX3_hear (wsV RX3 29 RX3 yX3_places wsX3_places) := goodIn_app (goodIn_of _ (by decide +kernel)) ggX3_hear_X3_places
theorem dX3_hear_0 : decode cX3_hear 0 = .ok (.aload_n 0, 1) := by decide +kernel
theorem dX3_hear_1 : decode cX3_hear 1 = .ok (.iload_n 1, 1) := by decide +kernel
theorem dX3_hear_2 : decode cX3_hear 2 = .ok (.invokevirtual 66, 3) := by decide +kernel
theorem dX3_hear_5 : decode cX3_hear 5 = .ok (.ifCond .eq 13, 3) := by decide +kernel
theorem dX3_hear_8 : decode cX3_hear 8 = .ok (.iload_n 2, 1) := by decide +kernel
theorem dX3_hear_9 : decode cX3_hear 9 = .ok (.iconst 1, 1) := by decide +kernel
theorem dX3_hear_10 : decode cX3_hear 10 = .ok (.bipush 99, 2) := by decide +kernel
theorem dX3_hear_12 : decode cX3_hear 12 = .ok (.invokestatic 33, 3) := by decide +kernel
theorem dX3_hear_15 : decode cX3_hear 15 = .ok (.ifCond .ne 6, 3) := by decide +kernel
theorem dX3_hear_18 : decode cX3_hear 18 = .ok (.bipush (-2), 2) := by decide +kernel
theorem dX3_hear_20 : decode cX3_hear 20 = .ok (.ireturn, 1) := by decide +kernel
theorem dX3_hear_21 : decode cX3_hear 21 = .ok (.aload_n 0, 1) := by decide +kernel
theorem dX3_hear_22 : decode cX3_hear 22 = .ok (.iload_n 1, 1) := by decide +kernel
theorem dX3_hear_23 : decode cX3_hear 23 = .ok (.invokevirtual 79, 3) := by decide +kernel
theorem dX3_hear_26 : decode cX3_hear 26 = .ok (.istore_n 3, 1) := by decide +kernel
theorem dX3_hear_27 : decode cX3_hear 27 = .ok (.iconst 0, 1) := by decide +kernel
theorem dX3_hear_28 : decode cX3_hear 28 = .ok (.istore 4, 2) := by decide +kernel
theorem dX3_hear_30 : decode cX3_hear 30 = .ok (.iload 4, 2) := by decide +kernel
theorem dX3_hear_32 : decode cX3_hear 32 = .ok (.aload_n 0, 1) := by decide +kernel
theorem dX3_hear_33 : decode cX3_hear 33 = .ok (.invokevirtual 29, 3) := by decide +kernel
theorem dX3_hear_36 : decode cX3_hear 36 = .ok (.if_icmp .ge 34, 3) := by decide +kernel
theorem dX3_hear_39 : decode cX3_hear 39 = .ok (.aload_n 0, 1) := by decide +kernel
theorem dX3_hear_40 : decode cX3_hear 40 = .ok (.getfield 7, 3) := by decide +kernel
theorem dX3_hear_43 : decode cX3_hear 43 = .ok (.bipush 8, 2) := by decide +kernel
theorem dX3_hear_45 : decode cX3_hear 45 = .ok (.iload 4, 2) := by decide +kernel
theorem dX3_hear_47 : decode cX3_hear 47 = .ok (.iadd, 1) := by decide +kernel
theorem dX3_hear_48 : decode cX3_hear 48 = .ok (.iload_n 3, 1) := by decide +kernel
theorem dX3_hear_49 : decode cX3_hear 49 = .ok (.iload 4, 2) := by decide +kernel
theorem dX3_hear_51 : decode cX3_hear 51 = .ok (.ishr, 1) := by decide +kernel
theorem dX3_hear_52 : decode cX3_hear 52 = .ok (.iconst 1, 1) := by decide +kernel
theorem dX3_hear_53 : decode cX3_hear 53 = .ok (.iand, 1) := by decide +kernel
theorem dX3_hear_54 : decode cX3_hear 54 = .ok (.ifCond .ne 7, 3) := by decide +kernel
theorem dX3_hear_57 : decode cX3_hear 57 = .ok (.iload_n 2, 1) := by decide +kernel
theorem dX3_hear_58 : decode cX3_hear 58 = .ok (.goto 5, 3) := by decide +kernel
theorem dX3_hear_61 : decode cX3_hear 61 = .ok (.iload_n 2, 1) := by decide +kernel
theorem dX3_hear_62 : decode cX3_hear 62 = .ok (.ineg, 1) := by decide +kernel
theorem dX3_hear_63 : decode cX3_hear 63 = .ok (.iastore, 1) := by decide +kernel
theorem dX3_hear_64 : decode cX3_hear 64 = .ok (.iinc 4 1, 3) := by decide +kernel
theorem dX3_hear_67 : decode cX3_hear 67 = .ok (.goto (-37), 3) := by decide +kernel
theorem dX3_hear_70 : decode cX3_hear 70 = .ok (.iload_n 3, 1) := by decide +kernel
theorem dX3_hear_71 : decode cX3_hear 71 = .ok (.ireturn, 1) := by decide +kernel
set_option maxRecDepth 20000 in
theorem ggX3_spoil_X3_isRow : GoodIn wsX3_spoil wsX3_isRow := goodIn_r _ [6, 7, 8, 9, 5, 10, 1, 11, 12, 13, 14, 15, 16, 17, 18, 19, 20] (by decide +kernel) (by decide +kernel)
set_option maxRecDepth 20000 in
theorem gX3_spoil_X3_isRow : GoodIn wsX3_spoil (wsV RX3 66 RX3 yX3_isRow wsX3_isRow) := goodIn_app (goodIn_of _ (by decide +kernel)) ggX3_spoil_X3_isRow
set_option maxRecDepth 20000 in
theorem ggX3_spoil_X3_in : GoodIn wsX3_spoil wsX3_in := goodIn_r _ [13] (by decide +kernel) (by decide +kernel)
set_option maxRecDepth 20000 in
theorem gX3_spoil_X3_in : GoodIn wsX3_spoil (va_wsS RX3 33 yX3_in wsX3_in) := goodIn_app (goodIn_of _ (by decide +kernel)) ggX3_spoil_X3_in
set_option maxRecDepth 20000 in
theorem ggX3_spoil_X3_places : GoodIn wsX3_spoil wsX3_places := goodIn_r _ [10, 1, 14, 15, 16, 17, 18, 19, 20] (by decide +kernel) (by decide +kernel)
set_option maxRecDepth 20000 in
theorem gX3_spoil_X3_places : GoodIn wsX3_spoil (wsV RX3 29 RX3 yX3_places wsX3_places) := goodIn_app (goodIn_of _ (by decide +kernel)) ggX3_spoil_X3_places
theorem dX3_spoil_0 : decode cX3_spoil 0 = .ok (.aload_n 0, 1) := by decide +kernel
theorem dX3_spoil_1 : decode cX3_spoil 1 = .ok (.iload_n 1, 1) := by decide +kernel
theorem dX3_spoil_2 : decode cX3_spoil 2 = .ok (.invokevirtual 66, 3) := by decide +kernel
theorem dX3_spoil_5 : decode cX3_spoil 5 = .ok (.ifCond .eq 12, 3) := by decide +kernel
theorem dX3_spoil_8 : decode cX3_spoil 8 = .ok (.iload_n 2, 1) := by decide +kernel
theorem dX3_spoil_9 : decode cX3_spoil 9 = .ok (.iconst 0, 1) := by decide +kernel
theorem dX3_spoil_10 : decode cX3_spoil 10 = .ok (.iconst 1, 1) := by decide +kernel
theorem dX3_spoil_11 : decode cX3_spoil 11 = .ok (.invokestatic 33, 3) := by decide +kernel
theorem dX3_spoil_14 : decode cX3_spoil 14 = .ok (.ifCond .ne 6, 3) := by decide +kernel
theorem dX3_spoil_17 : decode cX3_spoil 17 = .ok (.bipush (-2), 2) := by decide +kernel
theorem dX3_spoil_19 : decode cX3_spoil 19 = .ok (.ireturn, 1) := by decide +kernel
theorem dX3_spoil_20 : decode cX3_spoil 20 = .ok (.iconst 0, 1) := by decide +kernel
theorem dX3_spoil_21 : decode cX3_spoil 21 = .ok (.istore_n 3, 1) := by decide +kernel
theorem dX3_spoil_22 : decode cX3_spoil 22 = .ok (.iconst 0, 1) := by decide +kernel
theorem dX3_spoil_23 : decode cX3_spoil 23 = .ok (.istore 4, 2) := by decide +kernel
theorem dX3_spoil_25 : decode cX3_spoil 25 = .ok (.iload 4, 2) := by decide +kernel
theorem dX3_spoil_27 : decode cX3_spoil 27 = .ok (.aload_n 0, 1) := by decide +kernel
theorem dX3_spoil_28 : decode cX3_spoil 28 = .ok (.invokevirtual 29, 3) := by decide +kernel
theorem dX3_spoil_31 : decode cX3_spoil 31 = .ok (.if_icmp .ge 69, 3) := by decide +kernel
theorem dX3_spoil_34 : decode cX3_spoil 34 = .ok (.iload_n 1, 1) := by decide +kernel
theorem dX3_spoil_35 : decode cX3_spoil 35 = .ok (.iload 4, 2) := by decide +kernel
theorem dX3_spoil_37 : decode cX3_spoil 37 = .ok (.ishr, 1) := by decide +kernel
theorem dX3_spoil_38 : decode cX3_spoil 38 = .ok (.iconst 1, 1) := by decide +kernel
theorem dX3_spoil_39 : decode cX3_spoil 39 = .ok (.iand, 1) := by decide +kernel
theorem dX3_spoil_40 : decode cX3_spoil 40 = .ok (.iconst 1, 1) := by decide +kernel
theorem dX3_spoil_41 : decode cX3_spoil 41 = .ok (.if_icmp .ne 53, 3) := by decide +kernel
theorem dX3_spoil_44 : decode cX3_spoil 44 = .ok (.iload_n 3, 1) := by decide +kernel
theorem dX3_spoil_45 : decode cX3_spoil 45 = .ok (.aload_n 0, 1) := by decide +kernel
theorem dX3_spoil_46 : decode cX3_spoil 46 = .ok (.getfield 7, 3) := by decide +kernel
theorem dX3_spoil_49 : decode cX3_spoil 49 = .ok (.bipush 8, 2) := by decide +kernel
theorem dX3_spoil_51 : decode cX3_spoil 51 = .ok (.iload 4, 2) := by decide +kernel
theorem dX3_spoil_53 : decode cX3_spoil 53 = .ok (.iadd, 1) := by decide +kernel
theorem dX3_spoil_54 : decode cX3_spoil 54 = .ok (.iaload, 1) := by decide +kernel
theorem dX3_spoil_55 : decode cX3_spoil 55 = .ok (.ifCond .ne 7, 3) := by decide +kernel
theorem dX3_spoil_58 : decode cX3_spoil 58 = .ok (.iconst 0, 1) := by decide +kernel
theorem dX3_spoil_59 : decode cX3_spoil 59 = .ok (.goto 4, 3) := by decide +kernel
theorem dX3_spoil_62 : decode cX3_spoil 62 = .ok (.iconst 1, 1) := by decide +kernel
theorem dX3_spoil_63 : decode cX3_spoil 63 = .ok (.iadd, 1) := by decide +kernel
theorem dX3_spoil_64 : decode cX3_spoil 64 = .ok (.istore_n 3, 1) := by decide +kernel
theorem dX3_spoil_65 : decode cX3_spoil 65 = .ok (.aload_n 0, 1) := by decide +kernel
theorem dX3_spoil_66 : decode cX3_spoil 66 = .ok (.getfield 7, 3) := by decide +kernel
theorem dX3_spoil_69 : decode cX3_spoil 69 = .ok (.bipush 8, 2) := by decide +kernel
theorem dX3_spoil_71 : decode cX3_spoil 71 = .ok (.iload 4, 2) := by decide +kernel
theorem dX3_spoil_73 : decode cX3_spoil 73 = .ok (.iadd, 1) := by decide +kernel
theorem dX3_spoil_74 : decode cX3_spoil 74 = .ok (.iload_n 2, 1) := by decide +kernel
theorem dX3_spoil_75 : decode cX3_spoil 75 = .ok (.ifCond .ne 7, 3) := by decide +kernel
theorem dX3_spoil_78 : decode cX3_spoil 78 = .ok (.iconst 0, 1) := by decide +kernel
theorem dX3_spoil_79 : decode cX3_spoil 79 = .ok (.goto 14, 3) := by decide +kernel
theorem dX3_spoil_82 : decode cX3_spoil 82 = .ok (.aload_n 0, 1) := by decide +kernel
theorem dX3_spoil_83 : decode cX3_spoil 83 = .ok (.getfield 7, 3) := by decide +kernel
theorem dX3_spoil_86 : decode cX3_spoil 86 = .ok (.bipush 8, 2) := by decide +kernel
theorem dX3_spoil_88 : decode cX3_spoil 88 = .ok (.iload 4, 2) := by decide +kernel
theorem dX3_spoil_90 : decode cX3_spoil 90 = .ok (.iadd, 1) := by decide +kernel
theorem dX3_spoil_91 : decode cX3_spoil 91 = .ok (.iaload, 1) := by decide +kernel
theorem dX3_spoil_92 : decode cX3_spoil 92 = .ok (.ineg, 1) := by decide +kernel
theorem dX3_spoil_93 : decode cX3_spoil 93 = .ok (.iastore, 1) := by decide +kernel
theorem dX3_spoil_94 : decode cX3_spoil 94 = .ok (.iinc 4 1, 3) := by decide +kernel
theorem dX3_spoil_97 : decode cX3_spoil 97 = .ok (.goto (-72), 3) := by decide +kernel
theorem dX3_spoil_100 : decode cX3_spoil 100 = .ok (.iload_n 3, 1) := by decide +kernel
theorem dX3_spoil_101 : decode cX3_spoil 101 = .ok (.ireturn, 1) := by decide +kernel
set_option maxRecDepth 20000 in
theorem ggX3_lesser_X3_plain : GoodIn wsX3_lesser wsX3_plain := goodIn_r _ [4] (by decide +kernel) (by decide +kernel)
set_option maxRecDepth 20000 in
theorem gX3_lesser_X3_plain : GoodIn wsX3_lesser (va_wsS RX3 87 yX3_plain wsX3_plain) := goodIn_app (goodIn_of _ (by decide +kernel)) ggX3_lesser_X3_plain
theorem dX3_lesser_0 : decode cX3_lesser 0 = .ok (.iload_n 0, 1) := by decide +kernel
theorem dX3_lesser_1 : decode cX3_lesser 1 = .ok (.invokestatic 87, 3) := by decide +kernel
theorem dX3_lesser_4 : decode cX3_lesser 4 = .ok (.istore_n 2, 1) := by decide +kernel
theorem dX3_lesser_5 : decode cX3_lesser 5 = .ok (.iload_n 1, 1) := by decide +kernel
theorem dX3_lesser_6 : decode cX3_lesser 6 = .ok (.invokestatic 87, 3) := by decide +kernel
theorem dX3_lesser_9 : decode cX3_lesser 9 = .ok (.istore_n 3, 1) := by decide +kernel
theorem dX3_lesser_10 : decode cX3_lesser 10 = .ok (.iload_n 2, 1) := by decide +kernel
theorem dX3_lesser_11 : decode cX3_lesser 11 = .ok (.iload_n 3, 1) := by decide +kernel
theorem dX3_lesser_12 : decode cX3_lesser 12 = .ok (.if_icmp .ge 7, 3) := by decide +kernel
theorem dX3_lesser_15 : decode cX3_lesser 15 = .ok (.iload_n 2, 1) := by decide +kernel
theorem dX3_lesser_16 : decode cX3_lesser 16 = .ok (.goto 4, 3) := by decide +kernel
theorem dX3_lesser_19 : decode cX3_lesser 19 = .ok (.iload_n 3, 1) := by decide +kernel
theorem dX3_lesser_20 : decode cX3_lesser 20 = .ok (.istore 4, 2) := by decide +kernel
theorem dX3_lesser_22 : decode cX3_lesser 22 = .ok (.iload_n 0, 1) := by decide +kernel
theorem dX3_lesser_23 : decode cX3_lesser 23 = .ok (.ifCond .ge 7, 3) := by decide +kernel
theorem dX3_lesser_26 : decode cX3_lesser 26 = .ok (.iconst 1, 1) := by decide +kernel
theorem dX3_lesser_27 : decode cX3_lesser 27 = .ok (.goto 4, 3) := by decide +kernel
theorem dX3_lesser_30 : decode cX3_lesser 30 = .ok (.iconst 0, 1) := by decide +kernel
theorem dX3_lesser_31 : decode cX3_lesser 31 = .ok (.iload_n 1, 1) := by decide +kernel
theorem dX3_lesser_32 : decode cX3_lesser 32 = .ok (.ifCond .ge 7, 3) := by decide +kernel
theorem dX3_lesser_35 : decode cX3_lesser 35 = .ok (.iconst 1, 1) := by decide +kernel
theorem dX3_lesser_36 : decode cX3_lesser 36 = .ok (.goto 4, 3) := by decide +kernel
theorem dX3_lesser_39 : decode cX3_lesser 39 = .ok (.iconst 0, 1) := by decide +kernel
theorem dX3_lesser_40 : decode cX3_lesser 40 = .ok (.if_icmp .ne 8, 3) := by decide +kernel
theorem dX3_lesser_43 : decode cX3_lesser 43 = .ok (.iload 4, 2) := by decide +kernel
theorem dX3_lesser_45 : decode cX3_lesser 45 = .ok (.goto 6, 3) := by decide +kernel
theorem dX3_lesser_48 : decode cX3_lesser 48 = .ok (.iload 4, 2) := by decide +kernel
theorem dX3_lesser_50 : decode cX3_lesser 50 = .ok (.ineg, 1) := by decide +kernel
theorem dX3_lesser_51 : decode cX3_lesser 51 = .ok (.ireturn, 1) := by decide +kernel
set_option maxRecDepth 20000 in
theorem ggX3_seen_X3_places : GoodIn wsX3_seen wsX3_places := goodIn_r _ [7, 2, 17, 18, 19, 20, 21, 22, 23] (by decide +kernel) (by decide +kernel)
set_option maxRecDepth 20000 in
theorem gX3_seen_X3_places : GoodIn wsX3_seen (wsV RX3 29 RX3 yX3_places wsX3_places) := goodIn_app (goodIn_of _ (by decide +kernel)) ggX3_seen_X3_places
set_option maxRecDepth 20000 in
theorem ggX3_seen_X3_codedOf : GoodIn wsX3_seen wsX3_codedOf := goodIn_r _ [10] (by decide +kernel) (by decide +kernel)
set_option maxRecDepth 20000 in
theorem gX3_seen_X3_codedOf : GoodIn wsX3_seen (va_wsS RX3 75 yX3_codedOf wsX3_codedOf) := goodIn_app (goodIn_of _ (by decide +kernel)) ggX3_seen_X3_codedOf
set_option maxRecDepth 20000 in
theorem ggX3_seen_X3_lesser : GoodIn wsX3_seen wsX3_lesser := goodIn_r _ [13, 14, 15, 6, 16] (by decide +kernel) (by decide +kernel)
set_option maxRecDepth 20000 in
theorem gX3_seen_X3_lesser : GoodIn wsX3_seen (va_wsS RX3 90 yX3_lesser wsX3_lesser) := goodIn_app (goodIn_of _ (by decide +kernel)) ggX3_seen_X3_lesser
theorem dX3_seen_0 : decode cX3_seen 0 = .ok (.iconst 0, 1) := by decide +kernel
theorem dX3_seen_1 : decode cX3_seen 1 = .ok (.istore_n 3, 1) := by decide +kernel
theorem dX3_seen_2 : decode cX3_seen 2 = .ok (.iload_n 3, 1) := by decide +kernel
theorem dX3_seen_3 : decode cX3_seen 3 = .ok (.aload_n 0, 1) := by decide +kernel
theorem dX3_seen_4 : decode cX3_seen 4 = .ok (.invokevirtual 29, 3) := by decide +kernel
theorem dX3_seen_7 : decode cX3_seen 7 = .ok (.if_icmp .ge 24, 3) := by decide +kernel
theorem dX3_seen_10 : decode cX3_seen 10 = .ok (.aload_n 0, 1) := by decide +kernel
theorem dX3_seen_11 : decode cX3_seen 11 = .ok (.getfield 20, 3) := by decide +kernel
theorem dX3_seen_14 : decode cX3_seen 14 = .ok (.iload_n 3, 1) := by decide +kernel
theorem dX3_seen_15 : decode cX3_seen 15 = .ok (.aload_n 0, 1) := by decide +kernel
theorem dX3_seen_16 : decode cX3_seen 16 = .ok (.getfield 7, 3) := by decide +kernel
theorem dX3_seen_19 : decode cX3_seen 19 = .ok (.bipush 8, 2) := by decide +kernel
theorem dX3_seen_21 : decode cX3_seen 21 = .ok (.iload_n 3, 1) := by decide +kernel
theorem dX3_seen_22 : decode cX3_seen 22 = .ok (.iadd, 1) := by decide +kernel
theorem dX3_seen_23 : decode cX3_seen 23 = .ok (.iaload, 1) := by decide +kernel
theorem dX3_seen_24 : decode cX3_seen 24 = .ok (.iastore, 1) := by decide +kernel
theorem dX3_seen_25 : decode cX3_seen 25 = .ok (.iinc 3 1, 3) := by decide +kernel
theorem dX3_seen_28 : decode cX3_seen 28 = .ok (.goto (-26), 3) := by decide +kernel
theorem dX3_seen_31 : decode cX3_seen 31 = .ok (.iconst 0, 1) := by decide +kernel
theorem dX3_seen_32 : decode cX3_seen 32 = .ok (.istore_n 3, 1) := by decide +kernel
theorem dX3_seen_33 : decode cX3_seen 33 = .ok (.aload_n 0, 1) := by decide +kernel
theorem dX3_seen_34 : decode cX3_seen 34 = .ok (.invokevirtual 29, 3) := by decide +kernel
theorem dX3_seen_37 : decode cX3_seen 37 = .ok (.iconst 2, 1) := by decide +kernel
theorem dX3_seen_38 : decode cX3_seen 38 = .ok (.idiv, 1) := by decide +kernel
theorem dX3_seen_39 : decode cX3_seen 39 = .ok (.istore 4, 2) := by decide +kernel
theorem dX3_seen_41 : decode cX3_seen 41 = .ok (.iload 4, 2) := by decide +kernel
theorem dX3_seen_43 : decode cX3_seen 43 = .ok (.ifCond .le 132, 3) := by decide +kernel
theorem dX3_seen_46 : decode cX3_seen 46 = .ok (.iload_n 1, 1) := by decide +kernel
theorem dX3_seen_47 : decode cX3_seen 47 = .ok (.iload_n 3, 1) := by decide +kernel
theorem dX3_seen_48 : decode cX3_seen 48 = .ok (.iload 4, 2) := by decide +kernel
theorem dX3_seen_50 : decode cX3_seen 50 = .ok (.iadd, 1) := by decide +kernel
theorem dX3_seen_51 : decode cX3_seen 51 = .ok (.if_icmp .ge 7, 3) := by decide +kernel
theorem dX3_seen_54 : decode cX3_seen 54 = .ok (.iconst 1, 1) := by decide +kernel
theorem dX3_seen_55 : decode cX3_seen 55 = .ok (.goto 4, 3) := by decide +kernel
theorem dX3_seen_58 : decode cX3_seen 58 = .ok (.iconst 0, 1) := by decide +kernel
theorem dX3_seen_59 : decode cX3_seen 59 = .ok (.istore 5, 2) := by decide +kernel
theorem dX3_seen_61 : decode cX3_seen 61 = .ok (.iload_n 2, 1) := by decide +kernel
theorem dX3_seen_62 : decode cX3_seen 62 = .ok (.iload_n 3, 1) := by decide +kernel
theorem dX3_seen_63 : decode cX3_seen 63 = .ok (.iload 4, 2) := by decide +kernel
theorem dX3_seen_65 : decode cX3_seen 65 = .ok (.invokestatic 75, 3) := by decide +kernel
theorem dX3_seen_68 : decode cX3_seen 68 = .ok (.istore 6, 2) := by decide +kernel
theorem dX3_seen_70 : decode cX3_seen 70 = .ok (.iconst 0, 1) := by decide +kernel
theorem dX3_seen_71 : decode cX3_seen 71 = .ok (.istore 7, 2) := by decide +kernel
theorem dX3_seen_73 : decode cX3_seen 73 = .ok (.iload 7, 2) := by decide +kernel
theorem dX3_seen_75 : decode cX3_seen 75 = .ok (.iload 4, 2) := by decide +kernel
theorem dX3_seen_77 : decode cX3_seen 77 = .ok (.if_icmp .ge 75, 3) := by decide +kernel
theorem dX3_seen_80 : decode cX3_seen 80 = .ok (.aload_n 0, 1) := by decide +kernel
theorem dX3_seen_81 : decode cX3_seen 81 = .ok (.getfield 20, 3) := by decide +kernel
theorem dX3_seen_84 : decode cX3_seen 84 = .ok (.iload 7, 2) := by decide +kernel
theorem dX3_seen_86 : decode cX3_seen 86 = .ok (.iaload, 1) := by decide +kernel
theorem dX3_seen_87 : decode cX3_seen 87 = .ok (.istore 8, 2) := by decide +kernel
theorem dX3_seen_89 : decode cX3_seen 89 = .ok (.aload_n 0, 1) := by decide +kernel
theorem dX3_seen_90 : decode cX3_seen 90 = .ok (.getfield 20, 3) := by decide +kernel
theorem dX3_seen_93 : decode cX3_seen 93 = .ok (.iload 7, 2) := by decide +kernel
theorem dX3_seen_95 : decode cX3_seen 95 = .ok (.iload 4, 2) := by decide +kernel
theorem dX3_seen_97 : decode cX3_seen 97 = .ok (.iadd, 1) := by decide +kernel
theorem dX3_seen_98 : decode cX3_seen 98 = .ok (.iaload, 1) := by decide +kernel
theorem dX3_seen_99 : decode cX3_seen 99 = .ok (.istore 9, 2) := by decide +kernel
theorem dX3_seen_101 : decode cX3_seen 101 = .ok (.aload_n 0, 1) := by decide +kernel
theorem dX3_seen_102 : decode cX3_seen 102 = .ok (.getfield 20, 3) := by decide +kernel
theorem dX3_seen_105 : decode cX3_seen 105 = .ok (.iload 7, 2) := by decide +kernel
theorem dX3_seen_107 : decode cX3_seen 107 = .ok (.iload 5, 2) := by decide +kernel
theorem dX3_seen_109 : decode cX3_seen 109 = .ok (.ifCond .eq 13, 3) := by decide +kernel
theorem dX3_seen_112 : decode cX3_seen 112 = .ok (.iload 8, 2) := by decide +kernel
theorem dX3_seen_114 : decode cX3_seen 114 = .ok (.iload 9, 2) := by decide +kernel
theorem dX3_seen_116 : decode cX3_seen 116 = .ok (.invokestatic 90, 3) := by decide +kernel
theorem dX3_seen_119 : decode cX3_seen 119 = .ok (.goto 26, 3) := by decide +kernel
theorem dX3_seen_122 : decode cX3_seen 122 = .ok (.iload 6, 2) := by decide +kernel
theorem dX3_seen_124 : decode cX3_seen 124 = .ok (.iload 7, 2) := by decide +kernel
theorem dX3_seen_126 : decode cX3_seen 126 = .ok (.ishr, 1) := by decide +kernel
theorem dX3_seen_127 : decode cX3_seen 127 = .ok (.iconst 1, 1) := by decide +kernel
theorem dX3_seen_128 : decode cX3_seen 128 = .ok (.iand, 1) := by decide +kernel
theorem dX3_seen_129 : decode cX3_seen 129 = .ok (.ifCond .ne 11, 3) := by decide +kernel
theorem dX3_seen_132 : decode cX3_seen 132 = .ok (.iload 9, 2) := by decide +kernel
theorem dX3_seen_134 : decode cX3_seen 134 = .ok (.iload 8, 2) := by decide +kernel
theorem dX3_seen_136 : decode cX3_seen 136 = .ok (.iadd, 1) := by decide +kernel
theorem dX3_seen_137 : decode cX3_seen 137 = .ok (.goto 8, 3) := by decide +kernel
theorem dX3_seen_140 : decode cX3_seen 140 = .ok (.iload 9, 2) := by decide +kernel
theorem dX3_seen_142 : decode cX3_seen 142 = .ok (.iload 8, 2) := by decide +kernel
theorem dX3_seen_144 : decode cX3_seen 144 = .ok (.isub, 1) := by decide +kernel
theorem dX3_seen_145 : decode cX3_seen 145 = .ok (.iastore, 1) := by decide +kernel
theorem dX3_seen_146 : decode cX3_seen 146 = .ok (.iinc 7 1, 3) := by decide +kernel
theorem dX3_seen_149 : decode cX3_seen 149 = .ok (.goto (-76), 3) := by decide +kernel
theorem dX3_seen_152 : decode cX3_seen 152 = .ok (.iload_n 3, 1) := by decide +kernel
theorem dX3_seen_153 : decode cX3_seen 153 = .ok (.iload 5, 2) := by decide +kernel
theorem dX3_seen_155 : decode cX3_seen 155 = .ok (.ifCond .eq 7, 3) := by decide +kernel
theorem dX3_seen_158 : decode cX3_seen 158 = .ok (.iconst 0, 1) := by decide +kernel
theorem dX3_seen_159 : decode cX3_seen 159 = .ok (.goto 5, 3) := by decide +kernel
theorem dX3_seen_162 : decode cX3_seen 162 = .ok (.iload 4, 2) := by decide +kernel
theorem dX3_seen_164 : decode cX3_seen 164 = .ok (.iadd, 1) := by decide +kernel
theorem dX3_seen_165 : decode cX3_seen 165 = .ok (.istore_n 3, 1) := by decide +kernel
theorem dX3_seen_166 : decode cX3_seen 166 = .ok (.iload 4, 2) := by decide +kernel
theorem dX3_seen_168 : decode cX3_seen 168 = .ok (.iconst 2, 1) := by decide +kernel
theorem dX3_seen_169 : decode cX3_seen 169 = .ok (.idiv, 1) := by decide +kernel
theorem dX3_seen_170 : decode cX3_seen 170 = .ok (.istore 4, 2) := by decide +kernel
theorem dX3_seen_172 : decode cX3_seen 172 = .ok (.goto (-131), 3) := by decide +kernel
theorem dX3_seen_175 : decode cX3_seen 175 = .ok (.aload_n 0, 1) := by decide +kernel
theorem dX3_seen_176 : decode cX3_seen 176 = .ok (.getfield 20, 3) := by decide +kernel
theorem dX3_seen_179 : decode cX3_seen 179 = .ok (.iconst 0, 1) := by decide +kernel
theorem dX3_seen_180 : decode cX3_seen 180 = .ok (.iaload, 1) := by decide +kernel
theorem dX3_seen_181 : decode cX3_seen 181 = .ok (.ireturn, 1) := by decide +kernel
set_option maxRecDepth 20000 in
theorem ggX3_readAll_X3_places : GoodIn wsX3_readAll wsX3_places := goodIn_r _ [5, 6, 25, 26, 27, 28, 29, 30, 31] (by decide +kernel) (by decide +kernel)
set_option maxRecDepth 20000 in
theorem gX3_readAll_X3_places : GoodIn wsX3_readAll (wsV RX3 29 RX3 yX3_places wsX3_places) := goodIn_app (goodIn_of _ (by decide +kernel)) ggX3_readAll_X3_places
set_option maxRecDepth 20000 in
theorem ggX3_readAll_X3_free : GoodIn wsX3_readAll wsX3_free := goodIn_r _ [10, 6, 1, 2, 3, 4, 5, 25, 26, 27, 28, 29, 30, 31] (by decide +kernel) (by decide +kernel)
set_option maxRecDepth 20000 in
theorem gX3_readAll_X3_free : GoodIn wsX3_readAll (wsV RX3 69 RX3 yX3_free wsX3_free) := goodIn_app (goodIn_of _ (by decide +kernel)) ggX3_readAll_X3_free
set_option maxRecDepth 20000 in
theorem ggX3_readAll_X3_seen : GoodIn wsX3_readAll wsX3_seen := goodIn_r _ [14, 15, 6, 1, 2, 3, 4, 5, 16, 17, 18, 19, 20, 21, 22, 23, 24, 25, 26, 27, 28, 29, 30, 31] (by decide +kernel) (by decide +kernel)
set_option maxRecDepth 20000 in
theorem gX3_readAll_X3_seen : GoodIn wsX3_readAll (wsV RX3 94 RX3 yX3_seen wsX3_seen) := goodIn_app (goodIn_of _ (by decide +kernel)) ggX3_readAll_X3_seen
theorem dX3_readAll_0 : decode cX3_readAll 0 = .ok (.iconst 0, 1) := by decide +kernel
theorem dX3_readAll_1 : decode cX3_readAll 1 = .ok (.istore_n 1, 1) := by decide +kernel
theorem dX3_readAll_2 : decode cX3_readAll 2 = .ok (.iconst 0, 1) := by decide +kernel
theorem dX3_readAll_3 : decode cX3_readAll 3 = .ok (.istore_n 2, 1) := by decide +kernel
theorem dX3_readAll_4 : decode cX3_readAll 4 = .ok (.iload_n 2, 1) := by decide +kernel
theorem dX3_readAll_5 : decode cX3_readAll 5 = .ok (.aload_n 0, 1) := by decide +kernel
theorem dX3_readAll_6 : decode cX3_readAll 6 = .ok (.invokevirtual 29, 3) := by decide +kernel
theorem dX3_readAll_9 : decode cX3_readAll 9 = .ok (.if_icmp .ge 50, 3) := by decide +kernel
theorem dX3_readAll_12 : decode cX3_readAll 12 = .ok (.aload_n 0, 1) := by decide +kernel
theorem dX3_readAll_13 : decode cX3_readAll 13 = .ok (.invokevirtual 69, 3) := by decide +kernel
theorem dX3_readAll_16 : decode cX3_readAll 16 = .ok (.iload_n 2, 1) := by decide +kernel
theorem dX3_readAll_17 : decode cX3_readAll 17 = .ok (.ishr, 1) := by decide +kernel
theorem dX3_readAll_18 : decode cX3_readAll 18 = .ok (.iconst 1, 1) := by decide +kernel
theorem dX3_readAll_19 : decode cX3_readAll 19 = .ok (.iand, 1) := by decide +kernel
theorem dX3_readAll_20 : decode cX3_readAll 20 = .ok (.iconst 1, 1) := by decide +kernel
theorem dX3_readAll_21 : decode cX3_readAll 21 = .ok (.if_icmp .ne 16, 3) := by decide +kernel
theorem dX3_readAll_24 : decode cX3_readAll 24 = .ok (.aload_n 0, 1) := by decide +kernel
theorem dX3_readAll_25 : decode cX3_readAll 25 = .ok (.iload_n 2, 1) := by decide +kernel
theorem dX3_readAll_26 : decode cX3_readAll 26 = .ok (.iload_n 1, 1) := by decide +kernel
theorem dX3_readAll_27 : decode cX3_readAll 27 = .ok (.invokevirtual 94, 3) := by decide +kernel
theorem dX3_readAll_30 : decode cX3_readAll 30 = .ok (.ifCond .ge 7, 3) := by decide +kernel
theorem dX3_readAll_33 : decode cX3_readAll 33 = .ok (.iconst 1, 1) := by decide +kernel
theorem dX3_readAll_34 : decode cX3_readAll 34 = .ok (.goto 4, 3) := by decide +kernel
theorem dX3_readAll_37 : decode cX3_readAll 37 = .ok (.iconst 0, 1) := by decide +kernel
theorem dX3_readAll_38 : decode cX3_readAll 38 = .ok (.istore_n 3, 1) := by decide +kernel
theorem dX3_readAll_39 : decode cX3_readAll 39 = .ok (.iload_n 1, 1) := by decide +kernel
theorem dX3_readAll_40 : decode cX3_readAll 40 = .ok (.iload_n 3, 1) := by decide +kernel
theorem dX3_readAll_41 : decode cX3_readAll 41 = .ok (.ifCond .eq 9, 3) := by decide +kernel
theorem dX3_readAll_44 : decode cX3_readAll 44 = .ok (.iconst 1, 1) := by decide +kernel
theorem dX3_readAll_45 : decode cX3_readAll 45 = .ok (.iload_n 2, 1) := by decide +kernel
theorem dX3_readAll_46 : decode cX3_readAll 46 = .ok (.ishl, 1) := by decide +kernel
theorem dX3_readAll_47 : decode cX3_readAll 47 = .ok (.goto 4, 3) := by decide +kernel
theorem dX3_readAll_50 : decode cX3_readAll 50 = .ok (.iconst 0, 1) := by decide +kernel
theorem dX3_readAll_51 : decode cX3_readAll 51 = .ok (.ior, 1) := by decide +kernel
theorem dX3_readAll_52 : decode cX3_readAll 52 = .ok (.istore_n 1, 1) := by decide +kernel
theorem dX3_readAll_53 : decode cX3_readAll 53 = .ok (.iinc 2 1, 3) := by decide +kernel
theorem dX3_readAll_56 : decode cX3_readAll 56 = .ok (.goto (-52), 3) := by decide +kernel
theorem dX3_readAll_59 : decode cX3_readAll 59 = .ok (.iload_n 1, 1) := by decide +kernel
theorem dX3_readAll_60 : decode cX3_readAll 60 = .ok (.ireturn, 1) := by decide +kernel
set_option maxRecDepth 20000 in
theorem ggX3_measure_X3_isPlace : GoodIn wsX3_measure wsX3_isPlace := goodIn_r _ [8, 9, 10, 11, 7, 12, 3, 13, 14, 15, 38, 39, 40, 41, 42, 43, 44] (by decide +kernel) (by decide +kernel)
set_option maxRecDepth 20000 in
theorem gX3_measure_X3_isPlace : GoodIn wsX3_measure (wsV RX3 39 RX3 yX3_isPlace wsX3_isPlace) := goodIn_app (goodIn_of _ (by decide +kernel)) ggX3_measure_X3_isPlace
set_option maxRecDepth 20000 in
theorem ggX3_measure_X3_in : GoodIn wsX3_measure wsX3_in := goodIn_r _ [15] (by decide +kernel) (by decide +kernel)
set_option maxRecDepth 20000 in
theorem gX3_measure_X3_in : GoodIn wsX3_measure (va_wsS RX3 33 yX3_in wsX3_in) := goodIn_app (goodIn_of _ (by decide +kernel)) ggX3_measure_X3_in
set_option maxRecDepth 20000 in
theorem ggX3_measure_X3_readAll : GoodIn wsX3_measure wsX3_readAll := goodIn_r _ [19, 9, 10, 11, 7, 12, 3, 20, 21, 22, 23, 24, 25, 26, 27, 28, 29, 30, 31, 32, 33, 34, 35, 36, 37, 38, 39, 40, 41, 42, 43, 44] (by decide +kernel) (by decide +kernel)
set_option maxRecDepth 20000 in
theorem gX3_measure_X3_readAll : GoodIn wsX3_measure (wsV RX3 97 RX3 yX3_readAll wsX3_readAll) := goodIn_app (goodIn_of _ (by decide +kernel)) ggX3_measure_X3_readAll
set_option maxRecDepth 20000 in
theorem ggX3_measure_X3_seen : GoodIn wsX3_measure wsX3_seen := goodIn_r _ [27, 28, 3, 9, 10, 11, 7, 12, 29, 30, 31, 32, 33, 34, 35, 36, 37, 38, 39, 40, 41, 42, 43, 44] (by decide +kernel) (by decide +kernel)
set_option maxRecDepth 20000 in
theorem gX3_measure_X3_seen : GoodIn wsX3_measure (wsV RX3 94 RX3 yX3_seen wsX3_seen) := goodIn_app (goodIn_of _ (by decide +kernel)) ggX3_measure_X3_seen
theorem dX3_measure_0 : decode cX3_measure 0 = .ok (.aload_n 0, 1) := by decide +kernel
theorem dX3_measure_1 : decode cX3_measure 1 = .ok (.iload_n 1, 1) := by decide +kernel
theorem dX3_measure_2 : decode cX3_measure 2 = .ok (.invokevirtual 39, 3) := by decide +kernel
theorem dX3_measure_5 : decode cX3_measure 5 = .ok (.ifCond .ne 6, 3) := by decide +kernel
theorem dX3_measure_8 : decode cX3_measure 8 = .ok (.ldc 85, 2) := by decide +kernel
theorem dX3_measure_10 : decode cX3_measure 10 = .ok (.ireturn, 1) := by decide +kernel
theorem dX3_measure_11 : decode cX3_measure 11 = .ok (.iload_n 2, 1) := by decide +kernel
theorem dX3_measure_12 : decode cX3_measure 12 = .ok (.iconst 0, 1) := by decide +kernel
theorem dX3_measure_13 : decode cX3_measure 13 = .ok (.iconst 1, 1) := by decide +kernel
theorem dX3_measure_14 : decode cX3_measure 14 = .ok (.invokestatic 33, 3) := by decide +kernel
theorem dX3_measure_17 : decode cX3_measure 17 = .ok (.ifCond .ne 6, 3) := by decide +kernel
theorem dX3_measure_20 : decode cX3_measure 20 = .ok (.ldc 86, 2) := by decide +kernel
theorem dX3_measure_22 : decode cX3_measure 22 = .ok (.ireturn, 1) := by decide +kernel
theorem dX3_measure_23 : decode cX3_measure 23 = .ok (.iload_n 2, 1) := by decide +kernel
theorem dX3_measure_24 : decode cX3_measure 24 = .ok (.ifCond .ne 15, 3) := by decide +kernel
theorem dX3_measure_27 : decode cX3_measure 27 = .ok (.aload_n 0, 1) := by decide +kernel
theorem dX3_measure_28 : decode cX3_measure 28 = .ok (.getfield 7, 3) := by decide +kernel
theorem dX3_measure_31 : decode cX3_measure 31 = .ok (.bipush 8, 2) := by decide +kernel
theorem dX3_measure_33 : decode cX3_measure 33 = .ok (.iload_n 1, 1) := by decide +kernel
theorem dX3_measure_34 : decode cX3_measure 34 = .ok (.iadd, 1) := by decide +kernel
theorem dX3_measure_35 : decode cX3_measure 35 = .ok (.iaload, 1) := by decide +kernel
theorem dX3_measure_36 : decode cX3_measure 36 = .ok (.goto 12, 3) := by decide +kernel
theorem dX3_measure_39 : decode cX3_measure 39 = .ok (.aload_n 0, 1) := by decide +kernel
theorem dX3_measure_40 : decode cX3_measure 40 = .ok (.iload_n 1, 1) := by decide +kernel
theorem dX3_measure_41 : decode cX3_measure 41 = .ok (.aload_n 0, 1) := by decide +kernel
theorem dX3_measure_42 : decode cX3_measure 42 = .ok (.invokevirtual 97, 3) := by decide +kernel
theorem dX3_measure_45 : decode cX3_measure 45 = .ok (.invokevirtual 94, 3) := by decide +kernel
theorem dX3_measure_48 : decode cX3_measure 48 = .ok (.ireturn, 1) := by decide +kernel
set_option maxRecDepth 20000 in
theorem ggX3_fineOf_X3_seen : GoodIn wsX3_fineOf wsX3_seen := goodIn_r _ [5, 6, 7, 8, 9, 10, 4, 11, 12, 13, 14, 15, 16, 17, 18, 19, 20, 21, 22, 23, 24, 25, 26, 27] (by decide +kernel) (by decide +kernel)
set_option maxRecDepth 20000 in
theorem gX3_fineOf_X3_seen : GoodIn wsX3_fineOf (wsV RX3 94 RX3 yX3_seen wsX3_seen) := goodIn_app (goodIn_of _ (by decide +kernel)) ggX3_fineOf_X3_seen
set_option maxRecDepth 20000 in
theorem ggX3_fineOf_X3_plain : GoodIn wsX3_fineOf wsX3_plain := goodIn_r _ [20] (by decide +kernel) (by decide +kernel)
set_option maxRecDepth 20000 in
theorem gX3_fineOf_X3_plain : GoodIn wsX3_fineOf (va_wsS RX3 87 yX3_plain wsX3_plain) := goodIn_app (goodIn_of _ (by decide +kernel)) ggX3_fineOf_X3_plain
theorem dX3_fineOf_0 : decode cX3_fineOf 0 = .ok (.aload_n 0, 1) := by decide +kernel
theorem dX3_fineOf_1 : decode cX3_fineOf 1 = .ok (.iload_n 1, 1) := by decide +kernel
theorem dX3_fineOf_2 : decode cX3_fineOf 2 = .ok (.iload_n 2, 1) := by decide +kernel
theorem dX3_fineOf_3 : decode cX3_fineOf 3 = .ok (.invokevirtual 94, 3) := by decide +kernel
theorem dX3_fineOf_6 : decode cX3_fineOf 6 = .ok (.istore_n 3, 1) := by decide +kernel
theorem dX3_fineOf_7 : decode cX3_fineOf 7 = .ok (.iload_n 2, 1) := by decide +kernel
theorem dX3_fineOf_8 : decode cX3_fineOf 8 = .ok (.iload_n 1, 1) := by decide +kernel
theorem dX3_fineOf_9 : decode cX3_fineOf 9 = .ok (.ishr, 1) := by decide +kernel
theorem dX3_fineOf_10 : decode cX3_fineOf 10 = .ok (.iconst 1, 1) := by decide +kernel
theorem dX3_fineOf_11 : decode cX3_fineOf 11 = .ok (.iand, 1) := by decide +kernel
theorem dX3_fineOf_12 : decode cX3_fineOf 12 = .ok (.iconst 1, 1) := by decide +kernel
theorem dX3_fineOf_13 : decode cX3_fineOf 13 = .ok (.if_icmp .ne 7, 3) := by decide +kernel
theorem dX3_fineOf_16 : decode cX3_fineOf 16 = .ok (.iconst 1, 1) := by decide +kernel
theorem dX3_fineOf_17 : decode cX3_fineOf 17 = .ok (.goto 4, 3) := by decide +kernel
theorem dX3_fineOf_20 : decode cX3_fineOf 20 = .ok (.iconst 0, 1) := by decide +kernel
theorem dX3_fineOf_21 : decode cX3_fineOf 21 = .ok (.istore 4, 2) := by decide +kernel
theorem dX3_fineOf_23 : decode cX3_fineOf 23 = .ok (.iload_n 3, 1) := by decide +kernel
theorem dX3_fineOf_24 : decode cX3_fineOf 24 = .ok (.ifCond .ge 8, 3) := by decide +kernel
theorem dX3_fineOf_27 : decode cX3_fineOf 27 = .ok (.iload 4, 2) := by decide +kernel
theorem dX3_fineOf_29 : decode cX3_fineOf 29 = .ok (.ifCond .eq 12, 3) := by decide +kernel
theorem dX3_fineOf_32 : decode cX3_fineOf 32 = .ok (.iload_n 3, 1) := by decide +kernel
theorem dX3_fineOf_33 : decode cX3_fineOf 33 = .ok (.ifCond .le 15, 3) := by decide +kernel
theorem dX3_fineOf_36 : decode cX3_fineOf 36 = .ok (.iload 4, 2) := by decide +kernel
theorem dX3_fineOf_38 : decode cX3_fineOf 38 = .ok (.ifCond .eq 10, 3) := by decide +kernel
theorem dX3_fineOf_41 : decode cX3_fineOf 41 = .ok (.iload_n 3, 1) := by decide +kernel
theorem dX3_fineOf_42 : decode cX3_fineOf 42 = .ok (.invokestatic 87, 3) := by decide +kernel
theorem dX3_fineOf_45 : decode cX3_fineOf 45 = .ok (.goto 4, 3) := by decide +kernel
theorem dX3_fineOf_48 : decode cX3_fineOf 48 = .ok (.iconst 0, 1) := by decide +kernel
theorem dX3_fineOf_49 : decode cX3_fineOf 49 = .ok (.ireturn, 1) := by decide +kernel
set_option maxRecDepth 20000 in
theorem ggX3_fineOfAll_X3_places : GoodIn wsX3_fineOfAll wsX3_places := goodIn_r _ [5, 6, 25, 26, 27, 28, 29, 30, 31] (by decide +kernel) (by decide +kernel)
set_option maxRecDepth 20000 in
theorem gX3_fineOfAll_X3_places : GoodIn wsX3_fineOfAll (wsV RX3 29 RX3 yX3_places wsX3_places) := goodIn_app (goodIn_of _ (by decide +kernel)) ggX3_fineOfAll_X3_places
set_option maxRecDepth 20000 in
theorem ggX3_fineOfAll_X3_fineOf : GoodIn wsX3_fineOfAll wsX3_fineOf := goodIn_r _ [10, 11, 12, 13, 4, 14, 15, 6, 1, 2, 3, 5, 16, 17, 18, 19, 20, 21, 22, 23, 24, 25, 26, 27, 28, 29, 30, 31] (by decide +kernel) (by decide +kernel)
set_option maxRecDepth 20000 in
theorem gX3_fineOfAll_X3_fineOf : GoodIn wsX3_fineOfAll (wsV RX3 100 RX3 yX3_fineOf wsX3_fineOf) := goodIn_app (goodIn_of _ (by decide +kernel)) ggX3_fineOfAll_X3_fineOf
theorem dX3_fineOfAll_0 : decode cX3_fineOfAll 0 = .ok (.iconst 0, 1) := by decide +kernel
theorem dX3_fineOfAll_1 : decode cX3_fineOfAll 1 = .ok (.istore_n 2, 1) := by decide +kernel
theorem dX3_fineOfAll_2 : decode cX3_fineOfAll 2 = .ok (.iconst 0, 1) := by decide +kernel
theorem dX3_fineOfAll_3 : decode cX3_fineOfAll 3 = .ok (.istore_n 3, 1) := by decide +kernel
theorem dX3_fineOfAll_4 : decode cX3_fineOfAll 4 = .ok (.iload_n 3, 1) := by decide +kernel
theorem dX3_fineOfAll_5 : decode cX3_fineOfAll 5 = .ok (.aload_n 0, 1) := by decide +kernel
theorem dX3_fineOfAll_6 : decode cX3_fineOfAll 6 = .ok (.invokevirtual 29, 3) := by decide +kernel
theorem dX3_fineOfAll_9 : decode cX3_fineOfAll 9 = .ok (.if_icmp .ge 18, 3) := by decide +kernel
theorem dX3_fineOfAll_12 : decode cX3_fineOfAll 12 = .ok (.iload_n 2, 1) := by decide +kernel
theorem dX3_fineOfAll_13 : decode cX3_fineOfAll 13 = .ok (.aload_n 0, 1) := by decide +kernel
theorem dX3_fineOfAll_14 : decode cX3_fineOfAll 14 = .ok (.iload_n 3, 1) := by decide +kernel
theorem dX3_fineOfAll_15 : decode cX3_fineOfAll 15 = .ok (.iload_n 1, 1) := by decide +kernel
theorem dX3_fineOfAll_16 : decode cX3_fineOfAll 16 = .ok (.invokevirtual 100, 3) := by decide +kernel
theorem dX3_fineOfAll_19 : decode cX3_fineOfAll 19 = .ok (.iadd, 1) := by decide +kernel
theorem dX3_fineOfAll_20 : decode cX3_fineOfAll 20 = .ok (.istore_n 2, 1) := by decide +kernel
theorem dX3_fineOfAll_21 : decode cX3_fineOfAll 21 = .ok (.iinc 3 1, 3) := by decide +kernel
theorem dX3_fineOfAll_24 : decode cX3_fineOfAll 24 = .ok (.goto (-20), 3) := by decide +kernel
theorem dX3_fineOfAll_27 : decode cX3_fineOfAll 27 = .ok (.iload_n 2, 1) := by decide +kernel
theorem dX3_fineOfAll_28 : decode cX3_fineOfAll 28 = .ok (.ireturn, 1) := by decide +kernel
set_option maxRecDepth 20000 in
theorem ggX3_unlike_X3_codedAll : GoodIn wsX3_unlike wsX3_codedAll := goodIn_r _ [6, 7, 8, 9, 5, 10, 1, 11, 12, 13, 14, 15, 16, 17, 18, 19, 20] (by decide +kernel) (by decide +kernel)
set_option maxRecDepth 20000 in
theorem gX3_unlike_X3_codedAll : GoodIn wsX3_unlike (wsV RX3 79 RX3 yX3_codedAll wsX3_codedAll) := goodIn_app (goodIn_of _ (by decide +kernel)) ggX3_unlike_X3_codedAll
set_option maxRecDepth 20000 in
theorem ggX3_unlike_X3_places : GoodIn wsX3_unlike wsX3_places := goodIn_r _ [10, 1, 14, 15, 16, 17, 18, 19, 20] (by decide +kernel) (by decide +kernel)
set_option maxRecDepth 20000 in
theorem gX3_unlike_X3_places : GoodIn wsX3_unlike (wsV RX3 29 RX3 yX3_places wsX3_places) := goodIn_app (goodIn_of _ (by decide +kernel)) ggX3_unlike_X3_places
theorem dX3_unlike_0 : decode cX3_unlike 0 = .ok (.aload_n 0, 1) := by decide +kernel
theorem dX3_unlike_1 : decode cX3_unlike 1 = .ok (.iload_n 1, 1) := by decide +kernel
theorem dX3_unlike_2 : decode cX3_unlike 2 = .ok (.invokevirtual 79, 3) := by decide +kernel
theorem dX3_unlike_5 : decode cX3_unlike 5 = .ok (.istore_n 2, 1) := by decide +kernel
theorem dX3_unlike_6 : decode cX3_unlike 6 = .ok (.iconst 0, 1) := by decide +kernel
theorem dX3_unlike_7 : decode cX3_unlike 7 = .ok (.istore_n 3, 1) := by decide +kernel
theorem dX3_unlike_8 : decode cX3_unlike 8 = .ok (.iconst 0, 1) := by decide +kernel
theorem dX3_unlike_9 : decode cX3_unlike 9 = .ok (.istore 4, 2) := by decide +kernel
theorem dX3_unlike_11 : decode cX3_unlike 11 = .ok (.iload 4, 2) := by decide +kernel
theorem dX3_unlike_13 : decode cX3_unlike 13 = .ok (.aload_n 0, 1) := by decide +kernel
theorem dX3_unlike_14 : decode cX3_unlike 14 = .ok (.invokevirtual 29, 3) := by decide +kernel
theorem dX3_unlike_17 : decode cX3_unlike 17 = .ok (.if_icmp .ge 53, 3) := by decide +kernel
theorem dX3_unlike_20 : decode cX3_unlike 20 = .ok (.aload_n 0, 1) := by decide +kernel
theorem dX3_unlike_21 : decode cX3_unlike 21 = .ok (.getfield 7, 3) := by decide +kernel
theorem dX3_unlike_24 : decode cX3_unlike 24 = .ok (.bipush 8, 2) := by decide +kernel
theorem dX3_unlike_26 : decode cX3_unlike 26 = .ok (.iload 4, 2) := by decide +kernel
theorem dX3_unlike_28 : decode cX3_unlike 28 = .ok (.iadd, 1) := by decide +kernel
theorem dX3_unlike_29 : decode cX3_unlike 29 = .ok (.iaload, 1) := by decide +kernel
theorem dX3_unlike_30 : decode cX3_unlike 30 = .ok (.istore 5, 2) := by decide +kernel
theorem dX3_unlike_32 : decode cX3_unlike 32 = .ok (.iload_n 3, 1) := by decide +kernel
theorem dX3_unlike_33 : decode cX3_unlike 33 = .ok (.iload 5, 2) := by decide +kernel
theorem dX3_unlike_35 : decode cX3_unlike 35 = .ok (.ifCond .eq 26, 3) := by decide +kernel
theorem dX3_unlike_38 : decode cX3_unlike 38 = .ok (.iload_n 2, 1) := by decide +kernel
theorem dX3_unlike_39 : decode cX3_unlike 39 = .ok (.iload 4, 2) := by decide +kernel
theorem dX3_unlike_41 : decode cX3_unlike 41 = .ok (.ishr, 1) := by decide +kernel
theorem dX3_unlike_42 : decode cX3_unlike 42 = .ok (.iconst 1, 1) := by decide +kernel
theorem dX3_unlike_43 : decode cX3_unlike 43 = .ok (.iand, 1) := by decide +kernel
theorem dX3_unlike_44 : decode cX3_unlike 44 = .ok (.iload 5, 2) := by decide +kernel
theorem dX3_unlike_46 : decode cX3_unlike 46 = .ok (.ifCond .ge 7, 3) := by decide +kernel
theorem dX3_unlike_49 : decode cX3_unlike 49 = .ok (.iconst 1, 1) := by decide +kernel
theorem dX3_unlike_50 : decode cX3_unlike 50 = .ok (.goto 4, 3) := by decide +kernel
theorem dX3_unlike_53 : decode cX3_unlike 53 = .ok (.iconst 0, 1) := by decide +kernel
theorem dX3_unlike_54 : decode cX3_unlike 54 = .ok (.if_icmp .eq 7, 3) := by decide +kernel
theorem dX3_unlike_57 : decode cX3_unlike 57 = .ok (.iconst 1, 1) := by decide +kernel
theorem dX3_unlike_58 : decode cX3_unlike 58 = .ok (.goto 4, 3) := by decide +kernel
theorem dX3_unlike_61 : decode cX3_unlike 61 = .ok (.iconst 0, 1) := by decide +kernel
theorem dX3_unlike_62 : decode cX3_unlike 62 = .ok (.iadd, 1) := by decide +kernel
theorem dX3_unlike_63 : decode cX3_unlike 63 = .ok (.istore_n 3, 1) := by decide +kernel
theorem dX3_unlike_64 : decode cX3_unlike 64 = .ok (.iinc 4 1, 3) := by decide +kernel
theorem dX3_unlike_67 : decode cX3_unlike 67 = .ok (.goto (-56), 3) := by decide +kernel
theorem dX3_unlike_70 : decode cX3_unlike 70 = .ok (.iload_n 3, 1) := by decide +kernel
theorem dX3_unlike_71 : decode cX3_unlike 71 = .ok (.ireturn, 1) := by decide +kernel
set_option maxRecDepth 20000 in
theorem ggX3_holds_X3_size : GoodIn wsX3_holds wsX3_size := goodIn_r _ [5] (by decide +kernel) (by decide +kernel)
set_option maxRecDepth 20000 in
theorem gX3_holds_X3_size : GoodIn wsX3_holds (va_wsS RX3 72 yX3_size wsX3_size) := goodIn_app (goodIn_of _ (by decide +kernel)) ggX3_holds_X3_size
theorem dX3_holds_0 : decode cX3_holds 0 = .ok (.iconst 1, 1) := by decide +kernel
theorem dX3_holds_1 : decode cX3_holds 1 = .ok (.istore_n 2, 1) := by decide +kernel
theorem dX3_holds_2 : decode cX3_holds 2 = .ok (.iconst 0, 1) := by decide +kernel
theorem dX3_holds_3 : decode cX3_holds 3 = .ok (.istore_n 3, 1) := by decide +kernel
theorem dX3_holds_4 : decode cX3_holds 4 = .ok (.iload_n 3, 1) := by decide +kernel
theorem dX3_holds_5 : decode cX3_holds 5 = .ok (.iconst 3, 1) := by decide +kernel
theorem dX3_holds_6 : decode cX3_holds 6 = .ok (.if_icmp .ge 37, 3) := by decide +kernel
theorem dX3_holds_9 : decode cX3_holds 9 = .ok (.iload_n 2, 1) := by decide +kernel
theorem dX3_holds_10 : decode cX3_holds 10 = .ok (.ifCond .eq 25, 3) := by decide +kernel
theorem dX3_holds_13 : decode cX3_holds 13 = .ok (.iload_n 1, 1) := by decide +kernel
theorem dX3_holds_14 : decode cX3_holds 14 = .ok (.aload_n 0, 1) := by decide +kernel
theorem dX3_holds_15 : decode cX3_holds 15 = .ok (.getfield 7, 3) := by decide +kernel
theorem dX3_holds_18 : decode cX3_holds 18 = .ok (.iconst 5, 1) := by decide +kernel
theorem dX3_holds_19 : decode cX3_holds 19 = .ok (.iload_n 3, 1) := by decide +kernel
theorem dX3_holds_20 : decode cX3_holds 20 = .ok (.iadd, 1) := by decide +kernel
theorem dX3_holds_21 : decode cX3_holds 21 = .ok (.iaload, 1) := by decide +kernel
theorem dX3_holds_22 : decode cX3_holds 22 = .ok (.iand, 1) := by decide +kernel
theorem dX3_holds_23 : decode cX3_holds 23 = .ok (.invokestatic 72, 3) := by decide +kernel
theorem dX3_holds_26 : decode cX3_holds 26 = .ok (.iconst 2, 1) := by decide +kernel
theorem dX3_holds_27 : decode cX3_holds 27 = .ok (.irem, 1) := by decide +kernel
theorem dX3_holds_28 : decode cX3_holds 28 = .ok (.ifCond .ne 7, 3) := by decide +kernel
theorem dX3_holds_31 : decode cX3_holds 31 = .ok (.iconst 1, 1) := by decide +kernel
theorem dX3_holds_32 : decode cX3_holds 32 = .ok (.goto 4, 3) := by decide +kernel
theorem dX3_holds_35 : decode cX3_holds 35 = .ok (.iconst 0, 1) := by decide +kernel
theorem dX3_holds_36 : decode cX3_holds 36 = .ok (.istore_n 2, 1) := by decide +kernel
theorem dX3_holds_37 : decode cX3_holds 37 = .ok (.iinc 3 1, 3) := by decide +kernel
theorem dX3_holds_40 : decode cX3_holds 40 = .ok (.goto (-36), 3) := by decide +kernel
theorem dX3_holds_43 : decode cX3_holds 43 = .ok (.iload_n 2, 1) := by decide +kernel
theorem dX3_holds_44 : decode cX3_holds 44 = .ok (.ireturn, 1) := by decide +kernel
set_option maxRecDepth 20000 in
theorem ggX3_read_X3_in : GoodIn wsX3_read wsX3_in := goodIn_r _ [4] (by decide +kernel) (by decide +kernel)
set_option maxRecDepth 20000 in
theorem gX3_read_X3_in : GoodIn wsX3_read (va_wsS RX3 33 yX3_in wsX3_in) := goodIn_app (goodIn_of _ (by decide +kernel)) ggX3_read_X3_in
set_option maxRecDepth 20000 in
theorem ggX3_read_X3_readAll : GoodIn wsX3_read wsX3_readAll := goodIn_r _ [8, 9, 10, 11, 3, 12, 13, 14, 15, 16, 17, 18, 19, 20, 21, 22, 23, 24, 25, 26, 27, 28, 29, 30, 31, 55, 56, 57, 58, 59, 60, 61] (by decide +kernel) (by decide +kernel)
set_option maxRecDepth 20000 in
theorem gX3_read_X3_readAll : GoodIn wsX3_read (wsV RX3 97 RX3 yX3_readAll wsX3_readAll) := goodIn_app (goodIn_of _ (by decide +kernel)) ggX3_read_X3_readAll
set_option maxRecDepth 20000 in
theorem ggX3_read_X3_fineOfAll : GoodIn wsX3_read wsX3_fineOfAll := goodIn_r _ [35, 9, 10, 11, 3, 12, 13, 36, 37, 38, 39, 18, 19, 20, 21, 22, 23, 24, 25, 26, 27, 28, 29, 30, 31, 55, 56, 57, 58, 59, 60, 61] (by decide +kernel) (by decide +kernel)
set_option maxRecDepth 20000 in
theorem gX3_read_X3_fineOfAll : GoodIn wsX3_read (wsV RX3 103 RX3 yX3_fineOfAll wsX3_fineOfAll) := goodIn_app (goodIn_of _ (by decide +kernel)) ggX3_read_X3_fineOfAll
set_option maxRecDepth 20000 in
theorem ggX3_read_X3_unlike : GoodIn wsX3_read wsX3_unlike := goodIn_r _ [43, 13, 44, 45, 46, 3, 47, 9, 10, 11, 12, 23, 24, 25, 55, 56, 57, 58, 59, 60, 61] (by decide +kernel) (by decide +kernel)
set_option maxRecDepth 20000 in
theorem gX3_read_X3_unlike : GoodIn wsX3_read (wsV RX3 106 RX3 yX3_unlike wsX3_unlike) := goodIn_app (goodIn_of _ (by decide +kernel)) ggX3_read_X3_unlike
set_option maxRecDepth 20000 in
theorem ggX3_read_X3_holds : GoodIn wsX3_read wsX3_holds := goodIn_r _ [51, 13, 52, 53, 3, 54, 55, 56, 57, 58, 59, 60, 61] (by decide +kernel) (by decide +kernel)
set_option maxRecDepth 20000 in
theorem gX3_read_X3_holds : GoodIn wsX3_read (wsV RX3 109 RX3 yX3_holds wsX3_holds) := goodIn_app (goodIn_of _ (by decide +kernel)) ggX3_read_X3_holds
theorem dX3_read_0 : decode cX3_read 0 = .ok (.iload_n 1, 1) := by decide +kernel
theorem dX3_read_1 : decode cX3_read 1 = .ok (.iconst 0, 1) := by decide +kernel
theorem dX3_read_2 : decode cX3_read 2 = .ok (.iconst 3, 1) := by decide +kernel
theorem dX3_read_3 : decode cX3_read 3 = .ok (.invokestatic 33, 3) := by decide +kernel
theorem dX3_read_6 : decode cX3_read 6 = .ok (.ifCond .ne 6, 3) := by decide +kernel
theorem dX3_read_9 : decode cX3_read 9 = .ok (.bipush (-2), 2) := by decide +kernel
theorem dX3_read_11 : decode cX3_read 11 = .ok (.ireturn, 1) := by decide +kernel
theorem dX3_read_12 : decode cX3_read 12 = .ok (.aload_n 0, 1) := by decide +kernel
theorem dX3_read_13 : decode cX3_read 13 = .ok (.invokevirtual 97, 3) := by decide +kernel
theorem dX3_read_16 : decode cX3_read 16 = .ok (.istore_n 2, 1) := by decide +kernel
theorem dX3_read_17 : decode cX3_read 17 = .ok (.iload_n 1, 1) := by decide +kernel
theorem dX3_read_18 : decode cX3_read 18 = .ok (.ifCond .ne 7, 3) := by decide +kernel
theorem dX3_read_21 : decode cX3_read 21 = .ok (.iload_n 2, 1) := by decide +kernel
theorem dX3_read_22 : decode cX3_read 22 = .ok (.goto 42, 3) := by decide +kernel
theorem dX3_read_25 : decode cX3_read 25 = .ok (.iload_n 1, 1) := by decide +kernel
theorem dX3_read_26 : decode cX3_read 26 = .ok (.iconst 1, 1) := by decide +kernel
theorem dX3_read_27 : decode cX3_read 27 = .ok (.if_icmp .ne 11, 3) := by decide +kernel
theorem dX3_read_30 : decode cX3_read 30 = .ok (.aload_n 0, 1) := by decide +kernel
theorem dX3_read_31 : decode cX3_read 31 = .ok (.iload_n 2, 1) := by decide +kernel
theorem dX3_read_32 : decode cX3_read 32 = .ok (.invokevirtual 103, 3) := by decide +kernel
theorem dX3_read_35 : decode cX3_read 35 = .ok (.goto 29, 3) := by decide +kernel
theorem dX3_read_38 : decode cX3_read 38 = .ok (.iload_n 1, 1) := by decide +kernel
theorem dX3_read_39 : decode cX3_read 39 = .ok (.iconst 2, 1) := by decide +kernel
theorem dX3_read_40 : decode cX3_read 40 = .ok (.if_icmp .ne 11, 3) := by decide +kernel
theorem dX3_read_43 : decode cX3_read 43 = .ok (.aload_n 0, 1) := by decide +kernel
theorem dX3_read_44 : decode cX3_read 44 = .ok (.iload_n 2, 1) := by decide +kernel
theorem dX3_read_45 : decode cX3_read 45 = .ok (.invokevirtual 106, 3) := by decide +kernel
theorem dX3_read_48 : decode cX3_read 48 = .ok (.goto 16, 3) := by decide +kernel
theorem dX3_read_51 : decode cX3_read 51 = .ok (.aload_n 0, 1) := by decide +kernel
theorem dX3_read_52 : decode cX3_read 52 = .ok (.iload_n 2, 1) := by decide +kernel
theorem dX3_read_53 : decode cX3_read 53 = .ok (.invokevirtual 109, 3) := by decide +kernel
theorem dX3_read_56 : decode cX3_read 56 = .ok (.ifCond .eq 7, 3) := by decide +kernel
theorem dX3_read_59 : decode cX3_read 59 = .ok (.iconst 1, 1) := by decide +kernel
theorem dX3_read_60 : decode cX3_read 60 = .ok (.goto 4, 3) := by decide +kernel
theorem dX3_read_63 : decode cX3_read 63 = .ok (.iconst 0, 1) := by decide +kernel
theorem dX3_read_64 : decode cX3_read 64 = .ok (.ireturn, 1) := by decide +kernel
set_option maxRecDepth 20000 in
theorem ggX3_most_X3_in : GoodIn wsX3_most wsX3_in := goodIn_r _ [5] (by decide +kernel) (by decide +kernel)
set_option maxRecDepth 20000 in
theorem gX3_most_X3_in : GoodIn wsX3_most (va_wsS RX3 33 yX3_in wsX3_in) := goodIn_app (goodIn_of _ (by decide +kernel)) ggX3_most_X3_in
theorem dX3_most_0 : decode cX3_most 0 = .ok (.iload_n 1, 1) := by decide +kernel
theorem dX3_most_1 : decode cX3_most 1 = .ok (.iconst 1, 1) := by decide +kernel
theorem dX3_most_2 : decode cX3_most 2 = .ok (.bipush 8, 2) := by decide +kernel
theorem dX3_most_4 : decode cX3_most 4 = .ok (.invokestatic 33, 3) := by decide +kernel
theorem dX3_most_7 : decode cX3_most 7 = .ok (.ifCond .ne 6, 3) := by decide +kernel
theorem dX3_most_10 : decode cX3_most 10 = .ok (.bipush (-2), 2) := by decide +kernel
theorem dX3_most_12 : decode cX3_most 12 = .ok (.ireturn, 1) := by decide +kernel
theorem dX3_most_13 : decode cX3_most 13 = .ok (.aload_n 0, 1) := by decide +kernel
theorem dX3_most_14 : decode cX3_most 14 = .ok (.getfield 7, 3) := by decide +kernel
theorem dX3_most_17 : decode cX3_most 17 = .ok (.iconst 4, 1) := by decide +kernel
theorem dX3_most_18 : decode cX3_most 18 = .ok (.iaload, 1) := by decide +kernel
theorem dX3_most_19 : decode cX3_most 19 = .ok (.istore_n 2, 1) := by decide +kernel
theorem dX3_most_20 : decode cX3_most 20 = .ok (.aload_n 0, 1) := by decide +kernel
theorem dX3_most_21 : decode cX3_most 21 = .ok (.getfield 7, 3) := by decide +kernel
theorem dX3_most_24 : decode cX3_most 24 = .ok (.iconst 4, 1) := by decide +kernel
theorem dX3_most_25 : decode cX3_most 25 = .ok (.iload_n 1, 1) := by decide +kernel
theorem dX3_most_26 : decode cX3_most 26 = .ok (.iastore, 1) := by decide +kernel
theorem dX3_most_27 : decode cX3_most 27 = .ok (.iload_n 2, 1) := by decide +kernel
theorem dX3_most_28 : decode cX3_most 28 = .ok (.ireturn, 1) := by decide +kernel
theorem dX3_isAhead_0 : decode cX3_isAhead 0 = .ok (.aload_n 0, 1) := by decide +kernel
theorem dX3_isAhead_1 : decode cX3_isAhead 1 = .ok (.getfield 26, 3) := by decide +kernel
theorem dX3_isAhead_4 : decode cX3_isAhead 4 = .ok (.iload_n 1, 1) := by decide +kernel
theorem dX3_isAhead_5 : decode cX3_isAhead 5 = .ok (.iaload, 1) := by decide +kernel
theorem dX3_isAhead_6 : decode cX3_isAhead 6 = .ok (.aload_n 0, 1) := by decide +kernel
theorem dX3_isAhead_7 : decode cX3_isAhead 7 = .ok (.getfield 26, 3) := by decide +kernel
theorem dX3_isAhead_10 : decode cX3_isAhead 10 = .ok (.iload_n 2, 1) := by decide +kernel
theorem dX3_isAhead_11 : decode cX3_isAhead 11 = .ok (.iaload, 1) := by decide +kernel
theorem dX3_isAhead_12 : decode cX3_isAhead 12 = .ok (.if_icmp .eq 26, 3) := by decide +kernel
theorem dX3_isAhead_15 : decode cX3_isAhead 15 = .ok (.aload_n 0, 1) := by decide +kernel
theorem dX3_isAhead_16 : decode cX3_isAhead 16 = .ok (.getfield 26, 3) := by decide +kernel
theorem dX3_isAhead_19 : decode cX3_isAhead 19 = .ok (.iload_n 1, 1) := by decide +kernel
theorem dX3_isAhead_20 : decode cX3_isAhead 20 = .ok (.iaload, 1) := by decide +kernel
theorem dX3_isAhead_21 : decode cX3_isAhead 21 = .ok (.aload_n 0, 1) := by decide +kernel
theorem dX3_isAhead_22 : decode cX3_isAhead 22 = .ok (.getfield 26, 3) := by decide +kernel
theorem dX3_isAhead_25 : decode cX3_isAhead 25 = .ok (.iload_n 2, 1) := by decide +kernel
theorem dX3_isAhead_26 : decode cX3_isAhead 26 = .ok (.iaload, 1) := by decide +kernel
theorem dX3_isAhead_27 : decode cX3_isAhead 27 = .ok (.if_icmp .ge 7, 3) := by decide +kernel
theorem dX3_isAhead_30 : decode cX3_isAhead 30 = .ok (.iconst 1, 1) := by decide +kernel
theorem dX3_isAhead_31 : decode cX3_isAhead 31 = .ok (.goto 27, 3) := by decide +kernel
theorem dX3_isAhead_34 : decode cX3_isAhead 34 = .ok (.iconst 0, 1) := by decide +kernel
theorem dX3_isAhead_35 : decode cX3_isAhead 35 = .ok (.goto 23, 3) := by decide +kernel
theorem dX3_isAhead_38 : decode cX3_isAhead 38 = .ok (.aload_n 0, 1) := by decide +kernel
theorem dX3_isAhead_39 : decode cX3_isAhead 39 = .ok (.getfield 23, 3) := by decide +kernel
theorem dX3_isAhead_42 : decode cX3_isAhead 42 = .ok (.iload_n 1, 1) := by decide +kernel
theorem dX3_isAhead_43 : decode cX3_isAhead 43 = .ok (.iaload, 1) := by decide +kernel
theorem dX3_isAhead_44 : decode cX3_isAhead 44 = .ok (.aload_n 0, 1) := by decide +kernel
theorem dX3_isAhead_45 : decode cX3_isAhead 45 = .ok (.getfield 23, 3) := by decide +kernel
theorem dX3_isAhead_48 : decode cX3_isAhead 48 = .ok (.iload_n 2, 1) := by decide +kernel
theorem dX3_isAhead_49 : decode cX3_isAhead 49 = .ok (.iaload, 1) := by decide +kernel
theorem dX3_isAhead_50 : decode cX3_isAhead 50 = .ok (.if_icmp .ge 7, 3) := by decide +kernel
theorem dX3_isAhead_53 : decode cX3_isAhead 53 = .ok (.iconst 1, 1) := by decide +kernel
theorem dX3_isAhead_54 : decode cX3_isAhead 54 = .ok (.goto 4, 3) := by decide +kernel
theorem dX3_isAhead_57 : decode cX3_isAhead 57 = .ok (.iconst 0, 1) := by decide +kernel
theorem dX3_isAhead_58 : decode cX3_isAhead 58 = .ok (.ireturn, 1) := by decide +kernel
theorem dX3_swap_0 : decode cX3_swap 0 = .ok (.aload_n 0, 1) := by decide +kernel
theorem dX3_swap_1 : decode cX3_swap 1 = .ok (.getfield 23, 3) := by decide +kernel
theorem dX3_swap_4 : decode cX3_swap 4 = .ok (.iload_n 1, 1) := by decide +kernel
theorem dX3_swap_5 : decode cX3_swap 5 = .ok (.iaload, 1) := by decide +kernel
theorem dX3_swap_6 : decode cX3_swap 6 = .ok (.istore_n 3, 1) := by decide +kernel
theorem dX3_swap_7 : decode cX3_swap 7 = .ok (.aload_n 0, 1) := by decide +kernel
theorem dX3_swap_8 : decode cX3_swap 8 = .ok (.getfield 26, 3) := by decide +kernel
theorem dX3_swap_11 : decode cX3_swap 11 = .ok (.iload_n 1, 1) := by decide +kernel
theorem dX3_swap_12 : decode cX3_swap 12 = .ok (.iaload, 1) := by decide +kernel
theorem dX3_swap_13 : decode cX3_swap 13 = .ok (.istore 4, 2) := by decide +kernel
theorem dX3_swap_15 : decode cX3_swap 15 = .ok (.aload_n 0, 1) := by decide +kernel
theorem dX3_swap_16 : decode cX3_swap 16 = .ok (.getfield 23, 3) := by decide +kernel
theorem dX3_swap_19 : decode cX3_swap 19 = .ok (.iload_n 1, 1) := by decide +kernel
theorem dX3_swap_20 : decode cX3_swap 20 = .ok (.aload_n 0, 1) := by decide +kernel
theorem dX3_swap_21 : decode cX3_swap 21 = .ok (.getfield 23, 3) := by decide +kernel
theorem dX3_swap_24 : decode cX3_swap 24 = .ok (.iload_n 2, 1) := by decide +kernel
theorem dX3_swap_25 : decode cX3_swap 25 = .ok (.iaload, 1) := by decide +kernel
theorem dX3_swap_26 : decode cX3_swap 26 = .ok (.iastore, 1) := by decide +kernel
theorem dX3_swap_27 : decode cX3_swap 27 = .ok (.aload_n 0, 1) := by decide +kernel
theorem dX3_swap_28 : decode cX3_swap 28 = .ok (.getfield 26, 3) := by decide +kernel
theorem dX3_swap_31 : decode cX3_swap 31 = .ok (.iload_n 1, 1) := by decide +kernel
theorem dX3_swap_32 : decode cX3_swap 32 = .ok (.aload_n 0, 1) := by decide +kernel
theorem dX3_swap_33 : decode cX3_swap 33 = .ok (.getfield 26, 3) := by decide +kernel
theorem dX3_swap_36 : decode cX3_swap 36 = .ok (.iload_n 2, 1) := by decide +kernel
theorem dX3_swap_37 : decode cX3_swap 37 = .ok (.iaload, 1) := by decide +kernel
theorem dX3_swap_38 : decode cX3_swap 38 = .ok (.iastore, 1) := by decide +kernel
theorem dX3_swap_39 : decode cX3_swap 39 = .ok (.aload_n 0, 1) := by decide +kernel
theorem dX3_swap_40 : decode cX3_swap 40 = .ok (.getfield 23, 3) := by decide +kernel
theorem dX3_swap_43 : decode cX3_swap 43 = .ok (.iload_n 2, 1) := by decide +kernel
theorem dX3_swap_44 : decode cX3_swap 44 = .ok (.iload_n 3, 1) := by decide +kernel
theorem dX3_swap_45 : decode cX3_swap 45 = .ok (.iastore, 1) := by decide +kernel
theorem dX3_swap_46 : decode cX3_swap 46 = .ok (.aload_n 0, 1) := by decide +kernel
theorem dX3_swap_47 : decode cX3_swap 47 = .ok (.getfield 26, 3) := by decide +kernel
theorem dX3_swap_50 : decode cX3_swap 50 = .ok (.iload_n 2, 1) := by decide +kernel
theorem dX3_swap_51 : decode cX3_swap 51 = .ok (.iload 4, 2) := by decide +kernel
theorem dX3_swap_53 : decode cX3_swap 53 = .ok (.iastore, 1) := by decide +kernel
theorem dX3_swap_54 : decode cX3_swap 54 = .ok (.return_, 1) := by decide +kernel
set_option maxRecDepth 20000 in
theorem ggX3_sort_X3_isAhead : GoodIn wsX3_sort wsX3_isAhead := goodIn_r _ [6, 7, 8, 13, 14, 15, 16, 17, 18, 19] (by decide +kernel) (by decide +kernel)
set_option maxRecDepth 20000 in
theorem gX3_sort_X3_isAhead : GoodIn wsX3_sort (wsV RX3 116 RX3 yX3_isAhead wsX3_isAhead) := goodIn_app (goodIn_of _ (by decide +kernel)) ggX3_sort_X3_isAhead
set_option maxRecDepth 20000 in
theorem ggX3_sort_X3_swap : GoodIn wsX3_sort wsX3_swap := goodIn_r _ [12, 8, 7, 13, 14, 15, 16, 17, 18, 19] (by decide +kernel) (by decide +kernel)
set_option maxRecDepth 20000 in
theorem gX3_sort_X3_swap : GoodIn wsX3_sort (wsV RX3 120 RX3 yX3_swap wsX3_swap) := goodIn_app (goodIn_of _ (by decide +kernel)) ggX3_sort_X3_swap
theorem dX3_sort_0 : decode cX3_sort 0 = .ok (.iconst 1, 1) := by decide +kernel
theorem dX3_sort_1 : decode cX3_sort 1 = .ok (.istore_n 1, 1) := by decide +kernel
theorem dX3_sort_2 : decode cX3_sort 2 = .ok (.iload_n 1, 1) := by decide +kernel
theorem dX3_sort_3 : decode cX3_sort 3 = .ok (.aload_n 0, 1) := by decide +kernel
theorem dX3_sort_4 : decode cX3_sort 4 = .ok (.getfield 112, 3) := by decide +kernel
theorem dX3_sort_7 : decode cX3_sort 7 = .ok (.if_icmp .ge 40, 3) := by decide +kernel
theorem dX3_sort_10 : decode cX3_sort 10 = .ok (.iload_n 1, 1) := by decide +kernel
theorem dX3_sort_11 : decode cX3_sort 11 = .ok (.istore_n 2, 1) := by decide +kernel
theorem dX3_sort_12 : decode cX3_sort 12 = .ok (.iload_n 2, 1) := by decide +kernel
theorem dX3_sort_13 : decode cX3_sort 13 = .ok (.ifCond .le 28, 3) := by decide +kernel
theorem dX3_sort_16 : decode cX3_sort 16 = .ok (.aload_n 0, 1) := by decide +kernel
theorem dX3_sort_17 : decode cX3_sort 17 = .ok (.iload_n 2, 1) := by decide +kernel
theorem dX3_sort_18 : decode cX3_sort 18 = .ok (.iload_n 2, 1) := by decide +kernel
theorem dX3_sort_19 : decode cX3_sort 19 = .ok (.iconst 1, 1) := by decide +kernel
theorem dX3_sort_20 : decode cX3_sort 20 = .ok (.isub, 1) := by decide +kernel
theorem dX3_sort_21 : decode cX3_sort 21 = .ok (.invokevirtual 116, 3) := by decide +kernel
theorem dX3_sort_24 : decode cX3_sort 24 = .ok (.ifCond .eq 17, 3) := by decide +kernel
theorem dX3_sort_27 : decode cX3_sort 27 = .ok (.aload_n 0, 1) := by decide +kernel
theorem dX3_sort_28 : decode cX3_sort 28 = .ok (.iload_n 2, 1) := by decide +kernel
theorem dX3_sort_29 : decode cX3_sort 29 = .ok (.iload_n 2, 1) := by decide +kernel
theorem dX3_sort_30 : decode cX3_sort 30 = .ok (.iconst 1, 1) := by decide +kernel
theorem dX3_sort_31 : decode cX3_sort 31 = .ok (.isub, 1) := by decide +kernel
theorem dX3_sort_32 : decode cX3_sort 32 = .ok (.invokevirtual 120, 3) := by decide +kernel
theorem dX3_sort_35 : decode cX3_sort 35 = .ok (.iinc 2 (-1), 3) := by decide +kernel
theorem dX3_sort_38 : decode cX3_sort 38 = .ok (.goto (-26), 3) := by decide +kernel
theorem dX3_sort_41 : decode cX3_sort 41 = .ok (.iinc 1 1, 3) := by decide +kernel
theorem dX3_sort_44 : decode cX3_sort 44 = .ok (.goto (-42), 3) := by decide +kernel
theorem dX3_sort_47 : decode cX3_sort 47 = .ok (.return_, 1) := by decide +kernel
set_option maxRecDepth 20000 in
theorem ggX3_layKept_X3_places : GoodIn wsX3_layKept wsX3_places := goodIn_r _ [9, 4, 44, 45, 46, 47, 48, 49, 50] (by decide +kernel) (by decide +kernel)
set_option maxRecDepth 20000 in
theorem gX3_layKept_X3_places : GoodIn wsX3_layKept (wsV RX3 29 RX3 yX3_places wsX3_places) := goodIn_app (goodIn_of _ (by decide +kernel)) ggX3_layKept_X3_places
set_option maxRecDepth 20000 in
theorem ggX3_layKept_X3_free : GoodIn wsX3_layKept wsX3_free := goodIn_r _ [13, 4, 5, 6, 7, 8, 9, 44, 45, 46, 47, 48, 49, 50] (by decide +kernel) (by decide +kernel)
set_option maxRecDepth 20000 in
theorem gX3_layKept_X3_free : GoodIn wsX3_layKept (wsV RX3 69 RX3 yX3_free wsX3_free) := goodIn_app (goodIn_of _ (by decide +kernel)) ggX3_layKept_X3_free
set_option maxRecDepth 20000 in
theorem ggX3_layKept_X3_fineOf : GoodIn wsX3_layKept wsX3_fineOf := goodIn_r _ [17, 18, 19, 20, 8, 21, 22, 4, 5, 6, 7, 9, 23, 24, 25, 26, 27, 28, 29, 30, 31, 44, 45, 46, 47, 48, 49, 50] (by decide +kernel) (by decide +kernel)
set_option maxRecDepth 20000 in
theorem gX3_layKept_X3_fineOf : GoodIn wsX3_layKept (wsV RX3 100 RX3 yX3_fineOf wsX3_fineOf) := goodIn_app (goodIn_of _ (by decide +kernel)) ggX3_layKept_X3_fineOf
set_option maxRecDepth 20000 in
theorem ggX3_layKept_X3_sort : GoodIn wsX3_layKept wsX3_sort := goodIn_r _ [35, 1, 36, 37, 38, 8, 39, 3, 2, 40, 41, 42, 43, 44, 45, 46, 47, 48, 49, 50] (by decide +kernel) (by decide +kernel)
set_option maxRecDepth 20000 in
theorem gX3_layKept_X3_sort : GoodIn wsX3_layKept (wsV RX3 124 RX3 yX3_sort wsX3_sort) := goodIn_app (goodIn_of _ (by decide +kernel)) ggX3_layKept_X3_sort
theorem dX3_layKept_0 : decode cX3_layKept 0 = .ok (.aload_n 0, 1) := by decide +kernel
theorem dX3_layKept_1 : decode cX3_layKept 1 = .ok (.iconst 1, 1) := by decide +kernel
theorem dX3_layKept_2 : decode cX3_layKept 2 = .ok (.putfield 112, 3) := by decide +kernel
theorem dX3_layKept_5 : decode cX3_layKept 5 = .ok (.aload_n 0, 1) := by decide +kernel
theorem dX3_layKept_6 : decode cX3_layKept 6 = .ok (.getfield 23, 3) := by decide +kernel
theorem dX3_layKept_9 : decode cX3_layKept 9 = .ok (.iconst 0, 1) := by decide +kernel
theorem dX3_layKept_10 : decode cX3_layKept 10 = .ok (.iconst 0, 1) := by decide +kernel
theorem dX3_layKept_11 : decode cX3_layKept 11 = .ok (.iastore, 1) := by decide +kernel
theorem dX3_layKept_12 : decode cX3_layKept 12 = .ok (.aload_n 0, 1) := by decide +kernel
theorem dX3_layKept_13 : decode cX3_layKept 13 = .ok (.getfield 26, 3) := by decide +kernel
theorem dX3_layKept_16 : decode cX3_layKept 16 = .ok (.iconst 0, 1) := by decide +kernel
theorem dX3_layKept_17 : decode cX3_layKept 17 = .ok (.iconst 0, 1) := by decide +kernel
theorem dX3_layKept_18 : decode cX3_layKept 18 = .ok (.iastore, 1) := by decide +kernel
theorem dX3_layKept_19 : decode cX3_layKept 19 = .ok (.iconst 0, 1) := by decide +kernel
theorem dX3_layKept_20 : decode cX3_layKept 20 = .ok (.istore_n 1, 1) := by decide +kernel
theorem dX3_layKept_21 : decode cX3_layKept 21 = .ok (.iload_n 1, 1) := by decide +kernel
theorem dX3_layKept_22 : decode cX3_layKept 22 = .ok (.aload_n 0, 1) := by decide +kernel
theorem dX3_layKept_23 : decode cX3_layKept 23 = .ok (.invokevirtual 29, 3) := by decide +kernel
theorem dX3_layKept_26 : decode cX3_layKept 26 = .ok (.if_icmp .ge 152, 3) := by decide +kernel
theorem dX3_layKept_29 : decode cX3_layKept 29 = .ok (.aload_n 0, 1) := by decide +kernel
theorem dX3_layKept_30 : decode cX3_layKept 30 = .ok (.getfield 112, 3) := by decide +kernel
theorem dX3_layKept_33 : decode cX3_layKept 33 = .ok (.istore_n 2, 1) := by decide +kernel
theorem dX3_layKept_34 : decode cX3_layKept 34 = .ok (.iconst 0, 1) := by decide +kernel
theorem dX3_layKept_35 : decode cX3_layKept 35 = .ok (.istore_n 3, 1) := by decide +kernel
theorem dX3_layKept_36 : decode cX3_layKept 36 = .ok (.iload_n 3, 1) := by decide +kernel
theorem dX3_layKept_37 : decode cX3_layKept 37 = .ok (.iload_n 2, 1) := by decide +kernel
theorem dX3_layKept_38 : decode cX3_layKept 38 = .ok (.if_icmp .ge 100, 3) := by decide +kernel
theorem dX3_layKept_41 : decode cX3_layKept 41 = .ok (.aload_n 0, 1) := by decide +kernel
theorem dX3_layKept_42 : decode cX3_layKept 42 = .ok (.invokevirtual 69, 3) := by decide +kernel
theorem dX3_layKept_45 : decode cX3_layKept 45 = .ok (.iload_n 1, 1) := by decide +kernel
theorem dX3_layKept_46 : decode cX3_layKept 46 = .ok (.ishr, 1) := by decide +kernel
theorem dX3_layKept_47 : decode cX3_layKept 47 = .ok (.iconst 1, 1) := by decide +kernel
theorem dX3_layKept_48 : decode cX3_layKept 48 = .ok (.iand, 1) := by decide +kernel
theorem dX3_layKept_49 : decode cX3_layKept 49 = .ok (.iconst 1, 1) := by decide +kernel
theorem dX3_layKept_50 : decode cX3_layKept 50 = .ok (.if_icmp .ne 62, 3) := by decide +kernel
theorem dX3_layKept_53 : decode cX3_layKept 53 = .ok (.aload_n 0, 1) := by decide +kernel
theorem dX3_layKept_54 : decode cX3_layKept 54 = .ok (.getfield 23, 3) := by decide +kernel
theorem dX3_layKept_57 : decode cX3_layKept 57 = .ok (.aload_n 0, 1) := by decide +kernel
theorem dX3_layKept_58 : decode cX3_layKept 58 = .ok (.getfield 112, 3) := by decide +kernel
theorem dX3_layKept_61 : decode cX3_layKept 61 = .ok (.aload_n 0, 1) := by decide +kernel
theorem dX3_layKept_62 : decode cX3_layKept 62 = .ok (.getfield 23, 3) := by decide +kernel
theorem dX3_layKept_65 : decode cX3_layKept 65 = .ok (.iload_n 3, 1) := by decide +kernel
theorem dX3_layKept_66 : decode cX3_layKept 66 = .ok (.iaload, 1) := by decide +kernel
theorem dX3_layKept_67 : decode cX3_layKept 67 = .ok (.iconst 1, 1) := by decide +kernel
theorem dX3_layKept_68 : decode cX3_layKept 68 = .ok (.iload_n 1, 1) := by decide +kernel
theorem dX3_layKept_69 : decode cX3_layKept 69 = .ok (.ishl, 1) := by decide +kernel
theorem dX3_layKept_70 : decode cX3_layKept 70 = .ok (.ior, 1) := by decide +kernel
theorem dX3_layKept_71 : decode cX3_layKept 71 = .ok (.iastore, 1) := by decide +kernel
theorem dX3_layKept_72 : decode cX3_layKept 72 = .ok (.aload_n 0, 1) := by decide +kernel
theorem dX3_layKept_73 : decode cX3_layKept 73 = .ok (.getfield 26, 3) := by decide +kernel
theorem dX3_layKept_76 : decode cX3_layKept 76 = .ok (.aload_n 0, 1) := by decide +kernel
theorem dX3_layKept_77 : decode cX3_layKept 77 = .ok (.getfield 112, 3) := by decide +kernel
theorem dX3_layKept_80 : decode cX3_layKept 80 = .ok (.aload_n 0, 1) := by decide +kernel
theorem dX3_layKept_81 : decode cX3_layKept 81 = .ok (.getfield 26, 3) := by decide +kernel
theorem dX3_layKept_84 : decode cX3_layKept 84 = .ok (.iload_n 3, 1) := by decide +kernel
theorem dX3_layKept_85 : decode cX3_layKept 85 = .ok (.iaload, 1) := by decide +kernel
theorem dX3_layKept_86 : decode cX3_layKept 86 = .ok (.aload_n 0, 1) := by decide +kernel
theorem dX3_layKept_87 : decode cX3_layKept 87 = .ok (.iload_n 1, 1) := by decide +kernel
theorem dX3_layKept_88 : decode cX3_layKept 88 = .ok (.aload_n 0, 1) := by decide +kernel
theorem dX3_layKept_89 : decode cX3_layKept 89 = .ok (.getfield 23, 3) := by decide +kernel
theorem dX3_layKept_92 : decode cX3_layKept 92 = .ok (.aload_n 0, 1) := by decide +kernel
theorem dX3_layKept_93 : decode cX3_layKept 93 = .ok (.getfield 112, 3) := by decide +kernel
theorem dX3_layKept_96 : decode cX3_layKept 96 = .ok (.iaload, 1) := by decide +kernel
theorem dX3_layKept_97 : decode cX3_layKept 97 = .ok (.invokevirtual 100, 3) := by decide +kernel
theorem dX3_layKept_100 : decode cX3_layKept 100 = .ok (.iadd, 1) := by decide +kernel
theorem dX3_layKept_101 : decode cX3_layKept 101 = .ok (.iastore, 1) := by decide +kernel
theorem dX3_layKept_102 : decode cX3_layKept 102 = .ok (.aload_n 0, 1) := by decide +kernel
theorem dX3_layKept_103 : decode cX3_layKept 103 = .ok (.dup, 1) := by decide +kernel
theorem dX3_layKept_104 : decode cX3_layKept 104 = .ok (.getfield 112, 3) := by decide +kernel
theorem dX3_layKept_107 : decode cX3_layKept 107 = .ok (.iconst 1, 1) := by decide +kernel
theorem dX3_layKept_108 : decode cX3_layKept 108 = .ok (.iadd, 1) := by decide +kernel
theorem dX3_layKept_109 : decode cX3_layKept 109 = .ok (.putfield 112, 3) := by decide +kernel
theorem dX3_layKept_112 : decode cX3_layKept 112 = .ok (.aload_n 0, 1) := by decide +kernel
theorem dX3_layKept_113 : decode cX3_layKept 113 = .ok (.getfield 26, 3) := by decide +kernel
theorem dX3_layKept_116 : decode cX3_layKept 116 = .ok (.iload_n 3, 1) := by decide +kernel
theorem dX3_layKept_117 : decode cX3_layKept 117 = .ok (.dup2, 1) := by decide +kernel
theorem dX3_layKept_118 : decode cX3_layKept 118 = .ok (.iaload, 1) := by decide +kernel
theorem dX3_layKept_119 : decode cX3_layKept 119 = .ok (.aload_n 0, 1) := by decide +kernel
theorem dX3_layKept_120 : decode cX3_layKept 120 = .ok (.iload_n 1, 1) := by decide +kernel
theorem dX3_layKept_121 : decode cX3_layKept 121 = .ok (.aload_n 0, 1) := by decide +kernel
theorem dX3_layKept_122 : decode cX3_layKept 122 = .ok (.getfield 23, 3) := by decide +kernel
theorem dX3_layKept_125 : decode cX3_layKept 125 = .ok (.iload_n 3, 1) := by decide +kernel
theorem dX3_layKept_126 : decode cX3_layKept 126 = .ok (.iaload, 1) := by decide +kernel
theorem dX3_layKept_127 : decode cX3_layKept 127 = .ok (.invokevirtual 100, 3) := by decide +kernel
theorem dX3_layKept_130 : decode cX3_layKept 130 = .ok (.iadd, 1) := by decide +kernel
theorem dX3_layKept_131 : decode cX3_layKept 131 = .ok (.iastore, 1) := by decide +kernel
theorem dX3_layKept_132 : decode cX3_layKept 132 = .ok (.iinc 3 1, 3) := by decide +kernel
theorem dX3_layKept_135 : decode cX3_layKept 135 = .ok (.goto (-99), 3) := by decide +kernel
theorem dX3_layKept_138 : decode cX3_layKept 138 = .ok (.aload_n 0, 1) := by decide +kernel
theorem dX3_layKept_139 : decode cX3_layKept 139 = .ok (.invokevirtual 124, 3) := by decide +kernel
theorem dX3_layKept_142 : decode cX3_layKept 142 = .ok (.aload_n 0, 1) := by decide +kernel
theorem dX3_layKept_143 : decode cX3_layKept 143 = .ok (.aload_n 0, 1) := by decide +kernel
theorem dX3_layKept_144 : decode cX3_layKept 144 = .ok (.getfield 112, 3) := by decide +kernel
theorem dX3_layKept_147 : decode cX3_layKept 147 = .ok (.aload_n 0, 1) := by decide +kernel
theorem dX3_layKept_148 : decode cX3_layKept 148 = .ok (.getfield 7, 3) := by decide +kernel
theorem dX3_layKept_151 : decode cX3_layKept 151 = .ok (.iconst 4, 1) := by decide +kernel
theorem dX3_layKept_152 : decode cX3_layKept 152 = .ok (.iaload, 1) := by decide +kernel
theorem dX3_layKept_153 : decode cX3_layKept 153 = .ok (.if_icmp .le 12, 3) := by decide +kernel
theorem dX3_layKept_156 : decode cX3_layKept 156 = .ok (.aload_n 0, 1) := by decide +kernel
theorem dX3_layKept_157 : decode cX3_layKept 157 = .ok (.getfield 7, 3) := by decide +kernel
theorem dX3_layKept_160 : decode cX3_layKept 160 = .ok (.iconst 4, 1) := by decide +kernel
theorem dX3_layKept_161 : decode cX3_layKept 161 = .ok (.iaload, 1) := by decide +kernel
theorem dX3_layKept_162 : decode cX3_layKept 162 = .ok (.goto 7, 3) := by decide +kernel
theorem dX3_layKept_165 : decode cX3_layKept 165 = .ok (.aload_n 0, 1) := by decide +kernel
theorem dX3_layKept_166 : decode cX3_layKept 166 = .ok (.getfield 112, 3) := by decide +kernel
theorem dX3_layKept_169 : decode cX3_layKept 169 = .ok (.putfield 112, 3) := by decide +kernel
theorem dX3_layKept_172 : decode cX3_layKept 172 = .ok (.iinc 1 1, 3) := by decide +kernel
theorem dX3_layKept_175 : decode cX3_layKept 175 = .ok (.goto (-154), 3) := by decide +kernel
theorem dX3_layKept_178 : decode cX3_layKept 178 = .ok (.return_, 1) := by decide +kernel
set_option maxRecDepth 20000 in
theorem ggX3_kept_X3_in : GoodIn wsX3_kept wsX3_in := goodIn_r _ [7] (by decide +kernel) (by decide +kernel)
set_option maxRecDepth 20000 in
theorem gX3_kept_X3_in : GoodIn wsX3_kept (va_wsS RX3 33 yX3_in wsX3_in) := goodIn_app (goodIn_of _ (by decide +kernel)) ggX3_kept_X3_in
set_option maxRecDepth 20000 in
theorem ggX3_kept_X3_layKept : GoodIn wsX3_kept wsX3_layKept := goodIn_r _ [11, 1, 2, 3, 12, 13, 14, 15, 6, 16, 17, 18, 19, 20, 21, 22, 23, 24, 25, 26, 27, 28, 29, 30, 31, 32, 33, 34, 35, 36, 37, 38, 39, 40, 41, 42, 43, 44, 45, 46, 47, 48, 49, 50, 58, 59, 60, 61, 62, 63, 64] (by decide +kernel) (by decide +kernel)
set_option maxRecDepth 20000 in
theorem gX3_kept_X3_layKept : GoodIn wsX3_kept (wsV RX3 127 RX3 yX3_layKept wsX3_layKept) := goodIn_app (goodIn_of _ (by decide +kernel)) ggX3_kept_X3_layKept
set_option maxRecDepth 20000 in
theorem ggX3_kept_X3_holds : GoodIn wsX3_kept wsX3_holds := goodIn_r _ [54, 12, 55, 56, 6, 57, 58, 59, 60, 61, 62, 63, 64] (by decide +kernel) (by decide +kernel)
end
section
set_option maxRecDepth 20000 in
theorem gX3_kept_X3_holds : GoodIn wsX3_kept (wsV RX3 109 RX3 yX3_holds wsX3_holds) := goodIn_app (goodIn_of _ (by decide +kernel)) ggX3_kept_X3_holds
theorem dX3_kept_0 : decode cX3_kept 0 = .ok (.iload_n 2, 1) := by decide +kernel
theorem dX3_kept_1 : decode cX3_kept 1 = .ok (.iconst 0, 1) := by decide +kernel
theorem dX3_kept_2 : decode cX3_kept 2 = .ok (.iconst 2, 1) := by decide +kernel
theorem dX3_kept_3 : decode cX3_kept 3 = .ok (.invokestatic 33, 3) := by decide +kernel
theorem dX3_kept_6 : decode cX3_kept 6 = .ok (.ifCond .ne 6, 3) := by decide +kernel
theorem dX3_kept_9 : decode cX3_kept 9 = .ok (.bipush (-2), 2) := by decide +kernel
theorem dX3_kept_11 : decode cX3_kept 11 = .ok (.ireturn, 1) := by decide +kernel
theorem dX3_kept_12 : decode cX3_kept 12 = .ok (.aload_n 0, 1) := by decide +kernel
theorem dX3_kept_13 : decode cX3_kept 13 = .ok (.invokevirtual 127, 3) := by decide +kernel
theorem dX3_kept_16 : decode cX3_kept 16 = .ok (.iload_n 1, 1) := by decide +kernel
theorem dX3_kept_17 : decode cX3_kept 17 = .ok (.iconst (-1), 1) := by decide +kernel
theorem dX3_kept_18 : decode cX3_kept 18 = .ok (.if_icmp .ne 8, 3) := by decide +kernel
theorem dX3_kept_21 : decode cX3_kept 21 = .ok (.aload_n 0, 1) := by decide +kernel
theorem dX3_kept_22 : decode cX3_kept 22 = .ok (.getfield 112, 3) := by decide +kernel
theorem dX3_kept_25 : decode cX3_kept 25 = .ok (.ireturn, 1) := by decide +kernel
theorem dX3_kept_26 : decode cX3_kept 26 = .ok (.iload_n 1, 1) := by decide +kernel
theorem dX3_kept_27 : decode cX3_kept 27 = .ok (.iconst 0, 1) := by decide +kernel
theorem dX3_kept_28 : decode cX3_kept 28 = .ok (.aload_n 0, 1) := by decide +kernel
theorem dX3_kept_29 : decode cX3_kept 29 = .ok (.getfield 112, 3) := by decide +kernel
theorem dX3_kept_32 : decode cX3_kept 32 = .ok (.iconst 1, 1) := by decide +kernel
theorem dX3_kept_33 : decode cX3_kept 33 = .ok (.isub, 1) := by decide +kernel
theorem dX3_kept_34 : decode cX3_kept 34 = .ok (.invokestatic 33, 3) := by decide +kernel
theorem dX3_kept_37 : decode cX3_kept 37 = .ok (.ifCond .ne 6, 3) := by decide +kernel
theorem dX3_kept_40 : decode cX3_kept 40 = .ok (.bipush (-6), 2) := by decide +kernel
theorem dX3_kept_42 : decode cX3_kept 42 = .ok (.ireturn, 1) := by decide +kernel
theorem dX3_kept_43 : decode cX3_kept 43 = .ok (.iload_n 2, 1) := by decide +kernel
theorem dX3_kept_44 : decode cX3_kept 44 = .ok (.ifCond .ne 12, 3) := by decide +kernel
theorem dX3_kept_47 : decode cX3_kept 47 = .ok (.aload_n 0, 1) := by decide +kernel
theorem dX3_kept_48 : decode cX3_kept 48 = .ok (.getfield 23, 3) := by decide +kernel
theorem dX3_kept_51 : decode cX3_kept 51 = .ok (.iload_n 1, 1) := by decide +kernel
theorem dX3_kept_52 : decode cX3_kept 52 = .ok (.iaload, 1) := by decide +kernel
theorem dX3_kept_53 : decode cX3_kept 53 = .ok (.goto 35, 3) := by decide +kernel
theorem dX3_kept_56 : decode cX3_kept 56 = .ok (.iload_n 2, 1) := by decide +kernel
theorem dX3_kept_57 : decode cX3_kept 57 = .ok (.iconst 1, 1) := by decide +kernel
theorem dX3_kept_58 : decode cX3_kept 58 = .ok (.if_icmp .ne 12, 3) := by decide +kernel
theorem dX3_kept_61 : decode cX3_kept 61 = .ok (.aload_n 0, 1) := by decide +kernel
theorem dX3_kept_62 : decode cX3_kept 62 = .ok (.getfield 26, 3) := by decide +kernel
theorem dX3_kept_65 : decode cX3_kept 65 = .ok (.iload_n 1, 1) := by decide +kernel
theorem dX3_kept_66 : decode cX3_kept 66 = .ok (.iaload, 1) := by decide +kernel
theorem dX3_kept_67 : decode cX3_kept 67 = .ok (.goto 21, 3) := by decide +kernel
theorem dX3_kept_70 : decode cX3_kept 70 = .ok (.aload_n 0, 1) := by decide +kernel
theorem dX3_kept_71 : decode cX3_kept 71 = .ok (.aload_n 0, 1) := by decide +kernel
theorem dX3_kept_72 : decode cX3_kept 72 = .ok (.getfield 23, 3) := by decide +kernel
theorem dX3_kept_75 : decode cX3_kept 75 = .ok (.iload_n 1, 1) := by decide +kernel
theorem dX3_kept_76 : decode cX3_kept 76 = .ok (.iaload, 1) := by decide +kernel
theorem dX3_kept_77 : decode cX3_kept 77 = .ok (.invokevirtual 109, 3) := by decide +kernel
theorem dX3_kept_80 : decode cX3_kept 80 = .ok (.ifCond .eq 7, 3) := by decide +kernel
theorem dX3_kept_83 : decode cX3_kept 83 = .ok (.iconst 1, 1) := by decide +kernel
theorem dX3_kept_84 : decode cX3_kept 84 = .ok (.goto 4, 3) := by decide +kernel
theorem dX3_kept_87 : decode cX3_kept 87 = .ok (.iconst 0, 1) := by decide +kernel
theorem dX3_kept_88 : decode cX3_kept 88 = .ok (.ireturn, 1) := by decide +kernel
set_option maxRecDepth 20000 in
theorem ggX3_chosen_X3_in : GoodIn wsX3_chosen wsX3_in := goodIn_r _ [7] (by decide +kernel) (by decide +kernel)
set_option maxRecDepth 20000 in
theorem gX3_chosen_X3_in : GoodIn wsX3_chosen (va_wsS RX3 33 yX3_in wsX3_in) := goodIn_app (goodIn_of _ (by decide +kernel)) ggX3_chosen_X3_in
set_option maxRecDepth 20000 in
theorem ggX3_chosen_X3_layKept : GoodIn wsX3_chosen wsX3_layKept := goodIn_r _ [11, 1, 2, 3, 12, 13, 14, 15, 6, 16, 17, 18, 19, 20, 21, 22, 23, 24, 25, 26, 27, 28, 29, 30, 31, 32, 33, 34, 35, 36, 37, 38, 39, 40, 41, 42, 43, 44, 45, 46, 47, 48, 49, 50, 58, 59, 60, 61, 62, 63, 64] (by decide +kernel) (by decide +kernel)
set_option maxRecDepth 20000 in
theorem gX3_chosen_X3_layKept : GoodIn wsX3_chosen (wsV RX3 127 RX3 yX3_layKept wsX3_layKept) := goodIn_app (goodIn_of _ (by decide +kernel)) ggX3_chosen_X3_layKept
set_option maxRecDepth 20000 in
theorem ggX3_chosen_X3_holds : GoodIn wsX3_chosen wsX3_holds := goodIn_r _ [54, 12, 55, 56, 6, 57, 58, 59, 60, 61, 62, 63, 64] (by decide +kernel) (by decide +kernel)
set_option maxRecDepth 20000 in
theorem gX3_chosen_X3_holds : GoodIn wsX3_chosen (wsV RX3 109 RX3 yX3_holds wsX3_holds) := goodIn_app (goodIn_of _ (by decide +kernel)) ggX3_chosen_X3_holds
theorem dX3_chosen_0 : decode cX3_chosen 0 = .ok (.iload_n 1, 1) := by decide +kernel
theorem dX3_chosen_1 : decode cX3_chosen 1 = .ok (.iconst 0, 1) := by decide +kernel
theorem dX3_chosen_2 : decode cX3_chosen 2 = .ok (.iconst 2, 1) := by decide +kernel
theorem dX3_chosen_3 : decode cX3_chosen 3 = .ok (.invokestatic 33, 3) := by decide +kernel
theorem dX3_chosen_6 : decode cX3_chosen 6 = .ok (.ifCond .ne 6, 3) := by decide +kernel
theorem dX3_chosen_9 : decode cX3_chosen 9 = .ok (.bipush (-2), 2) := by decide +kernel
theorem dX3_chosen_11 : decode cX3_chosen 11 = .ok (.ireturn, 1) := by decide +kernel
theorem dX3_chosen_12 : decode cX3_chosen 12 = .ok (.aload_n 0, 1) := by decide +kernel
theorem dX3_chosen_13 : decode cX3_chosen 13 = .ok (.invokevirtual 127, 3) := by decide +kernel
theorem dX3_chosen_16 : decode cX3_chosen 16 = .ok (.iconst 0, 1) := by decide +kernel
theorem dX3_chosen_17 : decode cX3_chosen 17 = .ok (.istore_n 2, 1) := by decide +kernel
theorem dX3_chosen_18 : decode cX3_chosen 18 = .ok (.iload_n 2, 1) := by decide +kernel
theorem dX3_chosen_19 : decode cX3_chosen 19 = .ok (.aload_n 0, 1) := by decide +kernel
theorem dX3_chosen_20 : decode cX3_chosen 20 = .ok (.getfield 112, 3) := by decide +kernel
theorem dX3_chosen_23 : decode cX3_chosen 23 = .ok (.if_icmp .ge 51, 3) := by decide +kernel
theorem dX3_chosen_26 : decode cX3_chosen 26 = .ok (.aload_n 0, 1) := by decide +kernel
theorem dX3_chosen_27 : decode cX3_chosen 27 = .ok (.aload_n 0, 1) := by decide +kernel
theorem dX3_chosen_28 : decode cX3_chosen 28 = .ok (.getfield 23, 3) := by decide +kernel
theorem dX3_chosen_31 : decode cX3_chosen 31 = .ok (.iload_n 2, 1) := by decide +kernel
theorem dX3_chosen_32 : decode cX3_chosen 32 = .ok (.iaload, 1) := by decide +kernel
theorem dX3_chosen_33 : decode cX3_chosen 33 = .ok (.invokevirtual 109, 3) := by decide +kernel
theorem dX3_chosen_36 : decode cX3_chosen 36 = .ok (.ifCond .eq 32, 3) := by decide +kernel
theorem dX3_chosen_39 : decode cX3_chosen 39 = .ok (.iload_n 1, 1) := by decide +kernel
theorem dX3_chosen_40 : decode cX3_chosen 40 = .ok (.ifCond .ne 12, 3) := by decide +kernel
theorem dX3_chosen_43 : decode cX3_chosen 43 = .ok (.aload_n 0, 1) := by decide +kernel
theorem dX3_chosen_44 : decode cX3_chosen 44 = .ok (.getfield 23, 3) := by decide +kernel
theorem dX3_chosen_47 : decode cX3_chosen 47 = .ok (.iload_n 2, 1) := by decide +kernel
theorem dX3_chosen_48 : decode cX3_chosen 48 = .ok (.iaload, 1) := by decide +kernel
theorem dX3_chosen_49 : decode cX3_chosen 49 = .ok (.goto 18, 3) := by decide +kernel
theorem dX3_chosen_52 : decode cX3_chosen 52 = .ok (.iload_n 1, 1) := by decide +kernel
theorem dX3_chosen_53 : decode cX3_chosen 53 = .ok (.iconst 1, 1) := by decide +kernel
theorem dX3_chosen_54 : decode cX3_chosen 54 = .ok (.if_icmp .ne 7, 3) := by decide +kernel
theorem dX3_chosen_57 : decode cX3_chosen 57 = .ok (.iload_n 2, 1) := by decide +kernel
theorem dX3_chosen_58 : decode cX3_chosen 58 = .ok (.goto 9, 3) := by decide +kernel
theorem dX3_chosen_61 : decode cX3_chosen 61 = .ok (.aload_n 0, 1) := by decide +kernel
theorem dX3_chosen_62 : decode cX3_chosen 62 = .ok (.getfield 26, 3) := by decide +kernel
theorem dX3_chosen_65 : decode cX3_chosen 65 = .ok (.iload_n 2, 1) := by decide +kernel
theorem dX3_chosen_66 : decode cX3_chosen 66 = .ok (.iaload, 1) := by decide +kernel
theorem dX3_chosen_67 : decode cX3_chosen 67 = .ok (.ireturn, 1) := by decide +kernel
theorem dX3_chosen_68 : decode cX3_chosen 68 = .ok (.iinc 2 1, 3) := by decide +kernel
theorem dX3_chosen_71 : decode cX3_chosen 71 = .ok (.goto (-53), 3) := by decide +kernel
theorem dX3_chosen_74 : decode cX3_chosen 74 = .ok (.bipush (-6), 2) := by decide +kernel
theorem dX3_chosen_76 : decode cX3_chosen 76 = .ok (.ireturn, 1) := by decide +kernel
set_option maxRecDepth 20000 in
theorem ggX3_check_X3_in : GoodIn wsX3_check wsX3_in := goodIn_r _ [5] (by decide +kernel) (by decide +kernel)
set_option maxRecDepth 20000 in
theorem gX3_check_X3_in : GoodIn wsX3_check (va_wsS RX3 33 yX3_in wsX3_in) := goodIn_app (goodIn_of _ (by decide +kernel)) ggX3_check_X3_in
set_option maxRecDepth 20000 in
theorem ggX3_check_X3_isRow : GoodIn wsX3_check wsX3_isRow := goodIn_r _ [9, 10, 11, 12, 4, 13, 1, 2, 3, 5, 14, 15, 16, 17, 18, 19, 20] (by decide +kernel) (by decide +kernel)
set_option maxRecDepth 20000 in
theorem gX3_check_X3_isRow : GoodIn wsX3_check (wsV RX3 66 RX3 yX3_isRow wsX3_isRow) := goodIn_app (goodIn_of _ (by decide +kernel)) ggX3_check_X3_isRow
theorem dX3_check_0 : decode cX3_check 0 = .ok (.iload_n 1, 1) := by decide +kernel
theorem dX3_check_1 : decode cX3_check 1 = .ok (.iconst 0, 1) := by decide +kernel
theorem dX3_check_2 : decode cX3_check 2 = .ok (.iconst 2, 1) := by decide +kernel
theorem dX3_check_3 : decode cX3_check 3 = .ok (.invokestatic 33, 3) := by decide +kernel
theorem dX3_check_6 : decode cX3_check 6 = .ok (.ifCond .ne 5, 3) := by decide +kernel
theorem dX3_check_9 : decode cX3_check 9 = .ok (.iconst (-1), 1) := by decide +kernel
theorem dX3_check_10 : decode cX3_check 10 = .ok (.ireturn, 1) := by decide +kernel
theorem dX3_check_11 : decode cX3_check 11 = .ok (.aload_n 0, 1) := by decide +kernel
theorem dX3_check_12 : decode cX3_check 12 = .ok (.iload_n 2, 1) := by decide +kernel
theorem dX3_check_13 : decode cX3_check 13 = .ok (.invokevirtual 66, 3) := by decide +kernel
theorem dX3_check_16 : decode cX3_check 16 = .ok (.ifCond .ne 6, 3) := by decide +kernel
theorem dX3_check_19 : decode cX3_check 19 = .ok (.bipush (-2), 2) := by decide +kernel
theorem dX3_check_21 : decode cX3_check 21 = .ok (.ireturn, 1) := by decide +kernel
theorem dX3_check_22 : decode cX3_check 22 = .ok (.aload_n 0, 1) := by decide +kernel
theorem dX3_check_23 : decode cX3_check 23 = .ok (.getfield 7, 3) := by decide +kernel
theorem dX3_check_26 : decode cX3_check 26 = .ok (.iconst 5, 1) := by decide +kernel
theorem dX3_check_27 : decode cX3_check 27 = .ok (.iload_n 1, 1) := by decide +kernel
theorem dX3_check_28 : decode cX3_check 28 = .ok (.iadd, 1) := by decide +kernel
theorem dX3_check_29 : decode cX3_check 29 = .ok (.iaload, 1) := by decide +kernel
theorem dX3_check_30 : decode cX3_check 30 = .ok (.istore_n 3, 1) := by decide +kernel
theorem dX3_check_31 : decode cX3_check 31 = .ok (.aload_n 0, 1) := by decide +kernel
theorem dX3_check_32 : decode cX3_check 32 = .ok (.getfield 7, 3) := by decide +kernel
theorem dX3_check_35 : decode cX3_check 35 = .ok (.iconst 5, 1) := by decide +kernel
theorem dX3_check_36 : decode cX3_check 36 = .ok (.iload_n 1, 1) := by decide +kernel
theorem dX3_check_37 : decode cX3_check 37 = .ok (.iadd, 1) := by decide +kernel
theorem dX3_check_38 : decode cX3_check 38 = .ok (.iload_n 2, 1) := by decide +kernel
theorem dX3_check_39 : decode cX3_check 39 = .ok (.iastore, 1) := by decide +kernel
theorem dX3_check_40 : decode cX3_check 40 = .ok (.iload_n 3, 1) := by decide +kernel
theorem dX3_check_41 : decode cX3_check 41 = .ok (.ireturn, 1) := by decide +kernel
set_option maxRecDepth 20000 in
theorem ggX3_openFor_X3_places : GoodIn wsX3_openFor wsX3_places := goodIn_r _ [5, 6, 11, 12, 13, 14, 15, 16, 17] (by decide +kernel) (by decide +kernel)
set_option maxRecDepth 20000 in
theorem gX3_openFor_X3_places : GoodIn wsX3_openFor (wsV RX3 29 RX3 yX3_places wsX3_places) := goodIn_app (goodIn_of _ (by decide +kernel)) ggX3_openFor_X3_places
set_option maxRecDepth 20000 in
theorem ggX3_openFor_X3_free : GoodIn wsX3_openFor wsX3_free := goodIn_r _ [10, 6, 1, 2, 3, 4, 5, 11, 12, 13, 14, 15, 16, 17] (by decide +kernel) (by decide +kernel)
set_option maxRecDepth 20000 in
theorem gX3_openFor_X3_free : GoodIn wsX3_openFor (wsV RX3 69 RX3 yX3_free wsX3_free) := goodIn_app (goodIn_of _ (by decide +kernel)) ggX3_openFor_X3_free
theorem dX3_openFor_0 : decode cX3_openFor 0 = .ok (.iconst 1, 1) := by decide +kernel
theorem dX3_openFor_1 : decode cX3_openFor 1 = .ok (.aload_n 0, 1) := by decide +kernel
theorem dX3_openFor_2 : decode cX3_openFor 2 = .ok (.invokevirtual 29, 3) := by decide +kernel
theorem dX3_openFor_5 : decode cX3_openFor 5 = .ok (.ishl, 1) := by decide +kernel
theorem dX3_openFor_6 : decode cX3_openFor 6 = .ok (.iconst 1, 1) := by decide +kernel
theorem dX3_openFor_7 : decode cX3_openFor 7 = .ok (.isub, 1) := by decide +kernel
theorem dX3_openFor_8 : decode cX3_openFor 8 = .ok (.iload_n 1, 1) := by decide +kernel
theorem dX3_openFor_9 : decode cX3_openFor 9 = .ok (.iconst (-1), 1) := by decide +kernel
theorem dX3_openFor_10 : decode cX3_openFor 10 = .ok (.ixor, 1) := by decide +kernel
theorem dX3_openFor_11 : decode cX3_openFor 11 = .ok (.iand, 1) := by decide +kernel
theorem dX3_openFor_12 : decode cX3_openFor 12 = .ok (.istore_n 2, 1) := by decide +kernel
theorem dX3_openFor_13 : decode cX3_openFor 13 = .ok (.aload_n 0, 1) := by decide +kernel
theorem dX3_openFor_14 : decode cX3_openFor 14 = .ok (.invokevirtual 29, 3) := by decide +kernel
theorem dX3_openFor_17 : decode cX3_openFor 17 = .ok (.iconst 2, 1) := by decide +kernel
theorem dX3_openFor_18 : decode cX3_openFor 18 = .ok (.idiv, 1) := by decide +kernel
theorem dX3_openFor_19 : decode cX3_openFor 19 = .ok (.istore_n 3, 1) := by decide +kernel
theorem dX3_openFor_20 : decode cX3_openFor 20 = .ok (.iload_n 3, 1) := by decide +kernel
theorem dX3_openFor_21 : decode cX3_openFor 21 = .ok (.ifCond .le 82, 3) := by decide +kernel
theorem dX3_openFor_24 : decode cX3_openFor 24 = .ok (.iconst 0, 1) := by decide +kernel
theorem dX3_openFor_25 : decode cX3_openFor 25 = .ok (.istore 4, 2) := by decide +kernel
theorem dX3_openFor_27 : decode cX3_openFor 27 = .ok (.iconst 0, 1) := by decide +kernel
theorem dX3_openFor_28 : decode cX3_openFor 28 = .ok (.istore 5, 2) := by decide +kernel
theorem dX3_openFor_30 : decode cX3_openFor 30 = .ok (.iload 5, 2) := by decide +kernel
theorem dX3_openFor_32 : decode cX3_openFor 32 = .ok (.aload_n 0, 1) := by decide +kernel
theorem dX3_openFor_33 : decode cX3_openFor 33 = .ok (.invokevirtual 29, 3) := by decide +kernel
theorem dX3_openFor_36 : decode cX3_openFor 36 = .ok (.if_icmp .ge 57, 3) := by decide +kernel
theorem dX3_openFor_39 : decode cX3_openFor 39 = .ok (.iload_n 2, 1) := by decide +kernel
theorem dX3_openFor_40 : decode cX3_openFor 40 = .ok (.iload 5, 2) := by decide +kernel
theorem dX3_openFor_42 : decode cX3_openFor 42 = .ok (.ishr, 1) := by decide +kernel
theorem dX3_openFor_43 : decode cX3_openFor 43 = .ok (.iconst 1, 1) := by decide +kernel
theorem dX3_openFor_44 : decode cX3_openFor 44 = .ok (.iand, 1) := by decide +kernel
theorem dX3_openFor_45 : decode cX3_openFor 45 = .ok (.istore 6, 2) := by decide +kernel
theorem dX3_openFor_47 : decode cX3_openFor 47 = .ok (.iload 4, 2) := by decide +kernel
theorem dX3_openFor_49 : decode cX3_openFor 49 = .ok (.iload 5, 2) := by decide +kernel
theorem dX3_openFor_51 : decode cX3_openFor 51 = .ok (.iload_n 3, 1) := by decide +kernel
theorem dX3_openFor_52 : decode cX3_openFor 52 = .ok (.idiv, 1) := by decide +kernel
theorem dX3_openFor_53 : decode cX3_openFor 53 = .ok (.iconst 2, 1) := by decide +kernel
theorem dX3_openFor_54 : decode cX3_openFor 54 = .ok (.irem, 1) := by decide +kernel
theorem dX3_openFor_55 : decode cX3_openFor 55 = .ok (.ifCond .ne 15, 3) := by decide +kernel
theorem dX3_openFor_58 : decode cX3_openFor 58 = .ok (.iload 6, 2) := by decide +kernel
theorem dX3_openFor_60 : decode cX3_openFor 60 = .ok (.iload_n 2, 1) := by decide +kernel
theorem dX3_openFor_61 : decode cX3_openFor 61 = .ok (.iload 5, 2) := by decide +kernel
theorem dX3_openFor_63 : decode cX3_openFor 63 = .ok (.iload_n 3, 1) := by decide +kernel
theorem dX3_openFor_64 : decode cX3_openFor 64 = .ok (.iadd, 1) := by decide +kernel
theorem dX3_openFor_65 : decode cX3_openFor 65 = .ok (.ishr, 1) := by decide +kernel
theorem dX3_openFor_66 : decode cX3_openFor 66 = .ok (.iand, 1) := by decide +kernel
theorem dX3_openFor_67 : decode cX3_openFor 67 = .ok (.goto 14, 3) := by decide +kernel
theorem dX3_openFor_70 : decode cX3_openFor 70 = .ok (.iload 6, 2) := by decide +kernel
theorem dX3_openFor_72 : decode cX3_openFor 72 = .ok (.iload_n 2, 1) := by decide +kernel
theorem dX3_openFor_73 : decode cX3_openFor 73 = .ok (.iload 5, 2) := by decide +kernel
theorem dX3_openFor_75 : decode cX3_openFor 75 = .ok (.iload_n 3, 1) := by decide +kernel
theorem dX3_openFor_76 : decode cX3_openFor 76 = .ok (.isub, 1) := by decide +kernel
theorem dX3_openFor_77 : decode cX3_openFor 77 = .ok (.ishr, 1) := by decide +kernel
theorem dX3_openFor_78 : decode cX3_openFor 78 = .ok (.iconst 1, 1) := by decide +kernel
theorem dX3_openFor_79 : decode cX3_openFor 79 = .ok (.iand, 1) := by decide +kernel
theorem dX3_openFor_80 : decode cX3_openFor 80 = .ok (.ior, 1) := by decide +kernel
theorem dX3_openFor_81 : decode cX3_openFor 81 = .ok (.iload 5, 2) := by decide +kernel
theorem dX3_openFor_83 : decode cX3_openFor 83 = .ok (.ishl, 1) := by decide +kernel
theorem dX3_openFor_84 : decode cX3_openFor 84 = .ok (.ior, 1) := by decide +kernel
theorem dX3_openFor_85 : decode cX3_openFor 85 = .ok (.istore 4, 2) := by decide +kernel
theorem dX3_openFor_87 : decode cX3_openFor 87 = .ok (.iinc 5 1, 3) := by decide +kernel
theorem dX3_openFor_90 : decode cX3_openFor 90 = .ok (.goto (-60), 3) := by decide +kernel
theorem dX3_openFor_93 : decode cX3_openFor 93 = .ok (.iload 4, 2) := by decide +kernel
theorem dX3_openFor_95 : decode cX3_openFor 95 = .ok (.istore_n 2, 1) := by decide +kernel
theorem dX3_openFor_96 : decode cX3_openFor 96 = .ok (.iload_n 3, 1) := by decide +kernel
theorem dX3_openFor_97 : decode cX3_openFor 97 = .ok (.iconst 2, 1) := by decide +kernel
theorem dX3_openFor_98 : decode cX3_openFor 98 = .ok (.idiv, 1) := by decide +kernel
theorem dX3_openFor_99 : decode cX3_openFor 99 = .ok (.istore_n 3, 1) := by decide +kernel
theorem dX3_openFor_100 : decode cX3_openFor 100 = .ok (.goto (-80), 3) := by decide +kernel
theorem dX3_openFor_103 : decode cX3_openFor 103 = .ok (.aload_n 0, 1) := by decide +kernel
theorem dX3_openFor_104 : decode cX3_openFor 104 = .ok (.invokevirtual 69, 3) := by decide +kernel
theorem dX3_openFor_107 : decode cX3_openFor 107 = .ok (.iload_n 2, 1) := by decide +kernel
theorem dX3_openFor_108 : decode cX3_openFor 108 = .ok (.iconst (-1), 1) := by decide +kernel
theorem dX3_openFor_109 : decode cX3_openFor 109 = .ok (.ixor, 1) := by decide +kernel
theorem dX3_openFor_110 : decode cX3_openFor 110 = .ok (.iand, 1) := by decide +kernel
theorem dX3_openFor_111 : decode cX3_openFor 111 = .ok (.ireturn, 1) := by decide +kernel
set_option maxRecDepth 20000 in
theorem ggX3_open_X3_isRow : GoodIn wsX3_open wsX3_isRow := goodIn_r _ [5, 6, 7, 8, 4, 9, 10, 11, 12, 13, 25, 26, 27, 28, 29, 30, 31] (by decide +kernel) (by decide +kernel)
set_option maxRecDepth 20000 in
theorem gX3_open_X3_isRow : GoodIn wsX3_open (wsV RX3 66 RX3 yX3_isRow wsX3_isRow) := goodIn_app (goodIn_of _ (by decide +kernel)) ggX3_open_X3_isRow
set_option maxRecDepth 20000 in
theorem ggX3_open_X3_in : GoodIn wsX3_open wsX3_in := goodIn_r _ [13] (by decide +kernel) (by decide +kernel)
set_option maxRecDepth 20000 in
theorem gX3_open_X3_in : GoodIn wsX3_open (va_wsS RX3 33 yX3_in wsX3_in) := goodIn_app (goodIn_of _ (by decide +kernel)) ggX3_open_X3_in
set_option maxRecDepth 20000 in
theorem ggX3_open_X3_openFor : GoodIn wsX3_open wsX3_openFor := goodIn_r _ [17, 6, 7, 8, 4, 9, 10, 18, 19, 20, 21, 25, 26, 27, 28, 29, 30, 31] (by decide +kernel) (by decide +kernel)
set_option maxRecDepth 20000 in
theorem gX3_open_X3_openFor : GoodIn wsX3_open (wsV RX3 130 RX3 yX3_openFor wsX3_openFor) := goodIn_app (goodIn_of _ (by decide +kernel)) ggX3_open_X3_openFor
set_option maxRecDepth 20000 in
theorem ggX3_open_X3_size : GoodIn wsX3_open wsX3_size := goodIn_r _ [24] (by decide +kernel) (by decide +kernel)
set_option maxRecDepth 20000 in
theorem gX3_open_X3_size : GoodIn wsX3_open (va_wsS RX3 72 yX3_size wsX3_size) := goodIn_app (goodIn_of _ (by decide +kernel)) ggX3_open_X3_size
theorem dX3_open_0 : decode cX3_open 0 = .ok (.aload_n 0, 1) := by decide +kernel
theorem dX3_open_1 : decode cX3_open 1 = .ok (.iload_n 1, 1) := by decide +kernel
theorem dX3_open_2 : decode cX3_open 2 = .ok (.invokevirtual 66, 3) := by decide +kernel
theorem dX3_open_5 : decode cX3_open 5 = .ok (.ifCond .eq 12, 3) := by decide +kernel
theorem dX3_open_8 : decode cX3_open 8 = .ok (.iload_n 2, 1) := by decide +kernel
theorem dX3_open_9 : decode cX3_open 9 = .ok (.iconst 0, 1) := by decide +kernel
theorem dX3_open_10 : decode cX3_open 10 = .ok (.iconst 1, 1) := by decide +kernel
theorem dX3_open_11 : decode cX3_open 11 = .ok (.invokestatic 33, 3) := by decide +kernel
theorem dX3_open_14 : decode cX3_open 14 = .ok (.ifCond .ne 6, 3) := by decide +kernel
theorem dX3_open_17 : decode cX3_open 17 = .ok (.bipush (-2), 2) := by decide +kernel
theorem dX3_open_19 : decode cX3_open 19 = .ok (.ireturn, 1) := by decide +kernel
theorem dX3_open_20 : decode cX3_open 20 = .ok (.iload_n 2, 1) := by decide +kernel
theorem dX3_open_21 : decode cX3_open 21 = .ok (.ifCond .ne 11, 3) := by decide +kernel
theorem dX3_open_24 : decode cX3_open 24 = .ok (.aload_n 0, 1) := by decide +kernel
theorem dX3_open_25 : decode cX3_open 25 = .ok (.iload_n 1, 1) := by decide +kernel
theorem dX3_open_26 : decode cX3_open 26 = .ok (.invokevirtual 130, 3) := by decide +kernel
theorem dX3_open_29 : decode cX3_open 29 = .ok (.goto 11, 3) := by decide +kernel
theorem dX3_open_32 : decode cX3_open 32 = .ok (.aload_n 0, 1) := by decide +kernel
theorem dX3_open_33 : decode cX3_open 33 = .ok (.iload_n 1, 1) := by decide +kernel
theorem dX3_open_34 : decode cX3_open 34 = .ok (.invokevirtual 130, 3) := by decide +kernel
theorem dX3_open_37 : decode cX3_open 37 = .ok (.invokestatic 72, 3) := by decide +kernel
theorem dX3_open_40 : decode cX3_open 40 = .ok (.ireturn, 1) := by decide +kernel
set_option maxRecDepth 20000 in
theorem ggX3_fragile_X3_in : GoodIn wsX3_fragile wsX3_in := goodIn_r _ [4] (by decide +kernel) (by decide +kernel)
set_option maxRecDepth 20000 in
theorem gX3_fragile_X3_in : GoodIn wsX3_fragile (va_wsS RX3 33 yX3_in wsX3_in) := goodIn_app (goodIn_of _ (by decide +kernel)) ggX3_fragile_X3_in
set_option maxRecDepth 20000 in
theorem ggX3_fragile_X3_places : GoodIn wsX3_fragile wsX3_places := goodIn_r _ [8, 9, 21, 22, 23, 24, 25, 26, 27] (by decide +kernel) (by decide +kernel)
set_option maxRecDepth 20000 in
theorem gX3_fragile_X3_places : GoodIn wsX3_fragile (wsV RX3 29 RX3 yX3_places wsX3_places) := goodIn_app (goodIn_of _ (by decide +kernel)) ggX3_fragile_X3_places
set_option maxRecDepth 20000 in
theorem ggX3_fragile_X3_size : GoodIn wsX3_fragile wsX3_size := goodIn_r _ [12] (by decide +kernel) (by decide +kernel)
set_option maxRecDepth 20000 in
theorem gX3_fragile_X3_size : GoodIn wsX3_fragile (va_wsS RX3 72 yX3_size wsX3_size) := goodIn_app (goodIn_of _ (by decide +kernel)) ggX3_fragile_X3_size
set_option maxRecDepth 20000 in
theorem ggX3_fragile_X3_openFor : GoodIn wsX3_fragile wsX3_openFor := goodIn_r _ [16, 5, 6, 7, 3, 8, 9, 17, 18, 19, 20, 21, 22, 23, 24, 25, 26, 27] (by decide +kernel) (by decide +kernel)
set_option maxRecDepth 20000 in
theorem gX3_fragile_X3_openFor : GoodIn wsX3_fragile (wsV RX3 130 RX3 yX3_openFor wsX3_openFor) := goodIn_app (goodIn_of _ (by decide +kernel)) ggX3_fragile_X3_openFor
theorem dX3_fragile_0 : decode cX3_fragile 0 = .ok (.iload_n 1, 1) := by decide +kernel
theorem dX3_fragile_1 : decode cX3_fragile 1 = .ok (.iconst 0, 1) := by decide +kernel
theorem dX3_fragile_2 : decode cX3_fragile 2 = .ok (.iconst 2, 1) := by decide +kernel
theorem dX3_fragile_3 : decode cX3_fragile 3 = .ok (.invokestatic 33, 3) := by decide +kernel
theorem dX3_fragile_6 : decode cX3_fragile 6 = .ok (.ifCond .ne 6, 3) := by decide +kernel
theorem dX3_fragile_9 : decode cX3_fragile 9 = .ok (.bipush (-2), 2) := by decide +kernel
theorem dX3_fragile_11 : decode cX3_fragile 11 = .ok (.ireturn, 1) := by decide +kernel
theorem dX3_fragile_12 : decode cX3_fragile 12 = .ok (.bipush (-6), 2) := by decide +kernel
theorem dX3_fragile_14 : decode cX3_fragile 14 = .ok (.istore_n 2, 1) := by decide +kernel
theorem dX3_fragile_15 : decode cX3_fragile 15 = .ok (.bipush (-6), 2) := by decide +kernel
theorem dX3_fragile_17 : decode cX3_fragile 17 = .ok (.istore_n 3, 1) := by decide +kernel
theorem dX3_fragile_18 : decode cX3_fragile 18 = .ok (.iconst 0, 1) := by decide +kernel
theorem dX3_fragile_19 : decode cX3_fragile 19 = .ok (.istore 4, 2) := by decide +kernel
theorem dX3_fragile_21 : decode cX3_fragile 21 = .ok (.iconst 0, 1) := by decide +kernel
theorem dX3_fragile_22 : decode cX3_fragile 22 = .ok (.istore 5, 2) := by decide +kernel
theorem dX3_fragile_24 : decode cX3_fragile 24 = .ok (.iload 5, 2) := by decide +kernel
theorem dX3_fragile_26 : decode cX3_fragile 26 = .ok (.iconst 1, 1) := by decide +kernel
theorem dX3_fragile_27 : decode cX3_fragile 27 = .ok (.aload_n 0, 1) := by decide +kernel
theorem dX3_fragile_28 : decode cX3_fragile 28 = .ok (.invokevirtual 29, 3) := by decide +kernel
theorem dX3_fragile_31 : decode cX3_fragile 31 = .ok (.ishl, 1) := by decide +kernel
theorem dX3_fragile_32 : decode cX3_fragile 32 = .ok (.if_icmp .ge 67, 3) := by decide +kernel
theorem dX3_fragile_35 : decode cX3_fragile 35 = .ok (.iload 5, 2) := by decide +kernel
theorem dX3_fragile_37 : decode cX3_fragile 37 = .ok (.invokestatic 72, 3) := by decide +kernel
theorem dX3_fragile_40 : decode cX3_fragile 40 = .ok (.istore 6, 2) := by decide +kernel
theorem dX3_fragile_42 : decode cX3_fragile 42 = .ok (.iload_n 2, 1) := by decide +kernel
theorem dX3_fragile_43 : decode cX3_fragile 43 = .ok (.ifCond .lt 9, 3) := by decide +kernel
theorem dX3_fragile_46 : decode cX3_fragile 46 = .ok (.iload 6, 2) := by decide +kernel
theorem dX3_fragile_48 : decode cX3_fragile 48 = .ok (.iload_n 2, 1) := by decide +kernel
theorem dX3_fragile_49 : decode cX3_fragile 49 = .ok (.if_icmp .gt 44, 3) := by decide +kernel
theorem dX3_fragile_52 : decode cX3_fragile 52 = .ok (.aload_n 0, 1) := by decide +kernel
theorem dX3_fragile_53 : decode cX3_fragile 53 = .ok (.iload 5, 2) := by decide +kernel
theorem dX3_fragile_55 : decode cX3_fragile 55 = .ok (.invokevirtual 130, 3) := by decide +kernel
theorem dX3_fragile_58 : decode cX3_fragile 58 = .ok (.ifCond .eq 35, 3) := by decide +kernel
theorem dX3_fragile_61 : decode cX3_fragile 61 = .ok (.iload 6, 2) := by decide +kernel
theorem dX3_fragile_63 : decode cX3_fragile 63 = .ok (.iload_n 2, 1) := by decide +kernel
theorem dX3_fragile_64 : decode cX3_fragile 64 = .ok (.if_icmp .ne 10, 3) := by decide +kernel
theorem dX3_fragile_67 : decode cX3_fragile 67 = .ok (.iload 4, 2) := by decide +kernel
theorem dX3_fragile_69 : decode cX3_fragile 69 = .ok (.iconst 1, 1) := by decide +kernel
theorem dX3_fragile_70 : decode cX3_fragile 70 = .ok (.iadd, 1) := by decide +kernel
theorem dX3_fragile_71 : decode cX3_fragile 71 = .ok (.goto 4, 3) := by decide +kernel
theorem dX3_fragile_74 : decode cX3_fragile 74 = .ok (.iconst 1, 1) := by decide +kernel
theorem dX3_fragile_75 : decode cX3_fragile 75 = .ok (.istore 4, 2) := by decide +kernel
theorem dX3_fragile_77 : decode cX3_fragile 77 = .ok (.iload 6, 2) := by decide +kernel
theorem dX3_fragile_79 : decode cX3_fragile 79 = .ok (.iload_n 2, 1) := by decide +kernel
theorem dX3_fragile_80 : decode cX3_fragile 80 = .ok (.if_icmp .ne 7, 3) := by decide +kernel
theorem dX3_fragile_83 : decode cX3_fragile 83 = .ok (.iload_n 3, 1) := by decide +kernel
theorem dX3_fragile_84 : decode cX3_fragile 84 = .ok (.goto 5, 3) := by decide +kernel
theorem dX3_fragile_87 : decode cX3_fragile 87 = .ok (.iload 5, 2) := by decide +kernel
theorem dX3_fragile_89 : decode cX3_fragile 89 = .ok (.istore_n 3, 1) := by decide +kernel
theorem dX3_fragile_90 : decode cX3_fragile 90 = .ok (.iload 6, 2) := by decide +kernel
theorem dX3_fragile_92 : decode cX3_fragile 92 = .ok (.istore_n 2, 1) := by decide +kernel
theorem dX3_fragile_93 : decode cX3_fragile 93 = .ok (.iinc 5 1, 3) := by decide +kernel
theorem dX3_fragile_96 : decode cX3_fragile 96 = .ok (.goto (-72), 3) := by decide +kernel
theorem dX3_fragile_99 : decode cX3_fragile 99 = .ok (.iload_n 2, 1) := by decide +kernel
theorem dX3_fragile_100 : decode cX3_fragile 100 = .ok (.ifCond .lt 7, 3) := by decide +kernel
theorem dX3_fragile_103 : decode cX3_fragile 103 = .ok (.iload_n 1, 1) := by decide +kernel
theorem dX3_fragile_104 : decode cX3_fragile 104 = .ok (.ifCond .ne 7, 3) := by decide +kernel
theorem dX3_fragile_107 : decode cX3_fragile 107 = .ok (.iload_n 2, 1) := by decide +kernel
theorem dX3_fragile_108 : decode cX3_fragile 108 = .ok (.goto 14, 3) := by decide +kernel
theorem dX3_fragile_111 : decode cX3_fragile 111 = .ok (.iload_n 1, 1) := by decide +kernel
theorem dX3_fragile_112 : decode cX3_fragile 112 = .ok (.iconst 1, 1) := by decide +kernel
theorem dX3_fragile_113 : decode cX3_fragile 113 = .ok (.if_icmp .ne 8, 3) := by decide +kernel
theorem dX3_fragile_116 : decode cX3_fragile 116 = .ok (.iload 4, 2) := by decide +kernel
theorem dX3_fragile_118 : decode cX3_fragile 118 = .ok (.goto 4, 3) := by decide +kernel
theorem dX3_fragile_121 : decode cX3_fragile 121 = .ok (.iload_n 3, 1) := by decide +kernel
theorem dX3_fragile_122 : decode cX3_fragile 122 = .ok (.ireturn, 1) := by decide +kernel
set_option maxRecDepth 20000 in
theorem ggX3_image_X3_in : GoodIn wsX3_image wsX3_in := goodIn_r _ [7] (by decide +kernel) (by decide +kernel)
set_option maxRecDepth 20000 in
theorem gX3_image_X3_in : GoodIn wsX3_image (va_wsS RX3 33 yX3_in wsX3_in) := goodIn_app (goodIn_of _ (by decide +kernel)) ggX3_image_X3_in
theorem dX3_image_0 : decode cX3_image 0 = .ok (.iload_n 1, 1) := by decide +kernel
theorem dX3_image_1 : decode cX3_image 1 = .ok (.iconst 0, 1) := by decide +kernel
theorem dX3_image_2 : decode cX3_image 2 = .ok (.iconst 1, 1) := by decide +kernel
theorem dX3_image_3 : decode cX3_image 3 = .ok (.invokestatic 33, 3) := by decide +kernel
theorem dX3_image_6 : decode cX3_image 6 = .ok (.ifCond .ne 6, 3) := by decide +kernel
theorem dX3_image_9 : decode cX3_image 9 = .ok (.bipush (-2), 2) := by decide +kernel
theorem dX3_image_11 : decode cX3_image 11 = .ok (.ireturn, 1) := by decide +kernel
theorem dX3_image_12 : decode cX3_image 12 = .ok (.iconst 0, 1) := by decide +kernel
theorem dX3_image_13 : decode cX3_image 13 = .ok (.istore_n 2, 1) := by decide +kernel
theorem dX3_image_14 : decode cX3_image 14 = .ok (.iload_n 2, 1) := by decide +kernel
theorem dX3_image_15 : decode cX3_image 15 = .ok (.bipush 24, 2) := by decide +kernel
theorem dX3_image_17 : decode cX3_image 17 = .ok (.if_icmp .ge 26, 3) := by decide +kernel
theorem dX3_image_20 : decode cX3_image 20 = .ok (.aload_n 0, 1) := by decide +kernel
theorem dX3_image_21 : decode cX3_image 21 = .ok (.getfield 13, 3) := by decide +kernel
theorem dX3_image_24 : decode cX3_image 24 = .ok (.bipush 24, 2) := by decide +kernel
theorem dX3_image_26 : decode cX3_image 26 = .ok (.iload_n 1, 1) := by decide +kernel
theorem dX3_image_27 : decode cX3_image 27 = .ok (.imul, 1) := by decide +kernel
theorem dX3_image_28 : decode cX3_image 28 = .ok (.iload_n 2, 1) := by decide +kernel
theorem dX3_image_29 : decode cX3_image 29 = .ok (.iadd, 1) := by decide +kernel
theorem dX3_image_30 : decode cX3_image 30 = .ok (.aload_n 0, 1) := by decide +kernel
theorem dX3_image_31 : decode cX3_image 31 = .ok (.getfield 7, 3) := by decide +kernel
theorem dX3_image_34 : decode cX3_image 34 = .ok (.iload_n 2, 1) := by decide +kernel
theorem dX3_image_35 : decode cX3_image 35 = .ok (.iaload, 1) := by decide +kernel
theorem dX3_image_36 : decode cX3_image 36 = .ok (.iastore, 1) := by decide +kernel
theorem dX3_image_37 : decode cX3_image 37 = .ok (.iinc 2 1, 3) := by decide +kernel
theorem dX3_image_40 : decode cX3_image 40 = .ok (.goto (-26), 3) := by decide +kernel
theorem dX3_image_43 : decode cX3_image 43 = .ok (.aload_n 0, 1) := by decide +kernel
theorem dX3_image_44 : decode cX3_image 44 = .ok (.getfield 16, 3) := by decide +kernel
theorem dX3_image_47 : decode cX3_image 47 = .ok (.iload_n 1, 1) := by decide +kernel
theorem dX3_image_48 : decode cX3_image 48 = .ok (.iconst 1, 1) := by decide +kernel
theorem dX3_image_49 : decode cX3_image 49 = .ok (.bastore, 1) := by decide +kernel
theorem dX3_image_50 : decode cX3_image 50 = .ok (.iconst 1, 1) := by decide +kernel
theorem dX3_image_51 : decode cX3_image 51 = .ok (.ireturn, 1) := by decide +kernel
set_option maxRecDepth 20000 in
theorem ggX3_restore_X3_in : GoodIn wsX3_restore wsX3_in := goodIn_r _ [7] (by decide +kernel) (by decide +kernel)
set_option maxRecDepth 20000 in
theorem gX3_restore_X3_in : GoodIn wsX3_restore (va_wsS RX3 33 yX3_in wsX3_in) := goodIn_app (goodIn_of _ (by decide +kernel)) ggX3_restore_X3_in
theorem dX3_restore_0 : decode cX3_restore 0 = .ok (.iload_n 1, 1) := by decide +kernel
theorem dX3_restore_1 : decode cX3_restore 1 = .ok (.iconst 0, 1) := by decide +kernel
theorem dX3_restore_2 : decode cX3_restore 2 = .ok (.iconst 1, 1) := by decide +kernel
theorem dX3_restore_3 : decode cX3_restore 3 = .ok (.invokestatic 33, 3) := by decide +kernel
theorem dX3_restore_6 : decode cX3_restore 6 = .ok (.ifCond .ne 6, 3) := by decide +kernel
theorem dX3_restore_9 : decode cX3_restore 9 = .ok (.bipush (-2), 2) := by decide +kernel
theorem dX3_restore_11 : decode cX3_restore 11 = .ok (.ireturn, 1) := by decide +kernel
theorem dX3_restore_12 : decode cX3_restore 12 = .ok (.aload_n 0, 1) := by decide +kernel
theorem dX3_restore_13 : decode cX3_restore 13 = .ok (.getfield 16, 3) := by decide +kernel
theorem dX3_restore_16 : decode cX3_restore 16 = .ok (.iload_n 1, 1) := by decide +kernel
theorem dX3_restore_17 : decode cX3_restore 17 = .ok (.baload, 1) := by decide +kernel
theorem dX3_restore_18 : decode cX3_restore 18 = .ok (.ifCond .ne 6, 3) := by decide +kernel
theorem dX3_restore_21 : decode cX3_restore 21 = .ok (.bipush (-3), 2) := by decide +kernel
theorem dX3_restore_23 : decode cX3_restore 23 = .ok (.ireturn, 1) := by decide +kernel
theorem dX3_restore_24 : decode cX3_restore 24 = .ok (.iconst 0, 1) := by decide +kernel
theorem dX3_restore_25 : decode cX3_restore 25 = .ok (.istore_n 2, 1) := by decide +kernel
theorem dX3_restore_26 : decode cX3_restore 26 = .ok (.iload_n 2, 1) := by decide +kernel
theorem dX3_restore_27 : decode cX3_restore 27 = .ok (.bipush 24, 2) := by decide +kernel
theorem dX3_restore_29 : decode cX3_restore 29 = .ok (.if_icmp .ge 26, 3) := by decide +kernel
theorem dX3_restore_32 : decode cX3_restore 32 = .ok (.aload_n 0, 1) := by decide +kernel
theorem dX3_restore_33 : decode cX3_restore 33 = .ok (.getfield 7, 3) := by decide +kernel
theorem dX3_restore_36 : decode cX3_restore 36 = .ok (.iload_n 2, 1) := by decide +kernel
theorem dX3_restore_37 : decode cX3_restore 37 = .ok (.aload_n 0, 1) := by decide +kernel
theorem dX3_restore_38 : decode cX3_restore 38 = .ok (.getfield 13, 3) := by decide +kernel
theorem dX3_restore_41 : decode cX3_restore 41 = .ok (.bipush 24, 2) := by decide +kernel
theorem dX3_restore_43 : decode cX3_restore 43 = .ok (.iload_n 1, 1) := by decide +kernel
theorem dX3_restore_44 : decode cX3_restore 44 = .ok (.imul, 1) := by decide +kernel
theorem dX3_restore_45 : decode cX3_restore 45 = .ok (.iload_n 2, 1) := by decide +kernel
theorem dX3_restore_46 : decode cX3_restore 46 = .ok (.iadd, 1) := by decide +kernel
theorem dX3_restore_47 : decode cX3_restore 47 = .ok (.iaload, 1) := by decide +kernel
theorem dX3_restore_48 : decode cX3_restore 48 = .ok (.iastore, 1) := by decide +kernel
theorem dX3_restore_49 : decode cX3_restore 49 = .ok (.iinc 2 1, 3) := by decide +kernel
theorem dX3_restore_52 : decode cX3_restore 52 = .ok (.goto (-26), 3) := by decide +kernel
theorem dX3_restore_55 : decode cX3_restore 55 = .ok (.iconst 1, 1) := by decide +kernel
theorem dX3_restore_56 : decode cX3_restore 56 = .ok (.ireturn, 1) := by decide +kernel
set_option maxRecDepth 20000 in
theorem ggX3_count_X3_in : GoodIn wsX3_count wsX3_in := goodIn_r _ [6] (by decide +kernel) (by decide +kernel)
set_option maxRecDepth 20000 in
theorem gX3_count_X3_in : GoodIn wsX3_count (va_wsS RX3 33 yX3_in wsX3_in) := goodIn_app (goodIn_of _ (by decide +kernel)) ggX3_count_X3_in
set_option maxRecDepth 20000 in
theorem ggX3_count_X3_free : GoodIn wsX3_count wsX3_free := goodIn_r _ [10, 1, 11, 12, 13, 5, 14, 18, 19, 20, 21, 22, 23, 24] (by decide +kernel) (by decide +kernel)
set_option maxRecDepth 20000 in
theorem gX3_count_X3_free : GoodIn wsX3_count (wsV RX3 69 RX3 yX3_free wsX3_free) := goodIn_app (goodIn_of _ (by decide +kernel)) ggX3_count_X3_free
set_option maxRecDepth 20000 in
theorem ggX3_count_X3_size : GoodIn wsX3_count wsX3_size := goodIn_r _ [17] (by decide +kernel) (by decide +kernel)
set_option maxRecDepth 20000 in
theorem gX3_count_X3_size : GoodIn wsX3_count (va_wsS RX3 72 yX3_size wsX3_size) := goodIn_app (goodIn_of _ (by decide +kernel)) ggX3_count_X3_size
theorem dX3_count_0 : decode cX3_count 0 = .ok (.iload_n 1, 1) := by decide +kernel
theorem dX3_count_1 : decode cX3_count 1 = .ok (.bipush 10, 2) := by decide +kernel
theorem dX3_count_3 : decode cX3_count 3 = .ok (.bipush 12, 2) := by decide +kernel
theorem dX3_count_5 : decode cX3_count 5 = .ok (.invokestatic 33, 3) := by decide +kernel
theorem dX3_count_8 : decode cX3_count 8 = .ok (.ifCond .eq 15, 3) := by decide +kernel
theorem dX3_count_11 : decode cX3_count 11 = .ok (.aload_n 0, 1) := by decide +kernel
theorem dX3_count_12 : decode cX3_count 12 = .ok (.getfield 7, 3) := by decide +kernel
theorem dX3_count_15 : decode cX3_count 15 = .ok (.iconst 5, 1) := by decide +kernel
theorem dX3_count_16 : decode cX3_count 16 = .ok (.iload_n 1, 1) := by decide +kernel
theorem dX3_count_17 : decode cX3_count 17 = .ok (.iadd, 1) := by decide +kernel
theorem dX3_count_18 : decode cX3_count 18 = .ok (.bipush 10, 2) := by decide +kernel
theorem dX3_count_20 : decode cX3_count 20 = .ok (.isub, 1) := by decide +kernel
theorem dX3_count_21 : decode cX3_count 21 = .ok (.iaload, 1) := by decide +kernel
theorem dX3_count_22 : decode cX3_count 22 = .ok (.ireturn, 1) := by decide +kernel
theorem dX3_count_23 : decode cX3_count 23 = .ok (.iload_n 1, 1) := by decide +kernel
theorem dX3_count_24 : decode cX3_count 24 = .ok (.tableswitch 98 0 6 #[44, 44, 44, 44, 53, 61, 68], 44) := by decide +kernel
theorem dX3_count_68 : decode cX3_count 68 = .ok (.aload_n 0, 1) := by decide +kernel
theorem dX3_count_69 : decode cX3_count 69 = .ok (.getfield 7, 3) := by decide +kernel
theorem dX3_count_72 : decode cX3_count 72 = .ok (.iconst 0, 1) := by decide +kernel
theorem dX3_count_73 : decode cX3_count 73 = .ok (.iload_n 1, 1) := by decide +kernel
theorem dX3_count_74 : decode cX3_count 74 = .ok (.iadd, 1) := by decide +kernel
theorem dX3_count_75 : decode cX3_count 75 = .ok (.iaload, 1) := by decide +kernel
theorem dX3_count_76 : decode cX3_count 76 = .ok (.ireturn, 1) := by decide +kernel
theorem dX3_count_77 : decode cX3_count 77 = .ok (.aload_n 0, 1) := by decide +kernel
theorem dX3_count_78 : decode cX3_count 78 = .ok (.invokevirtual 69, 3) := by decide +kernel
theorem dX3_count_81 : decode cX3_count 81 = .ok (.invokestatic 72, 3) := by decide +kernel
theorem dX3_count_84 : decode cX3_count 84 = .ok (.ireturn, 1) := by decide +kernel
theorem dX3_count_85 : decode cX3_count 85 = .ok (.aload_n 0, 1) := by decide +kernel
theorem dX3_count_86 : decode cX3_count 86 = .ok (.getfield 7, 3) := by decide +kernel
theorem dX3_count_89 : decode cX3_count 89 = .ok (.iconst 4, 1) := by decide +kernel
theorem dX3_count_90 : decode cX3_count 90 = .ok (.iaload, 1) := by decide +kernel
theorem dX3_count_91 : decode cX3_count 91 = .ok (.ireturn, 1) := by decide +kernel
theorem dX3_count_92 : decode cX3_count 92 = .ok (.aload_n 0, 1) := by decide +kernel
theorem dX3_count_93 : decode cX3_count 93 = .ok (.getfield 16, 3) := by decide +kernel
theorem dX3_count_96 : decode cX3_count 96 = .ok (.iconst 0, 1) := by decide +kernel
theorem dX3_count_97 : decode cX3_count 97 = .ok (.baload, 1) := by decide +kernel
theorem dX3_count_98 : decode cX3_count 98 = .ok (.ifCond .eq 7, 3) := by decide +kernel
theorem dX3_count_101 : decode cX3_count 101 = .ok (.iconst 1, 1) := by decide +kernel
theorem dX3_count_102 : decode cX3_count 102 = .ok (.goto 4, 3) := by decide +kernel
theorem dX3_count_105 : decode cX3_count 105 = .ok (.iconst 0, 1) := by decide +kernel
theorem dX3_count_106 : decode cX3_count 106 = .ok (.aload_n 0, 1) := by decide +kernel
theorem dX3_count_107 : decode cX3_count 107 = .ok (.getfield 16, 3) := by decide +kernel
theorem dX3_count_110 : decode cX3_count 110 = .ok (.iconst 1, 1) := by decide +kernel
theorem dX3_count_111 : decode cX3_count 111 = .ok (.baload, 1) := by decide +kernel
theorem dX3_count_112 : decode cX3_count 112 = .ok (.ifCond .eq 7, 3) := by decide +kernel
theorem dX3_count_115 : decode cX3_count 115 = .ok (.iconst 2, 1) := by decide +kernel
theorem dX3_count_116 : decode cX3_count 116 = .ok (.goto 4, 3) := by decide +kernel
theorem dX3_count_119 : decode cX3_count 119 = .ok (.iconst 0, 1) := by decide +kernel
theorem dX3_count_120 : decode cX3_count 120 = .ok (.iadd, 1) := by decide +kernel
theorem dX3_count_121 : decode cX3_count 121 = .ok (.ireturn, 1) := by decide +kernel
theorem dX3_count_122 : decode cX3_count 122 = .ok (.bipush (-2), 2) := by decide +kernel
theorem dX3_count_124 : decode cX3_count 124 = .ok (.ireturn, 1) := by decide +kernel
theorem dJ6_bitCount_0f7a4_0 : decode cJ6_bitCount_0f7a4 0 = .ok (.iload_n 0, 1) := by decide +kernel
theorem dJ6_bitCount_0f7a4_1 : decode cJ6_bitCount_0f7a4 1 = .ok (.iload_n 0, 1) := by decide +kernel
theorem dJ6_bitCount_0f7a4_2 : decode cJ6_bitCount_0f7a4 2 = .ok (.iconst 1, 1) := by decide +kernel
theorem dJ6_bitCount_0f7a4_3 : decode cJ6_bitCount_0f7a4 3 = .ok (.iushr, 1) := by decide +kernel
theorem dJ6_bitCount_0f7a4_4 : decode cJ6_bitCount_0f7a4 4 = .ok (.ldc_w 265, 3) := by decide +kernel
theorem dJ6_bitCount_0f7a4_7 : decode cJ6_bitCount_0f7a4 7 = .ok (.iand, 1) := by decide +kernel
theorem dJ6_bitCount_0f7a4_8 : decode cJ6_bitCount_0f7a4 8 = .ok (.isub, 1) := by decide +kernel
theorem dJ6_bitCount_0f7a4_9 : decode cJ6_bitCount_0f7a4 9 = .ok (.istore_n 0, 1) := by decide +kernel
theorem dJ6_bitCount_0f7a4_10 : decode cJ6_bitCount_0f7a4 10 = .ok (.iload_n 0, 1) := by decide +kernel
theorem dJ6_bitCount_0f7a4_11 : decode cJ6_bitCount_0f7a4 11 = .ok (.ldc_w 266, 3) := by decide +kernel
theorem dJ6_bitCount_0f7a4_14 : decode cJ6_bitCount_0f7a4 14 = .ok (.iand, 1) := by decide +kernel
theorem dJ6_bitCount_0f7a4_15 : decode cJ6_bitCount_0f7a4 15 = .ok (.iload_n 0, 1) := by decide +kernel
theorem dJ6_bitCount_0f7a4_16 : decode cJ6_bitCount_0f7a4 16 = .ok (.iconst 2, 1) := by decide +kernel
theorem dJ6_bitCount_0f7a4_17 : decode cJ6_bitCount_0f7a4 17 = .ok (.iushr, 1) := by decide +kernel
theorem dJ6_bitCount_0f7a4_18 : decode cJ6_bitCount_0f7a4 18 = .ok (.ldc_w 266, 3) := by decide +kernel
theorem dJ6_bitCount_0f7a4_21 : decode cJ6_bitCount_0f7a4 21 = .ok (.iand, 1) := by decide +kernel
theorem dJ6_bitCount_0f7a4_22 : decode cJ6_bitCount_0f7a4 22 = .ok (.iadd, 1) := by decide +kernel
theorem dJ6_bitCount_0f7a4_23 : decode cJ6_bitCount_0f7a4 23 = .ok (.istore_n 0, 1) := by decide +kernel
theorem dJ6_bitCount_0f7a4_24 : decode cJ6_bitCount_0f7a4 24 = .ok (.iload_n 0, 1) := by decide +kernel
theorem dJ6_bitCount_0f7a4_25 : decode cJ6_bitCount_0f7a4 25 = .ok (.iload_n 0, 1) := by decide +kernel
theorem dJ6_bitCount_0f7a4_26 : decode cJ6_bitCount_0f7a4 26 = .ok (.iconst 4, 1) := by decide +kernel
theorem dJ6_bitCount_0f7a4_27 : decode cJ6_bitCount_0f7a4 27 = .ok (.iushr, 1) := by decide +kernel
theorem dJ6_bitCount_0f7a4_28 : decode cJ6_bitCount_0f7a4 28 = .ok (.iadd, 1) := by decide +kernel
theorem dJ6_bitCount_0f7a4_29 : decode cJ6_bitCount_0f7a4 29 = .ok (.ldc_w 267, 3) := by decide +kernel
theorem dJ6_bitCount_0f7a4_32 : decode cJ6_bitCount_0f7a4 32 = .ok (.iand, 1) := by decide +kernel
theorem dJ6_bitCount_0f7a4_33 : decode cJ6_bitCount_0f7a4 33 = .ok (.istore_n 0, 1) := by decide +kernel
theorem dJ6_bitCount_0f7a4_34 : decode cJ6_bitCount_0f7a4 34 = .ok (.iload_n 0, 1) := by decide +kernel
theorem dJ6_bitCount_0f7a4_35 : decode cJ6_bitCount_0f7a4 35 = .ok (.iload_n 0, 1) := by decide +kernel
theorem dJ6_bitCount_0f7a4_36 : decode cJ6_bitCount_0f7a4 36 = .ok (.bipush 8, 2) := by decide +kernel
theorem dJ6_bitCount_0f7a4_38 : decode cJ6_bitCount_0f7a4 38 = .ok (.iushr, 1) := by decide +kernel
theorem dJ6_bitCount_0f7a4_39 : decode cJ6_bitCount_0f7a4 39 = .ok (.iadd, 1) := by decide +kernel
theorem dJ6_bitCount_0f7a4_40 : decode cJ6_bitCount_0f7a4 40 = .ok (.istore_n 0, 1) := by decide +kernel
theorem dJ6_bitCount_0f7a4_41 : decode cJ6_bitCount_0f7a4 41 = .ok (.iload_n 0, 1) := by decide +kernel
theorem dJ6_bitCount_0f7a4_42 : decode cJ6_bitCount_0f7a4 42 = .ok (.iload_n 0, 1) := by decide +kernel
theorem dJ6_bitCount_0f7a4_43 : decode cJ6_bitCount_0f7a4 43 = .ok (.bipush 16, 2) := by decide +kernel
theorem dJ6_bitCount_0f7a4_45 : decode cJ6_bitCount_0f7a4 45 = .ok (.iushr, 1) := by decide +kernel
theorem dJ6_bitCount_0f7a4_46 : decode cJ6_bitCount_0f7a4 46 = .ok (.iadd, 1) := by decide +kernel
theorem dJ6_bitCount_0f7a4_47 : decode cJ6_bitCount_0f7a4 47 = .ok (.istore_n 0, 1) := by decide +kernel
theorem dJ6_bitCount_0f7a4_48 : decode cJ6_bitCount_0f7a4 48 = .ok (.iload_n 0, 1) := by decide +kernel
theorem dJ6_bitCount_0f7a4_49 : decode cJ6_bitCount_0f7a4 49 = .ok (.bipush 63, 2) := by decide +kernel
theorem dJ6_bitCount_0f7a4_51 : decode cJ6_bitCount_0f7a4 51 = .ok (.iand, 1) := by decide +kernel
theorem dJ6_bitCount_0f7a4_52 : decode cJ6_bitCount_0f7a4 52 = .ok (.ireturn, 1) := by decide +kernel
theorem dJ9_abs_0f7a4_0 : decode cJ9_abs_0f7a4 0 = .ok (.iload_n 0, 1) := by decide +kernel
theorem dJ9_abs_0f7a4_1 : decode cJ9_abs_0f7a4 1 = .ok (.ifCond .ge 8, 3) := by decide +kernel
theorem dJ9_abs_0f7a4_4 : decode cJ9_abs_0f7a4 4 = .ok (.iload_n 0, 1) := by decide +kernel
theorem dJ9_abs_0f7a4_5 : decode cJ9_abs_0f7a4 5 = .ok (.ineg, 1) := by decide +kernel
theorem dJ9_abs_0f7a4_6 : decode cJ9_abs_0f7a4 6 = .ok (.goto 4, 3) := by decide +kernel
theorem dJ9_abs_0f7a4_9 : decode cJ9_abs_0f7a4 9 = .ok (.iload_n 0, 1) := by decide +kernel
theorem dJ9_abs_0f7a4_10 : decode cJ9_abs_0f7a4 10 = .ok (.ireturn, 1) := by decide +kernel
theorem dJ9_max_7cf53_0 : decode cJ9_max_7cf53 0 = .ok (.iload_n 0, 1) := by decide +kernel
theorem dJ9_max_7cf53_1 : decode cJ9_max_7cf53 1 = .ok (.iload_n 1, 1) := by decide +kernel
theorem dJ9_max_7cf53_2 : decode cJ9_max_7cf53 2 = .ok (.if_icmp .lt 7, 3) := by decide +kernel
theorem dJ9_max_7cf53_5 : decode cJ9_max_7cf53 5 = .ok (.iload_n 0, 1) := by decide +kernel
theorem dJ9_max_7cf53_6 : decode cJ9_max_7cf53 6 = .ok (.goto 4, 3) := by decide +kernel
theorem dJ9_max_7cf53_9 : decode cJ9_max_7cf53 9 = .ok (.iload_n 1, 1) := by decide +kernel
theorem dJ9_max_7cf53_10 : decode cJ9_max_7cf53 10 = .ok (.ireturn, 1) := by decide +kernel
theorem dJ9_min_7cf53_0 : decode cJ9_min_7cf53 0 = .ok (.iload_n 0, 1) := by decide +kernel
theorem dJ9_min_7cf53_1 : decode cJ9_min_7cf53 1 = .ok (.iload_n 1, 1) := by decide +kernel
theorem dJ9_min_7cf53_2 : decode cJ9_min_7cf53 2 = .ok (.if_icmp .gt 7, 3) := by decide +kernel
theorem dJ9_min_7cf53_5 : decode cJ9_min_7cf53 5 = .ok (.iload_n 0, 1) := by decide +kernel
theorem dJ9_min_7cf53_6 : decode cJ9_min_7cf53 6 = .ok (.goto 4, 3) := by decide +kernel
theorem dJ9_min_7cf53_9 : decode cJ9_min_7cf53 9 = .ok (.iload_n 1, 1) := by decide +kernel
theorem dJ9_min_7cf53_10 : decode cJ9_min_7cf53 10 = .ok (.ireturn, 1) := by decide +kernel
set_option maxRecDepth 20000 in
theorem ggL_law_X2_init : GoodIn wsL_law wsX2_init := goodIn_r _ [8, 9, 10, 11, 12, 13, 14, 15, 16, 17, 18, 19, 20, 21, 22, 23, 24, 25, 26, 27, 28, 29, 30, 31, 32, 33, 34, 35, 36, 37, 38, 39, 40, 41, 540, 541, 542, 543, 544, 545, 546, 526, 527, 528, 529, 530, 531, 532, 547, 548, 549] (by decide +kernel) (by decide +kernel)
set_option maxRecDepth 20000 in
theorem gL_law_X2_init : GoodIn wsL_law (wsX2_init) := ggL_law_X2_init
set_option maxRecDepth 20000 in
theorem ggL_law_X3_init : GoodIn wsL_law wsX3_init := goodIn_r _ [44, 45, 10, 11, 19, 46, 47, 48, 49, 50, 51, 52, 533, 534, 535, 536, 537, 538, 539] (by decide +kernel) (by decide +kernel)
set_option maxRecDepth 20000 in
theorem gL_law_X3_init : GoodIn wsL_law (wsX3_init) := ggL_law_X3_init
set_option maxRecDepth 20000 in
theorem ggL_law_X2_deep : GoodIn wsL_law wsX2_deep := goodIn_r _ [56, 15, 57, 58, 59, 14, 60, 29, 32, 34, 35, 526, 527, 528, 529, 530, 531, 532, 540, 541, 542, 543, 544, 545, 546] (by decide +kernel) (by decide +kernel)
set_option maxRecDepth 20000 in
theorem gL_law_X2_deep : GoodIn wsL_law (wsV RL 13 RX2 yX2_deep wsX2_deep) := goodIn_app (goodIn_of _ (by decide +kernel)) ggL_law_X2_deep
set_option maxRecDepth 20000 in
theorem ggL_law_X3_deep : GoodIn wsL_law wsX3_deep := goodIn_r _ [64, 46, 65, 66, 5, 67, 533, 534, 535, 536, 537, 538, 539] (by decide +kernel) (by decide +kernel)
set_option maxRecDepth 20000 in
theorem gL_law_X3_deep : GoodIn wsL_law (wsV RL 17 RX3 yX3_deep wsX3_deep) := goodIn_app (goodIn_of _ (by decide +kernel)) ggL_law_X3_deep
set_option maxRecDepth 20000 in
theorem ggL_law_X2_loss : GoodIn wsL_law wsX2_loss := goodIn_r _ [71, 15, 526, 527, 528, 529, 530, 531, 532, 540, 541, 542, 543, 544, 545, 546] (by decide +kernel) (by decide +kernel)
set_option maxRecDepth 20000 in
theorem gL_law_X2_loss : GoodIn wsL_law (wsV RL 18 RX2 yX2_loss wsX2_loss) := goodIn_app (goodIn_of _ (by decide +kernel)) ggL_law_X2_loss
set_option maxRecDepth 20000 in
theorem ggL_law_X3_loss : GoodIn wsL_law wsX3_loss := goodIn_r _ [75, 46, 65, 66, 5, 67, 533, 534, 535, 536, 537, 538, 539] (by decide +kernel) (by decide +kernel)
set_option maxRecDepth 20000 in
theorem gL_law_X3_loss : GoodIn wsL_law (wsV RL 22 RX3 yX3_loss wsX3_loss) := goodIn_app (goodIn_of _ (by decide +kernel)) ggL_law_X3_loss
set_option maxRecDepth 20000 in
theorem ggL_law_X2_split : GoodIn wsL_law wsX2_split := goodIn_r _ [79, 80, 81, 82, 83, 84, 2, 85, 86, 87, 88, 89, 15, 90, 91, 92, 93, 94, 95, 96, 97, 98, 99, 100, 101, 526, 527, 528, 529, 530, 531, 532, 540, 541, 542, 543, 544, 545, 546] (by decide +kernel) (by decide +kernel)
set_option maxRecDepth 20000 in
theorem gL_law_X2_split : GoodIn wsL_law (wsV RL 23 RX2 yX2_split wsX2_split) := goodIn_app (goodIn_of _ (by decide +kernel)) ggL_law_X2_split
set_option maxRecDepth 20000 in
theorem ggL_law_X3_split : GoodIn wsL_law wsX3_split := goodIn_r _ [105, 106, 107, 108, 109, 110, 5, 111, 112, 113, 114, 115, 46, 65, 66, 67, 116, 117, 118, 119, 120, 121, 122, 123, 124, 125, 126, 127, 533, 534, 535, 536, 537, 538, 539] (by decide +kernel) (by decide +kernel)
set_option maxRecDepth 20000 in
theorem gL_law_X3_split : GoodIn wsL_law (wsV RL 27 RX3 yX3_split wsX3_split) := goodIn_app (goodIn_of _ (by decide +kernel)) ggL_law_X3_split
set_option maxRecDepth 20000 in
theorem ggL_law_X2_rank : GoodIn wsL_law wsX2_rank := goodIn_r _ [131, 82, 83, 84, 2, 85, 86, 87, 88, 89, 15, 132, 133, 134, 135, 136, 137, 138, 139, 90, 91, 92, 93, 94, 526, 527, 528, 529, 530, 531, 532, 540, 541, 542, 543, 544, 545, 546] (by decide +kernel) (by decide +kernel)
set_option maxRecDepth 20000 in
theorem gL_law_X2_rank : GoodIn wsL_law (wsV RL 28 RX2 yX2_rank wsX2_rank) := goodIn_app (goodIn_of _ (by decide +kernel)) ggL_law_X2_rank
set_option maxRecDepth 20000 in
theorem ggL_law_X3_rank : GoodIn wsL_law wsX3_rank := goodIn_r _ [143, 108, 109, 110, 5, 111, 112, 113, 114, 115, 46, 65, 66, 67, 144, 145, 146, 147, 148, 149, 150, 151, 116, 117, 118, 119, 120, 533, 534, 535, 536, 537, 538, 539] (by decide +kernel) (by decide +kernel)
set_option maxRecDepth 20000 in
theorem gL_law_X3_rank : GoodIn wsL_law (wsV RL 31 RX3 yX3_rank wsX3_rank) := goodIn_app (goodIn_of _ (by decide +kernel)) ggL_law_X3_rank
set_option maxRecDepth 20000 in
theorem ggL_law_X2_freeze : GoodIn wsL_law wsX2_freeze := goodIn_r _ [155, 15, 156, 157, 158, 2, 159, 86, 87, 88, 89, 160, 161, 162, 163, 164, 165, 166, 167, 168, 169, 170, 526, 527, 528, 529, 530, 531, 532, 540, 541, 542, 543, 544, 545, 546] (by decide +kernel) (by decide +kernel)
set_option maxRecDepth 20000 in
theorem gL_law_X2_freeze : GoodIn wsL_law (wsV RL 32 RX2 yX2_freeze wsX2_freeze) := goodIn_app (goodIn_of _ (by decide +kernel)) ggL_law_X2_freeze
set_option maxRecDepth 20000 in
theorem ggL_law_X3_freeze : GoodIn wsL_law wsX3_freeze := goodIn_r _ [174, 46, 175, 176, 177, 5, 178, 112, 113, 114, 115, 65, 66, 67, 179, 180, 181, 182, 183, 184, 185, 533, 534, 535, 536, 537, 538, 539] (by decide +kernel) (by decide +kernel)
set_option maxRecDepth 20000 in
theorem gL_law_X3_freeze : GoodIn wsL_law (wsV RL 35 RX3 yX3_freeze wsX3_freeze) := goodIn_app (goodIn_of _ (by decide +kernel)) ggL_law_X3_freeze
set_option maxRecDepth 20000 in
theorem ggL_law_X2_best : GoodIn wsL_law wsX2_best := goodIn_r _ [189, 15, 86, 87, 88, 2, 89, 136, 137, 138, 139, 90, 91, 92, 93, 94, 526, 527, 528, 529, 530, 531, 532, 540, 541, 542, 543, 544, 545, 546] (by decide +kernel) (by decide +kernel)
set_option maxRecDepth 20000 in
theorem gL_law_X2_best : GoodIn wsL_law (wsV RL 36 RX2 yX2_best wsX2_best) := goodIn_app (goodIn_of _ (by decide +kernel)) ggL_law_X2_best
set_option maxRecDepth 20000 in
theorem ggL_law_X3_best : GoodIn wsL_law wsX3_best := goodIn_r _ [193, 46, 112, 113, 114, 5, 115, 65, 66, 67, 144, 145, 146, 147, 148, 149, 150, 151, 116, 117, 118, 119, 120, 533, 534, 535, 536, 537, 538, 539] (by decide +kernel) (by decide +kernel)
set_option maxRecDepth 20000 in
theorem gL_law_X3_best : GoodIn wsL_law (wsV RL 39 RX3 yX3_best wsX3_best) := goodIn_app (goodIn_of _ (by decide +kernel)) ggL_law_X3_best
set_option maxRecDepth 20000 in
theorem ggL_law_X2_coded : GoodIn wsL_law wsX2_coded := goodIn_r _ [197, 156, 157, 158, 2, 159, 86, 87, 88, 89, 15, 198, 199, 200, 201, 526, 527, 528, 529, 530, 531, 532, 540, 541, 542, 543, 544, 545, 546] (by decide +kernel) (by decide +kernel)
set_option maxRecDepth 20000 in
theorem gL_law_X2_coded : GoodIn wsL_law (wsV RL 40 RX2 yX2_coded wsX2_coded) := goodIn_app (goodIn_of _ (by decide +kernel)) ggL_law_X2_coded
set_option maxRecDepth 20000 in
theorem ggL_law_X3_coded : GoodIn wsL_law wsX3_coded := goodIn_r _ [205, 175, 176, 177, 5, 178, 112, 113, 114, 115, 46, 65, 66, 67, 206, 207, 208, 209, 210, 211, 212, 533, 534, 535, 536, 537, 538, 539] (by decide +kernel) (by decide +kernel)
set_option maxRecDepth 20000 in
theorem gL_law_X3_coded : GoodIn wsL_law (wsV RL 43 RX3 yX3_coded wsX3_coded) := goodIn_app (goodIn_of _ (by decide +kernel)) ggL_law_X3_coded
set_option maxRecDepth 20000 in
theorem ggL_law_X2_word : GoodIn wsL_law wsX2_word := goodIn_r _ [216, 160, 161, 162, 2, 163, 15, 86, 87, 88, 89, 164, 165, 166, 167, 168, 169, 170, 217, 218, 219, 220, 221, 222, 223, 526, 527, 528, 529, 530, 531, 532, 540, 541, 542, 543, 544, 545, 546] (by decide +kernel) (by decide +kernel)
set_option maxRecDepth 20000 in
theorem gL_law_X2_word : GoodIn wsL_law (wsV RL 44 RX2 yX2_word wsX2_word) := goodIn_app (goodIn_of _ (by decide +kernel)) ggL_law_X2_word
set_option maxRecDepth 20000 in
theorem ggL_law_X3_word : GoodIn wsL_law wsX3_word := goodIn_r _ [227, 179, 180, 181, 5, 182, 46, 112, 113, 114, 115, 183, 184, 185, 65, 66, 67, 228, 229, 230, 231, 533, 534, 535, 536, 537, 538, 539] (by decide +kernel) (by decide +kernel)
set_option maxRecDepth 20000 in
theorem gL_law_X3_word : GoodIn wsL_law (wsV RL 47 RX3 yX3_word wsX3_word) := goodIn_app (goodIn_of _ (by decide +kernel)) ggL_law_X3_word
set_option maxRecDepth 20000 in
theorem ggL_law_X2_light : GoodIn wsL_law wsX2_light := goodIn_r _ [235, 160, 161, 162, 2, 163, 15, 86, 87, 88, 89, 164, 165, 166, 167, 168, 169, 170, 236, 237, 238, 239, 240, 241, 242, 243, 217, 218, 219, 220, 221, 222, 223, 198, 199, 200, 201, 244, 245, 246, 247, 248, 249, 250, 251, 252, 253, 254, 255, 256, 257, 258, 259, 260, 261, 526, 527, 528, 529, 530, 531, 532, 540, 541, 542, 543, 544, 545, 546] (by decide +kernel) (by decide +kernel)
set_option maxRecDepth 20000 in
theorem gL_law_X2_light : GoodIn wsL_law (wsV RL 48 RX2 yX2_light wsX2_light) := goodIn_app (goodIn_of _ (by decide +kernel)) ggL_law_X2_light
set_option maxRecDepth 20000 in
theorem ggL_law_X3_light : GoodIn wsL_law wsX3_light := goodIn_r _ [265, 65, 66, 5, 67, 179, 180, 181, 182, 46, 112, 113, 114, 115, 183, 184, 185, 228, 229, 230, 231, 206, 207, 208, 209, 210, 211, 212, 533, 534, 535, 536, 537, 538, 539] (by decide +kernel) (by decide +kernel)
set_option maxRecDepth 20000 in
theorem gL_law_X3_light : GoodIn wsL_law (wsV RL 51 RX3 yX3_light wsX3_light) := goodIn_app (goodIn_of _ (by decide +kernel)) ggL_law_X3_light
set_option maxRecDepth 20000 in
theorem ggL_law_X2_put : GoodIn wsL_law wsX2_put := goodIn_r _ [269, 270, 271, 15, 82, 83, 84, 2, 85, 86, 87, 88, 89, 526, 527, 528, 529, 530, 531, 532, 540, 541, 542, 543, 544, 545, 546] (by decide +kernel) (by decide +kernel)
set_option maxRecDepth 20000 in
theorem gL_law_X2_put : GoodIn wsL_law (wsV RL 52 RX2 yX2_put wsX2_put) := goodIn_app (goodIn_of _ (by decide +kernel)) ggL_law_X2_put
set_option maxRecDepth 20000 in
theorem ggL_law_X3_put : GoodIn wsL_law wsX3_put := goodIn_r _ [275, 276, 277, 46, 108, 109, 110, 5, 111, 112, 113, 114, 115, 65, 66, 67, 533, 534, 535, 536, 537, 538, 539] (by decide +kernel) (by decide +kernel)
set_option maxRecDepth 20000 in
theorem gL_law_X3_put : GoodIn wsL_law (wsV RL 55 RX3 yX3_put wsX3_put) := goodIn_app (goodIn_of _ (by decide +kernel)) ggL_law_X3_put
set_option maxRecDepth 20000 in
theorem ggL_law_X2_hear : GoodIn wsL_law wsX2_hear := goodIn_r _ [281, 15, 156, 157, 158, 2, 159, 86, 87, 88, 89, 198, 199, 200, 201, 221, 222, 223, 526, 527, 528, 529, 530, 531, 532, 540, 541, 542, 543, 544, 545, 546] (by decide +kernel) (by decide +kernel)
set_option maxRecDepth 20000 in
theorem gL_law_X2_hear : GoodIn wsL_law (wsV RL 56 RX2 yX2_hear wsX2_hear) := goodIn_app (goodIn_of _ (by decide +kernel)) ggL_law_X2_hear
set_option maxRecDepth 20000 in
theorem ggL_law_X3_hear : GoodIn wsL_law wsX3_hear := goodIn_r _ [285, 46, 175, 176, 177, 5, 178, 112, 113, 114, 115, 65, 66, 67, 206, 207, 208, 209, 210, 211, 212, 533, 534, 535, 536, 537, 538, 539] (by decide +kernel) (by decide +kernel)
set_option maxRecDepth 20000 in
theorem gL_law_X3_hear : GoodIn wsL_law (wsV RL 59 RX3 yX3_hear wsX3_hear) := goodIn_app (goodIn_of _ (by decide +kernel)) ggL_law_X3_hear
set_option maxRecDepth 20000 in
theorem ggL_law_X2_spoil : GoodIn wsL_law wsX2_spoil := goodIn_r _ [289, 15, 156, 157, 158, 2, 159, 86, 87, 88, 89, 221, 222, 223, 526, 527, 528, 529, 530, 531, 532, 540, 541, 542, 543, 544, 545, 546] (by decide +kernel) (by decide +kernel)
set_option maxRecDepth 20000 in
theorem gL_law_X2_spoil : GoodIn wsL_law (wsV RL 60 RX2 yX2_spoil wsX2_spoil) := goodIn_app (goodIn_of _ (by decide +kernel)) ggL_law_X2_spoil
set_option maxRecDepth 20000 in
theorem ggL_law_X3_spoil : GoodIn wsL_law wsX3_spoil := goodIn_r _ [293, 46, 175, 176, 177, 5, 178, 112, 113, 114, 115, 65, 66, 67, 533, 534, 535, 536, 537, 538, 539] (by decide +kernel) (by decide +kernel)
set_option maxRecDepth 20000 in
theorem gL_law_X3_spoil : GoodIn wsL_law (wsV RL 63 RX3 yX3_spoil wsX3_spoil) := goodIn_app (goodIn_of _ (by decide +kernel)) ggL_law_X3_spoil
set_option maxRecDepth 20000 in
theorem ggL_law_X2_measure : GoodIn wsL_law wsX2_measure := goodIn_r _ [297, 270, 271, 15, 82, 83, 84, 2, 85, 86, 87, 88, 89, 298, 299, 300, 301, 217, 218, 219, 220, 221, 222, 223, 302, 303, 304, 305, 20, 306, 307, 308, 309, 310, 311, 312, 313, 314, 315, 316, 317, 318, 242, 319, 240, 241, 243, 198, 199, 200, 201, 320, 321, 322, 323, 526, 527, 528, 529, 530, 531, 532, 540, 541, 542, 543, 544, 545, 546] (by decide +kernel) (by decide +kernel)
set_option maxRecDepth 20000 in
theorem gL_law_X2_measure : GoodIn wsL_law (wsV RL 64 RX2 yX2_measure wsX2_measure) := goodIn_app (goodIn_of _ (by decide +kernel)) ggL_law_X2_measure
set_option maxRecDepth 20000 in
theorem ggL_law_X3_measure : GoodIn wsL_law wsX3_measure := goodIn_r _ [327, 276, 277, 46, 108, 109, 110, 5, 111, 112, 113, 114, 115, 65, 66, 67, 328, 329, 330, 331, 179, 180, 181, 182, 332, 333, 334, 335, 50, 210, 211, 212, 336, 337, 338, 339, 340, 341, 533, 534, 535, 536, 537, 538, 539] (by decide +kernel) (by decide +kernel)
set_option maxRecDepth 20000 in
theorem gL_law_X3_measure : GoodIn wsL_law (wsV RL 67 RX3 yX3_measure wsX3_measure) := goodIn_app (goodIn_of _ (by decide +kernel)) ggL_law_X3_measure
set_option maxRecDepth 20000 in
theorem ggL_law_X2_read : GoodIn wsL_law wsX2_read := goodIn_r _ [345, 15, 298, 299, 300, 2, 301, 86, 87, 88, 89, 217, 218, 219, 220, 221, 222, 223, 302, 303, 304, 305, 20, 306, 307, 308, 309, 310, 311, 312, 313, 314, 315, 316, 317, 318, 242, 319, 240, 241, 243, 198, 199, 200, 201, 320, 321, 322, 323, 346, 347, 348, 349, 350, 351, 352, 259, 260, 261, 353, 354, 355, 356, 357, 358, 359, 14, 360, 35, 361, 165, 166, 167, 168, 169, 170, 526, 527, 528, 529, 530, 531, 532, 540, 541, 542, 543, 544, 545, 546] (by decide +kernel) (by decide +kernel)
set_option maxRecDepth 20000 in
theorem gL_law_X2_read : GoodIn wsL_law (wsV RL 68 RX2 yX2_read wsX2_read) := goodIn_app (goodIn_of _ (by decide +kernel)) ggL_law_X2_read
set_option maxRecDepth 20000 in
theorem ggL_law_X3_read : GoodIn wsL_law wsX3_read := goodIn_r _ [365, 65, 66, 5, 67, 328, 329, 330, 331, 112, 113, 114, 115, 46, 179, 180, 181, 182, 332, 333, 334, 335, 50, 210, 211, 212, 336, 337, 338, 339, 340, 341, 366, 367, 368, 369, 370, 371, 372, 373, 374, 375, 376, 377, 206, 207, 208, 209, 378, 379, 380, 381, 183, 184, 185, 533, 534, 535, 536, 537, 538, 539] (by decide +kernel) (by decide +kernel)
set_option maxRecDepth 20000 in
theorem gL_law_X3_read : GoodIn wsL_law (wsV RL 71 RX3 yX3_read wsX3_read) := goodIn_app (goodIn_of _ (by decide +kernel)) ggL_law_X3_read
set_option maxRecDepth 20000 in
theorem ggL_law_X2_most : GoodIn wsL_law wsX2_most := goodIn_r _ [385, 15, 526, 527, 528, 529, 530, 531, 532, 540, 541, 542, 543, 544, 545, 546] (by decide +kernel) (by decide +kernel)
set_option maxRecDepth 20000 in
theorem gL_law_X2_most : GoodIn wsL_law (wsV RL 72 RX2 yX2_most wsX2_most) := goodIn_app (goodIn_of _ (by decide +kernel)) ggL_law_X2_most
set_option maxRecDepth 20000 in
theorem ggL_law_X3_most : GoodIn wsL_law wsX3_most := goodIn_r _ [389, 46, 65, 66, 5, 67, 533, 534, 535, 536, 537, 538, 539] (by decide +kernel) (by decide +kernel)
set_option maxRecDepth 20000 in
theorem gL_law_X3_most : GoodIn wsL_law (wsV RL 75 RX3 yX3_most wsX3_most) := goodIn_app (goodIn_of _ (by decide +kernel)) ggL_law_X3_most
set_option maxRecDepth 20000 in
theorem ggL_law_X2_kept : GoodIn wsL_law wsX2_kept := goodIn_r _ [393, 24, 15, 394, 395, 396, 2, 397, 25, 398, 399, 400, 23, 401, 41, 402, 403, 404, 405, 39, 40, 406, 407, 408, 409, 86, 87, 88, 89, 410, 411, 412, 413, 302, 303, 304, 305, 20, 306, 307, 308, 309, 310, 311, 312, 313, 314, 315, 316, 317, 318, 242, 319, 240, 241, 243, 198, 199, 200, 201, 320, 321, 322, 323, 221, 222, 223, 350, 351, 352, 259, 260, 261, 217, 218, 219, 220, 414, 415, 416, 417, 418, 419, 420, 421, 422, 423, 357, 358, 359, 14, 360, 35, 361, 165, 166, 167, 168, 169, 170, 526, 527, 528, 529, 530, 531, 532, 547, 548, 549, 540, 541, 542, 543, 544, 545, 546] (by decide +kernel) (by decide +kernel)
set_option maxRecDepth 20000 in
theorem gL_law_X2_kept : GoodIn wsL_law (wsV RL 76 RX2 yX2_kept wsX2_kept) := goodIn_app (goodIn_of _ (by decide +kernel)) ggL_law_X2_kept
set_option maxRecDepth 20000 in
theorem ggL_law_X3_kept : GoodIn wsL_law wsX3_kept := goodIn_r _ [427, 428, 51, 52, 65, 66, 5, 67, 429, 430, 431, 432, 46, 112, 113, 114, 115, 179, 180, 181, 182, 370, 371, 372, 373, 332, 333, 334, 335, 50, 210, 211, 212, 336, 337, 338, 339, 340, 341, 433, 434, 435, 436, 437, 438, 439, 440, 441, 442, 443, 444, 378, 379, 380, 381, 183, 184, 185, 533, 534, 535, 536, 537, 538, 539] (by decide +kernel) (by decide +kernel)
set_option maxRecDepth 20000 in
theorem gL_law_X3_kept : GoodIn wsL_law (wsV RL 79 RX3 yX3_kept wsX3_kept) := goodIn_app (goodIn_of _ (by decide +kernel)) ggL_law_X3_kept
set_option maxRecDepth 20000 in
theorem ggL_law_X2_chosen : GoodIn wsL_law wsX2_chosen := goodIn_r _ [448, 24, 394, 395, 396, 2, 397, 25, 15, 398, 399, 400, 23, 401, 41, 402, 403, 404, 405, 39, 40, 406, 407, 408, 409, 86, 87, 88, 89, 410, 411, 412, 413, 302, 303, 304, 305, 20, 306, 307, 308, 309, 310, 311, 312, 313, 314, 315, 316, 317, 318, 242, 319, 240, 241, 243, 198, 199, 200, 201, 320, 321, 322, 323, 221, 222, 223, 350, 351, 352, 259, 260, 261, 217, 218, 219, 220, 414, 415, 416, 417, 418, 419, 449, 450, 451, 452, 357, 358, 359, 14, 360, 35, 361, 165, 166, 167, 168, 169, 170, 420, 421, 422, 423, 526, 527, 528, 529, 530, 531, 532, 547, 548, 549, 540, 541, 542, 543, 544, 545, 546] (by decide +kernel) (by decide +kernel)
set_option maxRecDepth 20000 in
theorem gL_law_X2_chosen : GoodIn wsL_law (wsV RL 80 RX2 yX2_chosen wsX2_chosen) := goodIn_app (goodIn_of _ (by decide +kernel)) ggL_law_X2_chosen
set_option maxRecDepth 20000 in
theorem ggL_law_X3_chosen : GoodIn wsL_law wsX3_chosen := goodIn_r _ [456, 428, 51, 52, 65, 66, 5, 67, 429, 430, 431, 432, 46, 112, 113, 114, 115, 179, 180, 181, 182, 370, 371, 372, 373, 332, 333, 334, 335, 50, 210, 211, 212, 336, 337, 338, 339, 340, 341, 433, 434, 435, 436, 437, 438, 439, 440, 441, 442, 443, 444, 378, 379, 380, 381, 183, 184, 185, 533, 534, 535, 536, 537, 538, 539] (by decide +kernel) (by decide +kernel)
set_option maxRecDepth 20000 in
theorem gL_law_X3_chosen : GoodIn wsL_law (wsV RL 83 RX3 yX3_chosen wsX3_chosen) := goodIn_app (goodIn_of _ (by decide +kernel)) ggL_law_X3_chosen
set_option maxRecDepth 20000 in
theorem ggL_law_X2_check : GoodIn wsL_law wsX2_check := goodIn_r _ [460, 15, 156, 157, 158, 2, 159, 86, 87, 88, 89, 526, 527, 528, 529, 530, 531, 532, 540, 541, 542, 543, 544, 545, 546] (by decide +kernel) (by decide +kernel)
set_option maxRecDepth 20000 in
theorem gL_law_X2_check : GoodIn wsL_law (wsV RL 84 RX2 yX2_check wsX2_check) := goodIn_app (goodIn_of _ (by decide +kernel)) ggL_law_X2_check
set_option maxRecDepth 20000 in
theorem ggL_law_X3_check : GoodIn wsL_law wsX3_check := goodIn_r _ [464, 46, 65, 66, 5, 67, 175, 176, 177, 178, 112, 113, 114, 115, 533, 534, 535, 536, 537, 538, 539] (by decide +kernel) (by decide +kernel)
set_option maxRecDepth 20000 in
theorem gL_law_X3_check : GoodIn wsL_law (wsV RL 87 RX3 yX3_check wsX3_check) := goodIn_app (goodIn_of _ (by decide +kernel)) ggL_law_X3_check
set_option maxRecDepth 20000 in
theorem ggL_law_X2_open : GoodIn wsL_law wsX2_open := goodIn_r _ [468, 156, 157, 158, 2, 159, 86, 87, 88, 89, 15, 252, 253, 254, 255, 201, 164, 165, 166, 167, 168, 169, 170, 526, 527, 528, 529, 530, 531, 532, 540, 541, 542, 543, 544, 545, 546] (by decide +kernel) (by decide +kernel)
set_option maxRecDepth 20000 in
theorem gL_law_X2_open : GoodIn wsL_law (wsV RL 88 RX2 yX2_open wsX2_open) := goodIn_app (goodIn_of _ (by decide +kernel)) ggL_law_X2_open
set_option maxRecDepth 20000 in
theorem ggL_law_X3_open : GoodIn wsL_law wsX3_open := goodIn_r _ [472, 175, 176, 177, 5, 178, 112, 113, 114, 115, 46, 65, 66, 67, 473, 474, 475, 476, 179, 180, 181, 182, 183, 184, 185, 533, 534, 535, 536, 537, 538, 539] (by decide +kernel) (by decide +kernel)
set_option maxRecDepth 20000 in
theorem gL_law_X3_open : GoodIn wsL_law (wsV RL 91 RX3 yX3_open wsX3_open) := goodIn_app (goodIn_of _ (by decide +kernel)) ggL_law_X3_open
set_option maxRecDepth 20000 in
theorem ggL_law_X2_fragile : GoodIn wsL_law wsX2_fragile := goodIn_r _ [480, 160, 161, 162, 2, 163, 15, 86, 87, 88, 89, 164, 165, 166, 167, 168, 169, 170, 236, 237, 238, 239, 240, 241, 242, 243, 217, 218, 219, 220, 221, 222, 223, 198, 199, 200, 201, 244, 245, 246, 247, 248, 249, 250, 251, 252, 253, 254, 255, 256, 257, 258, 259, 260, 261, 481, 482, 483, 484, 526, 527, 528, 529, 530, 531, 532, 540, 541, 542, 543, 544, 545, 546] (by decide +kernel) (by decide +kernel)
set_option maxRecDepth 20000 in
theorem gL_law_X2_fragile : GoodIn wsL_law (wsV RL 92 RX2 yX2_fragile wsX2_fragile) := goodIn_app (goodIn_of _ (by decide +kernel)) ggL_law_X2_fragile
set_option maxRecDepth 20000 in
theorem ggL_law_X3_fragile : GoodIn wsL_law wsX3_fragile := goodIn_r _ [488, 65, 66, 5, 67, 112, 113, 114, 115, 46, 183, 184, 185, 473, 474, 475, 476, 179, 180, 181, 182, 533, 534, 535, 536, 537, 538, 539] (by decide +kernel) (by decide +kernel)
set_option maxRecDepth 20000 in
theorem gL_law_X3_fragile : GoodIn wsL_law (wsV RL 95 RX3 yX3_fragile wsX3_fragile) := goodIn_app (goodIn_of _ (by decide +kernel)) ggL_law_X3_fragile
set_option maxRecDepth 20000 in
theorem ggL_law_X2_image : GoodIn wsL_law wsX2_image := goodIn_r _ [492, 15, 18, 493, 494, 495, 2, 496, 16, 17, 497, 498, 499, 14, 500, 29, 30, 31, 32, 33, 34, 501, 307, 308, 309, 35, 526, 527, 528, 529, 530, 531, 532, 540, 541, 542, 543, 544, 545, 546] (by decide +kernel) (by decide +kernel)
set_option maxRecDepth 20000 in
theorem gL_law_X2_image : GoodIn wsL_law (wsV RL 96 RX2 yX2_image wsX2_image) := goodIn_app (goodIn_of _ (by decide +kernel)) ggL_law_X2_image
set_option maxRecDepth 20000 in
theorem ggL_law_X3_image : GoodIn wsL_law wsX3_image := goodIn_r _ [505, 47, 46, 49, 65, 66, 5, 67, 533, 534, 535, 536, 537, 538, 539] (by decide +kernel) (by decide +kernel)
set_option maxRecDepth 20000 in
theorem gL_law_X3_image : GoodIn wsL_law (wsV RL 99 RX3 yX3_image wsX3_image) := goodIn_app (goodIn_of _ (by decide +kernel)) ggL_law_X3_image
set_option maxRecDepth 20000 in
theorem ggL_law_X2_restore : GoodIn wsL_law wsX2_restore := goodIn_r _ [509, 18, 15, 221, 222, 2, 223, 493, 494, 495, 496, 16, 17, 497, 498, 499, 14, 500, 29, 30, 31, 32, 33, 34, 501, 307, 308, 309, 35, 526, 527, 528, 529, 530, 531, 532, 540, 541, 542, 543, 544, 545, 546] (by decide +kernel) (by decide +kernel)
set_option maxRecDepth 20000 in
theorem gL_law_X2_restore : GoodIn wsL_law (wsV RL 100 RX2 yX2_restore wsX2_restore) := goodIn_app (goodIn_of _ (by decide +kernel)) ggL_law_X2_restore
set_option maxRecDepth 20000 in
theorem ggL_law_X3_restore : GoodIn wsL_law wsX3_restore := goodIn_r _ [513, 49, 46, 47, 65, 66, 5, 67, 533, 534, 535, 536, 537, 538, 539] (by decide +kernel) (by decide +kernel)
set_option maxRecDepth 20000 in
theorem gL_law_X3_restore : GoodIn wsL_law (wsV RL 103 RX3 yX3_restore wsX3_restore) := goodIn_app (goodIn_of _ (by decide +kernel)) ggL_law_X3_restore
set_option maxRecDepth 20000 in
theorem ggL_law_X2_count : GoodIn wsL_law wsX2_count := goodIn_r _ [517, 15, 18, 160, 161, 162, 2, 163, 86, 87, 88, 89, 164, 165, 166, 167, 168, 169, 170, 518, 519, 520, 521, 526, 527, 528, 529, 530, 531, 532, 540, 541, 542, 543, 544, 545, 546] (by decide +kernel) (by decide +kernel)
set_option maxRecDepth 20000 in
theorem gL_law_X2_count : GoodIn wsL_law (wsV RL 104 RX2 yX2_count wsX2_count) := goodIn_app (goodIn_of _ (by decide +kernel)) ggL_law_X2_count
set_option maxRecDepth 20000 in
theorem ggL_law_X3_count : GoodIn wsL_law wsX3_count := goodIn_r _ [525, 46, 49, 65, 66, 5, 67, 179, 180, 181, 182, 112, 113, 114, 115, 183, 184, 185, 533, 534, 535, 536, 537, 538, 539] (by decide +kernel) (by decide +kernel)
set_option maxRecDepth 20000 in
theorem gL_law_X3_count : GoodIn wsL_law (wsV RL 107 RX3 yX3_count wsX3_count) := goodIn_app (goodIn_of _ (by decide +kernel)) ggL_law_X3_count
theorem dL_law_0 : decode cL_law 0 = .ok (.new 7, 3) := by decide +kernel
theorem dL_law_3 : decode cL_law 3 = .ok (.dup, 1) := by decide +kernel
theorem dL_law_4 : decode cL_law 4 = .ok (.invokespecial 9, 3) := by decide +kernel
theorem dL_law_7 : decode cL_law 7 = .ok (.astore_n 1, 1) := by decide +kernel
theorem dL_law_8 : decode cL_law 8 = .ok (.new 10, 3) := by decide +kernel
theorem dL_law_11 : decode cL_law 11 = .ok (.dup, 1) := by decide +kernel
theorem dL_law_12 : decode cL_law 12 = .ok (.invokespecial 12, 3) := by decide +kernel
theorem dL_law_15 : decode cL_law 15 = .ok (.astore_n 2, 1) := by decide +kernel
theorem dL_law_16 : decode cL_law 16 = .ok (.iconst 0, 1) := by decide +kernel
theorem dL_law_17 : decode cL_law 17 = .ok (.istore_n 3, 1) := by decide +kernel
theorem dL_law_18 : decode cL_law 18 = .ok (.iload_n 3, 1) := by decide +kernel
theorem dL_law_19 : decode cL_law 19 = .ok (.aload_n 0, 1) := by decide +kernel
theorem dL_law_20 : decode cL_law 20 = .ok (.arraylength, 1) := by decide +kernel
theorem dL_law_21 : decode cL_law 21 = .ok (.iconst 3, 1) := by decide +kernel
theorem dL_law_22 : decode cL_law 22 = .ok (.isub, 1) := by decide +kernel
theorem dL_law_23 : decode cL_law 23 = .ok (.if_icmp .gt 753, 3) := by decide +kernel
theorem dL_law_26 : decode cL_law 26 = .ok (.aload_n 0, 1) := by decide +kernel
theorem dL_law_27 : decode cL_law 27 = .ok (.iload_n 3, 1) := by decide +kernel
theorem dL_law_28 : decode cL_law 28 = .ok (.iaload, 1) := by decide +kernel
theorem dL_law_29 : decode cL_law 29 = .ok (.bipush 31, 2) := by decide +kernel
theorem dL_law_31 : decode cL_law 31 = .ok (.iand, 1) := by decide +kernel
theorem dL_law_32 : decode cL_law 32 = .ok (.tableswitch 738 0 22 #[108, 131, 164, 198, 231, 254, 277, 300, 323, 346, 379, 412, 445, 478, 501, 524, 557, 580, 613, 646, 669, 692, 715], 108) := by decide +kernel
theorem dL_law_140 : decode cL_law 140 = .ok (.aload_n 1, 1) := by decide +kernel
theorem dL_law_141 : decode cL_law 141 = .ok (.aload_n 0, 1) := by decide +kernel
theorem dL_law_142 : decode cL_law 142 = .ok (.iload_n 3, 1) := by decide +kernel
theorem dL_law_143 : decode cL_law 143 = .ok (.iconst 1, 1) := by decide +kernel
theorem dL_law_144 : decode cL_law 144 = .ok (.iadd, 1) := by decide +kernel
theorem dL_law_145 : decode cL_law 145 = .ok (.iaload, 1) := by decide +kernel
theorem dL_law_146 : decode cL_law 146 = .ok (.invokevirtual 13, 3) := by decide +kernel
theorem dL_law_149 : decode cL_law 149 = .ok (.aload_n 2, 1) := by decide +kernel
theorem dL_law_150 : decode cL_law 150 = .ok (.aload_n 0, 1) := by decide +kernel
theorem dL_law_151 : decode cL_law 151 = .ok (.iload_n 3, 1) := by decide +kernel
theorem dL_law_152 : decode cL_law 152 = .ok (.iconst 1, 1) := by decide +kernel
theorem dL_law_153 : decode cL_law 153 = .ok (.iadd, 1) := by decide +kernel
theorem dL_law_154 : decode cL_law 154 = .ok (.iaload, 1) := by decide +kernel
theorem dL_law_155 : decode cL_law 155 = .ok (.invokevirtual 17, 3) := by decide +kernel
theorem dL_law_158 : decode cL_law 158 = .ok (.if_icmp .eq 612, 3) := by decide +kernel
theorem dL_law_161 : decode cL_law 161 = .ok (.iconst 0, 1) := by decide +kernel
theorem dL_law_162 : decode cL_law 162 = .ok (.ireturn, 1) := by decide +kernel
theorem dL_law_163 : decode cL_law 163 = .ok (.aload_n 1, 1) := by decide +kernel
theorem dL_law_164 : decode cL_law 164 = .ok (.aload_n 0, 1) := by decide +kernel
theorem dL_law_165 : decode cL_law 165 = .ok (.iload_n 3, 1) := by decide +kernel
theorem dL_law_166 : decode cL_law 166 = .ok (.iconst 1, 1) := by decide +kernel
theorem dL_law_167 : decode cL_law 167 = .ok (.iadd, 1) := by decide +kernel
theorem dL_law_168 : decode cL_law 168 = .ok (.iaload, 1) := by decide +kernel
theorem dL_law_169 : decode cL_law 169 = .ok (.aload_n 0, 1) := by decide +kernel
theorem dL_law_170 : decode cL_law 170 = .ok (.iload_n 3, 1) := by decide +kernel
theorem dL_law_171 : decode cL_law 171 = .ok (.iconst 2, 1) := by decide +kernel
theorem dL_law_172 : decode cL_law 172 = .ok (.iadd, 1) := by decide +kernel
theorem dL_law_173 : decode cL_law 173 = .ok (.iaload, 1) := by decide +kernel
theorem dL_law_174 : decode cL_law 174 = .ok (.invokevirtual 18, 3) := by decide +kernel
theorem dL_law_177 : decode cL_law 177 = .ok (.aload_n 2, 1) := by decide +kernel
theorem dL_law_178 : decode cL_law 178 = .ok (.aload_n 0, 1) := by decide +kernel
theorem dL_law_179 : decode cL_law 179 = .ok (.iload_n 3, 1) := by decide +kernel
theorem dL_law_180 : decode cL_law 180 = .ok (.iconst 1, 1) := by decide +kernel
theorem dL_law_181 : decode cL_law 181 = .ok (.iadd, 1) := by decide +kernel
theorem dL_law_182 : decode cL_law 182 = .ok (.iaload, 1) := by decide +kernel
theorem dL_law_183 : decode cL_law 183 = .ok (.aload_n 0, 1) := by decide +kernel
theorem dL_law_184 : decode cL_law 184 = .ok (.iload_n 3, 1) := by decide +kernel
theorem dL_law_185 : decode cL_law 185 = .ok (.iconst 2, 1) := by decide +kernel
theorem dL_law_186 : decode cL_law 186 = .ok (.iadd, 1) := by decide +kernel
theorem dL_law_187 : decode cL_law 187 = .ok (.iaload, 1) := by decide +kernel
theorem dL_law_188 : decode cL_law 188 = .ok (.invokevirtual 22, 3) := by decide +kernel
theorem dL_law_191 : decode cL_law 191 = .ok (.if_icmp .eq 579, 3) := by decide +kernel
theorem dL_law_194 : decode cL_law 194 = .ok (.iconst 0, 1) := by decide +kernel
theorem dL_law_195 : decode cL_law 195 = .ok (.ireturn, 1) := by decide +kernel
theorem dL_law_196 : decode cL_law 196 = .ok (.aload_n 1, 1) := by decide +kernel
theorem dL_law_197 : decode cL_law 197 = .ok (.aload_n 0, 1) := by decide +kernel
theorem dL_law_198 : decode cL_law 198 = .ok (.iload_n 3, 1) := by decide +kernel
theorem dL_law_199 : decode cL_law 199 = .ok (.iconst 1, 1) := by decide +kernel
theorem dL_law_200 : decode cL_law 200 = .ok (.iadd, 1) := by decide +kernel
theorem dL_law_201 : decode cL_law 201 = .ok (.iaload, 1) := by decide +kernel
theorem dL_law_202 : decode cL_law 202 = .ok (.aload_n 0, 1) := by decide +kernel
theorem dL_law_203 : decode cL_law 203 = .ok (.iload_n 3, 1) := by decide +kernel
theorem dL_law_204 : decode cL_law 204 = .ok (.iconst 2, 1) := by decide +kernel
theorem dL_law_205 : decode cL_law 205 = .ok (.iadd, 1) := by decide +kernel
theorem dL_law_206 : decode cL_law 206 = .ok (.iaload, 1) := by decide +kernel
theorem dL_law_207 : decode cL_law 207 = .ok (.invokevirtual 23, 3) := by decide +kernel
theorem dL_law_210 : decode cL_law 210 = .ok (.aload_n 2, 1) := by decide +kernel
theorem dL_law_211 : decode cL_law 211 = .ok (.aload_n 0, 1) := by decide +kernel
theorem dL_law_212 : decode cL_law 212 = .ok (.iload_n 3, 1) := by decide +kernel
theorem dL_law_213 : decode cL_law 213 = .ok (.iconst 1, 1) := by decide +kernel
theorem dL_law_214 : decode cL_law 214 = .ok (.iadd, 1) := by decide +kernel
theorem dL_law_215 : decode cL_law 215 = .ok (.iaload, 1) := by decide +kernel
theorem dL_law_216 : decode cL_law 216 = .ok (.aload_n 0, 1) := by decide +kernel
theorem dL_law_217 : decode cL_law 217 = .ok (.iload_n 3, 1) := by decide +kernel
theorem dL_law_218 : decode cL_law 218 = .ok (.iconst 2, 1) := by decide +kernel
theorem dL_law_219 : decode cL_law 219 = .ok (.iadd, 1) := by decide +kernel
theorem dL_law_220 : decode cL_law 220 = .ok (.iaload, 1) := by decide +kernel
theorem dL_law_221 : decode cL_law 221 = .ok (.invokevirtual 27, 3) := by decide +kernel
theorem dL_law_224 : decode cL_law 224 = .ok (.lcmp, 1) := by decide +kernel
theorem dL_law_225 : decode cL_law 225 = .ok (.ifCond .eq 545, 3) := by decide +kernel
theorem dL_law_228 : decode cL_law 228 = .ok (.iconst 0, 1) := by decide +kernel
theorem dL_law_229 : decode cL_law 229 = .ok (.ireturn, 1) := by decide +kernel
theorem dL_law_230 : decode cL_law 230 = .ok (.aload_n 1, 1) := by decide +kernel
theorem dL_law_231 : decode cL_law 231 = .ok (.aload_n 0, 1) := by decide +kernel
theorem dL_law_232 : decode cL_law 232 = .ok (.iload_n 3, 1) := by decide +kernel
theorem dL_law_233 : decode cL_law 233 = .ok (.iconst 1, 1) := by decide +kernel
theorem dL_law_234 : decode cL_law 234 = .ok (.iadd, 1) := by decide +kernel
theorem dL_law_235 : decode cL_law 235 = .ok (.iaload, 1) := by decide +kernel
theorem dL_law_236 : decode cL_law 236 = .ok (.aload_n 0, 1) := by decide +kernel
theorem dL_law_237 : decode cL_law 237 = .ok (.iload_n 3, 1) := by decide +kernel
theorem dL_law_238 : decode cL_law 238 = .ok (.iconst 2, 1) := by decide +kernel
theorem dL_law_239 : decode cL_law 239 = .ok (.iadd, 1) := by decide +kernel
theorem dL_law_240 : decode cL_law 240 = .ok (.iaload, 1) := by decide +kernel
theorem dL_law_241 : decode cL_law 241 = .ok (.invokevirtual 28, 3) := by decide +kernel
theorem dL_law_244 : decode cL_law 244 = .ok (.aload_n 2, 1) := by decide +kernel
theorem dL_law_245 : decode cL_law 245 = .ok (.aload_n 0, 1) := by decide +kernel
theorem dL_law_246 : decode cL_law 246 = .ok (.iload_n 3, 1) := by decide +kernel
theorem dL_law_247 : decode cL_law 247 = .ok (.iconst 1, 1) := by decide +kernel
theorem dL_law_248 : decode cL_law 248 = .ok (.iadd, 1) := by decide +kernel
theorem dL_law_249 : decode cL_law 249 = .ok (.iaload, 1) := by decide +kernel
theorem dL_law_250 : decode cL_law 250 = .ok (.aload_n 0, 1) := by decide +kernel
theorem dL_law_251 : decode cL_law 251 = .ok (.iload_n 3, 1) := by decide +kernel
theorem dL_law_252 : decode cL_law 252 = .ok (.iconst 2, 1) := by decide +kernel
theorem dL_law_253 : decode cL_law 253 = .ok (.iadd, 1) := by decide +kernel
theorem dL_law_254 : decode cL_law 254 = .ok (.iaload, 1) := by decide +kernel
theorem dL_law_255 : decode cL_law 255 = .ok (.invokevirtual 31, 3) := by decide +kernel
theorem dL_law_258 : decode cL_law 258 = .ok (.if_icmp .eq 512, 3) := by decide +kernel
theorem dL_law_261 : decode cL_law 261 = .ok (.iconst 0, 1) := by decide +kernel
theorem dL_law_262 : decode cL_law 262 = .ok (.ireturn, 1) := by decide +kernel
theorem dL_law_263 : decode cL_law 263 = .ok (.aload_n 1, 1) := by decide +kernel
theorem dL_law_264 : decode cL_law 264 = .ok (.aload_n 0, 1) := by decide +kernel
theorem dL_law_265 : decode cL_law 265 = .ok (.iload_n 3, 1) := by decide +kernel
theorem dL_law_266 : decode cL_law 266 = .ok (.iconst 1, 1) := by decide +kernel
theorem dL_law_267 : decode cL_law 267 = .ok (.iadd, 1) := by decide +kernel
theorem dL_law_268 : decode cL_law 268 = .ok (.iaload, 1) := by decide +kernel
theorem dL_law_269 : decode cL_law 269 = .ok (.invokevirtual 32, 3) := by decide +kernel
theorem dL_law_272 : decode cL_law 272 = .ok (.aload_n 2, 1) := by decide +kernel
theorem dL_law_273 : decode cL_law 273 = .ok (.aload_n 0, 1) := by decide +kernel
theorem dL_law_274 : decode cL_law 274 = .ok (.iload_n 3, 1) := by decide +kernel
theorem dL_law_275 : decode cL_law 275 = .ok (.iconst 1, 1) := by decide +kernel
theorem dL_law_276 : decode cL_law 276 = .ok (.iadd, 1) := by decide +kernel
theorem dL_law_277 : decode cL_law 277 = .ok (.iaload, 1) := by decide +kernel
theorem dL_law_278 : decode cL_law 278 = .ok (.invokevirtual 35, 3) := by decide +kernel
theorem dL_law_281 : decode cL_law 281 = .ok (.if_icmp .eq 489, 3) := by decide +kernel
theorem dL_law_284 : decode cL_law 284 = .ok (.iconst 0, 1) := by decide +kernel
theorem dL_law_285 : decode cL_law 285 = .ok (.ireturn, 1) := by decide +kernel
theorem dL_law_286 : decode cL_law 286 = .ok (.aload_n 1, 1) := by decide +kernel
theorem dL_law_287 : decode cL_law 287 = .ok (.aload_n 0, 1) := by decide +kernel
theorem dL_law_288 : decode cL_law 288 = .ok (.iload_n 3, 1) := by decide +kernel
theorem dL_law_289 : decode cL_law 289 = .ok (.iconst 1, 1) := by decide +kernel
theorem dL_law_290 : decode cL_law 290 = .ok (.iadd, 1) := by decide +kernel
theorem dL_law_291 : decode cL_law 291 = .ok (.iaload, 1) := by decide +kernel
theorem dL_law_292 : decode cL_law 292 = .ok (.invokevirtual 36, 3) := by decide +kernel
theorem dL_law_295 : decode cL_law 295 = .ok (.aload_n 2, 1) := by decide +kernel
theorem dL_law_296 : decode cL_law 296 = .ok (.aload_n 0, 1) := by decide +kernel
theorem dL_law_297 : decode cL_law 297 = .ok (.iload_n 3, 1) := by decide +kernel
theorem dL_law_298 : decode cL_law 298 = .ok (.iconst 1, 1) := by decide +kernel
theorem dL_law_299 : decode cL_law 299 = .ok (.iadd, 1) := by decide +kernel
theorem dL_law_300 : decode cL_law 300 = .ok (.iaload, 1) := by decide +kernel
theorem dL_law_301 : decode cL_law 301 = .ok (.invokevirtual 39, 3) := by decide +kernel
theorem dL_law_304 : decode cL_law 304 = .ok (.if_icmp .eq 466, 3) := by decide +kernel
theorem dL_law_307 : decode cL_law 307 = .ok (.iconst 0, 1) := by decide +kernel
theorem dL_law_308 : decode cL_law 308 = .ok (.ireturn, 1) := by decide +kernel
theorem dL_law_309 : decode cL_law 309 = .ok (.aload_n 1, 1) := by decide +kernel
theorem dL_law_310 : decode cL_law 310 = .ok (.aload_n 0, 1) := by decide +kernel
theorem dL_law_311 : decode cL_law 311 = .ok (.iload_n 3, 1) := by decide +kernel
theorem dL_law_312 : decode cL_law 312 = .ok (.iconst 1, 1) := by decide +kernel
theorem dL_law_313 : decode cL_law 313 = .ok (.iadd, 1) := by decide +kernel
theorem dL_law_314 : decode cL_law 314 = .ok (.iaload, 1) := by decide +kernel
theorem dL_law_315 : decode cL_law 315 = .ok (.invokevirtual 40, 3) := by decide +kernel
theorem dL_law_318 : decode cL_law 318 = .ok (.aload_n 2, 1) := by decide +kernel
theorem dL_law_319 : decode cL_law 319 = .ok (.aload_n 0, 1) := by decide +kernel
theorem dL_law_320 : decode cL_law 320 = .ok (.iload_n 3, 1) := by decide +kernel
theorem dL_law_321 : decode cL_law 321 = .ok (.iconst 1, 1) := by decide +kernel
theorem dL_law_322 : decode cL_law 322 = .ok (.iadd, 1) := by decide +kernel
theorem dL_law_323 : decode cL_law 323 = .ok (.iaload, 1) := by decide +kernel
theorem dL_law_324 : decode cL_law 324 = .ok (.invokevirtual 43, 3) := by decide +kernel
theorem dL_law_327 : decode cL_law 327 = .ok (.if_icmp .eq 443, 3) := by decide +kernel
theorem dL_law_330 : decode cL_law 330 = .ok (.iconst 0, 1) := by decide +kernel
theorem dL_law_331 : decode cL_law 331 = .ok (.ireturn, 1) := by decide +kernel
theorem dL_law_332 : decode cL_law 332 = .ok (.aload_n 1, 1) := by decide +kernel
theorem dL_law_333 : decode cL_law 333 = .ok (.aload_n 0, 1) := by decide +kernel
theorem dL_law_334 : decode cL_law 334 = .ok (.iload_n 3, 1) := by decide +kernel
theorem dL_law_335 : decode cL_law 335 = .ok (.iconst 1, 1) := by decide +kernel
theorem dL_law_336 : decode cL_law 336 = .ok (.iadd, 1) := by decide +kernel
theorem dL_law_337 : decode cL_law 337 = .ok (.iaload, 1) := by decide +kernel
theorem dL_law_338 : decode cL_law 338 = .ok (.invokevirtual 44, 3) := by decide +kernel
theorem dL_law_341 : decode cL_law 341 = .ok (.aload_n 2, 1) := by decide +kernel
theorem dL_law_342 : decode cL_law 342 = .ok (.aload_n 0, 1) := by decide +kernel
theorem dL_law_343 : decode cL_law 343 = .ok (.iload_n 3, 1) := by decide +kernel
theorem dL_law_344 : decode cL_law 344 = .ok (.iconst 1, 1) := by decide +kernel
theorem dL_law_345 : decode cL_law 345 = .ok (.iadd, 1) := by decide +kernel
theorem dL_law_346 : decode cL_law 346 = .ok (.iaload, 1) := by decide +kernel
theorem dL_law_347 : decode cL_law 347 = .ok (.invokevirtual 47, 3) := by decide +kernel
theorem dL_law_350 : decode cL_law 350 = .ok (.if_icmp .eq 420, 3) := by decide +kernel
theorem dL_law_353 : decode cL_law 353 = .ok (.iconst 0, 1) := by decide +kernel
theorem dL_law_354 : decode cL_law 354 = .ok (.ireturn, 1) := by decide +kernel
theorem dL_law_355 : decode cL_law 355 = .ok (.aload_n 1, 1) := by decide +kernel
theorem dL_law_356 : decode cL_law 356 = .ok (.aload_n 0, 1) := by decide +kernel
theorem dL_law_357 : decode cL_law 357 = .ok (.iload_n 3, 1) := by decide +kernel
theorem dL_law_358 : decode cL_law 358 = .ok (.iconst 1, 1) := by decide +kernel
theorem dL_law_359 : decode cL_law 359 = .ok (.iadd, 1) := by decide +kernel
theorem dL_law_360 : decode cL_law 360 = .ok (.iaload, 1) := by decide +kernel
theorem dL_law_361 : decode cL_law 361 = .ok (.invokevirtual 48, 3) := by decide +kernel
theorem dL_law_364 : decode cL_law 364 = .ok (.aload_n 2, 1) := by decide +kernel
theorem dL_law_365 : decode cL_law 365 = .ok (.aload_n 0, 1) := by decide +kernel
theorem dL_law_366 : decode cL_law 366 = .ok (.iload_n 3, 1) := by decide +kernel
theorem dL_law_367 : decode cL_law 367 = .ok (.iconst 1, 1) := by decide +kernel
theorem dL_law_368 : decode cL_law 368 = .ok (.iadd, 1) := by decide +kernel
theorem dL_law_369 : decode cL_law 369 = .ok (.iaload, 1) := by decide +kernel
theorem dL_law_370 : decode cL_law 370 = .ok (.invokevirtual 51, 3) := by decide +kernel
theorem dL_law_373 : decode cL_law 373 = .ok (.if_icmp .eq 397, 3) := by decide +kernel
theorem dL_law_376 : decode cL_law 376 = .ok (.iconst 0, 1) := by decide +kernel
theorem dL_law_377 : decode cL_law 377 = .ok (.ireturn, 1) := by decide +kernel
theorem dL_law_378 : decode cL_law 378 = .ok (.aload_n 1, 1) := by decide +kernel
theorem dL_law_379 : decode cL_law 379 = .ok (.aload_n 0, 1) := by decide +kernel
theorem dL_law_380 : decode cL_law 380 = .ok (.iload_n 3, 1) := by decide +kernel
theorem dL_law_381 : decode cL_law 381 = .ok (.iconst 1, 1) := by decide +kernel
theorem dL_law_382 : decode cL_law 382 = .ok (.iadd, 1) := by decide +kernel
theorem dL_law_383 : decode cL_law 383 = .ok (.iaload, 1) := by decide +kernel
theorem dL_law_384 : decode cL_law 384 = .ok (.aload_n 0, 1) := by decide +kernel
theorem dL_law_385 : decode cL_law 385 = .ok (.iload_n 3, 1) := by decide +kernel
theorem dL_law_386 : decode cL_law 386 = .ok (.iconst 2, 1) := by decide +kernel
theorem dL_law_387 : decode cL_law 387 = .ok (.iadd, 1) := by decide +kernel
theorem dL_law_388 : decode cL_law 388 = .ok (.iaload, 1) := by decide +kernel
theorem dL_law_389 : decode cL_law 389 = .ok (.invokevirtual 52, 3) := by decide +kernel
theorem dL_law_392 : decode cL_law 392 = .ok (.aload_n 2, 1) := by decide +kernel
theorem dL_law_393 : decode cL_law 393 = .ok (.aload_n 0, 1) := by decide +kernel
theorem dL_law_394 : decode cL_law 394 = .ok (.iload_n 3, 1) := by decide +kernel
theorem dL_law_395 : decode cL_law 395 = .ok (.iconst 1, 1) := by decide +kernel
theorem dL_law_396 : decode cL_law 396 = .ok (.iadd, 1) := by decide +kernel
theorem dL_law_397 : decode cL_law 397 = .ok (.iaload, 1) := by decide +kernel
theorem dL_law_398 : decode cL_law 398 = .ok (.aload_n 0, 1) := by decide +kernel
theorem dL_law_399 : decode cL_law 399 = .ok (.iload_n 3, 1) := by decide +kernel
theorem dL_law_400 : decode cL_law 400 = .ok (.iconst 2, 1) := by decide +kernel
theorem dL_law_401 : decode cL_law 401 = .ok (.iadd, 1) := by decide +kernel
theorem dL_law_402 : decode cL_law 402 = .ok (.iaload, 1) := by decide +kernel
theorem dL_law_403 : decode cL_law 403 = .ok (.invokevirtual 55, 3) := by decide +kernel
theorem dL_law_406 : decode cL_law 406 = .ok (.if_icmp .eq 364, 3) := by decide +kernel
theorem dL_law_409 : decode cL_law 409 = .ok (.iconst 0, 1) := by decide +kernel
theorem dL_law_410 : decode cL_law 410 = .ok (.ireturn, 1) := by decide +kernel
theorem dL_law_411 : decode cL_law 411 = .ok (.aload_n 1, 1) := by decide +kernel
theorem dL_law_412 : decode cL_law 412 = .ok (.aload_n 0, 1) := by decide +kernel
theorem dL_law_413 : decode cL_law 413 = .ok (.iload_n 3, 1) := by decide +kernel
theorem dL_law_414 : decode cL_law 414 = .ok (.iconst 1, 1) := by decide +kernel
theorem dL_law_415 : decode cL_law 415 = .ok (.iadd, 1) := by decide +kernel
theorem dL_law_416 : decode cL_law 416 = .ok (.iaload, 1) := by decide +kernel
theorem dL_law_417 : decode cL_law 417 = .ok (.aload_n 0, 1) := by decide +kernel
theorem dL_law_418 : decode cL_law 418 = .ok (.iload_n 3, 1) := by decide +kernel
theorem dL_law_419 : decode cL_law 419 = .ok (.iconst 2, 1) := by decide +kernel
theorem dL_law_420 : decode cL_law 420 = .ok (.iadd, 1) := by decide +kernel
theorem dL_law_421 : decode cL_law 421 = .ok (.iaload, 1) := by decide +kernel
theorem dL_law_422 : decode cL_law 422 = .ok (.invokevirtual 56, 3) := by decide +kernel
theorem dL_law_425 : decode cL_law 425 = .ok (.aload_n 2, 1) := by decide +kernel
theorem dL_law_426 : decode cL_law 426 = .ok (.aload_n 0, 1) := by decide +kernel
theorem dL_law_427 : decode cL_law 427 = .ok (.iload_n 3, 1) := by decide +kernel
theorem dL_law_428 : decode cL_law 428 = .ok (.iconst 1, 1) := by decide +kernel
theorem dL_law_429 : decode cL_law 429 = .ok (.iadd, 1) := by decide +kernel
theorem dL_law_430 : decode cL_law 430 = .ok (.iaload, 1) := by decide +kernel
theorem dL_law_431 : decode cL_law 431 = .ok (.aload_n 0, 1) := by decide +kernel
theorem dL_law_432 : decode cL_law 432 = .ok (.iload_n 3, 1) := by decide +kernel
theorem dL_law_433 : decode cL_law 433 = .ok (.iconst 2, 1) := by decide +kernel
theorem dL_law_434 : decode cL_law 434 = .ok (.iadd, 1) := by decide +kernel
theorem dL_law_435 : decode cL_law 435 = .ok (.iaload, 1) := by decide +kernel
theorem dL_law_436 : decode cL_law 436 = .ok (.invokevirtual 59, 3) := by decide +kernel
theorem dL_law_439 : decode cL_law 439 = .ok (.if_icmp .eq 331, 3) := by decide +kernel
theorem dL_law_442 : decode cL_law 442 = .ok (.iconst 0, 1) := by decide +kernel
theorem dL_law_443 : decode cL_law 443 = .ok (.ireturn, 1) := by decide +kernel
theorem dL_law_444 : decode cL_law 444 = .ok (.aload_n 1, 1) := by decide +kernel
theorem dL_law_445 : decode cL_law 445 = .ok (.aload_n 0, 1) := by decide +kernel
theorem dL_law_446 : decode cL_law 446 = .ok (.iload_n 3, 1) := by decide +kernel
theorem dL_law_447 : decode cL_law 447 = .ok (.iconst 1, 1) := by decide +kernel
theorem dL_law_448 : decode cL_law 448 = .ok (.iadd, 1) := by decide +kernel
theorem dL_law_449 : decode cL_law 449 = .ok (.iaload, 1) := by decide +kernel
theorem dL_law_450 : decode cL_law 450 = .ok (.aload_n 0, 1) := by decide +kernel
theorem dL_law_451 : decode cL_law 451 = .ok (.iload_n 3, 1) := by decide +kernel
theorem dL_law_452 : decode cL_law 452 = .ok (.iconst 2, 1) := by decide +kernel
theorem dL_law_453 : decode cL_law 453 = .ok (.iadd, 1) := by decide +kernel
theorem dL_law_454 : decode cL_law 454 = .ok (.iaload, 1) := by decide +kernel
theorem dL_law_455 : decode cL_law 455 = .ok (.invokevirtual 60, 3) := by decide +kernel
theorem dL_law_458 : decode cL_law 458 = .ok (.aload_n 2, 1) := by decide +kernel
theorem dL_law_459 : decode cL_law 459 = .ok (.aload_n 0, 1) := by decide +kernel
theorem dL_law_460 : decode cL_law 460 = .ok (.iload_n 3, 1) := by decide +kernel
theorem dL_law_461 : decode cL_law 461 = .ok (.iconst 1, 1) := by decide +kernel
theorem dL_law_462 : decode cL_law 462 = .ok (.iadd, 1) := by decide +kernel
theorem dL_law_463 : decode cL_law 463 = .ok (.iaload, 1) := by decide +kernel
theorem dL_law_464 : decode cL_law 464 = .ok (.aload_n 0, 1) := by decide +kernel
theorem dL_law_465 : decode cL_law 465 = .ok (.iload_n 3, 1) := by decide +kernel
theorem dL_law_466 : decode cL_law 466 = .ok (.iconst 2, 1) := by decide +kernel
theorem dL_law_467 : decode cL_law 467 = .ok (.iadd, 1) := by decide +kernel
theorem dL_law_468 : decode cL_law 468 = .ok (.iaload, 1) := by decide +kernel
theorem dL_law_469 : decode cL_law 469 = .ok (.invokevirtual 63, 3) := by decide +kernel
theorem dL_law_472 : decode cL_law 472 = .ok (.if_icmp .eq 298, 3) := by decide +kernel
theorem dL_law_475 : decode cL_law 475 = .ok (.iconst 0, 1) := by decide +kernel
theorem dL_law_476 : decode cL_law 476 = .ok (.ireturn, 1) := by decide +kernel
theorem dL_law_477 : decode cL_law 477 = .ok (.aload_n 1, 1) := by decide +kernel
theorem dL_law_478 : decode cL_law 478 = .ok (.aload_n 0, 1) := by decide +kernel
theorem dL_law_479 : decode cL_law 479 = .ok (.iload_n 3, 1) := by decide +kernel
theorem dL_law_480 : decode cL_law 480 = .ok (.iconst 1, 1) := by decide +kernel
theorem dL_law_481 : decode cL_law 481 = .ok (.iadd, 1) := by decide +kernel
theorem dL_law_482 : decode cL_law 482 = .ok (.iaload, 1) := by decide +kernel
theorem dL_law_483 : decode cL_law 483 = .ok (.aload_n 0, 1) := by decide +kernel
theorem dL_law_484 : decode cL_law 484 = .ok (.iload_n 3, 1) := by decide +kernel
theorem dL_law_485 : decode cL_law 485 = .ok (.iconst 2, 1) := by decide +kernel
theorem dL_law_486 : decode cL_law 486 = .ok (.iadd, 1) := by decide +kernel
theorem dL_law_487 : decode cL_law 487 = .ok (.iaload, 1) := by decide +kernel
theorem dL_law_488 : decode cL_law 488 = .ok (.invokevirtual 64, 3) := by decide +kernel
theorem dL_law_491 : decode cL_law 491 = .ok (.aload_n 2, 1) := by decide +kernel
theorem dL_law_492 : decode cL_law 492 = .ok (.aload_n 0, 1) := by decide +kernel
theorem dL_law_493 : decode cL_law 493 = .ok (.iload_n 3, 1) := by decide +kernel
theorem dL_law_494 : decode cL_law 494 = .ok (.iconst 1, 1) := by decide +kernel
theorem dL_law_495 : decode cL_law 495 = .ok (.iadd, 1) := by decide +kernel
theorem dL_law_496 : decode cL_law 496 = .ok (.iaload, 1) := by decide +kernel
theorem dL_law_497 : decode cL_law 497 = .ok (.aload_n 0, 1) := by decide +kernel
theorem dL_law_498 : decode cL_law 498 = .ok (.iload_n 3, 1) := by decide +kernel
theorem dL_law_499 : decode cL_law 499 = .ok (.iconst 2, 1) := by decide +kernel
theorem dL_law_500 : decode cL_law 500 = .ok (.iadd, 1) := by decide +kernel
theorem dL_law_501 : decode cL_law 501 = .ok (.iaload, 1) := by decide +kernel
theorem dL_law_502 : decode cL_law 502 = .ok (.invokevirtual 67, 3) := by decide +kernel
theorem dL_law_505 : decode cL_law 505 = .ok (.if_icmp .eq 265, 3) := by decide +kernel
theorem dL_law_508 : decode cL_law 508 = .ok (.iconst 0, 1) := by decide +kernel
theorem dL_law_509 : decode cL_law 509 = .ok (.ireturn, 1) := by decide +kernel
theorem dL_law_510 : decode cL_law 510 = .ok (.aload_n 1, 1) := by decide +kernel
theorem dL_law_511 : decode cL_law 511 = .ok (.aload_n 0, 1) := by decide +kernel
theorem dL_law_512 : decode cL_law 512 = .ok (.iload_n 3, 1) := by decide +kernel
theorem dL_law_513 : decode cL_law 513 = .ok (.iconst 1, 1) := by decide +kernel
theorem dL_law_514 : decode cL_law 514 = .ok (.iadd, 1) := by decide +kernel
theorem dL_law_515 : decode cL_law 515 = .ok (.iaload, 1) := by decide +kernel
theorem dL_law_516 : decode cL_law 516 = .ok (.invokevirtual 68, 3) := by decide +kernel
theorem dL_law_519 : decode cL_law 519 = .ok (.aload_n 2, 1) := by decide +kernel
theorem dL_law_520 : decode cL_law 520 = .ok (.aload_n 0, 1) := by decide +kernel
theorem dL_law_521 : decode cL_law 521 = .ok (.iload_n 3, 1) := by decide +kernel
theorem dL_law_522 : decode cL_law 522 = .ok (.iconst 1, 1) := by decide +kernel
theorem dL_law_523 : decode cL_law 523 = .ok (.iadd, 1) := by decide +kernel
theorem dL_law_524 : decode cL_law 524 = .ok (.iaload, 1) := by decide +kernel
theorem dL_law_525 : decode cL_law 525 = .ok (.invokevirtual 71, 3) := by decide +kernel
theorem dL_law_528 : decode cL_law 528 = .ok (.if_icmp .eq 242, 3) := by decide +kernel
theorem dL_law_531 : decode cL_law 531 = .ok (.iconst 0, 1) := by decide +kernel
theorem dL_law_532 : decode cL_law 532 = .ok (.ireturn, 1) := by decide +kernel
theorem dL_law_533 : decode cL_law 533 = .ok (.aload_n 1, 1) := by decide +kernel
theorem dL_law_534 : decode cL_law 534 = .ok (.aload_n 0, 1) := by decide +kernel
theorem dL_law_535 : decode cL_law 535 = .ok (.iload_n 3, 1) := by decide +kernel
theorem dL_law_536 : decode cL_law 536 = .ok (.iconst 1, 1) := by decide +kernel
theorem dL_law_537 : decode cL_law 537 = .ok (.iadd, 1) := by decide +kernel
theorem dL_law_538 : decode cL_law 538 = .ok (.iaload, 1) := by decide +kernel
theorem dL_law_539 : decode cL_law 539 = .ok (.invokevirtual 72, 3) := by decide +kernel
theorem dL_law_542 : decode cL_law 542 = .ok (.aload_n 2, 1) := by decide +kernel
theorem dL_law_543 : decode cL_law 543 = .ok (.aload_n 0, 1) := by decide +kernel
theorem dL_law_544 : decode cL_law 544 = .ok (.iload_n 3, 1) := by decide +kernel
theorem dL_law_545 : decode cL_law 545 = .ok (.iconst 1, 1) := by decide +kernel
theorem dL_law_546 : decode cL_law 546 = .ok (.iadd, 1) := by decide +kernel
theorem dL_law_547 : decode cL_law 547 = .ok (.iaload, 1) := by decide +kernel
theorem dL_law_548 : decode cL_law 548 = .ok (.invokevirtual 75, 3) := by decide +kernel
theorem dL_law_551 : decode cL_law 551 = .ok (.if_icmp .eq 219, 3) := by decide +kernel
theorem dL_law_554 : decode cL_law 554 = .ok (.iconst 0, 1) := by decide +kernel
theorem dL_law_555 : decode cL_law 555 = .ok (.ireturn, 1) := by decide +kernel
theorem dL_law_556 : decode cL_law 556 = .ok (.aload_n 1, 1) := by decide +kernel
theorem dL_law_557 : decode cL_law 557 = .ok (.aload_n 0, 1) := by decide +kernel
theorem dL_law_558 : decode cL_law 558 = .ok (.iload_n 3, 1) := by decide +kernel
theorem dL_law_559 : decode cL_law 559 = .ok (.iconst 1, 1) := by decide +kernel
theorem dL_law_560 : decode cL_law 560 = .ok (.iadd, 1) := by decide +kernel
theorem dL_law_561 : decode cL_law 561 = .ok (.iaload, 1) := by decide +kernel
theorem dL_law_562 : decode cL_law 562 = .ok (.aload_n 0, 1) := by decide +kernel
theorem dL_law_563 : decode cL_law 563 = .ok (.iload_n 3, 1) := by decide +kernel
theorem dL_law_564 : decode cL_law 564 = .ok (.iconst 2, 1) := by decide +kernel
theorem dL_law_565 : decode cL_law 565 = .ok (.iadd, 1) := by decide +kernel
theorem dL_law_566 : decode cL_law 566 = .ok (.iaload, 1) := by decide +kernel
theorem dL_law_567 : decode cL_law 567 = .ok (.invokevirtual 76, 3) := by decide +kernel
theorem dL_law_570 : decode cL_law 570 = .ok (.aload_n 2, 1) := by decide +kernel
theorem dL_law_571 : decode cL_law 571 = .ok (.aload_n 0, 1) := by decide +kernel
theorem dL_law_572 : decode cL_law 572 = .ok (.iload_n 3, 1) := by decide +kernel
theorem dL_law_573 : decode cL_law 573 = .ok (.iconst 1, 1) := by decide +kernel
theorem dL_law_574 : decode cL_law 574 = .ok (.iadd, 1) := by decide +kernel
theorem dL_law_575 : decode cL_law 575 = .ok (.iaload, 1) := by decide +kernel
theorem dL_law_576 : decode cL_law 576 = .ok (.aload_n 0, 1) := by decide +kernel
theorem dL_law_577 : decode cL_law 577 = .ok (.iload_n 3, 1) := by decide +kernel
theorem dL_law_578 : decode cL_law 578 = .ok (.iconst 2, 1) := by decide +kernel
theorem dL_law_579 : decode cL_law 579 = .ok (.iadd, 1) := by decide +kernel
theorem dL_law_580 : decode cL_law 580 = .ok (.iaload, 1) := by decide +kernel
theorem dL_law_581 : decode cL_law 581 = .ok (.invokevirtual 79, 3) := by decide +kernel
theorem dL_law_584 : decode cL_law 584 = .ok (.if_icmp .eq 186, 3) := by decide +kernel
theorem dL_law_587 : decode cL_law 587 = .ok (.iconst 0, 1) := by decide +kernel
theorem dL_law_588 : decode cL_law 588 = .ok (.ireturn, 1) := by decide +kernel
theorem dL_law_589 : decode cL_law 589 = .ok (.aload_n 1, 1) := by decide +kernel
theorem dL_law_590 : decode cL_law 590 = .ok (.aload_n 0, 1) := by decide +kernel
theorem dL_law_591 : decode cL_law 591 = .ok (.iload_n 3, 1) := by decide +kernel
theorem dL_law_592 : decode cL_law 592 = .ok (.iconst 1, 1) := by decide +kernel
theorem dL_law_593 : decode cL_law 593 = .ok (.iadd, 1) := by decide +kernel
theorem dL_law_594 : decode cL_law 594 = .ok (.iaload, 1) := by decide +kernel
theorem dL_law_595 : decode cL_law 595 = .ok (.invokevirtual 80, 3) := by decide +kernel
theorem dL_law_598 : decode cL_law 598 = .ok (.aload_n 2, 1) := by decide +kernel
theorem dL_law_599 : decode cL_law 599 = .ok (.aload_n 0, 1) := by decide +kernel
theorem dL_law_600 : decode cL_law 600 = .ok (.iload_n 3, 1) := by decide +kernel
theorem dL_law_601 : decode cL_law 601 = .ok (.iconst 1, 1) := by decide +kernel
theorem dL_law_602 : decode cL_law 602 = .ok (.iadd, 1) := by decide +kernel
theorem dL_law_603 : decode cL_law 603 = .ok (.iaload, 1) := by decide +kernel
theorem dL_law_604 : decode cL_law 604 = .ok (.invokevirtual 83, 3) := by decide +kernel
theorem dL_law_607 : decode cL_law 607 = .ok (.if_icmp .eq 163, 3) := by decide +kernel
theorem dL_law_610 : decode cL_law 610 = .ok (.iconst 0, 1) := by decide +kernel
theorem dL_law_611 : decode cL_law 611 = .ok (.ireturn, 1) := by decide +kernel
theorem dL_law_612 : decode cL_law 612 = .ok (.aload_n 1, 1) := by decide +kernel
theorem dL_law_613 : decode cL_law 613 = .ok (.aload_n 0, 1) := by decide +kernel
theorem dL_law_614 : decode cL_law 614 = .ok (.iload_n 3, 1) := by decide +kernel
theorem dL_law_615 : decode cL_law 615 = .ok (.iconst 1, 1) := by decide +kernel
theorem dL_law_616 : decode cL_law 616 = .ok (.iadd, 1) := by decide +kernel
theorem dL_law_617 : decode cL_law 617 = .ok (.iaload, 1) := by decide +kernel
theorem dL_law_618 : decode cL_law 618 = .ok (.aload_n 0, 1) := by decide +kernel
theorem dL_law_619 : decode cL_law 619 = .ok (.iload_n 3, 1) := by decide +kernel
theorem dL_law_620 : decode cL_law 620 = .ok (.iconst 2, 1) := by decide +kernel
theorem dL_law_621 : decode cL_law 621 = .ok (.iadd, 1) := by decide +kernel
theorem dL_law_622 : decode cL_law 622 = .ok (.iaload, 1) := by decide +kernel
theorem dL_law_623 : decode cL_law 623 = .ok (.invokevirtual 84, 3) := by decide +kernel
theorem dL_law_626 : decode cL_law 626 = .ok (.aload_n 2, 1) := by decide +kernel
theorem dL_law_627 : decode cL_law 627 = .ok (.aload_n 0, 1) := by decide +kernel
theorem dL_law_628 : decode cL_law 628 = .ok (.iload_n 3, 1) := by decide +kernel
theorem dL_law_629 : decode cL_law 629 = .ok (.iconst 1, 1) := by decide +kernel
theorem dL_law_630 : decode cL_law 630 = .ok (.iadd, 1) := by decide +kernel
theorem dL_law_631 : decode cL_law 631 = .ok (.iaload, 1) := by decide +kernel
theorem dL_law_632 : decode cL_law 632 = .ok (.aload_n 0, 1) := by decide +kernel
theorem dL_law_633 : decode cL_law 633 = .ok (.iload_n 3, 1) := by decide +kernel
theorem dL_law_634 : decode cL_law 634 = .ok (.iconst 2, 1) := by decide +kernel
theorem dL_law_635 : decode cL_law 635 = .ok (.iadd, 1) := by decide +kernel
theorem dL_law_636 : decode cL_law 636 = .ok (.iaload, 1) := by decide +kernel
theorem dL_law_637 : decode cL_law 637 = .ok (.invokevirtual 87, 3) := by decide +kernel
theorem dL_law_640 : decode cL_law 640 = .ok (.if_icmp .eq 130, 3) := by decide +kernel
theorem dL_law_643 : decode cL_law 643 = .ok (.iconst 0, 1) := by decide +kernel
theorem dL_law_644 : decode cL_law 644 = .ok (.ireturn, 1) := by decide +kernel
theorem dL_law_645 : decode cL_law 645 = .ok (.aload_n 1, 1) := by decide +kernel
theorem dL_law_646 : decode cL_law 646 = .ok (.aload_n 0, 1) := by decide +kernel
theorem dL_law_647 : decode cL_law 647 = .ok (.iload_n 3, 1) := by decide +kernel
theorem dL_law_648 : decode cL_law 648 = .ok (.iconst 1, 1) := by decide +kernel
theorem dL_law_649 : decode cL_law 649 = .ok (.iadd, 1) := by decide +kernel
theorem dL_law_650 : decode cL_law 650 = .ok (.iaload, 1) := by decide +kernel
theorem dL_law_651 : decode cL_law 651 = .ok (.aload_n 0, 1) := by decide +kernel
theorem dL_law_652 : decode cL_law 652 = .ok (.iload_n 3, 1) := by decide +kernel
theorem dL_law_653 : decode cL_law 653 = .ok (.iconst 2, 1) := by decide +kernel
theorem dL_law_654 : decode cL_law 654 = .ok (.iadd, 1) := by decide +kernel
theorem dL_law_655 : decode cL_law 655 = .ok (.iaload, 1) := by decide +kernel
theorem dL_law_656 : decode cL_law 656 = .ok (.invokevirtual 88, 3) := by decide +kernel
theorem dL_law_659 : decode cL_law 659 = .ok (.aload_n 2, 1) := by decide +kernel
theorem dL_law_660 : decode cL_law 660 = .ok (.aload_n 0, 1) := by decide +kernel
theorem dL_law_661 : decode cL_law 661 = .ok (.iload_n 3, 1) := by decide +kernel
theorem dL_law_662 : decode cL_law 662 = .ok (.iconst 1, 1) := by decide +kernel
theorem dL_law_663 : decode cL_law 663 = .ok (.iadd, 1) := by decide +kernel
theorem dL_law_664 : decode cL_law 664 = .ok (.iaload, 1) := by decide +kernel
theorem dL_law_665 : decode cL_law 665 = .ok (.aload_n 0, 1) := by decide +kernel
theorem dL_law_666 : decode cL_law 666 = .ok (.iload_n 3, 1) := by decide +kernel
theorem dL_law_667 : decode cL_law 667 = .ok (.iconst 2, 1) := by decide +kernel
theorem dL_law_668 : decode cL_law 668 = .ok (.iadd, 1) := by decide +kernel
theorem dL_law_669 : decode cL_law 669 = .ok (.iaload, 1) := by decide +kernel
theorem dL_law_670 : decode cL_law 670 = .ok (.invokevirtual 91, 3) := by decide +kernel
theorem dL_law_673 : decode cL_law 673 = .ok (.if_icmp .eq 97, 3) := by decide +kernel
theorem dL_law_676 : decode cL_law 676 = .ok (.iconst 0, 1) := by decide +kernel
theorem dL_law_677 : decode cL_law 677 = .ok (.ireturn, 1) := by decide +kernel
theorem dL_law_678 : decode cL_law 678 = .ok (.aload_n 1, 1) := by decide +kernel
theorem dL_law_679 : decode cL_law 679 = .ok (.aload_n 0, 1) := by decide +kernel
theorem dL_law_680 : decode cL_law 680 = .ok (.iload_n 3, 1) := by decide +kernel
theorem dL_law_681 : decode cL_law 681 = .ok (.iconst 1, 1) := by decide +kernel
theorem dL_law_682 : decode cL_law 682 = .ok (.iadd, 1) := by decide +kernel
theorem dL_law_683 : decode cL_law 683 = .ok (.iaload, 1) := by decide +kernel
theorem dL_law_684 : decode cL_law 684 = .ok (.invokevirtual 92, 3) := by decide +kernel
theorem dL_law_687 : decode cL_law 687 = .ok (.aload_n 2, 1) := by decide +kernel
theorem dL_law_688 : decode cL_law 688 = .ok (.aload_n 0, 1) := by decide +kernel
theorem dL_law_689 : decode cL_law 689 = .ok (.iload_n 3, 1) := by decide +kernel
theorem dL_law_690 : decode cL_law 690 = .ok (.iconst 1, 1) := by decide +kernel
theorem dL_law_691 : decode cL_law 691 = .ok (.iadd, 1) := by decide +kernel
theorem dL_law_692 : decode cL_law 692 = .ok (.iaload, 1) := by decide +kernel
theorem dL_law_693 : decode cL_law 693 = .ok (.invokevirtual 95, 3) := by decide +kernel
theorem dL_law_696 : decode cL_law 696 = .ok (.if_icmp .eq 74, 3) := by decide +kernel
theorem dL_law_699 : decode cL_law 699 = .ok (.iconst 0, 1) := by decide +kernel
theorem dL_law_700 : decode cL_law 700 = .ok (.ireturn, 1) := by decide +kernel
theorem dL_law_701 : decode cL_law 701 = .ok (.aload_n 1, 1) := by decide +kernel
theorem dL_law_702 : decode cL_law 702 = .ok (.aload_n 0, 1) := by decide +kernel
theorem dL_law_703 : decode cL_law 703 = .ok (.iload_n 3, 1) := by decide +kernel
theorem dL_law_704 : decode cL_law 704 = .ok (.iconst 1, 1) := by decide +kernel
theorem dL_law_705 : decode cL_law 705 = .ok (.iadd, 1) := by decide +kernel
theorem dL_law_706 : decode cL_law 706 = .ok (.iaload, 1) := by decide +kernel
theorem dL_law_707 : decode cL_law 707 = .ok (.invokevirtual 96, 3) := by decide +kernel
theorem dL_law_710 : decode cL_law 710 = .ok (.aload_n 2, 1) := by decide +kernel
theorem dL_law_711 : decode cL_law 711 = .ok (.aload_n 0, 1) := by decide +kernel
theorem dL_law_712 : decode cL_law 712 = .ok (.iload_n 3, 1) := by decide +kernel
theorem dL_law_713 : decode cL_law 713 = .ok (.iconst 1, 1) := by decide +kernel
theorem dL_law_714 : decode cL_law 714 = .ok (.iadd, 1) := by decide +kernel
theorem dL_law_715 : decode cL_law 715 = .ok (.iaload, 1) := by decide +kernel
theorem dL_law_716 : decode cL_law 716 = .ok (.invokevirtual 99, 3) := by decide +kernel
theorem dL_law_719 : decode cL_law 719 = .ok (.if_icmp .eq 51, 3) := by decide +kernel
theorem dL_law_722 : decode cL_law 722 = .ok (.iconst 0, 1) := by decide +kernel
theorem dL_law_723 : decode cL_law 723 = .ok (.ireturn, 1) := by decide +kernel
theorem dL_law_724 : decode cL_law 724 = .ok (.aload_n 1, 1) := by decide +kernel
theorem dL_law_725 : decode cL_law 725 = .ok (.aload_n 0, 1) := by decide +kernel
theorem dL_law_726 : decode cL_law 726 = .ok (.iload_n 3, 1) := by decide +kernel
theorem dL_law_727 : decode cL_law 727 = .ok (.iconst 1, 1) := by decide +kernel
theorem dL_law_728 : decode cL_law 728 = .ok (.iadd, 1) := by decide +kernel
theorem dL_law_729 : decode cL_law 729 = .ok (.iaload, 1) := by decide +kernel
theorem dL_law_730 : decode cL_law 730 = .ok (.invokevirtual 100, 3) := by decide +kernel
theorem dL_law_733 : decode cL_law 733 = .ok (.aload_n 2, 1) := by decide +kernel
theorem dL_law_734 : decode cL_law 734 = .ok (.aload_n 0, 1) := by decide +kernel
theorem dL_law_735 : decode cL_law 735 = .ok (.iload_n 3, 1) := by decide +kernel
theorem dL_law_736 : decode cL_law 736 = .ok (.iconst 1, 1) := by decide +kernel
theorem dL_law_737 : decode cL_law 737 = .ok (.iadd, 1) := by decide +kernel
theorem dL_law_738 : decode cL_law 738 = .ok (.iaload, 1) := by decide +kernel
theorem dL_law_739 : decode cL_law 739 = .ok (.invokevirtual 103, 3) := by decide +kernel
theorem dL_law_742 : decode cL_law 742 = .ok (.if_icmp .eq 28, 3) := by decide +kernel
theorem dL_law_745 : decode cL_law 745 = .ok (.iconst 0, 1) := by decide +kernel
theorem dL_law_746 : decode cL_law 746 = .ok (.ireturn, 1) := by decide +kernel
theorem dL_law_747 : decode cL_law 747 = .ok (.aload_n 1, 1) := by decide +kernel
theorem dL_law_748 : decode cL_law 748 = .ok (.aload_n 0, 1) := by decide +kernel
theorem dL_law_749 : decode cL_law 749 = .ok (.iload_n 3, 1) := by decide +kernel
theorem dL_law_750 : decode cL_law 750 = .ok (.iconst 1, 1) := by decide +kernel
theorem dL_law_751 : decode cL_law 751 = .ok (.iadd, 1) := by decide +kernel
theorem dL_law_752 : decode cL_law 752 = .ok (.iaload, 1) := by decide +kernel
theorem dL_law_753 : decode cL_law 753 = .ok (.invokevirtual 104, 3) := by decide +kernel
theorem dL_law_756 : decode cL_law 756 = .ok (.aload_n 2, 1) := by decide +kernel
theorem dL_law_757 : decode cL_law 757 = .ok (.aload_n 0, 1) := by decide +kernel
theorem dL_law_758 : decode cL_law 758 = .ok (.iload_n 3, 1) := by decide +kernel
theorem dL_law_759 : decode cL_law 759 = .ok (.iconst 1, 1) := by decide +kernel
theorem dL_law_760 : decode cL_law 760 = .ok (.iadd, 1) := by decide +kernel
theorem dL_law_761 : decode cL_law 761 = .ok (.iaload, 1) := by decide +kernel
theorem dL_law_762 : decode cL_law 762 = .ok (.invokevirtual 107, 3) := by decide +kernel
theorem dL_law_765 : decode cL_law 765 = .ok (.if_icmp .eq 5, 3) := by decide +kernel
theorem dL_law_768 : decode cL_law 768 = .ok (.iconst 0, 1) := by decide +kernel
theorem dL_law_769 : decode cL_law 769 = .ok (.ireturn, 1) := by decide +kernel
theorem dL_law_770 : decode cL_law 770 = .ok (.iinc 3 3, 3) := by decide +kernel
theorem dL_law_773 : decode cL_law 773 = .ok (.goto (-755), 3) := by decide +kernel
theorem dL_law_776 : decode cL_law 776 = .ok (.iconst 1, 1) := by decide +kernel
theorem dL_law_777 : decode cL_law 777 = .ok (.ireturn, 1) := by decide +kernel
abbrev vwCl : List vw_C := [(RX0, TX0, 7), (RX1, TX1, 3), (RX2, TX2, 7), (RX3, TX3, 7)]
end
section
/-! plain facts on numbers and arrays, to paste: each family by itself; over the kit's rows on nI and upd -/
/-! ===== order of ints, in all its forms, and through longs ===== -/
theorem fa_lt (a b : Int32) : a < b ↔ a.toInt < b.toInt := Int32.lt_iff_toInt_lt
theorem fa_le (a b : Int32) : a ≤ b ↔ a.toInt ≤ b.toInt := Int32.le_iff_toInt_le
theorem fa_eq (a b : Int32) : a = b ↔ a.toInt = b.toInt := Int32.toInt_inj.symm
theorem fa_lt64 (a b : Int64) : a < b ↔ a.toInt < b.toInt := Int64.lt_iff_toInt_lt
theorem fa_le64 (a b : Int64) : a ≤ b ↔ a.toInt ≤ b.toInt := Int64.le_iff_toInt_le
theorem fa_eq64 (a b : Int64) : a = b ↔ a.toInt = b.toInt := Int64.toInt_inj.symm
/-- a comparison of two ints taken as longs -/
theorem fa_wide_lt (a b : Int32) : a.toInt64 < b.toInt64 ↔ a < b := by rw [fa_lt64, fa_lt, Int32.toInt_toInt64, Int32.toInt_toInt64]
theorem fa_wide_le (a b : Int32) : a.toInt64 ≤ b.toInt64 ↔ a ≤ b := by rw [fa_le64, fa_le, Int32.toInt_toInt64, Int32.toInt_toInt64]
theorem fa_wide_eq (a b : Int32) : a.toInt64 = b.toInt64 ↔ a = b := by rw [fa_eq64, fa_eq, Int32.toInt_toInt64, Int32.toInt_toInt64]
/-- one strict comparison gives all the others -/
theorem fa_of_lt {a b : Int32} (h : a < b) : a ≤ b ∧ ¬ b ≤ a ∧ ¬ b < a ∧ a ≠ b ∧ b ≠ a := by
  rw [fa_lt] at h
  refine ⟨?_, ?_, ?_, ?_, ?_⟩
  · rw [fa_le]; omega
  · rw [fa_le]; omega
  · rw [fa_lt]; omega
  · intro e; rw [fa_eq] at e; omega
  · intro e; rw [fa_eq] at e; omega
theorem fa_of_nlt {a b : Int32} (h : ¬ a < b) : b ≤ a := by
  rw [fa_lt] at h
  rw [fa_le]
  omega
theorem fa_of_nle {a b : Int32} (h : ¬ a ≤ b) : b < a := by
  rw [fa_le] at h
  rw [fa_lt]
  omega
theorem fa_le_ne {a b : Int32} (h : a ≤ b) (h2 : a ≠ b) : a < b := by
  rw [fa_le] at h
  rw [fa_lt]
  have h3 : a.toInt ≠ b.toInt := fun e => h2 ((fa_eq a b).mpr e)
  omega
theorem fa_three (a b : Int32) : a < b ∨ a = b ∨ b < a := by
  rw [fa_lt, fa_lt, fa_eq]
  omega
theorem fa_trans {a b c : Int32} (h : a < b) (h2 : b ≤ c) : a < c := by
  rw [fa_lt] at *
  rw [fa_le] at h2
  omega
/-! ===== small literals as numbers ===== -/
theorem fa_lit (n : Nat) : (OfNat.ofNat n : Int32) = nI n := rfl
theorem fa_litL (n : Nat) : (OfNat.ofNat n : Int64) = lN n := rfl
/-! ===== bits of a number: 'or', masks, one bit ===== -/
theorem fa_and (a b : Nat) : nI a &&& nI b = nI (a &&& b) := by
  apply Int32.toBitVec_inj.1
  show BitVec.ofNat 32 a &&& BitVec.ofNat 32 b = BitVec.ofNat 32 (a &&& b)
  apply BitVec.eq_of_getLsbD_eq
  intro i hi
  simp [hi]
theorem fa_or (a b : Nat) : nI a ||| nI b = nI (a ||| b) := by
  apply Int32.toBitVec_inj.1
  show BitVec.ofNat 32 a ||| BitVec.ofNat 32 b = BitVec.ofNat 32 (a ||| b)
  apply BitVec.eq_of_getLsbD_eq
  intro i hi
  simp [hi]
/-- a remainder by a power of two, as a mask -/
theorem fa_mask (n k : Nat) : nI n &&& nI (2 ^ k - 1) = nI (n % 2 ^ k) := by rw [fa_and, Nat.and_two_pow_sub_one_eq_mod]
/-- 'or' of a high part and a low one that don't meet is their sum -/
theorem fa_or_sum {a k : Nat} (b : Nat) (h : a < 2 ^ k) : nI (2 ^ k * b) ||| nI a = nI (2 ^ k * b + a) := by rw [fa_or, Nat.two_pow_add_eq_or_of_lt h]
/-- one bit, by 'and' with a power of two -/
theorem fa_bit {n j : Nat} (hj : j < 31) : nI n &&& nI (2 ^ j) = 0 ↔ n.testBit j = false := by
  have h2 : (2 : Nat) ^ j < 2 ^ 31 := Nat.pow_lt_pow_right (by decide) hj
  have hle : n &&& 2 ^ j ≤ 2 ^ j := Nat.and_le_right
  have e : n &&& 2 ^ j = 0 ↔ n.testBit j = false := by
    constructor
    · intro h
      have h1 : (n &&& 2 ^ j).testBit j = false := by rw [h]; simp
      rw [Nat.testBit_and] at h1
      first | simpa using h1 | simpa [Nat.testBit_two_pow_self] using h1 | simpa [Nat.testBit_two_pow] using h1
    · intro h
      apply Nat.eq_of_testBit_eq
      intro i
      rw [Nat.testBit_and]
      by_cases hi : j = i
      · subst hi; simp [h]
      · first | (simp [Nat.testBit_two_pow, hi]; done) | (simp [Nat.testBit_two_pow_of_ne hi]; done)
  rw [fa_and]
  constructor
  · intro h
    apply e.mp
    rcases Nat.eq_zero_or_pos (n &&& 2 ^ j) with z | z
    · exact z
    · exact absurd h (nI_ne0 z (Nat.lt_of_le_of_lt hle h2))
  · intro h
    rw [e.mpr h]; exact nI_0
/-- a remainder by a power of two of a number that isn't negative, as Java divides -/
theorem fa_rem {a k : Nat} (ha : a < 2 ^ 31) (hk : k < 31) : nI a - nI a / nI (2 ^ k) * nI (2 ^ k) = nI (a % 2 ^ k) := pk_rem ha (Nat.two_pow_pos k) (Nat.pow_lt_pow_right (by decide) hk)
/-! ===== cuts to a byte, a short ===== -/
theorem fa_byte_xor (x y : Int32) : (x ^^^ y).toInt8 = x.toInt8 ^^^ y.toInt8 := by
  apply Int8.toBitVec_inj.1
  apply BitVec.eq_of_getLsbD_eq
  intro i hi
  first | (simp [hi]; done) | (simp [hi, BitVec.getLsbD_setWidth, BitVec.getLsbD_signExtend]; done)
theorem fa_short_xor (x y : Int32) : (x ^^^ y).toInt16 = x.toInt16 ^^^ y.toInt16 := by
  apply Int16.toBitVec_inj.1
  apply BitVec.eq_of_getLsbD_eq
  intro i hi
  first | (simp [hi]; done) | (simp [hi, BitVec.getLsbD_setWidth, BitVec.getLsbD_signExtend]; done)
/-- the cut to a byte sees the low byte alone -/
theorem fa_byte_low (x : Int32) : (x &&& 255).toInt8 = x.toInt8 := by
  apply Int8.toBitVec_inj.1
  apply BitVec.eq_of_getLsbD_eq
  intro i hi
  have h2 : (255 : Int32).toBitVec.getLsbD i = true := by
    have : ∀ j : Fin 8, (255 : Int32).toBitVec.getLsbD j.val = true := by decide +kernel
    exact this ⟨i, hi⟩
  have h4 : (x &&& 255).toBitVec.getLsbD i = x.toBitVec.getLsbD i := by
    show (x.toBitVec &&& (255 : Int32).toBitVec).getLsbD i = _
    rw [BitVec.getLsbD_and, h2, Bool.and_true]
  have h3 : i < 32 := by omega
  first
    | (show (((x &&& 255).toBitVec).signExtend 8).getLsbD i = (x.toBitVec.signExtend 8).getLsbD i; rw [BitVec.getLsbD_signExtend, BitVec.getLsbD_signExtend, if_pos h3, if_pos h3, h4])
    | (show (((x &&& 255).toBitVec).setWidth 8).getLsbD i = (x.toBitVec.setWidth 8).getLsbD i; rw [BitVec.getLsbD_setWidth, BitVec.getLsbD_setWidth, h4])
    | (simp [hi, h3, h4]; done)
theorem fa_short_low (x : Int32) : (x &&& 65535).toInt16 = x.toInt16 := by
  apply Int16.toBitVec_inj.1
  apply BitVec.eq_of_getLsbD_eq
  intro i hi
  have h2 : (65535 : Int32).toBitVec.getLsbD i = true := by
    have : ∀ j : Fin 16, (65535 : Int32).toBitVec.getLsbD j.val = true := by decide +kernel
    exact this ⟨i, hi⟩
  have h4 : (x &&& 65535).toBitVec.getLsbD i = x.toBitVec.getLsbD i := by
    show (x.toBitVec &&& (65535 : Int32).toBitVec).getLsbD i = _
    rw [BitVec.getLsbD_and, h2, Bool.and_true]
  have h3 : i < 32 := by omega
  first
    | (show (((x &&& 65535).toBitVec).signExtend 16).getLsbD i = (x.toBitVec.signExtend 16).getLsbD i; rw [BitVec.getLsbD_signExtend, BitVec.getLsbD_signExtend, if_pos h3, if_pos h3, h4])
    | (show (((x &&& 65535).toBitVec).setWidth 16).getLsbD i = (x.toBitVec.setWidth 16).getLsbD i; rw [BitVec.getLsbD_setWidth, BitVec.getLsbD_setWidth, h4])
    | (simp [hi, h3, h4]; done)
/-- a small number is its own byte, its own short -/
theorem fa_byte_small {n : Nat} (h : n < 128) : (nI n).toInt8.toInt32 = nI n := by
  have : ∀ j : Fin 128, (nI j.val).toInt8.toInt32 = nI j.val := by decide +kernel
  exact this ⟨n, h⟩
/-! ===== absolute difference ===== -/
theorem fa_absdiff {a b : Nat} (ha : a < 2 ^ 31) (hb : b < 2 ^ 31) : (if nI a < nI b then nI b - nI a else nI a - nI b) = nI (if a < b then b - a else a - b) := by
  by_cases h : a < b
  · rw [if_pos (nI_lt h hb), if_pos h]
    exact pk_sub (Nat.le_of_lt h)
  · rw [if_neg (nI_nlt (Nat.le_of_not_lt h) ha), if_neg h]
    exact pk_sub (Nat.le_of_not_lt h)
/-! ===== an array behind i stores, a conditional store, a row copied ===== -/
/-- f where k < i, what stood there else -/
def fa_fill {α : Type} (f g : Nat → α) (i : Nat) : Nat → α := fun k => if k < i then f k else g k
theorem fa_fill_0 {α : Type} (f g : Nat → α) : fa_fill f g 0 = g := funext fun k => if_neg (Nat.not_lt_zero k)
theorem fa_fill_in {α : Type} {f g : Nat → α} {i k : Nat} (h : k < i) : fa_fill f g i k = f k := if_pos h
theorem fa_fill_out {α : Type} {f g : Nat → α} {i k : Nat} (h : i ≤ k) : fa_fill f g i k = g k := if_neg (Nat.not_lt.mpr h)
theorem fa_fill_succ (f g : Nat → Int32) (i : Nat) : upd (fa_fill f g i) i (f i) = fa_fill f g (i + 1) := by
  funext k
  by_cases e : k = i
  · subst e
    rw [pk_us]
    exact (if_pos (Nat.lt_succ_self k)).symm
  · rw [pk_un e]
    by_cases h : k < i
    · rw [fa_fill_in h, fa_fill_in (Nat.lt_succ_of_lt h)]
    · rw [fa_fill_out (Nat.le_of_not_lt h), fa_fill_out (by omega)]
/-- a store that changes nothing -/
theorem fa_upd_same {f : Nat → Int32} {i : Nat} {x : Int32} (h : f i = x) : upd f i x = f := by
  funext k
  by_cases e : k = i
  · subst e
    rw [pk_us, h]
  · rw [pk_un e]
/-- a store under a condition, told as one -/
theorem fa_upd_if (c : Prop) [Decidable c] (f : Nat → Int32) (i : Nat) (x : Int32) : (if c then upd f i x else f) = upd f i (if c then x else f i) := by
  by_cases h : c
  · rw [if_pos h, if_pos h]
  · rw [if_neg h, if_neg h, fa_upd_same rfl]
/-- two stores at one place, at two -/
theorem fa_upd_twice (f : Nat → Int32) (i : Nat) (x y : Int32) : upd (upd f i x) i y = upd f i y := by
  funext k
  by_cases e : k = i
  · subst e
    rw [pk_us, pk_us]
  · rw [pk_un e, pk_un e, pk_un e]
theorem fa_upd_swap (f : Nat → Int32) {i j : Nat} (h : i ≠ j) (x y : Int32) : upd (upd f i x) j y = upd (upd f j y) i x := by
  funext k
  by_cases e : k = i
  · subst e
    rw [pk_un h, pk_us, pk_us]
  · by_cases e2 : k = j
    · subst e2
      rw [pk_us, pk_un e, pk_us]
    · rw [pk_un e2, pk_un e, pk_un e, pk_un e2]
/-! ===== the first index with a property; a count ===== -/
/-- the first k < n with p k, n if there is none -/
def fa_first (p : Nat → Bool) : Nat → Nat
  | 0 => 0
  | n + 1 => if fa_first p n < n then fa_first p n else if p n then n else n + 1
theorem fa_first_le (p : Nat → Bool) : ∀ n, fa_first p n ≤ n
  | 0 => Nat.le_refl 0
  | n + 1 => by
    have ih := fa_first_le p n
    unfold fa_first
    split
    · omega
    · split
      · omega
      · omega
theorem fa_first_no (p : Nat → Bool) : ∀ n k, k < fa_first p n → p k = false
  | 0, k, h => absurd h (Nat.not_lt_zero k)
  | n + 1, k, h => by
    have ih := fa_first_no p n
    have hl := fa_first_le p n
    unfold fa_first at h
    split at h
    · exact ih k h
    · rename_i h1
      split at h
      · exact ih k (by omega)
      · rename_i h2
        by_cases e : k = n
        · subst e
          exact Bool.eq_false_iff.mpr h2
        · exact ih k (by omega)
theorem fa_first_yes (p : Nat → Bool) : ∀ n, fa_first p n < n → p (fa_first p n) = true
  | 0, h => absurd h (Nat.not_lt_zero _)
  | n + 1, h => by
    have ih := fa_first_yes p n
    have hl := fa_first_le p n
    unfold fa_first at h ⊢
    split at h
    · rename_i h1
      rw [if_pos h1]
      exact ih h1
    · rename_i h1
      rw [if_neg h1]
      split at h
      · rename_i h2
        rw [if_pos h2]
        exact h2
      · omega
/-- how many k < n have p k -/
def fa_cnt (p : Nat → Bool) : Nat → Nat
  | 0 => 0
  | n + 1 => fa_cnt p n + if p n then 1 else 0
theorem fa_cnt_le (p : Nat → Bool) : ∀ n, fa_cnt p n ≤ n
  | 0 => Nat.le_refl 0
  | n + 1 => by
    have ih := fa_cnt_le p n
    unfold fa_cnt
    split
    · omega
    · omega
theorem fa_cnt_yes {p : Nat → Bool} {n : Nat} (h : p n = true) : fa_cnt p (n + 1) = fa_cnt p n + 1 := by rw [fa_cnt, if_pos h]
theorem fa_cnt_no {p : Nat → Bool} {n : Nat} (h : p n = false) : fa_cnt p (n + 1) = fa_cnt p n := by rw [fa_cnt, if_neg (by rw [h]; decide)]; rfl
theorem fa_cnt_cong {p q : Nat → Bool} : ∀ {n : Nat}, (∀ k, k < n → p k = q k) → fa_cnt p n = fa_cnt q n
  | 0, _ => rfl
  | n + 1, h => by rw [fa_cnt, fa_cnt, fa_cnt_cong (fun k hk => h k (Nat.lt_succ_of_lt hk)), h n (Nat.lt_succ_self n)]
/-! ===== an answer carried into a post; a branch on a boolean answer ===== -/
theorem fa_post {α : Type} {P : α → Prop} {x y : α} (h : x = y) (hp : P y) : P x := h ▸ hp
theorem fa_post2 {α β : Type} {P : α → β → Prop} {x y : α} {u v : β} (h : x = y) (h2 : u = v) (hp : P y v) : P x u := h ▸ h2 ▸ hp
theorem fa_bool {r : Int32} {b : Bool} (h : r = if b then 1 else 0) : (r = 0 ↔ b = false) ∧ (¬ r = 0 ↔ b = true) := by
  subst h
  cases b
  · exact ⟨⟨fun _ => rfl, fun _ => rfl⟩, ⟨fun h => absurd rfl h, fun h => absurd h (by decide)⟩⟩
  · exact ⟨⟨fun h => absurd h (by decide), fun h => absurd h (by decide)⟩, ⟨fun _ => rfl, fun _ => by decide⟩⟩
/-- a boolean's narrowing changes nothing -/
theorem fa_bool_and {r : Int32} (h : r = 0 ∨ r = 1) : r &&& 1 = r := by
  rcases h with rfl | rfl
  · decide
  · decide
theorem fa_bool_prop {c : Prop} [Decidable c] {r : Int32} (h : r = if c then 1 else 0) : (r = 0 ↔ ¬ c) ∧ (¬ r = 0 ↔ c) := by
  subst h
  by_cases hc : c
  · rw [if_pos hc]
    exact ⟨⟨fun h => absurd h (by decide), fun h => absurd hc h⟩, ⟨fun _ => hc, fun _ => by decide⟩⟩
  · rw [if_neg hc]
    exact ⟨⟨fun _ => hc, fun _ => rfl⟩, ⟨fun h => absurd rfl h, fun h => absurd h hc⟩⟩
/-! plain facts to paste, each family by itself; over the kit's nI, lN and upd -/
/-! ===== drawers: more things than places ===== -/
theorem fb_holes : ∀ (m n : Nat) (f : Nat → Nat), (∀ i, i < n → f i < m) → (∀ i j, i < j → j < n → f i ≠ f j) → n ≤ m := by
  intro m
  induction m with
  | zero =>
    intro n f h1 _
    rcases Nat.eq_zero_or_pos n with h | h
    · omega
    · exact absurd (h1 0 h) (Nat.not_lt_zero _)
  | succ m ih =>
    intro n f h1 h2
    by_cases hx : ∃ i, i < n ∧ f i = m
    · obtain ⟨a, ha, hfa⟩ := hx
      have hg := ih (n - 1) (fun i => if i < a then f i else f (i + 1)) (by
        intro i hi
        by_cases q : i < a
        · simp only [if_pos q]
          have b1 := h1 i (by omega)
          have b2 := h2 i a q ha
          omega
        · simp only [if_neg q]
          have b1 := h1 (i + 1) (by omega)
          have b2 := h2 a (i + 1) (by omega) (by omega)
          omega) (by
        intro i j hij hj
        by_cases q : i < a
        · by_cases r : j < a
          · simp only [if_pos q, if_pos r]
            exact h2 i j hij (by omega)
          · simp only [if_pos q, if_neg r]
            exact h2 i (j + 1) (by omega) (by omega)
        · have r : ¬ j < a := by omega
          simp only [if_neg q, if_neg r]
          exact h2 (i + 1) (j + 1) (by omega) (by omega))
      omega
    · have hg := ih n f (fun i hi => by
        have b1 := h1 i hi
        have b2 : f i ≠ m := fun e => hx ⟨i, hi, e⟩
        omega) h2
      omega
/-- two of them in one place -/
theorem fb_twice {m n : Nat} {f : Nat → Nat} (h : ∀ i, i < n → f i < m) (hm : m < n) : ∃ i j, i < j ∧ j < n ∧ f i = f j := by
  refine Classical.byContradiction fun hx => ?_
  have := fb_holes m n f h (fun i j hij hj e => hx ⟨i, j, hij, hj, e⟩)
  omega
/-- as many as places, none twice: each place is taken -/
theorem fb_onto {n : Nat} {f : Nat → Nat} (h : ∀ i, i < n → f i < n) (h2 : ∀ i j, i < j → j < n → f i ≠ f j) {y : Nat} (hy : y < n) : ∃ i, i < n ∧ f i = y := by
  refine Classical.byContradiction fun hx => ?_
  have hne : ∀ i, i < n → f i ≠ y := fun i hi e => hx ⟨i, hi, e⟩
  have := fb_holes (n - 1) n (fun i => if f i < y then f i else f i - 1) (by
    intro i hi
    have b1 := h i hi
    have b2 := hne i hi
    by_cases q : f i < y
    · simp only [if_pos q]; omega
    · simp only [if_neg q]; omega) (by
    intro i j hij hj
    have b1 := hne i (by omega)
    have b2 := hne j hj
    have b3 := h2 i j hij hj
    by_cases q : f i < y
    · by_cases r : f j < y
      · simp only [if_pos q, if_pos r]; exact b3
      · simp only [if_pos q, if_neg r]; omega
    · by_cases r : f j < y
      · simp only [if_neg q, if_pos r]; omega
      · simp only [if_neg q, if_neg r]; omega)
  omega
/-! ===== how many places have a property ===== -/
def fb_ct (p : Nat → Bool) : Nat → Nat
  | 0 => 0
  | n + 1 => fb_ct p n + (if p n then 1 else 0)
theorem fb_ct_succ (p : Nat → Bool) (n : Nat) : fb_ct p (n + 1) = fb_ct p n + (if p n then 1 else 0) := rfl
theorem fb_ct_le (p : Nat → Bool) : ∀ n, fb_ct p n ≤ n
  | 0 => Nat.le_refl _
  | n + 1 => by
    have h := fb_ct_le p n
    rw [fb_ct_succ]
    split <;> omega
theorem fb_ct_step (p : Nat → Bool) (m : Nat) : ∀ n, fb_ct p m ≤ fb_ct p (m + n)
  | 0 => Nat.le_refl _
  | n + 1 => by
    have h := fb_ct_step p m n
    show fb_ct p m ≤ fb_ct p (m + n + 1)
    rw [fb_ct_succ]
    omega
theorem fb_ct_mono (p : Nat → Bool) {m n : Nat} (h : m ≤ n) : fb_ct p m ≤ fb_ct p n := by
  have := fb_ct_step p m (n - m)
  rwa [Nat.add_sub_cancel' h] at this
theorem fb_ct_cong {p q : Nat → Bool} : ∀ {n : Nat}, (∀ k, k < n → p k = q k) → fb_ct p n = fb_ct q n
  | 0, _ => rfl
  | n + 1, h => by
    rw [fb_ct_succ, fb_ct_succ, fb_ct_cong (fun k hk => h k (by omega)), h n (by omega)]
/-- one place changed -/
theorem fb_ct_out (p : Nat → Bool) (b : Bool) {i n : Nat} (h : n ≤ i) : fb_ct (fun k => if k = i then b else p k) n = fb_ct p n :=
  fb_ct_cong fun k hk => if_neg (by omega)
theorem fb_ct_upd (p : Nat → Bool) (b : Bool) {i : Nat} : ∀ {n : Nat}, i < n → fb_ct (fun k => if k = i then b else p k) n + (if p i then 1 else 0) = fb_ct p n + (if b then 1 else 0)
  | 0, h => absurd h (Nat.not_lt_zero i)
  | n + 1, h => by
    rw [fb_ct_succ, fb_ct_succ]
    rcases Nat.lt_or_ge i n with q | q
    · have := fb_ct_upd p b q
      have e : (if n = i then b else p n) = p n := if_neg (by omega)
      rw [e]
      omega
    · have e : i = n := by omega
      subst e
      rw [fb_ct_out p b (Nat.le_refl _)]
      simp only [if_true]
      omega
theorem fb_ct_sub {p q : Nat → Bool} : ∀ {n : Nat}, (∀ k, k < n → p k = true → q k = true) → fb_ct p n ≤ fb_ct q n
  | 0, _ => Nat.le_refl _
  | n + 1, h => by
    have h1 := fb_ct_sub (n := n) (p := p) (q := q) (fun k hk => h k (by omega))
    have h2 := h n (by omega)
    rw [fb_ct_succ, fb_ct_succ]
    cases hp : p n <;> cases hq : q n <;> simp_all <;> omega
theorem fb_ct_or {p q : Nat → Bool} : ∀ {n : Nat}, (∀ k, k < n → ¬ (p k = true ∧ q k = true)) → fb_ct (fun k => p k || q k) n = fb_ct p n + fb_ct q n
  | 0, _ => rfl
  | n + 1, h => by
    have h1 := fb_ct_or (n := n) (p := p) (q := q) (fun k hk => h k (by omega))
    have h2 := h n (by omega)
    rw [fb_ct_succ, fb_ct_succ, fb_ct_succ, h1]
    cases hp : p n <;> cases hq : q n <;> simp_all <;> omega
theorem fb_ct_not (p : Nat → Bool) : ∀ n, fb_ct p n + fb_ct (fun k => !p k) n = n
  | 0 => rfl
  | n + 1 => by
    have h := fb_ct_not p n
    rw [fb_ct_succ, fb_ct_succ]
    cases p n <;> simp <;> omega
theorem fb_ct_split (p : Nat → Bool) (m : Nat) : ∀ n, fb_ct p (m + n) = fb_ct p m + fb_ct (fun k => p (m + k)) n
  | 0 => rfl
  | n + 1 => by
    have h := fb_ct_split p m n
    show fb_ct p (m + n + 1) = _
    rw [fb_ct_succ, fb_ct_succ, h, Nat.add_assoc]
theorem fb_ct_zero {p : Nat → Bool} : ∀ {n : Nat}, fb_ct p n = 0 ↔ ∀ k, k < n → p k = false
  | 0 => ⟨fun _ k hk => absurd hk (Nat.not_lt_zero k), fun _ => rfl⟩
  | n + 1 => by
    have h := fb_ct_zero (p := p) (n := n)
    rw [fb_ct_succ]
    constructor
    · intro e k hk
      have e1 : fb_ct p n = 0 := by omega
      rcases Nat.lt_or_ge k n with q | q
      · exact h.mp e1 k q
      · have ek : k = n := by omega
        subst ek
        cases hp : p k
        · rfl
        · simp [hp] at e
    · intro a
      rw [h.mpr (fun k hk => a k (by omega)), a n (by omega)]
      rfl
theorem fb_ct_pos {p : Nat → Bool} {n : Nat} : 0 < fb_ct p n ↔ ∃ k, k < n ∧ p k = true := by
  constructor
  · intro h
    refine Classical.byContradiction fun hx => ?_
    have := fb_ct_zero.mpr (fun k hk => by
      cases hp : p k
      · rfl
      · exact absurd ⟨k, hk, hp⟩ hx : ∀ k, k < n → p k = false)
    omega
  · rintro ⟨k, hk, hp⟩
    rcases Nat.eq_zero_or_pos (fb_ct p n) with e | e
    · have := fb_ct_zero.mp e k hk
      rw [this] at hp
      cases hp
    · exact e
theorem fb_ct_all {p : Nat → Bool} {n : Nat} : fb_ct p n = n ↔ ∀ k, k < n → p k = true := by
  have h := fb_ct_not p n
  constructor
  · intro e k hk
    have z : fb_ct (fun k => !p k) n = 0 := by omega
    have := fb_ct_zero.mp z k hk
    cases hp : p k
    · simp [hp] at this
    · rfl
  · intro a
    have z : fb_ct (fun k => !p k) n = 0 := fb_ct_zero.mpr (fun k hk => by simp [a k hk])
    omega
/-- the k-th place with the property -/
theorem fb_ct_kth {p : Nat → Bool} {k : Nat} : ∀ {n : Nat}, k < fb_ct p n → ∃ i, i < n ∧ p i = true ∧ fb_ct p i = k
  | 0, h => absurd h (Nat.not_lt_zero k)
  | n + 1, h => by
    rcases Nat.lt_or_ge k (fb_ct p n) with q | q
    · obtain ⟨i, h1, h2⟩ := fb_ct_kth q
      exact ⟨i, by omega, h2⟩
    · rw [fb_ct_succ] at h
      cases hp : p n
      · simp [hp] at h; omega
      · simp [hp] at h
        exact ⟨n, by omega, hp, by omega⟩
theorem fb_ct_kth_one {p : Nat → Bool} {i j : Nat} (hi : p i = true) (hj : p j = true) (e : fb_ct p i = fb_ct p j) : i = j := by
  have key : ∀ a b : Nat, a < b → p a = true → fb_ct p a < fb_ct p b := by
    intro a b hab ha
    have h := fb_ct_mono p (show a + 1 ≤ b from hab)
    rw [fb_ct_succ, ha] at h
    simp at h
    omega
  rcases Nat.lt_trichotomy i j with q | q | q
  · have := key i j q hi; omega
  · exact q
  · have := key j i q hj; omega
/-! ===== sums over a range: one place changed, parts, bounds ===== -/
def fb_sm (f : Nat → Nat) : Nat → Nat
  | 0 => 0
  | n + 1 => fb_sm f n + f n
theorem fb_sm_succ (f : Nat → Nat) (n : Nat) : fb_sm f (n + 1) = fb_sm f n + f n := rfl
theorem fb_sm_cong {f g : Nat → Nat} : ∀ {n : Nat}, (∀ k, k < n → f k = g k) → fb_sm f n = fb_sm g n
  | 0, _ => rfl
  | n + 1, h => by rw [fb_sm_succ, fb_sm_succ, fb_sm_cong (fun k hk => h k (by omega)), h n (by omega)]
theorem fb_sm_out (f : Nat → Nat) (v : Nat) {i n : Nat} (h : n ≤ i) : fb_sm (fun k => if k = i then v else f k) n = fb_sm f n :=
  fb_sm_cong fun k hk => if_neg (by omega)
theorem fb_sm_upd (f : Nat → Nat) (v : Nat) {i : Nat} : ∀ {n : Nat}, i < n → fb_sm (fun k => if k = i then v else f k) n + f i = fb_sm f n + v
  | 0, h => absurd h (Nat.not_lt_zero i)
  | n + 1, h => by
    rw [fb_sm_succ, fb_sm_succ]
    rcases Nat.lt_or_ge i n with q | q
    · have := fb_sm_upd f v q
      have e : (if n = i then v else f n) = f n := if_neg (by omega)
      rw [e]
      omega
    · have e : i = n := by omega
      subst e
      rw [fb_sm_out f v (Nat.le_refl _)]
      simp only [if_true]
      omega
theorem fb_sm_add (f g : Nat → Nat) : ∀ n, fb_sm (fun k => f k + g k) n = fb_sm f n + fb_sm g n
  | 0 => rfl
  | n + 1 => by
    have h := fb_sm_add f g n
    rw [fb_sm_succ, fb_sm_succ, fb_sm_succ, h]
    omega
theorem fb_sm_le {f g : Nat → Nat} : ∀ {n : Nat}, (∀ k, k < n → f k ≤ g k) → fb_sm f n ≤ fb_sm g n
  | 0, _ => Nat.le_refl _
  | n + 1, h => by
    have h1 := fb_sm_le (n := n) (f := f) (g := g) (fun k hk => h k (by omega))
    have h2 := h n (by omega)
    rw [fb_sm_succ, fb_sm_succ]
    omega
theorem fb_sm_const (c : Nat) : ∀ n, fb_sm (fun _ => c) n = n * c
  | 0 => by rw [Nat.zero_mul]; rfl
  | n + 1 => by rw [fb_sm_succ, fb_sm_const c n, Nat.succ_mul]
theorem fb_sm_bound {f : Nat → Nat} {c n : Nat} (h : ∀ k, k < n → f k ≤ c) : fb_sm f n ≤ n * c := by
  rw [← fb_sm_const c n]
  exact fb_sm_le h
theorem fb_sm_mono (f : Nat → Nat) (m : Nat) : ∀ n, fb_sm f m ≤ fb_sm f (m + n)
  | 0 => Nat.le_refl _
  | n + 1 => by
    have h := fb_sm_mono f m n
    show fb_sm f m ≤ fb_sm f (m + n + 1)
    rw [fb_sm_succ]
    omega
theorem fb_sm_part (f : Nat → Nat) {i n : Nat} (h : i < n) : fb_sm f i + f i ≤ fb_sm f n := by
  have := fb_sm_mono f (i + 1) (n - (i + 1))
  rw [fb_sm_succ, show i + 1 + (n - (i + 1)) = n by omega] at this
  exact this
theorem fb_sm_split (f : Nat → Nat) (m : Nat) : ∀ n, fb_sm f (m + n) = fb_sm f m + fb_sm (fun k => f (m + k)) n
  | 0 => rfl
  | n + 1 => by
    have h := fb_sm_split f m n
    show fb_sm f (m + n + 1) = _
    rw [fb_sm_succ, fb_sm_succ, h, Nat.add_assoc]
theorem fb_sm_zero {f : Nat → Nat} {n : Nat} (h : fb_sm f n = 0) : ∀ k, k < n → f k = 0 := fun k hk => by
  have := fb_sm_part f hk
  omega
/-- the same over whole numbers -/
def fb_si (f : Nat → Int) : Nat → Int
  | 0 => 0
  | n + 1 => fb_si f n + f n
theorem fb_si_succ (f : Nat → Int) (n : Nat) : fb_si f (n + 1) = fb_si f n + f n := rfl
theorem fb_si_cong {f g : Nat → Int} : ∀ {n : Nat}, (∀ k, k < n → f k = g k) → fb_si f n = fb_si g n
  | 0, _ => rfl
  | n + 1, h => by rw [fb_si_succ, fb_si_succ, fb_si_cong (fun k hk => h k (by omega)), h n (by omega)]
theorem fb_si_out (f : Nat → Int) (v : Int) {i n : Nat} (h : n ≤ i) : fb_si (fun k => if k = i then v else f k) n = fb_si f n :=
  fb_si_cong fun k hk => if_neg (by omega)
theorem fb_si_upd (f : Nat → Int) (v : Int) {i : Nat} : ∀ {n : Nat}, i < n → fb_si (fun k => if k = i then v else f k) n = fb_si f n - f i + v
  | 0, h => absurd h (Nat.not_lt_zero i)
  | n + 1, h => by
    rw [fb_si_succ, fb_si_succ]
    rcases Nat.lt_or_ge i n with q | q
    · have := fb_si_upd f v q
      have e : (if n = i then v else f n) = f n := if_neg (by omega)
      rw [e]
      omega
    · have e : i = n := by omega
      subst e
      rw [fb_si_out f v (Nat.le_refl _)]
      simp only [if_true]
      omega
theorem fb_si_add (f g : Nat → Int) : ∀ n, fb_si (fun k => f k + g k) n = fb_si f n + fb_si g n
  | 0 => rfl
  | n + 1 => by
    have h := fb_si_add f g n
    rw [fb_si_succ, fb_si_succ, fb_si_succ, h]
    omega
theorem fb_si_sub (f g : Nat → Int) : ∀ n, fb_si (fun k => f k - g k) n = fb_si f n - fb_si g n
  | 0 => rfl
  | n + 1 => by
    have h := fb_si_sub f g n
    rw [fb_si_succ, fb_si_succ, fb_si_succ, h]
    omega
theorem fb_si_mul (c : Int) (f : Nat → Int) : ∀ n, fb_si (fun k => c * f k) n = c * fb_si f n
  | 0 => (Int.mul_zero c).symm
  | n + 1 => by
    have h := fb_si_mul c f n
    rw [fb_si_succ, fb_si_succ, h, Int.mul_add]
theorem fb_si_split (f : Nat → Int) (m : Nat) : ∀ n, fb_si f (m + n) = fb_si f m + fb_si (fun k => f (m + k)) n
  | 0 => (Int.add_zero _).symm
  | n + 1 => by
    have h := fb_si_split f m n
    show fb_si f (m + n + 1) = _
    rw [fb_si_succ, fb_si_succ, h, Int.add_assoc]
theorem fb_si_nat (f : Nat → Nat) : ∀ n, fb_si (fun k => (f k : Int)) n = (fb_sm f n : Int)
  | 0 => rfl
  | n + 1 => by
    have h := fb_si_nat f n
    rw [fb_si_succ, fb_sm_succ, h]
    omega
theorem fb_si_bound {f : Nat → Int} {c : Int} (hc : 0 ≤ c) : ∀ {n : Nat}, (∀ k, k < n → -c ≤ f k ∧ f k ≤ c) → -(n * c) ≤ fb_si f n ∧ fb_si f n ≤ n * c
  | 0, _ => by simp [fb_si]
  | n + 1, h => by
    have h1 := fb_si_bound (n := n) (f := f) hc (fun k hk => h k (by omega))
    have h2 := h n (by omega)
    have e : ((n + 1 : Nat) : Int) * c = n * c + c := by rw [Int.natCast_add, Int.add_mul]; simp
    rw [fb_si_succ, e]
    omega
/-! ===== bits of a long that isn't negative ===== -/
theorem fb_andL (a b : Nat) : lN a &&& lN b = lN (a &&& b) := by
  apply Int64.toBitVec_inj.1
  show BitVec.ofNat 64 a &&& BitVec.ofNat 64 b = BitVec.ofNat 64 (a &&& b)
  apply BitVec.eq_of_getLsbD_eq
  intro i hi
  simp [hi]
theorem fb_orL (a b : Nat) : lN a ||| lN b = lN (a ||| b) := by
  apply Int64.toBitVec_inj.1
  show BitVec.ofNat 64 a ||| BitVec.ofNat 64 b = BitVec.ofNat 64 (a ||| b)
  apply BitVec.eq_of_getLsbD_eq
  intro i hi
  simp [hi]
theorem fb_xorL (a b : Nat) : lN a ^^^ lN b = lN (a ^^^ b) := by
  apply Int64.toBitVec_inj.1
  show BitVec.ofNat 64 a ^^^ BitVec.ofNat 64 b = BitVec.ofNat 64 (a ^^^ b)
  apply BitVec.eq_of_getLsbD_eq
  intro i hi
  simp [hi]
theorem fb_xorI (a b : Nat) : nI a ^^^ nI b = nI (a ^^^ b) := by
  apply Int32.toBitVec_inj.1
  show BitVec.ofNat 32 a ^^^ BitVec.ofNat 32 b = BitVec.ofNat 32 (a ^^^ b)
  apply BitVec.eq_of_getLsbD_eq
  intro i hi
  simp [hi]
theorem fb_maskL (n k : Nat) : lN n &&& lN (2 ^ k - 1) = lN (n % 2 ^ k) := by rw [fb_andL, Nat.and_two_pow_sub_one_eq_mod]
theorem fb_or_sumL {a k : Nat} (b : Nat) (h : a < 2 ^ k) : lN (2 ^ k * b) ||| lN a = lN (2 ^ k * b + a) := by rw [fb_orL, Nat.two_pow_add_eq_or_of_lt h]
theorem fb_lN_inj {a b : Nat} (ha : a < 2 ^ 63) (hb : b < 2 ^ 63) : lN a = lN b ↔ a = b := by
  constructor
  · intro h
    have h1 : (BitVec.ofNat 64 a).toNat = (BitVec.ofNat 64 b).toNat := congrArg (fun x : Int64 => x.toBitVec.toNat) h
    rw [BitVec.toNat_ofNat, BitVec.toNat_ofNat, Nat.mod_eq_of_lt (by omega), Nat.mod_eq_of_lt (by omega)] at h1
    exact h1
  · rintro rfl; rfl
theorem fb_bit_nat (n j : Nat) : n &&& 2 ^ j = 0 ↔ n.testBit j = false := by
  constructor
  · intro h
    have h1 : (n &&& 2 ^ j).testBit j = false := by rw [h]; simp
    rw [Nat.testBit_and] at h1
    simpa using h1
  · intro h
    apply Nat.eq_of_testBit_eq
    intro i
    rw [Nat.testBit_and]
    by_cases hi : j = i
    · subst hi; simp [h]
    · first | (simp [Nat.testBit_two_pow, hi]; done) | (simp [Nat.testBit_two_pow_of_ne hi]; done)
/-- one bit of a long -/
theorem fb_bitL {n j : Nat} (hj : j < 63) : lN n &&& lN (2 ^ j) = 0 ↔ n.testBit j = false := by
  have h2 : (2 : Nat) ^ j < 2 ^ 63 := Nat.pow_lt_pow_right (by decide) hj
  have hle : n &&& 2 ^ j ≤ 2 ^ j := Nat.and_le_right
  rw [fb_andL, ← fb_bit_nat, show (0 : Int64) = lN 0 from rfl]
  exact fb_lN_inj (by omega) (by decide)
/-- a bit set, a bit taken off -/
theorem fb_bit_set (n j i : Nat) : (n ||| 2 ^ j).testBit i = (n.testBit i || decide (i = j)) := by
  rw [Nat.testBit_or]
  by_cases h : j = i
  · subst h; simp
  · have h2 : ¬ i = j := fun e => h e.symm
    first | (simp [Nat.testBit_two_pow, h, h2]; done) | (simp [Nat.testBit_two_pow_of_ne h, h2]; done)
theorem fb_bit_flip (n j i : Nat) : (n ^^^ 2 ^ j).testBit i = (n.testBit i ^^ decide (i = j)) := by
  rw [Nat.testBit_xor]
  by_cases h : j = i
  · subst h; simp
  · have h2 : ¬ i = j := fun e => h e.symm
    first | (simp [Nat.testBit_two_pow, h, h2]; done) | (simp [Nat.testBit_two_pow_of_ne h, h2]; done)
/-! ===== a stretch of an array written over by a function ===== -/
def fb_put {α : Type} (f g : Nat → α) (a n : Nat) : Nat → α := fun k => if a ≤ k ∧ k < a + n then g (k - a) else f k
theorem fb_put_0 {α : Type} (f g : Nat → α) (a : Nat) : fb_put f g a 0 = f := funext fun k => if_neg (by omega)
theorem fb_put_in {α : Type} {f g : Nat → α} {a n k : Nat} (h1 : a ≤ k) (h2 : k < a + n) : fb_put f g a n k = g (k - a) := if_pos ⟨h1, h2⟩
theorem fb_put_out {α : Type} {f g : Nat → α} {a n k : Nat} (h : k < a ∨ a + n ≤ k) : fb_put f g a n k = f k := if_neg (by omega)
theorem fb_put_succ (f g : Nat → Int32) (a n : Nat) : upd (fb_put f g a n) (a + n) (g n) = fb_put f g a (n + 1) := by
  funext k
  by_cases h : k = a + n
  · subst h
    simp [upd, fb_put]
  · by_cases h1 : a ≤ k ∧ k < a + n
    · have h2 : a ≤ k ∧ k < a + (n + 1) := by omega
      simp only [upd, fb_put, if_neg h, if_pos h1, if_pos h2]
    · have h2 : ¬ (a ≤ k ∧ k < a + (n + 1)) := by omega
      simp only [upd, fb_put, if_neg h, if_neg h1, if_neg h2]
/-- .. from the far end down -/
theorem fb_put_down (f g : Nat → Int32) {a n m : Nat} (h : m < n) : upd (fb_put f (fun k => g (k + (m + 1))) (a + (m + 1)) (n - (m + 1))) (a + m) (g m) = fb_put f (fun k => g (k + m)) (a + m) (n - m) := by
  funext k
  by_cases h0 : k = a + m
  · subst h0
    simp only [upd, if_true]
    rw [fb_put_in (by omega) (by omega)]
    exact congrArg g (by omega)
  · simp only [upd, if_neg h0]
    by_cases h1 : a + (m + 1) ≤ k ∧ k < a + (m + 1) + (n - (m + 1))
    · rw [fb_put_in h1.1 h1.2, fb_put_in (by omega) (by omega)]
      exact congrArg g (by omega)
    · rw [fb_put_out (by omega), fb_put_out (by omega)]
theorem fb_put_cong {α : Type} {f f2 g g2 : Nat → α} {a n : Nat} (hf : ∀ k, (k < a ∨ a + n ≤ k) → f k = f2 k) (hg : ∀ k, k < n → g k = g2 k) : fb_put f g a n = fb_put f2 g2 a n := by
  funext k
  by_cases h : a ≤ k ∧ k < a + n
  · rw [fb_put_in h.1 h.2, fb_put_in h.1 h.2, hg _ (by omega)]
  · rw [fb_put_out (by omega), fb_put_out (by omega), hf _ (by omega)]
/-! ===== the least, the first, the best so far; that there is one alone ===== -/
theorem fb_first {p : Nat → Prop} [DecidablePred p] : ∀ {n : Nat}, (∃ i, i < n ∧ p i) → ∃ i, i < n ∧ p i ∧ ∀ j, j < i → ¬ p j
  | 0, h => by obtain ⟨i, hi, -⟩ := h; exact absurd hi (Nat.not_lt_zero i)
  | n + 1, h => by
    by_cases q : ∃ i, i < n ∧ p i
    · obtain ⟨i, h1, h2⟩ := fb_first q
      exact ⟨i, by omega, h2⟩
    · obtain ⟨i, h1, h2⟩ := h
      have e : i = n := by
        rcases Nat.lt_or_ge i n with r | r
        · exact absurd ⟨i, r, h2⟩ q
        · omega
      subst e
      exact ⟨i, by omega, h2, fun j hj hp => q ⟨j, hj, hp⟩⟩
theorem fb_first_one {p : Nat → Prop} {i j : Nat} (hi : p i) (hi2 : ∀ k, k < i → ¬ p k) (hj : p j) (hj2 : ∀ k, k < j → ¬ p k) : i = j := by
  rcases Nat.lt_trichotomy i j with q | q | q
  · exact absurd hi (hj2 i q)
  · exact q
  · exact absurd hj (hi2 j q)
theorem fb_last {p : Nat → Prop} [DecidablePred p] : ∀ {n : Nat}, (∃ i, i < n ∧ p i) → ∃ i, i < n ∧ p i ∧ ∀ j, i < j → j < n → ¬ p j
  | 0, h => by obtain ⟨i, hi, -⟩ := h; exact absurd hi (Nat.not_lt_zero i)
  | n + 1, h => by
    by_cases q : p n
    · exact ⟨n, by omega, q, fun j h1 h2 => by omega⟩
    · obtain ⟨i, h1, h2⟩ := h
      have hi : i < n := by
        rcases Nat.lt_or_ge i n with r | r
        · exact r
        · have e : i = n := by omega
          subst e
          exact absurd h2 q
      obtain ⟨i2, a1, a2, a3⟩ := fb_last (n := n) ⟨i, hi, h2⟩
      refine ⟨i2, by omega, a2, fun j b1 b2 => ?_⟩
      rcases Nat.lt_or_ge j n with r | r
      · exact a3 j b1 r
      · have e : j = n := by omega
        subst e
        exact q
/-- the first greatest -/
theorem fb_best (f : Nat → Int) : ∀ {n : Nat}, 0 < n → ∃ i, i < n ∧ (∀ j, j < n → f j ≤ f i) ∧ ∀ j, j < i → f j < f i
  | 0, h => absurd h (Nat.lt_irrefl 0)
  | 1, _ => ⟨0, by omega, fun j hj => by have e : j = 0 := by omega
                                         subst e; exact Int.le_refl _, fun j hj => absurd hj (Nat.not_lt_zero j)⟩
  | n + 2, _ => by
    obtain ⟨i, h1, h2, h3⟩ := fb_best f (n := n + 1) (by omega)
    by_cases q : f i < f (n + 1)
    · refine ⟨n + 1, by omega, fun j hj => ?_, fun j hj => ?_⟩
      · rcases Nat.lt_or_ge j (n + 1) with r | r
        · have := h2 j r; omega
        · have e : j = n + 1 := by omega
          subst e; exact Int.le_refl _
      · have := h2 j hj; omega
    · refine ⟨i, by omega, fun j hj => ?_, h3⟩
      rcases Nat.lt_or_ge j (n + 1) with r | r
      · exact h2 j r
      · have e : j = n + 1 := by omega
        subst e; omega
theorem fb_best_one {f : Nat → Int} {n i j : Nat} (hi : i < n) (hi2 : ∀ k, k < n → f k ≤ f i) (hi3 : ∀ k, k < i → f k < f i) (hj : j < n) (hj2 : ∀ k, k < n → f k ≤ f j) (hj3 : ∀ k, k < j → f k < f j) : i = j := by
  rcases Nat.lt_trichotomy i j with q | q | q
  · have a := hj3 i q
    have b := hi2 j hj
    omega
  · exact q
  · have a := hi3 j q
    have b := hj2 i hi
    omega
/-- the first least -/
theorem fb_low (f : Nat → Int) {n : Nat} (h : 0 < n) : ∃ i, i < n ∧ (∀ j, j < n → f i ≤ f j) ∧ ∀ j, j < i → f i < f j := by
  obtain ⟨i, h1, h2, h3⟩ := fb_best (fun k => -f k) h
  exact ⟨i, h1, fun j hj => by have := h2 j hj; omega, fun j hj => by have := h3 j hj; omega⟩
/-! ===== signed ints as whole numbers, within bounds ===== -/
theorem fb_rng (x : Int32) : -2147483648 ≤ x.toInt ∧ x.toInt < 2147483648 := by
  have h1 := Int32.le_toInt x
  have h2 := Int32.toInt_lt x
  omega
theorem fb_bmod {z : Int} (h1 : -2147483648 ≤ z) (h2 : z < 2147483648) : z.bmod (2 ^ 32) = z := by
  rw [Int.bmod_eq_of_le (by omega) (by omega)]
theorem fb_addI {x y : Int32} (h1 : -2147483648 ≤ x.toInt + y.toInt) (h2 : x.toInt + y.toInt < 2147483648) : (x + y).toInt = x.toInt + y.toInt := by
  rw [Int32.toInt_add, fb_bmod h1 h2]
theorem fb_subI {x y : Int32} (h1 : -2147483648 ≤ x.toInt - y.toInt) (h2 : x.toInt - y.toInt < 2147483648) : (x - y).toInt = x.toInt - y.toInt := by
  rw [Int32.toInt_sub, fb_bmod h1 h2]
theorem fb_mulI {x y : Int32} (h1 : -2147483648 ≤ x.toInt * y.toInt) (h2 : x.toInt * y.toInt < 2147483648) : (x * y).toInt = x.toInt * y.toInt := by
  rw [Int32.toInt_mul, fb_bmod h1 h2]
theorem fb_negI {x : Int32} (h : x.toInt ≠ -2147483648) : (-x).toInt = -x.toInt := by
  have := fb_rng x
  rw [Int32.toInt_neg, fb_bmod (by omega) (by omega)]
theorem fb_ofI {z : Int} (h1 : -2147483648 ≤ z) (h2 : z < 2147483648) : (Int32.ofInt z).toInt = z := by
  rw [Int32.toInt_ofInt, fb_bmod h1 h2]
theorem fb_asI (x : Int32) : Int32.ofInt x.toInt = x := Int32.ofInt_toInt x
theorem fb_rngL (x : Int64) : -9223372036854775808 ≤ x.toInt ∧ x.toInt < 9223372036854775808 := by
  have h1 := Int64.le_toInt x
  have h2 := Int64.toInt_lt x
  omega
theorem fb_bmodL {z : Int} (h1 : -9223372036854775808 ≤ z) (h2 : z < 9223372036854775808) : z.bmod (2 ^ 64) = z := by
  rw [Int.bmod_eq_of_le (by omega) (by omega)]
theorem fb_addL {x y : Int64} (h1 : -9223372036854775808 ≤ x.toInt + y.toInt) (h2 : x.toInt + y.toInt < 9223372036854775808) : (x + y).toInt = x.toInt + y.toInt := by
  rw [Int64.toInt_add, fb_bmodL h1 h2]
theorem fb_subL {x y : Int64} (h1 : -9223372036854775808 ≤ x.toInt - y.toInt) (h2 : x.toInt - y.toInt < 9223372036854775808) : (x - y).toInt = x.toInt - y.toInt := by
  rw [Int64.toInt_sub, fb_bmodL h1 h2]
theorem fb_mulL {x y : Int64} (h1 : -9223372036854775808 ≤ x.toInt * y.toInt) (h2 : x.toInt * y.toInt < 9223372036854775808) : (x * y).toInt = x.toInt * y.toInt := by
  rw [Int64.toInt_mul, fb_bmodL h1 h2]
/-! ===== cuts of what is narrow already ===== -/
theorem fb_byte {x : Int32} (h1 : -128 ≤ x.toInt) (h2 : x.toInt < 128) : x.toInt8.toInt32 = x := by
  apply Int32.toInt_inj.1
  rw [Int8.toInt_toInt32, Int32.toInt_toInt8, Int.bmod_eq_of_le (by omega) (by omega)]
theorem fb_short {x : Int32} (h1 : -32768 ≤ x.toInt) (h2 : x.toInt < 32768) : x.toInt16.toInt32 = x := by
  apply Int32.toInt_inj.1
  rw [Int16.toInt_toInt32, Int32.toInt_toInt16, Int.bmod_eq_of_le (by omega) (by omega)]
theorem fb_byte_rng (x : Int32) : -128 ≤ x.toInt8.toInt32.toInt ∧ x.toInt8.toInt32.toInt < 128 := by
  rw [Int8.toInt_toInt32]
  have h1 := Int8.le_toInt x.toInt8
  have h2 := Int8.toInt_lt x.toInt8
  omega
theorem fb_short_rng (x : Int32) : -32768 ≤ x.toInt16.toInt32.toInt ∧ x.toInt16.toInt32.toInt < 32768 := by
  rw [Int16.toInt_toInt32]
  have h1 := Int16.le_toInt x.toInt16
  have h2 := Int16.toInt_lt x.toInt16
  omega
theorem fb_byte_twice (x : Int32) : x.toInt8.toInt32.toInt8.toInt32 = x.toInt8.toInt32 := fb_byte (fb_byte_rng x).1 (fb_byte_rng x).2
theorem fb_short_twice (x : Int32) : x.toInt16.toInt32.toInt16.toInt32 = x.toInt16.toInt32 := fb_short (fb_short_rng x).1 (fb_short_rng x).2
theorem fb_char {n : Nat} (h : n < 65536) : (nI n).toUInt32.toUInt16.toUInt32.toInt32 = nI n := by
  apply Int32.toBitVec_inj.1
  apply BitVec.eq_of_toNat_eq
  have e1 : (nI n).toBitVec.toNat = n := by
    show (BitVec.ofNat 32 n).toNat = n
    rw [BitVec.toNat_ofNat, Nat.mod_eq_of_lt (by omega)]
  have e2 : ((nI n).toUInt32.toUInt16.toUInt32).toNat = n := by
    rw [UInt16.toNat_toUInt32, UInt32.toNat_toUInt16]
    show (nI n).toBitVec.toNat % 2 ^ 16 = n
    rw [e1, Nat.mod_eq_of_lt (by omega)]
  rw [e1]
  exact e2

/-! ===== own: shifts and masks of plain numbers ===== -/
theorem zn_sm : ∀ n, n < 32 → ((nI n &&& 31).toBitVec.smod 32).toNat = n := by decide +kernel
theorem zn_shr {a k : Nat} (ha : a < 2 ^ 31) (hk : k < 32) : nI a >>> (nI k &&& 31) = nI (a >>> k) := by
  rw [pk_shrN ha _ k (zn_sm k hk), Nat.shiftRight_eq_div_pow]
theorem zn_shl {a k : Nat} (hk : k < 32) (h : a * 2 ^ k < 2 ^ 32) : nI a <<< (nI k &&& 31) = nI (a <<< k) := by
  rw [pk_shlN _ k (zn_sm k hk) h, Nat.shiftLeft_eq]
theorem zn_shl1 {k : Nat} (hk : k < 32) : (1 : Int32) <<< (nI k &&& 31) = nI (2 ^ k) := by
  rw [show (1 : Int32) = nI 1 from rfl, zn_shl hk (by rw [Nat.one_mul]; exact Nat.pow_lt_pow_right (by omega) hk), Nat.shiftLeft_eq, Nat.one_mul]
theorem zn_bit {a k : Nat} (ha : a < 2 ^ 31) (hk : k < 32) : (nI a >>> (nI k &&& 31)) &&& 1 = nI (a.testBit k).toNat := by
  rw [zn_shr ha hk, show (1 : Int32) = nI 1 from rfl, fa_and]
  congr 1
  rw [Nat.and_one_is_mod, Nat.shiftRight_eq_div_pow, Nat.testBit_eq_decide_div_mod_eq]
  rcases Nat.mod_two_eq_zero_or_one (a / 2 ^ k) with h | h <;> simp [h]
theorem zz_andn {x y : Int32} {a b : Nat} (hx : x = nI a) (hy : y = nI b) : x &&& y = nI (a &&& b) := by rw [hx, hy, fa_and]
theorem zz_orn {x y : Int32} {a b : Nat} (hx : x = nI a) (hy : y = nI b) : x ||| y = nI (a ||| b) := by rw [hx, hy, fa_or]
theorem zz_xorn {x y : Int32} {a b : Nat} (hx : x = nI a) (hy : y = nI b) : x ^^^ y = nI (a ^^^ b) := by rw [hx, hy, fb_xorI]
theorem zz_muln {x y : Int32} {a b : Nat} (hx : x = nI a) (hy : y = nI b) : x * y = nI (a * b) := by rw [hx, hy, pk_mul]
theorem zz_subn {x y : Int32} {a b : Nat} (hx : x = nI a) (hy : y = nI b) (h : b ≤ a) : x - y = nI (a - b) := by rw [hx, hy, pk_sub h]
theorem zz_divn {x y : Int32} {a b : Nat} (hx : x = nI a) (hy : y = nI b) (ha : a < 2 ^ 31) (h0 : 0 < b) (hb : b < 2 ^ 31) : x / y = nI (a / b) := by rw [hx, hy, pk_div ha h0 hb]
theorem zz_remn {x y : Int32} {a b : Nat} (hx : x = nI a) (hy : y = nI b) (ha : a < 2 ^ 31) (h0 : 0 < b) (hb : b < 2 ^ 31) : x - x / y * y = nI (a % b) := by rw [hx, hy, pk_rem ha h0 hb]
theorem zz_shrn {x y : Int32} {a k : Nat} (hx : x = nI a) (hy : y = nI k) (ha : a < 2 ^ 31) (hk : k < 32) : x >>> (y &&& 31) = nI (a >>> k) := by rw [hx, hy, zn_shr ha hk]
theorem zz_shln {x y : Int32} {a k : Nat} (hx : x = nI a) (hy : y = nI k) (hk : k < 32) (h : a * 2 ^ k < 2 ^ 32) : x <<< (y &&& 31) = nI (a <<< k) := by rw [hx, hy, zn_shl hk h]
theorem zz_shl1n {y : Int32} {k : Nat} (hy : y = nI k) (hk : k < 32) : (1 : Int32) <<< (y &&& 31) = nI (2 ^ k) := by rw [hy, zn_shl1 hk]
theorem zn_neg {a : Nat} (h : a ≤ 4294967296) : -(nI a) = nI (4294967296 - a) := by
  have h1 : nI 4294967296 = 0 := rfl
  rw [← pk_sub h, h1, Int32.zero_sub]
theorem zn_tb {a k : Nat} (ha : a < 2 ^ 31) (hk : k < 32) : (nI a >>> (nI k &&& 31)) &&& 1 = 1 ↔ a.testBit k = true := by
  rw [zn_bit ha hk]
  cases a.testBit k <;> decide
/-- all plain numbers under 2 ^ k, by the kernel -/
def zall (p : Nat → Bool) : Nat → Nat → Bool
  | 0, b => p b
  | k + 1, b => zall p k b && zall p k (b + 2 ^ k)
theorem zall_of (p : Nat → Bool) : ∀ (k b : Nat), zall p k b = true → ∀ z, b ≤ z → z < b + 2 ^ k → p z = true
  | 0, b, h, z, h1, h2 => by
    have : z = b := by simp at h2; omega
    subst this
    exact h
  | k + 1, b, h, z, h1, h2 => by
    simp only [zall, Bool.and_eq_true] at h
    rw [Nat.pow_succ] at h2
    rcases Nat.lt_or_ge z (b + 2 ^ k) with q | q
    · exact zall_of p k b h.1 z h1 q
    · exact zall_of p k (b + 2 ^ k) h.2 z q (by omega)
theorem zall16 {p : Nat → Bool} (h : zall p 16 0 = true) {z : Nat} (hz : z < 65536) : p z = true := zall_of p 16 0 h z (Nat.zero_le _) (by rw [Nat.zero_add]; exact hz)
/-- how many bits of the lowest n are 1 -/
def zsz (z : Nat) : Nat → Nat
  | 0 => 0
  | n + 1 => zsz z n + (z.testBit n).toNat
def zpc (z : Nat) : Nat := z % 2 + z / 2 % 2 + z / 4 % 2 + z / 8 % 2 + z / 16 % 2 + z / 32 % 2 + z / 64 % 2 + z / 128 % 2 + z / 256 % 2 + z / 512 % 2 + z / 1024 % 2 + z / 2048 % 2 + z / 4096 % 2 + z / 8192 % 2 + z / 16384 % 2 + z / 32768 % 2
theorem zsz_bit (z k : Nat) : (z.testBit k).toNat = z / 2 ^ k % 2 := by
  rw [Nat.testBit_eq_decide_div_mod_eq]
  rcases Nat.mod_two_eq_zero_or_one (z / 2 ^ k) with h | h <;> simp [h]
theorem zsz_16 (z : Nat) : zsz z 16 = zpc z := by
  simp only [zsz, zsz_bit, zpc]
  simp
theorem zpc_le (z : Nat) : zpc z ≤ 16 := by
  unfold zpc
  omega
def zbc1 (z : Nat) : Nat := z - (z / 2 ^ 1 &&& 1431655765)
def zbc2 (z : Nat) : Nat := (zbc1 z &&& 858993459) + (zbc1 z / 2 ^ 2 &&& 858993459)
def zbc3 (z : Nat) : Nat := (zbc2 z + zbc2 z / 2 ^ 4) &&& 252645135
def zbc4 (z : Nat) : Nat := zbc3 z + zbc3 z / 2 ^ 8
def zbc5 (z : Nat) : Nat := zbc4 z + zbc4 z / 2 ^ 16
theorem zbc_all : zall (fun z => (zbc5 z &&& 63) == zpc z) 16 0 = true := by decide +kernel
theorem zbc_pc {z : Nat} (h : z < 65536) : zbc5 z &&& 63 = zpc z := eq_of_beq (zall16 zbc_all h)
theorem zbc1_le (z : Nat) : zbc1 z ≤ z := Nat.sub_le _ _
theorem zbc2_le (z : Nat) : zbc2 z ≤ 1717986918 := Nat.add_le_add (Nat.and_le_right (n := zbc1 z) (m := 858993459)) (Nat.and_le_right (n := zbc1 z / 2 ^ 2) (m := 858993459))
theorem zbc3_le (z : Nat) : zbc3 z ≤ 252645135 := Nat.and_le_right
theorem zbc4_le (z : Nat) : zbc4 z ≤ 505290270 := by have := zbc3_le z; unfold zbc4; omega
end
section
/-! The ground of all walks: the environment (tables, nest words, the static row), starts of contracts, calls that leave the heap alone, calls that change the callee's world, loops, cuts. -/
abbrev zA (hs : Nat) : Nat → Prop := fun q => hs ≤ q
def zFv : Nat → Value := fun j => match j with
  | 0 => .int 21845
  | 1 => .int 13107
  | 2 => .int 3855
  | _ => .int 255
def zNest : List Cond := [.fieldLinkNest "FrozenBits" 40 "FrozenBits$Facts" "deep" "I" "FrozenBits", .fieldLinkNest "FrozenBits" 50 "FrozenBits$Facts" "top" "I" "FrozenBits", .fieldLinkNest "FrozenBits" 47 "FrozenBits$Facts" "of" "I" "FrozenBits", .fieldLinkNest "FrozenBits" 83 "FrozenBits$Facts" "frozen" "I" "FrozenBits", .fieldLinkNest "FrozenBits" 131 "FrozenBits$Facts" "most" "I" "FrozenBits", .fieldLinkNest "FrozenBits" 108 "FrozenBits$Facts" "measures" "[I" "FrozenBits", .fieldLinkNest "FrozenBits" 152 "FrozenBits$Facts" "checks" "[I" "FrozenBits", .fieldLinkNest "FrozenBits" 143 "FrozenBits$FinedRows" "rows" "[I" "FrozenBits", .fieldLinkNest "FrozenBits" 146 "FrozenBits$FinedRows" "fines" "[I" "FrozenBits", .fieldLinkNest "FrozenBits" 137 "FrozenBits$FinedRows" "size" "I" "FrozenBits", .methodLinkNest "FrozenBits" 9 yX0_init "FrozenBits", .methodLinkNest "FrozenBits" 32 yX1_init "FrozenBits"]
/-- what every contract may use of the launch: class tables, nest words, the static row of the class -/
def zG (D : va_G) (tys : List (ClassId × FieldType)) (hs ta : Nat) (U : State) (H : Heap) : Prop :=
  va_K D vwCl tys U ∧ (∀ w ∈ zNest, va_Nw w U) ∧ va_Z "FrozenBits" "FIRST_OF_PAIRS" "[I" (.ref ta) (zA hs) U H ∧ va_T .int ta 4 zFv (zA hs) U H ∧ hs ≤ H.size
theorem zG.warm {D : va_G} {tys : List (ClassId × FieldType)} {hs ta : Nat} {s U : State} {H : Heap} (h : zG D tys hs ta s H) (hW : s.WarmedH U.vm) : zG D tys hs ta U H := by
  refine ⟨va_K.moved hW.alike h.1, fun w hw => ?_, va_Z.moved hW.alike h.2.2.1, va_T.moved hW.alike h.2.2.2.1, h.2.2.2.2⟩
  have h1 := h.2.1 w hw
  simp only [zNest, List.mem_cons, List.not_mem_nil, or_false] at hw
  rcases hw with rfl | rfl | rfl | rfl | rfl | rfl | rfl | rfl | rfl | rfl | rfl | rfl <;> first | exact va_Nw.warmF hW h1 | exact va_Nw.warmM hW h1
theorem zG.go {D : va_G} {tys : List (ClassId × FieldType)} {hs ta : Nat} {s U : State} {H : Heap} {locs : List Loc} {A : Nat → Prop} (h : zG D tys hs ta s s.heap) (hS : va_S A s.heap H locs) (hAz : ∀ q, A q → hs ≤ q) (hU : U.heap = H) (hW : s.WarmedH U.vm) : zG D tys hs ta U U.heap := by
  have hk : ∀ a : Nat, a < s.heap.size → ¬ zA hs a → H[a]? = s.heap[a]? := fun a h1 h2 => hS.2.1 a h1 (fun z => h2 (hAz a z))
  have h2 : zG D tys hs ta s H := ⟨h.1, h.2.1, h.2.2.1.kept hk, h.2.2.2.1.kept hk, Nat.le_trans h.2.2.2.2 hS.1⟩
  rw [hU]
  exact h2.warm hW
/-- a contract's start -/
def zPre (D : va_G) (tys : List (ClassId × FieldType)) (hs ta : Nat) (cs : va_W) : State → Prop := fun U => va_P D vwCl cs U.heap ∧ va_D (zA hs) cs ∧ zG D tys hs ta U U.heap
theorem zPre_blind {D : va_G} {tys : List (ClassId × FieldType)} {hs ta : Nat} {cs : va_W} {av : List Value} : FrameBlind (va_Pc av (zPre D tys hs ta cs)) := by
  intro a U g mk q
  obtain ⟨q0, q1, q2, q3, q4, q5, q6, q7⟩ := q
  have hv : (U.calling g mk a).vm = U.vm := rfl
  exact ⟨q0, q1, q2, va_K.moved (u := U) (U := U.calling g mk a) (Vm.Alike.refl U.vm) q3, fun w hw => va_Nw.same (by revert w; decide) hv.symm (q4 w hw), va_Z.moved (u := U) (U := U.calling g mk a) (Vm.Alike.refl U.vm) q5, va_T.moved (u := U) (U := U.calling g mk a) (Vm.Alike.refl U.vm) q6, q7⟩
theorem zPre_blindM {D : va_G} {tys : List (ClassId × FieldType)} {hs ta sz : Nat} {cs : va_W} {av : List Value} : FrameBlind (va_Pc av (fun U => U.heap.size = sz ∧ zPre D tys hs ta cs U)) := by
  intro a U g mk q
  obtain ⟨q0, q1, q2⟩ := q
  have h := zPre_blind a U g mk (⟨q0, q2⟩ : va_Pc av (zPre D tys hs ta cs) a U)
  exact ⟨h.1, q1, h.2⟩
/-- cells of the same addresses stand as apart -/
theorem zD_same {A : Nat → Prop} {ws ws' : va_W} (h : va_D A ws) (hs : ws'.map Prod.fst = ws.map Prod.fst) : va_D A ws' := by
  have key : ∀ (k : Nat) (q : Nat × va_E), ws'[k]? = some q → ∃ e, ws[k]? = some (q.1, e) := by
    intro k q hq
    have h1 : (ws'.map Prod.fst)[k]? = some q.1 := by rw [List.getElem?_map, hq]; rfl
    rw [hs, List.getElem?_map] at h1
    cases hk : ws[k]? with
    | none => rw [hk] at h1; cases h1
    | some z => rw [hk] at h1; exact ⟨z.2, by have := Option.some.inj h1; rw [← this]⟩
  refine ⟨fun i j x y hx hy hxy => ?_, fun k q hq => ?_⟩
  · obtain ⟨e1, h1⟩ := key i x hx
    obtain ⟨e2, h2⟩ := key j y hy
    exact h.1 i j _ _ h1 h2 hxy
  · obtain ⟨e1, h1⟩ := key k q hq
    exact h.2 k (q.1, e1) h1
theorem zz_cut {P : JFrame → Prop} {g : JFrame} (g2 : JFrame) (h1 : P g2 → P g) (h2 : P g2) : P g := h1 h2
theorem zz_forJ {P : JFrame → Prop} {m : MethodId} {pc nL : Nat} (N : Nat) (lv : Nat → List (Nat × Value)) {J : Nat → Prop} (hexit : J N → ∀ ls, lv_has ls nL (lv N) → P (F0 m pc ls [])) (hstep : ∀ i, i < N → J i → (J (i + 1) → ∀ ls, lv_has ls nL (lv (i + 1)) → P (F0 m pc ls [])) → ∀ ls, lv_has ls nL (lv i) → P (F0 m pc ls [])) (hJ : J 0) {ls : Array Slot} (h0 : lv_has ls nL (lv 0)) : P (F0 m pc ls []) := by
  have key : ∀ n i, i + n = N → J i → ∀ ls, lv_has ls nL (lv i) → P (F0 m pc ls []) := by
    intro n
    induction n with
    | zero => intro i hi hj ls hl; have : i = N := by omega
              subst this; exact hexit hj ls hl
    | succ n ih => intro i hi hj ls hl; exact hstep i (by omega) hj (fun hj ls hl => ih (i + 1) (by omega) hj ls hl) ls hl
  exact key N 0 (by omega) hJ ls h0
theorem zz_forHJ {P : Heap → List Loc → JFrame → Prop} {m : MethodId} {pc nL : Nat} (N : Nat) (lv : Nat → List (Nat × Value)) (I : Nat → Heap → List Loc → Prop) {J : Nat → Prop} (hexit : ∀ H locs ls, J N → I N H locs → lv_has ls nL (lv N) → P H locs (F0 m pc ls [])) (hstep : ∀ i, i < N → J i → (J (i + 1) → ∀ H locs ls, I (i + 1) H locs → lv_has ls nL (lv (i + 1)) → P H locs (F0 m pc ls [])) → ∀ H locs ls, I i H locs → lv_has ls nL (lv i) → P H locs (F0 m pc ls [])) {H : Heap} {locs : List Loc} {ls : Array Slot} (hI : I 0 H locs) (hJ : J 0) (h0 : lv_has ls nL (lv 0)) : P H locs (F0 m pc ls []) := by
  have key : ∀ n i, i + n = N → J i → ∀ H locs ls, I i H locs → lv_has ls nL (lv i) → P H locs (F0 m pc ls []) := by
    intro n
    induction n with
    | zero => intro i hi hj H locs ls h1 hl; have : i = N := by omega
              subst this; exact hexit H locs ls hj h1 hl
    | succ n ih => intro i hi hj H locs ls h1 hl; exact hstep i (by omega) hj (fun hj H locs ls h1 hl => ih (i + 1) (by omega) hj H locs ls h1 hl) H locs ls h1 hl
  exact key N 0 (by omega) hJ H locs ls hI h0
theorem zP_ht {D : va_G} {ws : va_W} {H : Heap} {t : State} (ht : t.heap = H) (h : va_P D vwCl ws H) : va_P D vwCl ws t.heap := by rw [ht]; exact h
theorem zP_nil {D : va_G} {H : Heap} : va_P D vwCl [] H := fun k q h => by simp at h
theorem zD_nil {A : Nat → Prop} : va_D A [] := ⟨fun i j p q h => by simp at h, fun k q h => by simp at h⟩
section ZB
variable {p : Program} {l : Launch} {e : Env} {R : Room} {s : State} {m : MethodId} {args : Array Value} {below : List Frame} {meth : Method} {c : Code} {H : Heap} {locs : List Loc} {cells slots : Nat} {Q : State → Prop}
variable {pc : Nat} {ls : Array Slot} {rest st0 : List Value} {cc bytes : ByteArray} {nL maxL index n : Nat} {own C : String} {y : MethodName} {ret : Option FieldType} {ws Ts : List Cond} {rm : Room} {b : Addr} {As : List Value}
variable {D : va_G} {tys : List (ClassId × FieldType)} {hs ta : Nat} {cs : va_W} {A : Nat → Prop}
/-- the top of the stack, under another name -/
theorem zz_topi {x : Int32} (y : Int32) (h : x = y) (k : W p l e R s m args below meth c H locs cells slots Q (F0 m pc ls (.int y :: rest))) : W p l e R s m args below meth c H locs cells slots Q (F0 m pc ls (.int x :: rest)) := h ▸ k
theorem zz_topl {x : Int64} (y : Int64) (h : x = y) (k : W p l e R s m args below meth c H locs cells slots Q (F0 m pc ls (.long y :: rest))) : W p l e R s m args below meth c H locs cells slots Q (F0 m pc ls (.long x :: rest)) := h ▸ k
/-- calls that leave the heap as it is -/
theorem zz_cVi {post : Int32 → Prop} (S : CallFix p m c cc nL s args Ts own) (hM : Met l y ws rm (va_Pc (.ref b :: As) (zPre D tys hs ta cs)) (vp_Si post) 0 0 (fun _ => False)) (cw : CallW R s args own C index y bytes maxL ret ws rm 0 0 n) (hrec : ∃ cell : Cell, H[b]? = some cell ∧ cell.vm.isStatics = false ∧ s.vm.findClass C = some cell.cls) (hP : va_P D vwCl cs H) (hD : va_D A cs) (hG : zG D tys hs ta s s.heap) (hS : va_S A s.heap H locs) (hAz : ∀ q, A q → hs ≤ q) (hn : As.length = n) (hsz : ls.size = nL) (hst : st0 = As.reverse ++ .ref b :: rest) (hW : (rest.map fun v => v.category).sum ≤ 8) (hc : cells ≤ R.cells ∧ slots ≤ R.slots) (hdg : decode cc pc = .ok (.invokevirtual index, 3))
    (kk : ∀ r : Int32, post r → W p l e R s m args below meth c H locs cells slots Q (F0 m (pc + 3) ls (.int r :: rest))) : W p l e R s m args below meth c H locs cells slots Q (F0 m pc ls st0) :=
  vp_callSi (W.runV (As := As) (rest := rest) (b := b) S hM cw ⟨zPre_blind, hrec, fun U hU hW => ⟨rfl, by rw [hU]; exact hP, hD.weaken (fun _ _ _ h => hAz _ h), hG.go hS hAz hU hW⟩⟩ rfl hn hsz hst (lv_room hW) hdg ⟨hc.1, hc.2⟩) kk
theorem zz_cVl {post : Int64 → Prop} (S : CallFix p m c cc nL s args Ts own) (hM : Met l y ws rm (va_Pc (.ref b :: As) (zPre D tys hs ta cs)) (vp_Sl post) 0 0 (fun _ => False)) (cw : CallW R s args own C index y bytes maxL ret ws rm 0 0 n) (hrec : ∃ cell : Cell, H[b]? = some cell ∧ cell.vm.isStatics = false ∧ s.vm.findClass C = some cell.cls) (hP : va_P D vwCl cs H) (hD : va_D A cs) (hG : zG D tys hs ta s s.heap) (hS : va_S A s.heap H locs) (hAz : ∀ q, A q → hs ≤ q) (hn : As.length = n) (hsz : ls.size = nL) (hst : st0 = As.reverse ++ .ref b :: rest) (hW : (rest.map fun v => v.category).sum ≤ 8) (hc : cells ≤ R.cells ∧ slots ≤ R.slots) (hdg : decode cc pc = .ok (.invokevirtual index, 3))
    (kk : ∀ r : Int64, post r → W p l e R s m args below meth c H locs cells slots Q (F0 m (pc + 3) ls (.long r :: rest))) : W p l e R s m args below meth c H locs cells slots Q (F0 m pc ls st0) :=
  vp_callSl (W.runV (As := As) (rest := rest) (b := b) S hM cw ⟨zPre_blind, hrec, fun U hU hW => ⟨rfl, by rw [hU]; exact hP, hD.weaken (fun _ _ _ h => hAz _ h), hG.go hS hAz hU hW⟩⟩ rfl hn hsz hst (lv_room hW) hdg ⟨hc.1, hc.2⟩) kk
theorem zz_cSi {post : Int32 → Prop} (S : CallFix p m c cc nL s args Ts own) (hM : Met l y ws rm (va_Pc As (zPre D tys hs ta cs)) (vp_Si post) 0 0 (fun _ => False)) (cw : CallB R s args own index y bytes maxL ret ws rm 0 0 n ∧ (Cond.static y).before args s = true) (hP : va_P D vwCl cs H) (hD : va_D A cs) (hG : zG D tys hs ta s s.heap) (hS : va_S A s.heap H locs) (hAz : ∀ q, A q → hs ≤ q) (hn : As.length = n) (hsz : ls.size = nL) (hst : st0 = As.reverse ++ rest) (hW : (rest.map fun v => v.category).sum ≤ 8) (hc : cells ≤ R.cells ∧ slots ≤ R.slots) (hdg : decode cc pc = .ok (.invokestatic index, 3))
    (kk : ∀ r : Int32, post r → W p l e R s m args below meth c H locs cells slots Q (F0 m (pc + 3) ls (.int r :: rest))) : W p l e R s m args below meth c H locs cells slots Q (F0 m pc ls st0) :=
  vp_callSi (W.runS (As := As) (rest := rest) S hM cw ⟨zPre_blind, fun U hU hW => ⟨rfl, by rw [hU]; exact hP, hD.weaken (fun _ _ _ h => hAz _ h), hG.go hS hAz hU hW⟩⟩ rfl hn hsz hst (lv_room hW) hdg ⟨hc.1, hc.2⟩) kk
theorem zz_cSl {post : Int64 → Prop} (S : CallFix p m c cc nL s args Ts own) (hM : Met l y ws rm (va_Pc As (zPre D tys hs ta cs)) (vp_Sl post) 0 0 (fun _ => False)) (cw : CallB R s args own index y bytes maxL ret ws rm 0 0 n ∧ (Cond.static y).before args s = true) (hP : va_P D vwCl cs H) (hD : va_D A cs) (hG : zG D tys hs ta s s.heap) (hS : va_S A s.heap H locs) (hAz : ∀ q, A q → hs ≤ q) (hn : As.length = n) (hsz : ls.size = nL) (hst : st0 = As.reverse ++ rest) (hW : (rest.map fun v => v.category).sum ≤ 8) (hc : cells ≤ R.cells ∧ slots ≤ R.slots) (hdg : decode cc pc = .ok (.invokestatic index, 3))
    (kk : ∀ r : Int64, post r → W p l e R s m args below meth c H locs cells slots Q (F0 m (pc + 3) ls (.long r :: rest))) : W p l e R s m args below meth c H locs cells slots Q (F0 m pc ls st0) :=
  vp_callSl (W.runS (As := As) (rest := rest) S hM cw ⟨zPre_blind, fun U hU hW => ⟨rfl, by rw [hU]; exact hP, hD.weaken (fun _ _ _ h => hAz _ h), hG.go hS hAz hU hW⟩⟩ rfl hn hsz hst (lv_room hW) hdg ⟨hc.1, hc.2⟩) kk
/-- calls that change the callee's world, which is the caller's whole world -/
theorem zA_of (hD : va_D A cs) (hA : ∀ q, s.heap.size ≤ q → A q) (hS : va_S A s.heap H locs) : ∀ q, va_A cs H.size q → A q := by
  intro q h
  rcases h with ⟨k, e, h⟩ | h
  · exact hD.2 k _ h
  · exact hA q (Nat.le_trans hS.1 h)
theorem zz_mVi {T : Type} {post : Int32 → T → Prop} {ct : T → va_W} (S : CallFix p m c cc nL s args Ts own) (hM : Met l y ws rm (va_Pc (.ref b :: As) (fun U => U.heap.size = H.size ∧ zPre D tys hs ta cs U)) (va_Qi post (fun u t => va_P D vwCl (ct u) t.heap) (va_A cs H.size)) 0 0 (va_A cs H.size)) (hct : ∀ u, (ct u).map Prod.fst = cs.map Prod.fst) (cw : CallW R s args own C index y bytes maxL ret ws rm 0 0 n) (hrec : ∃ cell : Cell, H[b]? = some cell ∧ cell.vm.isStatics = false ∧ s.vm.findClass C = some cell.cls) (hP : va_P D vwCl cs H) (hD : va_D A cs) (hG : zG D tys hs ta s s.heap) (hS : va_S A s.heap H locs) (hA : ∀ q, s.heap.size ≤ q → A q) (hAz : ∀ q, A q → hs ≤ q) (hn : As.length = n) (hsz : ls.size = nL) (hst : st0 = As.reverse ++ .ref b :: rest) (hW : (rest.map fun v => v.category).sum ≤ 8) (hc : cells ≤ R.cells ∧ slots ≤ R.slots) (hdg : decode cc pc = .ok (.invokevirtual index, 3))
    (kk : ∀ (r : Int32) (u : T) (H1 : Heap) (locs1 : List Loc), post r u → va_P D vwCl (ct u) H1 → va_D A (ct u) → va_S A s.heap H1 locs1 → W p l e R s m args below meth c H1 locs1 cells slots Q (F0 m (pc + 3) ls (.int r :: rest))) : W p l e R s m args below meth c H locs cells slots Q (F0 m pc ls st0) := by
  have hF := zA_of hD hA hS
  refine va_calli (va_runV (As := As) (rest := rest) (b := b) S hM cw ⟨zPre_blindM, hrec, fun U hU hW => ⟨rfl, by rw [hU], by rw [hU]; exact hP, hD.weaken (fun _ _ _ h => hAz _ h), hG.go hS hAz hU hW⟩⟩ rfl hn hsz hst (lv_room hW) hdg ⟨hc.1, hc.2⟩) hS (fun q _ h => hF q h) hF (fun r u t H1 locs1 ht hvm hw hB hz1 hk1 hS1 => ?_)
  exact kk r u H1 locs1 hw (by rw [← ht]; exact hB) (zD_same hD (hct u)) hS1
theorem zz_mVv {T : Type} {post : T → Prop} {ct : T → va_W} (S : CallFix p m c cc nL s args Ts own) (hM : Met l y ws rm (va_Pc (.ref b :: As) (fun U => U.heap.size = H.size ∧ zPre D tys hs ta cs U)) (va_Qv post (fun u t => va_P D vwCl (ct u) t.heap) (va_A cs H.size)) 0 0 (va_A cs H.size)) (hct : ∀ u, (ct u).map Prod.fst = cs.map Prod.fst) (cw : CallW R s args own C index y bytes maxL ret ws rm 0 0 n) (hrec : ∃ cell : Cell, H[b]? = some cell ∧ cell.vm.isStatics = false ∧ s.vm.findClass C = some cell.cls) (hP : va_P D vwCl cs H) (hD : va_D A cs) (hG : zG D tys hs ta s s.heap) (hS : va_S A s.heap H locs) (hA : ∀ q, s.heap.size ≤ q → A q) (hAz : ∀ q, A q → hs ≤ q) (hn : As.length = n) (hsz : ls.size = nL) (hst : st0 = As.reverse ++ .ref b :: rest) (hW : (rest.map fun v => v.category).sum ≤ 8) (hc : cells ≤ R.cells ∧ slots ≤ R.slots) (hdg : decode cc pc = .ok (.invokevirtual index, 3))
    (kk : ∀ (u : T) (H1 : Heap) (locs1 : List Loc), post u → va_P D vwCl (ct u) H1 → va_D A (ct u) → va_S A s.heap H1 locs1 → W p l e R s m args below meth c H1 locs1 cells slots Q (F0 m (pc + 3) ls rest)) : W p l e R s m args below meth c H locs cells slots Q (F0 m pc ls st0) := by
  have hF := zA_of hD hA hS
  refine va_callv (va_runV (As := As) (rest := rest) (b := b) S hM cw ⟨zPre_blindM, hrec, fun U hU hW => ⟨rfl, by rw [hU], by rw [hU]; exact hP, hD.weaken (fun _ _ _ h => hAz _ h), hG.go hS hAz hU hW⟩⟩ rfl hn hsz hst (lv_room hW) hdg ⟨hc.1, hc.2⟩) hS (fun q _ h => hF q h) hF (fun u t H1 locs1 ht hvm hw hB hz1 hk1 hS1 => ?_)
  exact kk u H1 locs1 hw (by rw [← ht]; exact hB) (zD_same hD (hct u)) hS1
/-- an element of an int row, by a plain number -/
theorem zz_iald {a i N : Nat} {cA : ClassId} {f : Nat → Int32} {x : Int32} (hexec : p.tables.exec = Jvm.exec) (hb : c.code = cc) (hK : va_K D vwCl tys s) (hP : va_P D vwCl cs H) (q0 t0 : Nat) (ha : cs[q0]? = some (a, .inl (cA, N, .inl f))) (ht : tys[t0]? = some (cA, .int)) (hx : x = nI i) (hi : i < N) (hN : N < 2 ^ 31) (hdg : decode cc pc = .ok (.iaload, 1))
    (kk : W p l e R s m args below meth c H locs cells slots Q (F0 m (pc + 1) ls (.int (f i) :: rest))) : W p l e R s m args below meth c H locs cells slots Q (F0 m pc ls (.int x :: .ref a :: rest)) := by
  subst hx
  refine va_iald hexec hb hK hP q0 t0 ha ht (vp_in_nI hi hN) hdg ?_
  rw [nI_clamp (Nat.lt_trans hi hN)]
  exact kk
theorem zz_iast {a i N : Nat} {cA : ClassId} {f : Nat → Int32} {x v : Int32} (hexec : p.tables.exec = Jvm.exec) (hb : c.code = cc) (hK : va_K D vwCl tys s) (hP : va_P D vwCl cs H) (hD : va_D A cs) (hS : va_S A s.heap H locs) (q0 t0 : Nat) (ha : cs[q0]? = some (a, .inl (cA, N, .inl f))) (ht : tys[t0]? = some (cA, .int)) (hx : x = nI i) (hi : i < N) (hN : N < 2 ^ 31) (hdg : decode cc pc = .ok (.iastore, 1))
    (kk : ∀ (H1 : Heap) (locs1 : List Loc), va_P D vwCl (cs.set q0 (a, .inl (cA, N, .inl (upd f i v)))) H1 → va_D A (cs.set q0 (a, .inl (cA, N, .inl (upd f i v)))) → va_S A s.heap H1 locs1 → W p l e R s m args below meth c H1 locs1 cells slots Q (F0 m (pc + 1) ls rest)) : W p l e R s m args below meth c H locs cells slots Q (F0 m pc ls (.int v :: .int x :: .ref a :: rest)) := by
  subst hx
  refine va_iast hexec hb hK hP hD hS q0 t0 ha ht (vp_in_nI hi hN) hdg (fun H1 locs1 h1 h2 h3 => ?_)
  rw [nI_clamp (Nat.lt_trans hi hN)] at h1 h2
  exact kk H1 locs1 h1 h2 h3
def zQr (post : Nat → Prop) : Array Value → State → Outcome → State → Prop := fun _ st o t => ∃ r : Nat, o = .returned (some (.ref r)) ∧ post r ∧ t.heap = st.heap
theorem zz_callSr {post : Nat → Prop} {a : Array Value} {st0 : List Value} (hr : CallRun p l e R s m args below meth c H locs cells slots 0 0 (F0 m pc ls st0) rest (zQr post a) (fun _ => False))
    (kk : ∀ r : Nat, post r → W p l e R s m args below meth c H locs cells slots Q (F0 m (pc + 3) ls (.ref r :: rest))) : W p l e R s m args below meth c H locs cells slots Q (F0 m pc ls st0) := by
  intro T hT X
  obtain ⟨v, st₀, t, T', L, h0, X', hL, e1, ⟨r, hv, hp, hh⟩, st⟩ := hr T hT X
  cases hv
  obtain ⟨t2, a1, b1⟩ := kk r hp T' (by rw [e1, hh, h0]) (Stand.forget X' (fun q h => (hL q h).elim))
  exact ⟨t2, st t2 a1, b1⟩
theorem zz_cVr {post : Nat → Prop} (S : CallFix p m c cc nL s args Ts own) (hM : Met l y ws rm (va_Pc (.ref b :: As) (zPre D tys hs ta cs)) (zQr post) 0 0 (fun _ => False)) (cw : CallW R s args own C index y bytes maxL ret ws rm 0 0 n) (hrec : ∃ cell : Cell, H[b]? = some cell ∧ cell.vm.isStatics = false ∧ s.vm.findClass C = some cell.cls) (hP : va_P D vwCl cs H) (hD : va_D A cs) (hG : zG D tys hs ta s s.heap) (hS : va_S A s.heap H locs) (hAz : ∀ q, A q → hs ≤ q) (hn : As.length = n) (hsz : ls.size = nL) (hst : st0 = As.reverse ++ .ref b :: rest) (hW : (rest.map fun v => v.category).sum ≤ 8) (hc : cells ≤ R.cells ∧ slots ≤ R.slots) (hdg : decode cc pc = .ok (.invokevirtual index, 3))
    (kk : ∀ r : Nat, post r → W p l e R s m args below meth c H locs cells slots Q (F0 m (pc + 3) ls (.ref r :: rest))) : W p l e R s m args below meth c H locs cells slots Q (F0 m pc ls st0) :=
  zz_callSr (W.runV (As := As) (rest := rest) (b := b) S hM cw ⟨zPre_blind, hrec, fun U hU hW => ⟨rfl, by rw [hU]; exact hP, hD.weaken (fun _ _ _ h => hAz _ h), hG.go hS hAz hU hW⟩⟩ rfl hn hsz hst (lv_room hW) hdg ⟨hc.1, hc.2⟩) kk
/-- calls of methods that look at no heap -/
theorem zPc_blind {av : List Value} : FrameBlind (va_Pc av (fun _ => True)) := fun _ _ _ _ q => q
theorem zz_pSi {post : Int32 → Prop} (S : CallFix p m c cc nL s args Ts own) (hM : Met l y ws rm (va_Pc As (fun _ => True)) (vp_Si post) 0 0 (fun _ => False)) (cw : CallB R s args own index y bytes maxL ret ws rm 0 0 n ∧ (Cond.static y).before args s = true) (hn : As.length = n) (hsz : ls.size = nL) (hst : st0 = As.reverse ++ rest) (hW : (rest.map fun v => v.category).sum ≤ 8) (hc : cells ≤ R.cells ∧ slots ≤ R.slots) (hdg : decode cc pc = .ok (.invokestatic index, 3))
    (kk : ∀ r : Int32, post r → W p l e R s m args below meth c H locs cells slots Q (F0 m (pc + 3) ls (.int r :: rest))) : W p l e R s m args below meth c H locs cells slots Q (F0 m pc ls st0) :=
  vp_callSi (W.runS (As := As) (rest := rest) S hM cw ⟨zPc_blind, fun U hU hW => ⟨rfl, trivial⟩⟩ rfl hn hsz hst (lv_room hW) hdg ⟨hc.1, hc.2⟩) kk
theorem zz_pSl {post : Int64 → Prop} (S : CallFix p m c cc nL s args Ts own) (hM : Met l y ws rm (va_Pc As (fun _ => True)) (vp_Sl post) 0 0 (fun _ => False)) (cw : CallB R s args own index y bytes maxL ret ws rm 0 0 n ∧ (Cond.static y).before args s = true) (hn : As.length = n) (hsz : ls.size = nL) (hst : st0 = As.reverse ++ rest) (hW : (rest.map fun v => v.category).sum ≤ 8) (hc : cells ≤ R.cells ∧ slots ≤ R.slots) (hdg : decode cc pc = .ok (.invokestatic index, 3))
    (kk : ∀ r : Int64, post r → W p l e R s m args below meth c H locs cells slots Q (F0 m (pc + 3) ls (.long r :: rest))) : W p l e R s m args below meth c H locs cells slots Q (F0 m pc ls st0) :=
  vp_callSl (W.runS (As := As) (rest := rest) S hM cw ⟨zPc_blind, fun U hU hW => ⟨rfl, trivial⟩⟩ rfl hn hsz hst (lv_room hW) hdg ⟨hc.1, hc.2⟩) kk
/-- a call that changes a part of the caller's world -/
theorem zz_nVv {T : Type} {post : T → Prop} {cw0 : va_W} {ct cn : T → va_W} (S : CallFix p m c cc nL s args Ts own) (hM : Met l y ws rm (va_Pc (.ref b :: As) (fun U => U.heap.size = H.size ∧ zPre D tys hs ta cs U)) (va_Qv post (fun u t => va_P D vwCl (ct u) t.heap) (va_A cs H.size)) 0 0 (va_A cs H.size)) (hct : ∀ u, (ct u).map Prod.fst = cs.map Prod.fst) (cw : CallW R s args own C index y bytes maxL ret ws rm 0 0 n) (hrec : ∃ cell : Cell, H[b]? = some cell ∧ cell.vm.isStatics = false ∧ s.vm.findClass C = some cell.cls) (hP : va_P D vwCl cw0 H) (hD : va_D A cw0) (isC isR perm : List Nat) (hC : isC.map (fun i => cw0[i]?) = cs.map some) (hndC : va_nd isC = true) (hndR : va_nd isR = true) (hdis : ∀ i ∈ isR, i ∉ isC) {nW : Nat} (hlen : cw0.length = nW) (hin0 : ∀ i ∈ isR, i < nW) (hR : ∀ u : T, (isR.filterMap (fun i => cw0[i]?) ++ ct u).length = perm.length) (hcn : ∀ u, perm.filterMap (fun i => (isR.filterMap (fun i => cw0[i]?) ++ ct u)[i]?) = cn u) (hfst : ∀ u, (cn u).map Prod.fst = cw0.map Prod.fst) (hG : zG D tys hs ta s s.heap) (hS : va_S A s.heap H locs) (hA : ∀ q, s.heap.size ≤ q → A q) (hAz : ∀ q, A q → hs ≤ q) (hn : As.length = n) (hsz : ls.size = nL) (hst : st0 = As.reverse ++ .ref b :: rest) (hW : (rest.map fun v => v.category).sum ≤ 8) (hc : cells ≤ R.cells ∧ slots ≤ R.slots) (hdg : decode cc pc = .ok (.invokevirtual index, 3))
    (kk : ∀ (u : T) (H1 : Heap) (locs1 : List Loc), post u → va_P D vwCl (cn u) H1 → va_D A (cn u) → va_S A s.heap H1 locs1 → W p l e R s m args below meth c H1 locs1 cells slots Q (F0 m (pc + 3) ls rest)) : W p l e R s m args below meth c H locs cells slots Q (F0 m pc ls st0) := by
  have hin : ∀ i ∈ isR, i < cw0.length := fun i h => by rw [hlen]; exact hin0 i h
  clear hin0
  have hDc : va_D A cs := hD.sub isC hndC hC
  have hPc : va_P D vwCl cs H := by
    refine hP.sub isC ?_
    have h2 : isC.filterMap (fun i => cw0[i]?) = (isC.map (fun i => cw0[i]?)).filterMap id := by rw [List.filterMap_map]; rfl
    rw [h2, hC, List.filterMap_map]
    simp
  have hF := zA_of hDc hA hS
  refine va_callv (va_runV (As := As) (rest := rest) (b := b) S hM cw ⟨zPre_blindM, hrec, fun U hU hW => ⟨rfl, by rw [hU], by rw [hU]; exact hPc, hDc.weaken (fun _ _ _ h => hAz _ h), hG.go hS hAz hU hW⟩⟩ rfl hn hsz hst (lv_room hW) hdg ⟨hc.1, hc.2⟩) hS (fun q _ h => hF q h) hF (fun u t H1 locs1 ht hvm hw hB hz1 hk1 hS1 => ?_)
  have hRm : isR.map (fun i => cw0[i]?) = (isR.filterMap (fun i => cw0[i]?)).map some := by
    clear hdis hndR hR hcn
    induction isR with
    | nil => rfl
    | cons i r ih =>
      have h1 := hin i List.mem_cons_self
      have h2 : cw0[i]? = some cw0[i] := List.getElem?_eq_getElem h1
      simp only [List.map_cons, List.filterMap_cons, h2]
      rw [ih (fun j hj => hin j (List.mem_cons_of_mem _ hj))]
  obtain ⟨hP2, hD2⟩ := va_join (wr := isR.filterMap (fun i => cw0[i]?)) (w1 := ct u) hP hD isC isR hC hRm hndR hdis hk1 hF (by rw [← ht]; exact hB) (zD_same hDc.self (hct u))
  exact kk u H1 locs1 hw (hP2.sub perm (hcn u)) (zD_same hD (hfst u)) hS1
/-- a call that changes a part of the caller's world -/
theorem zz_nVi {T : Type} {post : Int32 → T → Prop} {cw0 : va_W} {ct cn : T → va_W} (S : CallFix p m c cc nL s args Ts own) (hM : Met l y ws rm (va_Pc (.ref b :: As) (fun U => U.heap.size = H.size ∧ zPre D tys hs ta cs U)) (va_Qi post (fun u t => va_P D vwCl (ct u) t.heap) (va_A cs H.size)) 0 0 (va_A cs H.size)) (hct : ∀ u, (ct u).map Prod.fst = cs.map Prod.fst) (cw : CallW R s args own C index y bytes maxL ret ws rm 0 0 n) (hrec : ∃ cell : Cell, H[b]? = some cell ∧ cell.vm.isStatics = false ∧ s.vm.findClass C = some cell.cls) (hP : va_P D vwCl cw0 H) (hD : va_D A cw0) (isC isR perm : List Nat) (hC : isC.map (fun i => cw0[i]?) = cs.map some) (hndC : va_nd isC = true) (hndR : va_nd isR = true) (hdis : ∀ i ∈ isR, i ∉ isC) {nW : Nat} (hlen : cw0.length = nW) (hin0 : ∀ i ∈ isR, i < nW) (hR : ∀ u : T, (isR.filterMap (fun i => cw0[i]?) ++ ct u).length = perm.length) (hcn : ∀ u, perm.filterMap (fun i => (isR.filterMap (fun i => cw0[i]?) ++ ct u)[i]?) = cn u) (hfst : ∀ u, (cn u).map Prod.fst = cw0.map Prod.fst) (hG : zG D tys hs ta s s.heap) (hS : va_S A s.heap H locs) (hA : ∀ q, s.heap.size ≤ q → A q) (hAz : ∀ q, A q → hs ≤ q) (hn : As.length = n) (hsz : ls.size = nL) (hst : st0 = As.reverse ++ .ref b :: rest) (hW : (rest.map fun v => v.category).sum ≤ 8) (hc : cells ≤ R.cells ∧ slots ≤ R.slots) (hdg : decode cc pc = .ok (.invokevirtual index, 3))
    (kk : ∀ (r : Int32) (u : T) (H1 : Heap) (locs1 : List Loc), post r u → va_P D vwCl (cn u) H1 → va_D A (cn u) → va_S A s.heap H1 locs1 → W p l e R s m args below meth c H1 locs1 cells slots Q (F0 m (pc + 3) ls (.int r :: rest))) : W p l e R s m args below meth c H locs cells slots Q (F0 m pc ls st0) := by
  have hin : ∀ i ∈ isR, i < cw0.length := fun i h => by rw [hlen]; exact hin0 i h
  clear hin0
  have hDc : va_D A cs := hD.sub isC hndC hC
  have hPc : va_P D vwCl cs H := by
    refine hP.sub isC ?_
    have h2 : isC.filterMap (fun i => cw0[i]?) = (isC.map (fun i => cw0[i]?)).filterMap id := by rw [List.filterMap_map]; rfl
    rw [h2, hC, List.filterMap_map]
    simp
  have hF := zA_of hDc hA hS
  refine va_calli (va_runV (As := As) (rest := rest) (b := b) S hM cw ⟨zPre_blindM, hrec, fun U hU hW => ⟨rfl, by rw [hU], by rw [hU]; exact hPc, hDc.weaken (fun _ _ _ h => hAz _ h), hG.go hS hAz hU hW⟩⟩ rfl hn hsz hst (lv_room hW) hdg ⟨hc.1, hc.2⟩) hS (fun q _ h => hF q h) hF (fun r u t H1 locs1 ht hvm hw hB hz1 hk1 hS1 => ?_)
  have hRm : isR.map (fun i => cw0[i]?) = (isR.filterMap (fun i => cw0[i]?)).map some := by
    clear hdis hndR hR hcn
    induction isR with
    | nil => rfl
    | cons i r ih =>
      have h1 := hin i List.mem_cons_self
      have h2 : cw0[i]? = some cw0[i] := List.getElem?_eq_getElem h1
      simp only [List.map_cons, List.filterMap_cons, h2]
      rw [ih (fun j hj => hin j (List.mem_cons_of_mem _ hj))]
  obtain ⟨hP2, hD2⟩ := va_join (wr := isR.filterMap (fun i => cw0[i]?)) (w1 := ct u) hP hD isC isR hC hRm hndR hdis hk1 hF (by rw [← ht]; exact hB) (zD_same hDc.self (hct u))
  exact kk r u H1 locs1 hw (hP2.sub perm (hcn u)) (zD_same hD (hfst u)) hS1
/-- System.arraycopy of the first i cells -/
theorem zz_copy {a0 a1 i n0 n1 : Nat} {cA : ClassId} {f g : Nat → Int32} {x : Int32} (hexec : p.tables.exec = Jvm.exec) (hb : c.code = cc) (hml : c.maxLocals = ls.size) (hown : s.vm.findClass own = some m.cls) (hlink : (Cond.methodLink own index arraycopyName).before args s = true) (hnat : (Cond.native arraycopyName).before args s = true) (hstat : (Cond.static arraycopyName).before args s = true) (hini : (Cond.initialized "java/lang/System").before args s = true) (hK : va_K D vwCl tys s) (hP : va_P D vwCl cs H) (hD : va_D A cs) (hS : va_S A s.heap H locs) (q0 q1 t0 t1 : Nat) (ha0 : cs[q0]? = some (a0, .inl (cA, n0, .inl f))) (ha1 : cs[q1]? = some (a1, .inl (cA, n1, .inl g))) (ht0 : tys[t0]? = some (cA, .int)) (ht1 : tys[t1]? = some (cA, .int)) (hx : x = nI i) (hi : i ≤ n0 ∧ i ≤ n1 ∧ i < 2 ^ 31) (hr0 : refKind .int = false) (hfr : 1 ≤ R.frames) (hlo : (rest.map fun v => v.category).sum + (nativeFrameWords "java/lang/System" "arraycopy" 5 + 11) ≤ R.locals) (hz : ∀ (v : Int32), fits .int (.int v) = true) (hdg : decode cc pc = .ok (.invokestatic index, 3))
    (kk : ∀ (H1 : Heap) (locs1 : List Loc), va_P D vwCl (cs.set q1 (a1, .inl (cA, n1, .inl (va_cpy f g 0 0 i)))) H1 → va_D A (cs.set q1 (a1, .inl (cA, n1, .inl (va_cpy f g 0 0 i)))) → va_S A s.heap H1 locs1 → W p l e R s m args below meth c H1 locs1 cells slots Q (F0 m (pc + 3) ls rest)) : W p l e R s m args below meth c H locs cells slots Q (F0 m pc ls (.int x :: .int 0 :: .ref a1 :: .int 0 :: .ref a0 :: rest)) := by
  subst hx
  have h31 : i < 2 ^ 31 := hi.2.2
  have hc : (nI i).toNatClampNeg = i := nI_clamp h31
  have h0 : (0 : Int32).toNatClampNeg = 0 := rfl
  refine va_copyi hexec hb hml hown hlink hnat hstat hini hK hP hD hS q0 q1 t0 t1 ha0 ha1 ht0 ht1 hr0 (by decide) (by decide) (nI_pos h31) (by rw [hc, h0]; omega) (by rw [hc, h0]; omega) (fun j _ => hz _) hfr hlo hdg (fun H1 locs1 h1 h2 h3 => ?_)
  rw [hc, h0] at h1 h2
  exact kk H1 locs1 h1 h2 h3
theorem zz_zald {a i N : Nat} {cA : ClassId} {f : Nat → Int32} {x : Int32} (hexec : p.tables.exec = Jvm.exec) (hb : c.code = cc) (hK : va_K D vwCl tys s) (hP : va_P D vwCl cs H) (q0 t0 : Nat) (ha : cs[q0]? = some (a, .inl (cA, N, .inl f))) (ht : tys[t0]? = some (cA, .boolean)) (hx : x = nI i) (hi : i < N) (hN : N < 2 ^ 31) (hdg : decode cc pc = .ok (.baload, 1))
    (kk : W p l e R s m args below meth c H locs cells slots Q (F0 m (pc + 1) ls (.int (f i) :: rest))) : W p l e R s m args below meth c H locs cells slots Q (F0 m pc ls (.int x :: .ref a :: rest)) := by
  subst hx
  refine va_zald hexec hb hK hP q0 t0 ha ht (vp_in_nI hi hN) hdg ?_
  rw [nI_clamp (Nat.lt_trans hi hN)]
  exact kk
theorem zz_zast {a i N : Nat} {cA : ClassId} {f : Nat → Int32} {x v : Int32} (hexec : p.tables.exec = Jvm.exec) (hb : c.code = cc) (hK : va_K D vwCl tys s) (hP : va_P D vwCl cs H) (hD : va_D A cs) (hS : va_S A s.heap H locs) (q0 t0 : Nat) (ha : cs[q0]? = some (a, .inl (cA, N, .inl f))) (ht : tys[t0]? = some (cA, .boolean)) (hx : x = nI i) (hi : i < N) (hN : N < 2 ^ 31) (hdg : decode cc pc = .ok (.bastore, 1))
    (kk : ∀ (H1 : Heap) (locs1 : List Loc), va_P D vwCl (cs.set q0 (a, .inl (cA, N, .inl (upd f i (vp_nar .boolean v))))) H1 → va_D A (cs.set q0 (a, .inl (cA, N, .inl (upd f i (vp_nar .boolean v))))) → va_S A s.heap H1 locs1 → W p l e R s m args below meth c H1 locs1 cells slots Q (F0 m (pc + 1) ls rest)) : W p l e R s m args below meth c H locs cells slots Q (F0 m pc ls (.int v :: .int x :: .ref a :: rest)) := by
  subst hx
  refine va_zast hexec hb hK hP hD hS q0 t0 ha ht (vp_in_nI hi hN) hdg (fun H1 locs1 h1 h2 h3 => ?_)
  rw [nI_clamp (Nat.lt_trans hi hN)] at h1 h2
  exact kk H1 locs1 h1 h2 h3
end ZB
theorem zz_addn {x y : Int32} {a b : Nat} (hx : x = nI a) (hy : y = nI b) : x + y = nI (a + b) := by rw [hx, hy, nI_add]
theorem zz_incn (i n : Nat) : nI i + Int32.ofInt n = nI (i + n) := nI_add i n
theorem zz_inc (i : Nat) : nI i + Int32.ofInt 1 = nI (i + 1) := nI_1 i
/-- a truth value as an int -/
def zB (P : Prop) [Decidable P] : Int32 := if P then 1 else 0
theorem zB_f {P : Prop} [Decidable P] {r : Int32} (h : r = zB P) (h0 : r = 0) : ¬ P := by
  intro hp
  rw [h, zB, if_pos hp] at h0
  exact absurd h0 (by decide)
theorem zB_t {P : Prop} [Decidable P] {r : Int32} (h : r = zB P) (h0 : ¬ r = 0) : P := by
  by_cases hp : P
  · exact hp
  · rw [h, zB, if_neg hp] at h0
    exact absurd rfl h0
theorem zB_1 {P : Prop} [Decidable P] (h : P) : (1 : Int32) = zB P := by rw [zB, if_pos h]
theorem zB_0 {P : Prop} [Decidable P] (h : ¬ P) : (0 : Int32) = zB P := by rw [zB, if_neg h]
theorem zB_eq1 {P : Prop} [Decidable P] {r : Int32} (h : r = zB P) : ((1 : Int32) = r) ↔ P := by
  rw [h, zB]
  by_cases hp : P
  · rw [if_pos hp]; exact ⟨fun _ => hp, fun _ => rfl⟩
  · rw [if_neg hp]; exact ⟨fun q => absurd q (by decide), fun q => absurd q hp⟩
theorem zB_eq0 {P : Prop} [Decidable P] {r : Int32} (h : r = zB P) : ((0 : Int32) = r) ↔ ¬ P := by
  rw [h, zB]
  by_cases hp : P
  · rw [if_pos hp]; exact ⟨fun q => absurd q (by decide), fun q => absurd hp q⟩
  · rw [if_neg hp]; exact ⟨fun _ => hp, fun _ => rfl⟩
theorem zB_nar {P : Prop} [Decidable P] {r : Int32} (h : r = zB P) : narrow .boolean (.int r) = .int r := by
  rw [h, zB]
  by_cases hp : P
  · rw [if_pos hp]; rfl
  · rw [if_neg hp]; rfl
/-- facts: deep, top, of, frozen, most as plain numbers; measures, checks as rows. Fined rows: rows, fines, size -/
abbrev ZA : Type := Nat × Nat × Nat × Nat × Nat × (Nat → Int32) × (Nat → Int32)
abbrev ZR : Type := (Nat → Int32) × (Nat → Int32) × Nat
abbrev zTy (cI cZ : ClassId) : List (ClassId × FieldType) := [(cI, .int), (cZ, .boolean)]
abbrev zcF (cI : ClassId) (q0 q1 q2 : Nat) (a : ZA) : va_W := [(q0, .inr (0, [.int (nI a.1), .int (nI a.2.1), .int (nI a.2.2.1), .int (nI a.2.2.2.1), .int (nI a.2.2.2.2.1), .ref q1, .ref q2])), (q1, .inl (cI, 16, .inl a.2.2.2.2.2.1)), (q2, .inl (cI, 3, .inl a.2.2.2.2.2.2))]
abbrev zcR (cI : ClassId) (q0 q1 q2 : Nat) (t : ZR) : va_W := [(q0, .inr (1, [.ref q1, .ref q2, .int (nI t.2.2)])), (q1, .inl (cI, 16, .inl t.1)), (q2, .inl (cI, 16, .inl t.2.1))]
abbrev zcX (cI : ClassId) (q : Nat → Nat) (a b0 b1 : ZA) (ik : Nat) (ha : Nat → Int32) (t g : ZR) : va_W := [(q 0, .inr (2, [.ref (q 1), .ref (q 4), .ref (q 7), .int (nI ik), .ref (q 10), .ref (q 11), .ref (q 14)])),
  (q 1, .inr (0, [.int (nI a.1), .int (nI a.2.1), .int (nI a.2.2.1), .int (nI a.2.2.2.1), .int (nI a.2.2.2.2.1), .ref (q 2), .ref (q 3)])), (q 2, .inl (cI, 16, .inl a.2.2.2.2.2.1)), (q 3, .inl (cI, 3, .inl a.2.2.2.2.2.2)),
  (q 4, .inr (0, [.int (nI b0.1), .int (nI b0.2.1), .int (nI b0.2.2.1), .int (nI b0.2.2.2.1), .int (nI b0.2.2.2.2.1), .ref (q 5), .ref (q 6)])), (q 5, .inl (cI, 16, .inl b0.2.2.2.2.2.1)), (q 6, .inl (cI, 3, .inl b0.2.2.2.2.2.2)),
  (q 7, .inr (0, [.int (nI b1.1), .int (nI b1.2.1), .int (nI b1.2.2.1), .int (nI b1.2.2.2.1), .int (nI b1.2.2.2.2.1), .ref (q 8), .ref (q 9)])), (q 8, .inl (cI, 16, .inl b1.2.2.2.2.2.1)), (q 9, .inl (cI, 3, .inl b1.2.2.2.2.2.2)),
  (q 10, .inl (cI, 16, .inl ha)),
  (q 11, .inr (1, [.ref (q 12), .ref (q 13), .int (nI t.2.2)])), (q 12, .inl (cI, 16, .inl t.1)), (q 13, .inl (cI, 16, .inl t.2.1)),
  (q 14, .inr (1, [.ref (q 15), .ref (q 16), .int (nI g.2.2)])), (q 15, .inl (cI, 16, .inl g.1)), (q 16, .inl (cI, 16, .inl g.2.1))]
/-- the reference's row of numbers, out of the same facts -/
def zst (a : ZA) : Nat → Int32 := fun k => match k with
  | 0 => nI a.1
  | 1 => nI a.2.1
  | 2 => nI a.2.2.1
  | 3 => nI a.2.2.2.1
  | 4 => nI a.2.2.2.2.1
  | 5 => a.2.2.2.2.2.2 0
  | 6 => a.2.2.2.2.2.2 1
  | 7 => a.2.2.2.2.2.2 2
  | k + 8 => a.2.2.2.2.2.1 k
abbrev zcM (cI cZ : ClassId) (q : Nat → Nat) (st im kp lf rw fn : Nat → Int32) (kn : Nat) : va_W := [(q 0, .inr (3, [.ref (q 1), .ref (q 2), .ref (q 3), .ref (q 4), .ref (q 5), .ref (q 6), .int (nI kn)])), (q 1, .inl (cI, 24, .inl st)), (q 2, .inl (cI, 48, .inl im)), (q 3, .inl (cZ, 2, .inl kp)), (q 4, .inl (cI, 16, .inl lf)), (q 5, .inl (cI, 16, .inl rw)), (q 6, .inl (cI, 16, .inl fn))]
theorem zst_me (a : ZA) (k : Nat) : zst a (8 + k) = a.2.2.2.2.2.1 k := by rw [Nat.add_comm]; rfl
theorem zst_ck (a : ZA) {k : Nat} (h : k < 3) : zst a (5 + k) = a.2.2.2.2.2.2 k := by
  rcases (show k = 0 ∨ k = 1 ∨ k = 2 by omega) with rfl | rfl | rfl <;> rfl
/-- what always holds of facts -/
def zInv (a : ZA) : Prop := (1 ≤ a.1 ∧ a.1 ≤ 4) ∧ (a.2.1 ≤ a.2.2.1 ∧ 2 ≤ a.2.2.1 ∧ a.2.2.1 ≤ 10) ∧ a.2.2.2.1 < 2 ^ 2 ^ a.1 ∧ (1 ≤ a.2.2.2.2.1 ∧ a.2.2.2.2.1 ≤ 8) ∧ (∀ k, k < 16 → -99 ≤ (a.2.2.2.2.2.1 k).toInt ∧ (a.2.2.2.2.2.1 k).toInt ≤ 99) ∧ (∀ k, k < 3 → ∃ j, a.2.2.2.2.2.2 k = nI j ∧ j < 2 ^ 2 ^ a.1)
end
section
theorem zNp {a : ZA} (h : zInv a) : 2 ^ a.1 ≤ 16 := by
  have h1 := h.1.1
  have h2 := h.1.2
  rcases (show a.1 = 1 ∨ a.1 = 2 ∨ a.1 = 3 ∨ a.1 = 4 by omega) with e | e | e | e <;> rw [e] <;> decide
theorem zNp1 {a : ZA} (h : zInv a) : 2 ≤ 2 ^ a.1 := by
  have h1 := h.1.1
  have h2 := h.1.2
  rcases (show a.1 = 1 ∨ a.1 = 2 ∨ a.1 = 3 ∨ a.1 = 4 by omega) with e | e | e | e <;> rw [e] <;> decide
theorem zNN {a : ZA} (h : zInv a) : 2 ^ 2 ^ a.1 ≤ 65536 := by
  have h1 := h.1.1
  have h2 := h.1.2
  rcases (show a.1 = 1 ∨ a.1 = 2 ∨ a.1 = 3 ∨ a.1 = 4 by omega) with e | e | e | e <;> rw [e] <;> decide
theorem zfz16 {a : ZA} (h : zInv a) : a.2.2.2.1 < 65536 := Nat.lt_of_lt_of_le h.2.2.1 (zNN h)
/-- under 2 ^ k: bits from k on are 0 -/
theorem zlt_bits {n k : Nat} (h : ∀ i, k ≤ i → n.testBit i = false) : n < 2 ^ k := by
  rcases Nat.lt_or_ge n (2 ^ k) with q | q
  · exact q
  · obtain ⟨i, hi, hb⟩ := Nat.exists_ge_and_testBit_of_ge_two_pow q
    rw [h i hi] at hb
    cases hb
theorem zn_andn {x z : Nat} (hx : x < 65536) : nI x &&& (nI z ^^^ (-1)) = nI (x &&& (z ^^^ 65535)) := by
  rw [show (-1 : Int32) = nI 4294967295 from rfl, fb_xorI, fa_and]
  congr 1
  apply Nat.eq_of_testBit_eq
  intro i
  rw [Nat.testBit_and, Nat.testBit_and, Nat.testBit_xor, Nat.testBit_xor]
  rcases Nat.lt_or_ge i 16 with h | h
  · rw [show 4294967295 = 2 ^ 32 - 1 from rfl, show 65535 = 2 ^ 16 - 1 from rfl, Nat.testBit_two_pow_sub_one, Nat.testBit_two_pow_sub_one]
    simp [h, show i < 32 by omega]
  · rw [Nat.testBit_lt_two_pow (Nat.lt_of_lt_of_le hx (by rw [show 65536 = 2 ^ 16 from rfl]; exact Nat.pow_le_pow_right (by omega) h))]
    simp
/-- CODED, as the class has it: level by level -/
def zmask (i : Nat) : Nat := match i with
  | 0 => 21845
  | 1 => 13107
  | 2 => 3855
  | _ => 255
def zcl (v : Nat) : Nat → Nat
  | 0 => v
  | i + 1 => zcl v i ^^^ ((zcl v i >>> 2 ^ i) &&& zmask i)
def zcod (v : Nat) : Nat := zcl v 4
theorem zmask_le (i : Nat) : zmask i < 65536 := by
  unfold zmask
  split <;> omega
theorem zcl_lt {v : Nat} (h : v < 65536) : ∀ i, zcl v i < 65536
  | 0 => h
  | i + 1 => Nat.xor_lt_two_pow (n := 16) (zcl_lt h i) (Nat.lt_of_le_of_lt Nat.and_le_right (zmask_le i))
theorem zcod_lt {v : Nat} (h : v < 65536) : zcod v < 65536 := zcl_lt h 4
theorem zFv_mask {i : Nat} (h : i < 4) : zFv i = .int (nI (zmask i)) := by
  rcases (show i = 0 ∨ i = 1 ∨ i = 2 ∨ i = 3 by omega) with rfl | rfl | rfl | rfl <;> rfl
theorem zpow4 {i : Nat} (h : i < 4) : 2 ^ i ≤ 8 := by
  rcases (show i = 0 ∨ i = 1 ∨ i = 2 ∨ i = 3 by omega) with rfl | rfl | rfl | rfl <;> decide
/-- OPEN, as the class has it: from level 3 down; ahead of what is frozen -/
def zol (l v : Nat) : Nat := ((v ||| v >>> 2 ^ l) &&& zmask l) ||| (v &&& (v <<< 2 ^ l) &&& (zmask l <<< 2 ^ l))
def zop (v : Nat) : Nat → Nat
  | 0 => v
  | i + 1 => zol (3 - i) (zop v i)
def zopn (v : Nat) : Nat := zop v 4
theorem zol_lt {l v : Nat} (h : v < 65536) : zol l v < 65536 := Nat.or_lt_two_pow (n := 16) (Nat.lt_of_le_of_lt Nat.and_le_right (zmask_le l)) (Nat.lt_of_le_of_lt (Nat.le_trans Nat.and_le_left Nat.and_le_left) h)
theorem zop_lt {v : Nat} (h : v < 65536) : ∀ i, zop v i < 65536
  | 0 => h
  | i + 1 => zol_lt (zop_lt h i)
theorem zopn_lt {v : Nat} (h : v < 65536) : zopn v < 65536 := zop_lt h 4
theorem zshl_lt {v l : Nat} (h : v < 65536) (hl : l < 4) : v * 2 ^ 2 ^ l < 2 ^ 32 := by
  have h1 : 2 ^ 2 ^ l ≤ 2 ^ 8 := Nat.pow_le_pow_right (by omega) (zpow4 hl)
  calc v * 2 ^ 2 ^ l ≤ v * 2 ^ 8 := Nat.mul_le_mul_left _ h1
    _ < 2 ^ 32 := by omega
/-- Gosper: the next greater set of as many -/
def zlow (v : Nat) : Nat := v &&& (4294967296 - v)
def znx (v : Nat) : Nat := (v + zlow v) ||| ((v ^^^ (v + zlow v)) >>> 2) / zlow v
def zsq (w : Nat) : Nat → Nat
  | 0 => 2 ^ w - 1
  | i + 1 => znx (zsq w i)
theorem zlow_le (v : Nat) : zlow v ≤ v := Nat.and_le_left
/-- the class's least weight, of the first i bits -/
def zlw (z : Nat) : Nat → Nat
  | 0 => 16
  | i + 1 => if z.testBit i = true then zlw z i else if zpc (zcod (2 ^ i)) < zlw z i then zpc (zcod (2 ^ i)) else zlw z i
theorem zlw_le (z : Nat) : ∀ i, zlw z i ≤ 16
  | 0 => Nat.le_refl _
  | i + 1 => by
    have := zlw_le z i
    unfold zlw
    split
    · exact this
    · split <;> omega
theorem zp2_16 {i : Nat} (h : i < 16) : 2 ^ i < 65536 := Nat.pow_lt_pow_right (by omega) h
/-- how many of the first n hold -/
def zct (P : Nat → Bool) : Nat → Nat
  | 0 => 0
  | i + 1 => zct P i + if P i = true then 1 else 0
theorem zct_le (P : Nat → Bool) : ∀ n, zct P n ≤ n
  | 0 => Nat.le_refl _
  | i + 1 => by
    have := zct_le P i
    unfold zct
    split <;> omega
/-- the sets of w places among N, as the class goes through them: K of them -/
def zSeq (w N K : Nat) : Prop := (∀ j, j < K → 1 ≤ zlow (zsq w j) ∧ zsq w j < 2 ^ N) ∧ 2 ^ N ≤ zsq w K ∧ zsq w K < 2 ^ 20 ∧ K < 2 ^ N
theorem zI_0 {x : Nat} (h : x < 2 ^ 31) (c : nI x = 0) : x = 0 := (nI_eq h (by decide)).mp c
theorem zI_n0 {x : Nat} (c : ¬ nI x = 0) : ¬ x = 0 := fun e => c (by rw [e]; rfl)
theorem zsz_le (z : Nat) : ∀ n, zsz z n ≤ n
  | 0 => Nat.le_refl _
  | n + 1 => by
    have h1 := zsz_le z n
    have h2 := Bool.toNat_le (z.testBit n)
    unfold zsz
    omega
theorem zsz_hi {z n : Nat} (h : z < 2 ^ n) : ∀ k, zsz z (n + k) = zsz z n
  | 0 => rfl
  | k + 1 => by
    show zsz z (n + k) + (z.testBit (n + k)).toNat = zsz z n
    rw [zsz_hi h k, Nat.testBit_lt_two_pow (Nat.lt_of_lt_of_le h (Nat.pow_le_pow_right (by omega) (Nat.le_add_right n k)))]
    rfl
theorem zpc_leN {z n : Nat} (h : z < 2 ^ n) (hn : n ≤ 16) : zpc z ≤ n := by
  rw [← zsz_16, show 16 = n + (16 - n) by omega, zsz_hi h]
  exact zsz_le z n
theorem zxor_lt {x y n : Nat} (hx : x < 2 ^ n) (hy : y < 2 ^ n) : x ^^^ y < 2 ^ n := Nat.xor_lt_two_pow hx hy
theorem zdec : ∀ i, i < 4 → nI (3 - i) + (-1) = 3 - nI (i + 1) := by decide
theorem zz_minn {x y : Nat} (hx : x < 2 ^ 31) (hy : y < 2 ^ 31) : (if nI y < nI x then nI y else nI x) = nI (if y < x then y else x) := by
  by_cases h : y < x
  · rw [if_pos h, if_pos (nI_lt h hx)]
  · rw [if_neg h, if_neg (nI_nlt (by omega) hy)]
/-- which sets the class counts: those that are sent as words, or those that leave something lost -/
def zhm (z : Nat) (p : Int32) (v : Nat) : Bool := if p = 0 then decide (¬ zopn v &&& (z ^^^ 65535) = 0) else decide (zcod v &&& z = 0)
/-- the halves of 2 ^ d places, from the greatest on -/
def zhf (d i : Nat) : Nat := 2 ^ (d - i) / 2
theorem zhf_eq {d i : Nat} (h : i < d) : zhf d i = 2 ^ (d - 1 - i) := by
  unfold zhf
  rw [show d - i = (d - 1 - i) + 1 by omega, Nat.pow_succ, Nat.mul_div_cancel _ (by omega)]
theorem zhf_le {d i : Nat} (h : d ≤ 4) : zhf d i ≤ 8 := by
  unfold zhf
  have : 2 ^ (d - i) ≤ 2 ^ 4 := Nat.pow_le_pow_right (by omega) (by omega)
  omega
theorem zhf_pos {d i : Nat} (h : i < d) : 0 < zhf d i := by rw [zhf_eq h]; exact Nat.two_pow_pos _
theorem zhf_next (d i : Nat) : zhf d i >>> 1 = zhf d (i + 1) := by
  unfold zhf
  rw [Nat.shiftRight_eq_div_pow]
  rcases Nat.lt_or_ge i d with h | h
  · rw [show d - i = (d - (i + 1)) + 1 by omega, Nat.pow_succ, Nat.mul_div_cancel _ (by omega)]
  · rw [show d - i = 0 by omega, show d - (i + 1) = 0 by omega]
theorem zhf_bit {d i k : Nat} (h : i < d) (hk : k < 2 ^ 31) : (k &&& zhf d i = 0) ↔ k.testBit (d - 1 - i) = false := by
  rw [zhf_eq h]
  exact fb_bit_nat k (d - 1 - i)
/-- losses: the upper number with the lower one, of bit k, behind j halvings -/
def zup (t o d k : Nat) : Nat → Nat × Nat
  | 0 => (t, o)
  | j + 1 => (if k.testBit (d - 1 - j) = true then (zup t o d k j).1 * (zup t o d k j).1 else 2 * (zup t o d k j).1 * (zup t o d k j).2 - (zup t o d k j).1 * (zup t o d k j).1, (zup t o d k j).2 * (zup t o d k j).2)
def zlo (o : Nat) : Nat → Nat
  | 0 => o
  | j + 1 => zlo o j * zlo o j
theorem zup_2 (t o d k : Nat) : ∀ j, (zup t o d k j).2 = zlo o j
  | 0 => rfl
  | j + 1 => by simp only [zup, zlo, zup_2 t o d k j]
theorem zup_le {t o : Nat} (d k : Nat) (h : t ≤ o) : ∀ j, (zup t o d k j).1 ≤ (zup t o d k j).2
  | 0 => h
  | j + 1 => by
    have ih := zup_le d k h j
    simp only [zup]
    generalize (zup t o d k j).1 = u at ih ⊢
    generalize (zup t o d k j).2 = l at ih ⊢
    split
    · exact Nat.mul_le_mul ih ih
    · obtain ⟨e, rfl⟩ := Nat.exists_eq_add_of_le ih
      have : 2 * u * (u + e) = u * u + (u * u + 2 * (u * e)) := by
        rw [Nat.mul_assoc, Nat.mul_add]; omega
      rw [this, Nat.add_sub_cancel_left]
      have h2 : (u + e) * (u + e) = u * u + 2 * (u * e) + e * e := by
        rw [Nat.add_mul, Nat.mul_add, Nat.mul_add, Nat.mul_comm e u]; omega
      omega
theorem zup_f {u l : Nat} (h : u ≤ l) : 2 * lN u * lN l - lN u * lN u = lN (2 * u * l - u * u) := by
  rw [show (2 : Int64) = lN 2 from rfl, lN_mul, lN_mul, lN_mul, lN_sub]
  exact Nat.mul_le_mul (by omega) h
theorem zlo_le {o : Nat} (h : o ≤ 10) : ∀ j, j ≤ 4 → zlo o j ≤ 10000000000000000 := by
  intro j hj
  have h0 : zlo o 0 ≤ 10 := h
  have h1 : zlo o 1 ≤ 10 * 10 := Nat.mul_le_mul h0 h0
  have h2 : zlo o 2 ≤ 100 * 100 := Nat.mul_le_mul h1 h1
  have h3 : zlo o 3 ≤ 10000 * 10000 := Nat.mul_le_mul h2 h2
  have h4 : zlo o 4 ≤ 100000000 * 100000000 := Nat.mul_le_mul h3 h3
  rcases (show j = 0 ∨ j = 1 ∨ j = 2 ∨ j = 3 ∨ j = 4 by omega) with rfl | rfl | rfl | rfl | rfl <;> omega
theorem zup_lt {a : ZA} (hI : zInv a) (k j : Nat) (hj : j ≤ a.1) : (zup a.2.1 a.2.2.1 a.1 k j).1 < 2 ^ 63 := by
  have h1 := zup_le a.1 k hI.2.1.1 j
  rw [zup_2] at h1
  have h2 := zlo_le hI.2.1.2.2 j (by have := hI.1.2; omega)
  omega
theorem zlo_lt {a : ZA} (hI : zInv a) (j : Nat) (hj : j ≤ a.1) : zlo a.2.2.1 j < 2 ^ 63 := by
  have h2 := zlo_le hI.2.1.2.2 j (by have := hI.1.2; omega)
  omega
/-- LOSS of a bit, its upper number -/
def zlos (a : ZA) (k : Nat) : Nat := (zup a.2.1 a.2.2.1 a.1 k a.1).1
theorem zlos_lt {a : ZA} (hI : zInv a) (k : Nat) : zlos a k < 2 ^ 63 := zup_lt hI k a.1 (Nat.le_refl _)
/-- Euclid -/
def zeu (x y : Nat) : Nat → Nat × Nat
  | 0 => (x, y)
  | j + 1 => ((zeu x y j).2, (zeu x y j).1 % (zeu x y j).2)
theorem zeu_lt {x y : Nat} (hx : x < 2 ^ 63) (hy : y < 2 ^ 63) : ∀ j, (zeu x y j).1 < 2 ^ 63 ∧ (zeu x y j).2 < 2 ^ 63
  | 0 => ⟨hx, hy⟩
  | j + 1 => by
    have ih := zeu_lt hx hy j
    exact ⟨ih.2, Nat.lt_of_le_of_lt (Nat.mod_le _ _) ih.1⟩
theorem zcmp0 {b : Nat} (hb : b < 2 ^ 63) : lg_cmp (lN b) 0 = 0 ↔ b = 0 := by
  have h0 : (0 : Int64) = lN 0 := rfl
  unfold lg_cmp
  rw [h0]
  by_cases h : b = 0
  · subst h; decide
  · rw [if_pos (show lN b > lN 0 from (pk_lLT (by decide) hb).mpr (by omega))]
    exact ⟨fun q => absurd q (by decide), fun q => absurd q h⟩
theorem zcmp_lt {x y : Nat} (hx : x < 2 ^ 63) (hy : y < 2 ^ 63) : lg_cmp (lN x) (lN y) < 0 ↔ x < y := by
  unfold lg_cmp
  by_cases h : y < x
  · rw [if_pos (show lN x > lN y from (pk_lLT hy hx).mpr h)]
    exact ⟨fun q => absurd q (by decide), fun q => by omega⟩
  · rw [if_neg (show ¬ lN x > lN y from fun q => h ((pk_lLT hy hx).mp q))]
    by_cases e : x = y
    · rw [if_pos (by rw [e])]
      exact ⟨fun q => absurd q (by decide), fun q => by omega⟩
    · rw [if_neg (fun q => e ((pk_lEQ hx hy).mp q))]
      exact ⟨fun _ => by omega, fun _ => by decide⟩
theorem zcmp_eq {x y : Nat} (hx : x < 2 ^ 63) (hy : y < 2 ^ 63) : lg_cmp (lN x) (lN y) = 0 ↔ x = y := by
  unfold lg_cmp
  by_cases h : y < x
  · rw [if_pos (show lN x > lN y from (pk_lLT hy hx).mpr h)]
    exact ⟨fun q => absurd q (by decide), fun q => by omega⟩
  · rw [if_neg (show ¬ lN x > lN y from fun q => h ((pk_lLT hy hx).mp q))]
    by_cases e : x = y
    · rw [if_pos (by rw [e])]
      exact ⟨fun _ => e, fun _ => rfl⟩
    · rw [if_neg (fun q => e ((pk_lEQ hx hy).mp q))]
      exact ⟨fun q => absurd q (by decide), fun q => absurd q e⟩
/-- BETTER: bit j than bit k; how many are better than k -/
def zbt (a : ZA) (k j : Nat) : Bool := decide (zlos a j < zlos a k ∨ (zlos a j = zlos a k ∧ k < j))
def zrk (a : ZA) (k : Nat) : Nat := zct (zbt a k) (2 ^ a.1)
/-- seen: the weaker of two, with its sign -/
def zab (x : Int32) : Int32 := if 0 ≤ x then x else 0 - x
def zmn (x y : Int32) : Int32 := if y < x then y else x
def zmx (x y : Int32) : Int32 := if x < y then y else x
def zwk (x y : Int32) : Int32 := if (x < 0 ↔ y < 0) then zmn (zab x) (zab y) else - zmn (zab x) (zab y)
def zg1 (h : Nat) (f : Nat → Int32) (n : Nat) : Nat → Int32 := fun k => if k < n then zwk (f k) (f (k + h)) else f k
theorem zg1_0 (h : Nat) (f : Nat → Int32) : zg1 h f 0 = f := by funext k; simp [zg1]
theorem zg1_s {h i : Nat} {f : Nat → Int32} (hi : i < h) : upd (zg1 h f i) i (zwk (zg1 h f i i) (zg1 h f i (i + h))) = zg1 h f (i + 1) := by
  funext k
  have e1 : zg1 h f i i = f i := by simp [zg1]
  have e2 : zg1 h f i (i + h) = f (i + h) := by unfold zg1; rw [if_neg (by omega)]
  rw [e1, e2]
  by_cases hk : k = i
  · subst hk; rw [pk_us]; simp [zg1]
  · rw [pk_un hk]; simp only [zg1]
    by_cases h2 : k < i
    · rw [if_pos h2, if_pos (show k < i + 1 by omega)]
    · rw [if_neg h2, if_neg (show ¬ k < i + 1 by omega)]
def zg2 (h c : Nat) (f : Nat → Int32) (n : Nat) : Nat → Int32 := fun k => if k < n then f (k + h) + (if c.testBit k = true then - f k else f k) else f k
theorem zg2_0 (h c : Nat) (f : Nat → Int32) : zg2 h c f 0 = f := by funext k; simp [zg2]
theorem zg2_i (h c i : Nat) (f : Nat → Int32) : zg2 h c f i i = f i := by simp [zg2]
theorem zg2_s {h c i : Nat} {f : Nat → Int32} {v : Int32} (hi : i < h) (hv : v = zg2 h c f i (i + h) + (if c.testBit i = true then - f i else f i)) : upd (zg2 h c f i) i v = zg2 h c f (i + 1) := by
  funext k
  have e2 : zg2 h c f i (i + h) = f (i + h) := by unfold zg2; rw [if_neg (by omega)]
  rw [hv, e2]
  by_cases hk : k = i
  · subst hk; rw [pk_us]; simp [zg2]
  · rw [pk_un hk]; simp only [zg2]
    by_cases h2 : k < i
    · rw [if_pos h2, if_pos (show k < i + 1 by omega)]
    · rw [if_neg h2, if_neg (show ¬ k < i + 1 by omega)]
/-- SEEN of bit k, the bits of w ahead of it being told: what is left, and from which bit on, behind j halvings -/
def zsn (me : Nat → Int32) (d k w : Nat) : Nat → (Nat → Int32) × Nat
  | 0 => (me, 0)
  | j + 1 => if k.testBit (d - 1 - j) = true then (zg2 (zhf d j) (zcod ((w >>> (zsn me d k w j).2) &&& (2 ^ zhf d j - 1))) (zsn me d k w j).1 (zhf d j), (zsn me d k w j).2 + zhf d j) else (zg1 (zhf d j) (zsn me d k w j).1 (zhf d j), (zsn me d k w j).2)
def zsee (me : Nat → Int32) (d k w : Nat) : Int32 := (zsn me d k w d).1 0
theorem zsn_s (me : Nat → Int32) {d : Nat} (k w : Nat) : ∀ j, j ≤ d → (zsn me d k w j).2 + 2 ^ (d - j) ≤ 2 ^ d
  | 0, _ => by simp [zsn]
  | j + 1, h => by
    have ih := zsn_s (d := d) me k w j (by omega)
    have e : 2 ^ (d - j) = 2 * 2 ^ (d - (j + 1)) := by rw [show d - j = (d - (j + 1)) + 1 by omega, Nat.pow_succ, Nat.mul_comm]
    have e2 : zhf d j = 2 ^ (d - (j + 1)) := by rw [zhf_eq (by omega)]; congr 1; omega
    unfold zsn
    split
    · simp only [e2]; omega
    · simp only; omega
theorem zsn_16 {a : ZA} (hI : zInv a) (me : Nat → Int32) (k w : Nat) {j : Nat} (hj : j ≤ a.1) : (zsn me a.1 k w j).2 < 16 := by
  have h1 := zsn_s me k w j hj
  have h2 := zNp hI
  have h3 := Nat.two_pow_pos (a.1 - j)
  omega
/-- READ; FINE of a row -/
def zrr (a : ZA) : Nat → Nat
  | 0 => 0
  | i + 1 => if ¬ Nat.testBit a.2.2.2.1 i = true ∧ zsee a.2.2.2.2.2.1 a.1 i (zrr a i) < 0 then zrr a i ||| 2 ^ i else zrr a i
theorem zrr_lt (a : ZA) : ∀ i, zrr a i < 2 ^ i
  | 0 => Nat.one_pos
  | i + 1 => by
    have ih := zrr_lt a i
    have h2 : zrr a i < 2 ^ (i + 1) := Nat.lt_of_lt_of_le ih (Nat.pow_le_pow_right (by omega) (by omega))
    unfold zrr
    split
    · exact Nat.or_lt_two_pow h2 (Nat.pow_lt_pow_right (by omega) (by omega))
    · exact h2
theorem zp2_le {i : Nat} (h : i ≤ 16) : 2 ^ i ≤ 65536 := Nat.pow_le_pow_right (by omega) h
theorem zrr_16 (a : ZA) {i : Nat} (h : i ≤ 16) : zrr a i < 65536 := Nat.lt_of_lt_of_le (zrr_lt a i) (zp2_le h)
def zfb (s : Int32) (b : Bool) : Int32 := if b = true then zmx s 0 else zmx (-s) 0
theorem zfb_of {r s : Int32} {b : Bool} (h : r = zB (b = true)) : (if r = 0 then zmx (-s) 0 else zmx s 0) = zfb s b := by
  cases b
  · rw [h]; simp [zB, zfb]
  · rw [h]; simp [zB, zfb]
def zfi (me : Nat → Int32) (d w : Nat) : Nat → Int32
  | 0 => 0
  | i + 1 => zfi me d w i + zfb (zsee me d i w) (Nat.testBit w i)
/-- at how many places a row is other than what came tells -/
def zun (me : Nat → Int32) (c : Nat) (j : Nat) : Bool := decide (¬ me j = 0 ∧ ¬ (me j < 0 ↔ c.testBit j = true))
theorem zarrV_congr (cA : ClassId) (n : Nat) {f g : Nat → Value} (h : ∀ j, j < n → f j = g j) : arrV cA n f = arrV cA n g := by
  unfold arrV
  congr 1
  congr 1
  funext j
  exact h j.val j.isLt
theorem zP_arr {D : va_G} {ws : va_W} {H : Heap} {q k n : Nat} {cA : ClassId} {f g : Nat → Int32} (h : va_P D vwCl ws H) (hk : ws[k]? = some (q, .inl (cA, n, .inl f))) (hfg : ∀ j, j < n → f j = g j) : va_P D vwCl (ws.set k (q, .inl (cA, n, .inl g))) H := by
  have e : vp_cell cA (n, .inl f) = vp_cell cA (n, .inl g) := by
    show arrV cA n (fun j => .int (f j)) = arrV cA n (fun j => .int (g j))
    exact zarrV_congr cA n (fun j hj => by rw [hfg j hj])
  intro i x hx
  by_cases hi : i = k
  · subst hi
    have hlt : i < ws.length := (List.getElem?_eq_some_iff.mp hk).1
    rw [List.getElem?_set_self hlt] at hx
    cases hx
    have h1 := h i _ hk
    show H[q]? = some (vp_cell cA (n, .inl g))
    rw [← e]
    exact h1
  · rw [List.getElem?_set_ne (fun q => hi q.symm)] at hx
    exact h i x hx
/-- rows with their fines: as a list; x is ahead of y -/
abbrev ZL : Type := List (Nat × Int32)
def zah (x y : Nat × Int32) : Bool := decide (x.2 < y.2 ∨ (x.2 = y.2 ∧ x.1 < y.1))
def zpos (G : ZL) (x : Nat × Int32) : Nat → Nat
  | 0 => 0
  | n + 1 => if zah x (G.getD n (0, 0)) = true then zpos G x n else n + 1
def zins (G : ZL) (x : Nat × Int32) : ZL := G.take (zpos G x G.length) ++ x :: G.drop (zpos G x G.length)
def zRL (t : ZR) (G : ZL) : Prop := t.2.2 = G.length ∧ ∀ k, k < G.length → t.1 k = nI (G.getD k (0, 0)).1 ∧ t.2.1 k = (G.getD k (0, 0)).2 ∧ (G.getD k (0, 0)).1 < 65536
def zsh (f : Nat → Int32) (n i : Nat) : Nat → Int32 := fun k => if n - i < k ∧ k ≤ n then f (k - 1) else f k
theorem zsh_0 (f : Nat → Int32) (n : Nat) : zsh f n 0 = f := by funext k; unfold zsh; rw [if_neg (by omega)]
theorem zsh_lo {f : Nat → Int32} {n i k : Nat} (h : k ≤ n - i) : zsh f n i k = f k := by unfold zsh; rw [if_neg (by omega)]
theorem zsh_s {f : Nat → Int32} {n i : Nat} (h : i < n) : upd (zsh f n i) (n - i) (zsh f n i (n - i - 1)) = zsh f n (i + 1) := by
  funext k
  by_cases hk : k = n - i
  · subst hk
    rw [pk_us, zsh_lo (by omega)]
    unfold zsh
    rw [if_pos (by omega)]
  · rw [pk_un hk]
    unfold zsh
    by_cases h2 : n - i < k ∧ k ≤ n
    · rw [if_pos h2, if_pos (by omega)]
    · rw [if_neg h2, if_neg (by omega)]
def zin (f : Nat → Int32) (n p : Nat) (x : Int32) : Nat → Int32 := upd (zsh f n (n - p)) p x
theorem zpos_le (G : ZL) (x : Nat × Int32) : ∀ n, zpos G x n ≤ n
  | 0 => Nat.le_refl _
  | n + 1 => by
    have := zpos_le G x n
    unfold zpos
    split <;> omega
theorem zpos_1 (G : ZL) (x : Nat × Int32) : ∀ n j, zpos G x n ≤ j → j < n → zah x (G.getD j (0, 0)) = true
  | 0, j, _, h => absurd h (Nat.not_lt_zero _)
  | n + 1, j, h1, h2 => by
    unfold zpos at h1
    split at h1
    · rename_i hz
      rcases Nat.lt_or_ge j n with q | q
      · exact zpos_1 G x n j h1 q
      · have : j = n := by omega
        subst this
        exact hz
    · omega
theorem zpos_2 (G : ZL) (x : Nat × Int32) : ∀ n, zpos G x n = 0 ∨ ¬ zah x (G.getD (zpos G x n - 1) (0, 0)) = true
  | 0 => Or.inl rfl
  | n + 1 => by
    unfold zpos
    split
    · exact zpos_2 G x n
    · rename_i hz
      exact Or.inr hz
theorem zah_iff {x : Nat × Int32} {t : ZR} {G : ZL} (h : zRL t G) (hx : x.1 < 65536) {j : Nat} (hj : j < G.length) : zah x (G.getD j (0, 0)) = true ↔ (x.2 < t.2.1 j ∨ (x.2 = t.2.1 j ∧ nI x.1 < t.1 j)) := by
  obtain ⟨h1, h2, h3⟩ := h.2 j hj
  unfold zah
  rw [decide_eq_true_eq, h1, h2, nI_ltI (by omega) (by omega)]
theorem zRL_hp1 {x : Nat × Int32} {t : ZR} {G : ZL} (h : zRL t G) (hx : x.1 < 65536) : ∀ j, zpos G x G.length ≤ j → j < t.2.2 → (x.2 < t.2.1 j ∨ (x.2 = t.2.1 j ∧ nI x.1 < t.1 j)) := fun j h1 h2 => (zah_iff h hx (by rw [← h.1]; exact h2)).mp (zpos_1 G x G.length j h1 (by rw [← h.1]; exact h2))
theorem zRL_hp2 {x : Nat × Int32} {t : ZR} {G : ZL} (h : zRL t G) (hx : x.1 < 65536) : zpos G x G.length = 0 ∨ ¬ (x.2 < t.2.1 (zpos G x G.length - 1) ∨ (x.2 = t.2.1 (zpos G x G.length - 1) ∧ nI x.1 < t.1 (zpos G x G.length - 1))) := by
  rcases zpos_2 G x G.length with q | q
  · exact Or.inl q
  · rcases Nat.eq_zero_or_pos (zpos G x G.length) with q0 | q0
    · exact Or.inl q0
    · refine Or.inr (fun z => q ((zah_iff h hx ?_).mpr z))
      have := zpos_le G x G.length
      omega
theorem zins_len (G : ZL) (x : Nat × Int32) : (zins G x).length = G.length + 1 := by
  have := zpos_le G x G.length
  unfold zins
  rw [List.length_append, List.length_cons, List.length_take, List.length_drop]
  omega
theorem zins_get (G : ZL) (x : Nat × Int32) (k : Nat) (hk : k < G.length + 1) : (zins G x).getD k (0, 0) = if k = zpos G x G.length then x else if zpos G x G.length < k then G.getD (k - 1) (0, 0) else G.getD k (0, 0) := by
  have hp := zpos_le G x G.length
  unfold zins
  generalize zpos G x G.length = p at hp ⊢
  have hl : (G.take p).length = p := by rw [List.length_take]; omega
  simp only [List.getD_eq_getElem?_getD]
  by_cases h1 : k = p
  · rw [if_pos h1, List.getElem?_append_right (by omega), hl, h1, Nat.sub_self]; rfl
  · rw [if_neg h1]
    by_cases h2 : p < k
    · rw [if_pos h2, List.getElem?_append_right (by omega), hl, show k - p = (k - p - 1) + 1 by omega, List.getElem?_cons_succ, List.getElem?_drop, show p + (k - p - 1) = k - 1 by omega]
    · rw [if_neg h2, List.getElem?_append_left (by omega), List.getElem?_take_of_lt (by omega)]
theorem zRL_ins {x : Nat × Int32} {t : ZR} {G : ZL} (h : zRL t G) (hx : x.1 < 65536) : zRL (zin t.1 t.2.2 (zpos G x G.length) (nI x.1), zin t.2.1 t.2.2 (zpos G x G.length) x.2, t.2.2 + 1) (zins G x) := by
  have hp := zpos_le G x G.length
  refine ⟨by show t.2.2 + 1 = _; rw [zins_len, h.1], fun k hk => ?_⟩
  rw [zins_len] at hk
  rw [zins_get G x k hk]
  have e1 := h.1
  show zin t.1 t.2.2 (zpos G x G.length) (nI x.1) k = _ ∧ zin t.2.1 t.2.2 (zpos G x G.length) x.2 k = _ ∧ _
  generalize zpos G x G.length = p at hp ⊢
  unfold zin
  by_cases h1 : k = p
  · subst h1
    rw [if_pos rfl, pk_us, pk_us]
    exact ⟨rfl, rfl, hx⟩
  · rw [if_neg h1, pk_un h1, pk_un h1]
    unfold zsh
    by_cases h2 : p < k
    · rw [if_pos h2, if_pos (by omega), if_pos (by omega)]
      exact h.2 (k - 1) (by omega)
    · rw [if_neg h2, if_neg (by omega), if_neg (by omega)]
      exact h.2 k (by omega)
theorem zRL_0 (f g : Nat → Int32) : zRL (f, g, 0) [] := ⟨rfl, fun k h => absurd h (Nat.not_lt_zero _)⟩
theorem zRL_take {t g : ZR} {G : ZL} (h : zRL g G) (k : Nat) (f1 f2 : Nat → Int32) : zRL (va_cpy g.1 f1 0 0 (if k < g.2.2 then k else g.2.2), va_cpy g.2.1 f2 0 0 (if k < g.2.2 then k else g.2.2), (if k < g.2.2 then k else g.2.2)) (G.take k) := by
  have e : (if k < g.2.2 then k else g.2.2) = (G.take k).length := by
    rw [List.length_take, h.1]
    split <;> omega
  rw [e]
  refine ⟨rfl, fun j hj => ?_⟩
  have h2 : j < G.length := by rw [List.length_take] at hj; omega
  have h3 : j < k := by rw [List.length_take] at hj; omega
  have h4 : (G.take k).getD j (0, 0) = G.getD j (0, 0) := by
    simp only [List.getD_eq_getElem?_getD]
    rw [List.getElem?_take_of_lt h3]
  rw [h4]
  show va_cpy g.1 f1 0 0 _ j = _ ∧ va_cpy g.2.1 f2 0 0 _ j = _ ∧ _
  rw [sb_cpy0 hj, sb_cpy0 hj]
  exact h.2 j h2
/-- KEPT: one bit more; all bits -/
def zgr (a : ZA) (k : Nat) (L : ZL) : Nat → ZL
  | 0 => []
  | i + 1 =>
    let w := (L.getD i (0, 0)).1
    let f := (L.getD i (0, 0)).2
    let s := zsee a.2.2.2.2.2.1 a.1 k w
    let G := zins (zgr a k L i) (w, f + zfb s false)
    if Nat.testBit a.2.2.2.1 k = true then G else zins G (w ||| 2 ^ k, f + zfb s true)
def zkp (a : ZA) : Nat → ZL
  | 0 => [(0, 0)]
  | i + 1 => (zgr a i (zkp a i) (zkp a i).length).take a.2.2.2.2.1
theorem zgr_len (a : ZA) (k : Nat) (L : ZL) : ∀ i, (zgr a k L i).length ≤ 2 * i
  | 0 => Nat.le_refl _
  | i + 1 => by
    have ih := zgr_len a k L i
    simp only [zgr]
    split
    · rw [zins_len]; omega
    · rw [zins_len, zins_len]; omega
theorem zkp_len {a : ZA} (hI : zInv a) : ∀ i, (zkp a i).length ≤ 8
  | 0 => by show 1 ≤ 8; omega
  | i + 1 => by
    have := hI.2.2.2.1.2
    simp only [zkp]
    rw [List.length_take]
    omega
/-- CHECKS -/
def zck (a : ZA) (k : Nat) : Nat := (a.2.2.2.2.2.2 k).toNatClampNeg
theorem zck_eq {a : ZA} (hI : zInv a) {k : Nat} (h : k < 3) : a.2.2.2.2.2.2 k = nI (zck a k) ∧ zck a k < 65536 := by
  obtain ⟨j, h1, h2⟩ := hI.2.2.2.2.2 k h
  have h3 := zNN hI
  have : zck a k = j := by unfold zck; rw [h1, nI_clamp (by omega)]
  rw [this]
  exact ⟨h1, by omega⟩
def zhd (a : ZA) (w : Nat) : Bool := decide (zpc (w &&& zck a 0) % 2 = 0 ∧ zpc (w &&& zck a 1) % 2 = 0 ∧ zpc (w &&& zck a 2) % 2 = 0)
theorem zhd_t {a : ZA} {w : Nat} (h : ∀ k, k < 3 → zpc (w &&& zck a k) % 2 = 0) : zhd a w = true := decide_eq_true ⟨h 0 (by omega), h 1 (by omega), h 2 (by omega)⟩
theorem zhd_f {a : ZA} {w k : Nat} (hk : k < 3) (h : ¬ zpc (w &&& zck a k) % 2 = 0) : ¬ zhd a w = true := by
  intro q
  have q := of_decide_eq_true q
  rcases (show k = 0 ∨ k = 1 ∨ k = 2 by omega) with rfl | rfl | rfl
  · exact h q.1
  · exact h q.2.1
  · exact h q.2.2
/-- the first of n that holds -/
def zff (P : Nat → Bool) (n : Nat) : Option Nat := (List.range n).find? P
theorem zff_some {P : Nat → Bool} {n i : Nat} (hi : i < n) (h1 : P i = true) (h2 : ∀ j, j < i → P j = false) : zff P n = some i := by
  unfold zff
  rw [List.find?_range_eq_some]
  exact ⟨h1, List.mem_range.mpr hi, fun j hj => by rw [h2 j hj]; rfl⟩
theorem zff_none {P : Nat → Bool} {n : Nat} (h2 : ∀ j, j < n → P j = false) : zff P n = none := by
  unfold zff
  rw [List.find?_eq_none]
  intro j hj
  rw [h2 j (List.mem_range.mp hj)]
  decide
def zfr (o : Option Nat) : Int32 := match o with
  | some i => nI i
  | none => -6
def zcc (a : ZA) (p : Int32) : Int32 := if p < 10 ∨ ¬ p < 13 then -2 else a.2.2.2.2.2.2 (p.toNatClampNeg - 10)
/-- an int between two numbers is a plain number -/
theorem zrange {x : Int32} {lo hi : Nat} (h1 : ¬ x < nI lo) (h2 : x < nI hi) (hh : hi < 2 ^ 31) (hl : lo < 2 ^ 31) : ∃ k, lo + k < hi ∧ x = nI (lo + k) := by
  have e1 := Int32.lt_iff_toInt_lt.mp h2
  have e2 : ¬ x.toInt < (nI lo).toInt := fun q => h1 (Int32.lt_iff_toInt_lt.mpr q)
  rw [nI_toInt hh] at e1
  rw [nI_toInt hl] at e2
  refine ⟨x.toInt.toNat - lo, by omega, ?_⟩
  apply Int32.toInt_inj.mp
  rw [nI_toInt (by omega)]
  omega
end
section
/-! What each call answers and does, in words of the facts: the class and the reference are both held against these. -/
def zisP (a : ZA) (p : Int32) : Prop := ¬ p < 0 ∧ p < nI (2 ^ a.1)
def zN (x : Int32) : Nat := x.toNatClampNeg
theorem zN_nI {k : Nat} (h : k < 2 ^ 31) : zN (nI k) = k := nI_clamp h
theorem zr0 {x : Int32} {n : Nat} (h : ¬ x < 0 ∧ x < nI n) (hn : n < 2 ^ 31) : ∃ k, k < n ∧ x = nI k := by
  obtain ⟨k, h1, h2⟩ := zrange (lo := 0) h.1 h.2 hn (by decide)
  exact ⟨k, by omega, by rw [h2, Nat.zero_add]⟩
theorem zr1 {x : Int32} {lo hi : Nat} (h1 : ¬ x < nI lo) (h2 : ¬ nI hi < x) (hh : hi < 2 ^ 30) (hl : lo < 2 ^ 30) : ∃ k, lo ≤ k ∧ k ≤ hi ∧ x = nI k := by
  obtain ⟨k, h3, h4⟩ := zrange (lo := lo) (hi := hi + 1) h1 (by
    apply Int32.lt_iff_toInt_lt.mpr
    have : ¬ (nI hi).toInt < x.toInt := fun q => h2 (Int32.lt_iff_toInt_lt.mpr q)
    rw [nI_toInt (by omega)] at this ⊢
    omega) (by omega) (by omega)
  exact ⟨lo + k, by omega, by omega, h4⟩
def zq_deep (a : ZA) (v : Int32) : Int32 × ZA := if v < 1 ∨ 4 < v then (-2, a) else (nI a.1, zN v, a.2.1, a.2.2.1, 0, a.2.2.2.2.1, (fun _ => 0), (fun _ => 0))
def zq_loss (a : ZA) (t o : Int32) : Int32 × ZA := if o < 2 ∨ 10 < o ∨ t < 0 ∨ o < t then (-2, a) else (nI a.2.2.1, a.1, zN t, zN o, a.2.2.2)
/-- the greatest number that divides both numbers of a LOSS -/
def zgc (a : ZA) (k : Nat) : Nat := Nat.gcd (zlo a.2.2.1 a.1) (zlos a k)
def zq_split (a : ZA) (b p : Int32) : Int64 := if ¬ (¬ b < 0 ∧ b < nI (2 ^ a.1)) then -1 else if p < 0 ∨ 1 < p then -2 else if p = 0 then lN (zlos a (zN b) / zgc a (zN b)) else lN (zlo a.2.2.1 a.1 / zgc a (zN b))
/-- the bit of a rank -/
def zbr (a : ZA) (r : Nat) : Nat := (zff (fun b => decide (zrk a b = r)) (2 ^ a.1)).getD 0
def zq_rank (a : ZA) (i w : Int32) : Int32 := if ¬ (¬ i < 0 ∧ i < nI (2 ^ a.1)) then -1 else if w < 0 ∨ 1 < w then -2 else if w = 0 then nI (zbr a (zN i)) else nI (zrk a (zN i))
def zq_freeze (a : ZA) (s : Int32) : Int32 × ZA := if ¬ (¬ s < 0 ∧ s < nI (2 ^ 2 ^ a.1)) then (-2, a) else (nI (2 ^ a.1 - zpc (zN s)), a.1, a.2.1, a.2.2.1, zN s, a.2.2.2.2)
/-- the bits among the first i that are not among the n best -/
def zbd (a : ZA) (n : Nat) : Nat → Nat
  | 0 => 0
  | i + 1 => if zrk a i < n then zbd a n i else zbd a n i ||| 2 ^ i
theorem zbd_lt (a : ZA) (n : Nat) : ∀ i, zbd a n i < 2 ^ i
  | 0 => Nat.one_pos
  | i + 1 => by
    have ih := zbd_lt a n i
    have h2 : zbd a n i < 2 ^ (i + 1) := Nat.lt_of_lt_of_le ih (Nat.pow_le_pow_right (by omega) (by omega))
    unfold zbd
    split
    · exact h2
    · exact Nat.or_lt_two_pow h2 (Nat.pow_lt_pow_right (by omega) (by omega))
def zq_best (a : ZA) (n : Int32) : Int32 × ZA := if n < 0 ∨ nI (2 ^ a.1) < n then (-2, a) else (nI (zbd a (zN n) (2 ^ a.1)), a.1, a.2.1, a.2.2.1, zbd a (zN n) (2 ^ a.1), a.2.2.2.2)
def zq_coded (a : ZA) (s : Int32) : Int32 := if ¬ s < 0 ∧ s < nI (2 ^ 2 ^ a.1) then nI (zcod (zN s)) else -2
/-- a word: the row so far, and what is left of v -/
def zwd (z v : Nat) : Nat → Nat × Nat
  | 0 => (0, v)
  | i + 1 => if z.testBit i = true then zwd z v i else ((zwd z v i).1 ||| ((zwd z v i).2 &&& 1) <<< i, (zwd z v i).2 >>> 1)
theorem zwd_2 (z v : Nat) : ∀ i, (zwd z v i).2 ≤ v
  | 0 => Nat.le_refl _
  | i + 1 => by
    have ih := zwd_2 z v i
    unfold zwd
    split
    · exact ih
    · exact Nat.le_trans (Nat.shiftRight_le _ _) ih
theorem zwd_1 (z v : Nat) : ∀ i, (zwd z v i).1 < 2 ^ i
  | 0 => Nat.one_pos
  | i + 1 => by
    have ih := zwd_1 z v i
    have h2 : (zwd z v i).1 < 2 ^ (i + 1) := Nat.lt_of_lt_of_le ih (Nat.pow_le_pow_right (by omega) (by omega))
    unfold zwd
    split
    · exact h2
    · refine Nat.or_lt_two_pow h2 ?_
      rw [Nat.shiftLeft_eq, Nat.pow_succ, Nat.mul_comm (2 ^ i)]
      have : (zwd z v i).2 &&& 1 ≤ 1 := Nat.and_le_right
      exact Nat.mul_lt_mul_of_pos_right (by omega) (Nat.two_pow_pos i)
def zq_word (a : ZA) (v : Int32) : Int32 := if v < 0 ∨ ¬ v < nI (2 ^ (2 ^ a.1 - zpc a.2.2.2.1)) then -2 else nI (zwd a.2.2.2.1 (zN v) (2 ^ a.1)).1
/-- the sets of w places that are sent as words; that leave something lost -/
def zlc (a : ZA) (w : Nat) : Nat := zct (fun v => decide (zpc v = w) && zhm a.2.2.2.1 1 v) (2 ^ 2 ^ a.1)
def zfc (a : ZA) (w : Nat) : Nat := zct (fun v => decide (zpc v = w) && zhm a.2.2.2.1 0 v) (2 ^ 2 ^ a.1)
def zfl (a : ZA) (w : Nat) : Nat := (zff (fun v => decide (zpc v = w) && zhm a.2.2.2.1 0 v) (2 ^ 2 ^ a.1)).getD 0
def zq_light (a : ZA) (w : Int32) : Int32 := if w < 0 ∨ 1 < w then -2 else if 2 ^ a.1 - zpc a.2.2.2.1 = 0 then -6 else if w = 0 then nI (zlw a.2.2.2.1 (2 ^ a.1)) else nI (zlc a (zlw a.2.2.2.1 (2 ^ a.1)))
def zq_fragile (a : ZA) (w : Int32) : Int32 := if w < 0 ∨ 2 < w then -2 else if 2 ^ a.1 - zpc a.2.2.2.1 = 0 then -6 else if w = 0 then nI (zlw a.2.2.2.1 (2 ^ a.1)) else if w = 1 then nI (zfc a (zlw a.2.2.2.1 (2 ^ a.1))) else nI (zfl a (zlw a.2.2.2.1 (2 ^ a.1)))
def zwm (a : ZA) (me : Nat → Int32) : ZA := (a.1, a.2.1, a.2.2.1, a.2.2.2.1, a.2.2.2.2.1, me, a.2.2.2.2.2.2)
def zq_put (a : ZA) (p v : Int32) : Int32 × ZA := if ¬ (¬ p < 0 ∧ p < nI (2 ^ a.1)) then (-1000001, a) else if v < -99 ∨ 99 < v then (-1000002, a) else (a.2.2.2.2.2.1 (zN p), zwm a (upd a.2.2.2.2.2.1 (zN p) v))
def zhe (c : Nat) (g : Int32) (f : Nat → Int32) (n : Nat) : Nat → Int32 := fun k => if k < n then (if c.testBit k = true then -g else g) else f k
def zq_hear (a : ZA) (s g : Int32) : Int32 × ZA := if ¬ (¬ s < 0 ∧ s < nI (2 ^ 2 ^ a.1)) ∨ g < 1 ∨ 99 < g then (-2, a) else (nI (zcod (zN s)), zwm a (zhe (zcod (zN s)) g a.2.2.2.2.2.1 (2 ^ a.1)))
def zsp (s : Nat) (h : Int32) (f : Nat → Int32) (n : Nat) : Nat → Int32 := fun k => if k < n ∧ s.testBit k = true then (if h = 0 then 0 else - f k) else f k
def zsc (s : Nat) (f : Nat → Int32) (k : Nat) : Bool := decide (s.testBit k = true ∧ ¬ f k = 0)
def zq_spoil (a : ZA) (s h : Int32) : Int32 × ZA := if ¬ (¬ s < 0 ∧ s < nI (2 ^ 2 ^ a.1)) ∨ h < 0 ∨ 1 < h then (-2, a) else (nI (zct (zsc (zN s) a.2.2.2.2.2.1) (2 ^ a.1)), zwm a (zsp (zN s) h a.2.2.2.2.2.1 (2 ^ a.1)))
def zq_measure (a : ZA) (p w : Int32) : Int32 := if ¬ (¬ p < 0 ∧ p < nI (2 ^ a.1)) then -1000001 else if w < 0 ∨ 1 < w then -1000002 else if w = 0 then a.2.2.2.2.2.1 (zN p) else zsee a.2.2.2.2.2.1 a.1 (zN p) (zrr a (2 ^ a.1))
def zq_read (a : ZA) (w : Int32) : Int32 := if w < 0 ∨ 3 < w then -2 else if w = 0 then nI (zrr a (2 ^ a.1)) else if w = 1 then zfi a.2.2.2.2.2.1 a.1 (zrr a (2 ^ a.1)) (2 ^ a.1) else if w = 2 then nI (zct (zun a.2.2.2.2.2.1 (zcod (zrr a (2 ^ a.1)))) (2 ^ a.1)) else zB (zhd a (zrr a (2 ^ a.1)) = true)
def zq_most (a : ZA) (v : Int32) : Int32 × ZA := if v < 1 ∨ 8 < v then (-2, a) else (nI a.2.2.2.2.1, a.1, a.2.1, a.2.2.1, a.2.2.2.1, zN v, a.2.2.2.2.2)
def zq_kept (a : ZA) (i w : Int32) : Int32 := if w < 0 ∨ 2 < w then -2 else if i = -1 then nI (zkp a (2 ^ a.1)).length else if ¬ (¬ i < 0 ∧ i < nI (zkp a (2 ^ a.1)).length) then -6 else if w = 0 then nI ((zkp a (2 ^ a.1)).getD (zN i) (0, 0)).1 else if w = 1 then ((zkp a (2 ^ a.1)).getD (zN i) (0, 0)).2 else zB (zhd a ((zkp a (2 ^ a.1)).getD (zN i) (0, 0)).1 = true)
def zch (a : ZA) : Option Nat := zff (fun j => zhd a ((zkp a (2 ^ a.1)).getD j (0, 0)).1) (zkp a (2 ^ a.1)).length
def zq_chosen (a : ZA) (w : Int32) : Int32 := if w < 0 ∨ 2 < w then -2 else match zch a with
  | none => -6
  | some j => if w = 0 then nI ((zkp a (2 ^ a.1)).getD j (0, 0)).1 else if w = 1 then nI j else ((zkp a (2 ^ a.1)).getD j (0, 0)).2
def zq_check (a : ZA) (c s : Int32) : Int32 × ZA := if c < 0 ∨ ¬ c < 3 then (-1, a) else if ¬ (¬ s < 0 ∧ s < nI (2 ^ 2 ^ a.1)) then (-2, a) else (a.2.2.2.2.2.2 (zN c), a.1, a.2.1, a.2.2.1, a.2.2.2.1, a.2.2.2.2.1, a.2.2.2.2.2.1, upd a.2.2.2.2.2.2 (zN c) s)
def zq_open (a : ZA) (s w : Int32) : Int32 := if ¬ (¬ s < 0 ∧ s < nI (2 ^ 2 ^ a.1)) ∨ w < 0 ∨ 1 < w then -2 else if w = 0 then nI (zopn (zN s) &&& (a.2.2.2.1 ^^^ 65535)) else nI (zpc (zopn (zN s) &&& (a.2.2.2.1 ^^^ 65535)))
def zq_count (a : ZA) (ik : Nat) (w : Int32) : Int32 := if w = 0 then nI a.1 else if w = 1 then nI a.2.1 else if w = 2 then nI a.2.2.1 else if w = 3 then nI a.2.2.2.1 else if w = 4 then nI (2 ^ a.1 - zpc a.2.2.2.1) else if w = 5 then nI a.2.2.2.2.1 else if w = 6 then nI ik else zcc a w
theorem zsw {x : Int32} (v : Int32) (h : ¬ x = v) : x.toInt ≠ v.toInt := fun q => h (Int32.toInt_inj.mp q)
theorem zhe_0 (c : Nat) (g : Int32) (f : Nat → Int32) : zhe c g f 0 = f := by funext k; simp [zhe]
theorem zhe_s {c i : Nat} {g v : Int32} {f : Nat → Int32} (hv : v = if c.testBit i = true then -g else g) : upd (zhe c g f i) i v = zhe c g f (i + 1) := by
  funext k
  rw [hv]
  by_cases hk : k = i
  · subst hk; rw [pk_us]; simp [zhe]
  · rw [pk_un hk]; simp only [zhe]
    by_cases h2 : k < i
    · rw [if_pos h2, if_pos (show k < i + 1 by omega)]
    · rw [if_neg h2, if_neg (show ¬ k < i + 1 by omega)]
theorem zsp_0 (s : Nat) (h : Int32) (f : Nat → Int32) : zsp s h f 0 = f := by funext k; simp [zsp]
theorem zsp_i (s i : Nat) (h : Int32) (f : Nat → Int32) : zsp s h f i i = f i := by simp [zsp]
theorem zsp_s {s i : Nat} {h v : Int32} {f : Nat → Int32} (hs : s.testBit i = true) (hv : v = if h = 0 then 0 else - f i) : upd (zsp s h f i) i v = zsp s h f (i + 1) := by
  funext k
  rw [hv]
  by_cases hk : k = i
  · subst hk; rw [pk_us]; simp [zsp, hs]
  · rw [pk_un hk]; simp only [zsp]
    by_cases h2 : k < i
    · simp only [h2, show k < i + 1 by omega]
    · simp only [h2, show ¬ k < i + 1 by omega]
theorem zsp_n {s i : Nat} {h : Int32} {f : Nat → Int32} (hs : ¬ s.testBit i = true ∨ f i = 0) : zsp s h f (i + 1) = zsp s h f i := by
  funext k
  simp only [zsp]
  by_cases hk : k = i
  · subst hk
    rcases hs with hs | hs
    · simp [hs]
    · by_cases hb : s.testBit k = true
      · simp [hb, hs]
      · simp [hb]
  · by_cases h2 : k < i
    · simp only [h2, show k < i + 1 by omega]
    · simp only [h2, show ¬ k < i + 1 by omega]
theorem zz_lkup {x o1 o2 d : Int} (h0 : x ≠ 0) (h1 : x ≠ 1) : Op.lookupswitch.offset [(0, o1), (1, o2)] d x = d := by
  rw [Op.lookupswitch.offset_cons, if_neg (fun q => h0 q.symm), Op.lookupswitch.offset_cons, if_neg (fun q => h1 q.symm), Op.lookupswitch.offset_nil]
end
section
/-! ===== Euclid ends soon ===== -/
def zfib : Nat → Nat
  | 0 => 1
  | 1 => 2
  | n + 2 => zfib (n + 1) + zfib n
theorem zeu_shift (x y : Nat) : ∀ j, zeu x y (j + 1) = zeu y (x % y) j
  | 0 => rfl
  | j + 1 => by
    have ih := zeu_shift x y j
    show ((zeu x y (j + 1)).2, (zeu x y (j + 1)).1 % (zeu x y (j + 1)).2) = ((zeu y (x % y) j).2, (zeu y (x % y) j).1 % (zeu y (x % y) j).2)
    rw [ih]
def zEnd (x y n : Nat) : Prop := ∃ K, K ≤ n ∧ (∀ j, j < K → (zeu x y j).2 ≠ 0) ∧ (zeu x y K).2 = 0
theorem zEnd_step {x y n : Nat} (hy : y ≠ 0) (h : zEnd y (x % y) n) : zEnd x y (n + 1) := by
  obtain ⟨K, h1, h2, h3⟩ := h
  refine ⟨K + 1, by omega, fun j hj => ?_, by rw [zeu_shift]; exact h3⟩
  cases j with
  | zero => exact hy
  | succ j => rw [zeu_shift]; exact h2 j (by omega)
theorem zEnd_mono {x y n n' : Nat} (h : zEnd x y n) (hn : n ≤ n') : zEnd x y n' := by
  obtain ⟨K, h1, h2⟩ := h
  exact ⟨K, by omega, h2⟩
theorem zfib_pos : ∀ n, 1 ≤ zfib n ∧ 1 ≤ zfib (n + 1)
  | 0 => ⟨Nat.le_refl _, by decide⟩
  | n + 1 => ⟨(zfib_pos n).2, Nat.le_trans (zfib_pos n).2 (Nat.le_add_right _ _)⟩
theorem zEnd_fib : ∀ n, (∀ x y, y < zfib n → zEnd x y n) ∧ (∀ x y, y < zfib (n + 1) → zEnd x y (n + 1)) := by
  intro n
  induction n with
  | zero =>
    refine ⟨fun x y h => ?_, fun x y h => ?_⟩
    · have : y = 0 := by simp [zfib] at h; omega
      subst this
      exact ⟨0, Nat.le_refl _, fun j hj => absurd hj (Nat.not_lt_zero _), rfl⟩
    · have h : y < 2 := h
      rcases (show y = 0 ∨ y = 1 by omega) with rfl | rfl
      · exact ⟨0, by omega, fun j hj => absurd hj (Nat.not_lt_zero _), rfl⟩
      · refine zEnd_step (by omega) ?_
        rw [Nat.mod_one]
        exact ⟨0, Nat.le_refl _, fun j hj => absurd hj (Nat.not_lt_zero _), rfl⟩
  | succ n ih =>
    refine ⟨ih.2, fun x y h => ?_⟩
    have hf : zfib (n + 1 + 1) = zfib (n + 1) + zfib n := rfl
    have hf1 := (zfib_pos n).2
    by_cases hy : y = 0
    · subst hy
      exact ⟨0, by omega, fun j hj => absurd hj (Nat.not_lt_zero _), rfl⟩
    · have hr : x % y < y := Nat.mod_lt _ (by omega)
      by_cases h1 : x % y < zfib (n + 1)
      · exact zEnd_step hy (ih.2 y (x % y) h1)
      · refine zEnd_step hy (zEnd_step (by omega) (zEnd_mono (ih.1 (x % y) (y % (x % y)) ?_) (Nat.le_refl _)))
        have : y % (x % y) ≤ y - x % y := by
          rw [Nat.mod_eq_sub_mod (by omega)]
          exact Nat.mod_le _ _
        omega
theorem zeu_gcd (x y : Nat) : ∀ j, Nat.gcd (zeu x y j).1 (zeu x y j).2 = Nat.gcd x y
  | 0 => rfl
  | j + 1 => by
    rw [← zeu_gcd x y j]
    show Nat.gcd (zeu x y j).2 ((zeu x y j).1 % (zeu x y j).2) = _
    rw [Nat.gcd_comm, ← Nat.gcd_rec, Nat.gcd_comm]
theorem zlo_pos {o : Nat} (h : 1 ≤ o) : ∀ j, 1 ≤ zlo o j
  | 0 => h
  | j + 1 => Nat.mul_pos (zlo_pos h j) (zlo_pos h j)
theorem zfib_80 : 10000000000000000 < zfib 80 := by decide +kernel
theorem zeu_K {a : ZA} (hI : zInv a) (k : Nat) : ∃ K, K < 100 ∧ (∀ j, j < K → (zeu (zlo a.2.2.1 a.1) (zlos a k) j).2 ≠ 0) ∧ (zeu (zlo a.2.2.1 a.1) (zlos a k) K).2 = 0 ∧ (zeu (zlo a.2.2.1 a.1) (zlos a k) K).1 = zgc a k ∧ 1 ≤ zgc a k ∧ zgc a k < 2 ^ 63 := by
  have h1 := zup_le a.1 k hI.2.1.1 a.1
  rw [zup_2] at h1
  have h2 := zlo_le hI.2.1.2.2 a.1 hI.1.2
  have h3 : zlos a k < zfib 80 := by have := zfib_80; show (zup a.2.1 a.2.2.1 a.1 k a.1).1 < _; omega
  obtain ⟨K, hK, hK1, hK2⟩ := (zEnd_fib 80).1 (zlo a.2.2.1 a.1) (zlos a k) h3
  have h4 := zlo_pos (show 1 ≤ a.2.2.1 by have := hI.2.1; omega) a.1
  have h5 : (zeu (zlo a.2.2.1 a.1) (zlos a k) K).1 = zgc a k := by
    have := zeu_gcd (zlo a.2.2.1 a.1) (zlos a k) K
    rw [hK2, Nat.gcd_zero_right] at this
    exact this
  refine ⟨K, by omega, hK1, hK2, h5, Nat.gcd_pos_of_pos_left _ h4, ?_⟩
  have : zgc a k ≤ zlo a.2.2.1 a.1 := Nat.gcd_le_left _ h4
  omega
/-! ===== ranks ===== -/
theorem zct_lt {P : Nat → Bool} : ∀ {n : Nat} (b : Nat), b < n → P b = false → zct P n < n
  | 0, b, h, _ => absurd h (Nat.not_lt_zero _)
  | n + 1, b, h, hb => by
    unfold zct
    by_cases hn : b = n
    · subst hn
      rw [hb, if_neg (by decide)]
      have := zct_le P b
      omega
    · have := zct_lt b (show b < n by omega) hb
      split <;> omega
theorem zct_sub {P Q : Nat → Bool} : ∀ {n : Nat}, (∀ k, k < n → P k = true → Q k = true) → zct P n ≤ zct Q n
  | 0, _ => Nat.le_refl _
  | n + 1, h => by
    have ih := zct_sub (n := n) (fun k hk => h k (by omega))
    have h1 := h n (by omega)
    unfold zct
    by_cases hp : P n = true
    · rw [if_pos hp, if_pos (h1 hp)]; omega
    · rw [if_neg hp]; split <;> omega
theorem zct_sublt {P Q : Nat → Bool} : ∀ {n : Nat}, (∀ k, k < n → P k = true → Q k = true) → ∀ b, b < n → P b = false → Q b = true → zct P n < zct Q n
  | 0, _, b, h, _, _ => absurd h (Nat.not_lt_zero _)
  | n + 1, h, b, hb, h1, h2 => by
    unfold zct
    by_cases hn : b = n
    · subst hn
      have := zct_sub (n := b) (fun k hk => h k (by omega))
      rw [h1, h2, if_neg (by decide), if_pos rfl]
      omega
    · have ih := zct_sublt (n := n) (fun k hk => h k (by omega)) b (by omega) h1 h2
      have h3 := h n (by omega)
      by_cases hp : P n = true
      · rw [if_pos hp, if_pos (h3 hp)]; omega
      · rw [if_neg hp]; split <;> omega
theorem zct_cong {P Q : Nat → Bool} : ∀ {n : Nat}, (∀ k, k < n → P k = Q k) → zct P n = zct Q n
  | 0, _ => rfl
  | n + 1, h => by
    unfold zct
    rw [zct_cong (n := n) (fun k hk => h k (by omega)), h n (by omega)]
theorem zrk_lt {a : ZA} {k : Nat} (h : k < 2 ^ a.1) : zrk a k < 2 ^ a.1 := zct_lt k h (by unfold zbt; rw [decide_eq_false_iff_not]; omega)
theorem zrk_ne {a : ZA} {i j : Nat} (hi : i < 2 ^ a.1) (hj : j < 2 ^ a.1) (h : zbt a j i = true) : zrk a i < zrk a j := by
  refine zct_sublt (fun k _ hk => ?_) i hi ?_ h
  · unfold zbt at hk h ⊢
    rw [decide_eq_true_eq] at hk h ⊢
    omega
  · unfold zbt; rw [decide_eq_false_iff_not]; omega
theorem zrk_inj {a : ZA} {i j : Nat} (hi : i < 2 ^ a.1) (hj : j < 2 ^ a.1) (h : i ≠ j) : zrk a i ≠ zrk a j := by
  by_cases hb : zbt a j i = true
  · exact Nat.ne_of_lt (zrk_ne hi hj hb)
  · refine (Nat.ne_of_lt (zrk_ne hj hi ?_)).symm
    unfold zbt at hb ⊢
    rw [decide_eq_true_eq] at hb ⊢
    omega
theorem zbr_spec {a : ZA} (hI : zInv a) {r : Nat} (h : r < 2 ^ a.1) : zbr a r < 2 ^ a.1 ∧ zrk a (zbr a r) = r ∧ ∀ j, j < zbr a r → zrk a j ≠ r := by
  obtain ⟨b, hb, hr⟩ := fb_onto (f := zrk a) (fun i hi => zrk_lt hi) (fun i j hij hj => zrk_inj (by omega) hj (by omega)) h
  obtain ⟨i, h1, h2, h3⟩ := fb_first (p := fun b => zrk a b = r) ⟨b, hb, hr⟩
  have e : zbr a r = i := by
    unfold zbr
    rw [zff_some h1 (decide_eq_true h2) (fun j hj => decide_eq_false (h3 j hj))]
    rfl
  rw [e]
  exact ⟨h1, h2, h3⟩
theorem zInv_fz {a : ZA} (hI : zInv a) {k : Nat} (h : k < 2 ^ 2 ^ a.1) : zInv (a.1, a.2.1, a.2.2.1, k, a.2.2.2.2.1, a.2.2.2.2.2.1, a.2.2.2.2.2.2) := ⟨hI.1, hI.2.1, h, hI.2.2.2⟩
/-! ===== the sets of a size, one behind the other ===== -/
def zfold {σ : Type} (f : Nat → σ → σ) : Nat → Nat → σ → σ
  | 0, b, s => f b s
  | k + 1, b, s => zfold f k (b + 2 ^ k) (zfold f k b s)
def zit {σ : Type} (f : Nat → σ → σ) (b : Nat) : Nat → σ → σ
  | 0, s => s
  | n + 1, s => f (b + n) (zit f b n s)
theorem zit_add {σ : Type} (f : Nat → σ → σ) (b m : Nat) (s : σ) : ∀ n, zit f b (m + n) s = zit f (b + m) n (zit f b m s)
  | 0 => rfl
  | n + 1 => by
    show f (b + (m + n)) (zit f b (m + n) s) = f (b + m + n) _
    rw [zit_add f b m s n, Nat.add_assoc]
theorem zfold_it {σ : Type} (f : Nat → σ → σ) : ∀ (k b : Nat) (s : σ), zfold f k b s = zit f b (2 ^ k) s
  | 0, b, s => rfl
  | k + 1, b, s => by
    show zfold f k (b + 2 ^ k) (zfold f k b s) = _
    rw [zfold_it f k, zfold_it f k, Nat.pow_succ, Nat.mul_two, zit_add]
def zgo (w v : Nat) (s : Option (Nat × Nat)) : Option (Nat × Nat) := match s with
  | none => none
  | some (c, j) => if zpc v = w then (if v = c then (if 1 ≤ zlow c then some (znx c, j + 1) else none) else none) else some (c, j)
/-- what is known behind n numbers: the first j of the row are those of the size -/
def zGone (w n j : Nat) : Prop := (∀ i, i < j → zsq w i < n ∧ zpc (zsq w i) = w ∧ 1 ≤ zlow (zsq w i)) ∧ (∀ v, v < n → zpc v = w → ∃ i, i < j ∧ v = zsq w i) ∧ (∀ i i', i < i' → i' < j → zsq w i < zsq w i') ∧ ∀ P : Nat → Bool, zct (fun i => P (zsq w i)) j = zct (fun v => decide (zpc v = w) && P v) n
theorem zgo_sound (w : Nat) : ∀ (n c j : Nat), zit (zgo w) 0 n (some (zsq w 0, 0)) = some (c, j) → c = zsq w j ∧ zGone w n j
  | 0, c, j, h => by
    simp only [zit, Option.some.injEq, Prod.mk.injEq] at h
    obtain ⟨rfl, rfl⟩ := h
    exact ⟨rfl, fun i hi => absurd hi (Nat.not_lt_zero _), fun v hv => absurd hv (Nat.not_lt_zero _), fun i i' _ hi => absurd hi (Nat.not_lt_zero _), fun P => rfl⟩
  | n + 1, c, j, h => by
    simp only [zit, Nat.zero_add] at h
    cases hs : zit (zgo w) 0 n (some (zsq w 0, 0)) with
    | none => rw [hs] at h; simp [zgo] at h
    | some x =>
      obtain ⟨c0, j0⟩ := x
      rw [hs] at h
      obtain ⟨rfl, g1, g2, g3, g4⟩ := zgo_sound w n c0 j0 hs
      simp only [zgo] at h
      by_cases hw : zpc n = w
      · rw [if_pos hw] at h
        by_cases hv : n = zsq w j0
        · rw [if_pos hv] at h
          by_cases hl : 1 ≤ zlow (zsq w j0)
          · rw [if_pos hl] at h
            simp only [Option.some.injEq, Prod.mk.injEq] at h
            obtain ⟨rfl, rfl⟩ := h
            refine ⟨rfl, fun i hi => ?_, fun v h1 h2 => ?_, fun i i' h1 h2 => ?_, fun P => ?_⟩
            · by_cases he : i = j0
              · subst he
                exact ⟨by omega, by rw [← hv]; exact hw, hl⟩
              · have := g1 i (by omega)
                exact ⟨by omega, this.2⟩
            · by_cases he : v = n
              · exact ⟨j0, by omega, by omega⟩
              · obtain ⟨i, h3, h4⟩ := g2 v (by omega) h2
                exact ⟨i, by omega, h4⟩
            · by_cases he : i' = j0
              · subst he
                have := (g1 i h1).1
                omega
              · exact g3 i i' h1 (by omega)
            · have := g4 P
              unfold zct
              rw [this, ← hv]
              simp [hw]
          · rw [if_neg hl] at h; cases h
        · rw [if_neg hv] at h; cases h
      · rw [if_neg hw] at h
        simp only [Option.some.injEq, Prod.mk.injEq] at h
        obtain ⟨rfl, rfl⟩ := h
        refine ⟨rfl, fun i hi => ?_, fun v h1 h2 => ?_, g3, fun P => ?_⟩
        · have := g1 i hi
          exact ⟨by omega, this.2⟩
        · exact g2 v (Nat.lt_of_le_of_ne (by omega) (fun q => hw (by rw [← q]; exact h2))) h2
        · have := g4 P
          rw [this]
          show _ = zct (fun v => decide (zpc v = w) && P v) n + _
          simp [hw]
theorem ztb_add {m k r i : Nat} (hr : r < 2 ^ k) : (2 ^ k * m + r).testBit i = if i < k then r.testBit i else (2 ^ k * m).testBit i := by
  rw [Nat.testBit_two_pow_mul_add m hr i]
  by_cases h : i < k
  · rw [if_pos h, if_pos h]
  · rw [if_neg h, if_neg h, Nat.testBit_two_pow_mul]
    simp [show k ≤ i by omega]
theorem zsz_add {m k r : Nat} (hr : r < 2 ^ k) : ∀ n, zsz (2 ^ k * m + r) n = zsz (2 ^ k * m) n + zsz r n
  | 0 => rfl
  | n + 1 => by
    show zsz _ n + _ = zsz _ n + _ + (zsz _ n + _)
    rw [zsz_add hr n, ztb_add hr]
    by_cases h : n < k
    · rw [if_pos h]
      have : (2 ^ k * m).testBit n = false := by rw [Nat.testBit_two_pow_mul]; simp [show ¬ k ≤ n by omega]
      rw [this]
      simp only [Bool.toNat_false]
      omega
    · rw [if_neg h]
      have : r.testBit n = false := Nat.testBit_lt_two_pow (Nat.lt_of_lt_of_le hr (Nat.pow_le_pow_right (by omega) (by omega)))
      rw [this]
      simp only [Bool.toNat_false]
      omega
theorem zsz_lek {r k : Nat} (h : r < 2 ^ k) (n : Nat) : zsz r n ≤ k := by
  rcases Nat.le_total n k with q | q
  · exact Nat.le_trans (zsz_le r n) q
  · rw [show n = k + (n - k) by omega, zsz_hi h]
    exact zsz_le r k
/-- a stretch of numbers from b on: none has less 1 than b, none more than k more -/
theorem zpc_tree {m k v : Nat} (h1 : 2 ^ k * m ≤ v) (h2 : v < 2 ^ k * m + 2 ^ k) : zpc (2 ^ k * m) ≤ zpc v ∧ zpc v ≤ zpc (2 ^ k * m) + k := by
  obtain ⟨r, rfl⟩ := Nat.exists_eq_add_of_le h1
  have hr : r < 2 ^ k := by omega
  rw [← zsz_16, ← zsz_16, zsz_add hr]
  have := zsz_lek hr 16
  omega
theorem zit_skip {w b c j : Nat} : ∀ n, (∀ v, b ≤ v → v < b + n → zpc v ≠ w) → zit (zgo w) b n (some (c, j)) = some (c, j)
  | 0, _ => rfl
  | n + 1, h => by
    show zgo w (b + n) (zit (zgo w) b n (some (c, j))) = _
    rw [zit_skip n (fun v h1 h2 => h v h1 (by omega))]
    simp only [zgo]
    rw [if_neg (h (b + n) (by omega) (by omega))]
def zgoC (w : Nat) : Nat → Nat → Nat → (Nat → Bool) → Bool
  | 0, b, c, K => if zpc b = w then (if b = c then (if 1 ≤ zlow c then (match znx c with
      | 0 => K 0
      | n + 1 => K (n + 1)) else false) else false) else K c
  | k + 1, b, c, K => if w < zpc b ∨ zpc b + (k + 1) < w then K c else zgoC w k b c (fun c' => zgoC w k (b + 2 ^ k) c' K)
theorem zgoC_use (w : Nat) : ∀ (k b c j : Nat) (K : Nat → Bool), (∃ m, b = 2 ^ k * m) → zgoC w k b c K = true → ∃ c' j', zit (zgo w) b (2 ^ k) (some (c, j)) = some (c', j') ∧ K c' = true
  | 0, b, c, j, K, _, h => by
    show ∃ c' j', zgo w (b + 0) (some (c, j)) = some (c', j') ∧ K c' = true
    unfold zgoC at h
    simp only [zgo, Nat.add_zero]
    by_cases h1 : zpc b = w
    · rw [if_pos h1] at h ⊢
      by_cases h2 : b = c
      · rw [if_pos h2] at h ⊢
        by_cases h3 : 1 ≤ zlow c
        · rw [if_pos h3] at h ⊢
          refine ⟨znx c, j + 1, rfl, ?_⟩
          cases hz : znx c with
          | zero => rw [hz] at h; exact h
          | succ n => rw [hz] at h; exact h
        · rw [if_neg h3] at h; cases h
      · rw [if_neg h2] at h; cases h
    · rw [if_neg h1] at h ⊢
      exact ⟨c, j, rfl, h⟩
  | k + 1, b, c, j, K, hb, h => by
    obtain ⟨m, rfl⟩ := hb
    unfold zgoC at h
    by_cases hs : w < zpc (2 ^ (k + 1) * m) ∨ zpc (2 ^ (k + 1) * m) + (k + 1) < w
    · rw [if_pos hs] at h
      refine ⟨c, j, zit_skip _ (fun v h1 h2 => ?_), h⟩
      have := zpc_tree h1 h2
      omega
    · rw [if_neg hs] at h
      have e : 2 ^ (k + 1) * m = 2 ^ k * (2 * m) := by rw [Nat.pow_succ, Nat.mul_assoc]
      have e3 : 2 ^ (k + 1) * m + 2 ^ k = 2 ^ k * (2 * m + 1) := by rw [e, Nat.mul_add, Nat.mul_one]
      obtain ⟨c1, j1, e1, h1⟩ := zgoC_use w k _ c j _ ⟨2 * m, e⟩ h
      obtain ⟨c2, j2, e2, h2⟩ := zgoC_use w k _ c1 j1 _ ⟨2 * m + 1, e3⟩ h1
      refine ⟨c2, j2, ?_, h2⟩
      rw [show 2 ^ (k + 1) = 2 ^ k + 2 ^ k by rw [Nat.pow_succ]; omega] at *
      rw [zit_add, e1, e2]
def zOk (N w : Nat) : Bool := zgoC w N 0 (2 ^ w - 1) (fun c => decide (2 ^ N ≤ c) && decide (c < 2 ^ 20)) && decide (1 ≤ w)
theorem zOk_use {N w : Nat} (h : zOk N w = true) : ∃ K, zSeq w N K ∧ zGone w (2 ^ N) K := by
  unfold zOk at h
  rw [Bool.and_eq_true, decide_eq_true_eq] at h
  obtain ⟨c, j, e, hc⟩ := zgoC_use w N 0 (2 ^ w - 1) 0 _ ⟨0, (Nat.mul_zero _).symm⟩ h.1
  rw [Bool.and_eq_true, decide_eq_true_eq, decide_eq_true_eq] at hc
  obtain ⟨rfl, g⟩ := zgo_sound w (2 ^ N) c j e
  have hj : j < 2 ^ N := by
    have h1 := g.2.2.2 (fun _ => true)
    have h2 : zct (fun _ => true) j = j := by
      clear h1 g e hc
      induction j with
      | zero => rfl
      | succ j ih => show zct (fun _ => true) j + 1 = j + 1; rw [ih]
    rw [h2] at h1
    rw [h1]
    refine zct_lt 0 (Nat.two_pow_pos N) ?_
    have : zpc 0 = 0 := by decide
    simp [this, show ¬ 0 = w by omega]
  exact ⟨j, ⟨fun i hi => ⟨(g.1 i hi).2.2, (g.1 i hi).1⟩, hc.1, hc.2, hj⟩, g⟩
theorem zOk_2 : zOk 2 1 = true ∧ zOk 2 2 = true := by decide +kernel
theorem zOk_4 : zOk 4 1 = true ∧ zOk 4 2 = true ∧ zOk 4 4 = true := by decide +kernel
theorem zOk_8 : zOk 8 1 = true ∧ zOk 8 2 = true ∧ zOk 8 4 = true ∧ zOk 8 8 = true := by decide +kernel
set_option maxRecDepth 100000 in
theorem zOk_16_1 : zOk 16 1 = true := by decide +kernel
set_option maxRecDepth 100000 in
theorem zOk_16_2 : zOk 16 2 = true := by decide +kernel
set_option maxRecDepth 100000 in
theorem zOk_16_4 : zOk 16 4 = true := by decide +kernel
set_option maxRecDepth 100000 in
theorem zOk_16_8 : zOk 16 8 = true := by decide +kernel
set_option maxRecDepth 100000 in
theorem zOk_16_16 : zOk 16 16 = true := by decide +kernel
theorem zff_lt {P : Nat → Bool} {n i : Nat} (h : zff P n = some i) : i < n := List.mem_range.mp (List.mem_of_find?_eq_some h)
end
section
/-! What the reference's walks need: its row of numbers, what is free, loops. -/
theorem zst_put {a : ZA} {k : Nat} {v : Int32} (b : ZA) (h : ∀ j, j < 24 → (if j = k then v else zst a j) = zst b j) {D : va_G} {ws : va_W} {H : Heap} {q i : Nat} {cA : ClassId} (hP : va_P D vwCl ws H) (hk : ws[i]? = some (q, .inl (cA, 24, .inl (upd (zst a) k v)))) : va_P D vwCl (ws.set i (q, .inl (cA, 24, .inl (zst b)))) H := zP_arr hP hk (fun j hj => h j hj)
theorem zst_u0 (a : ZA) (k : Nat) : upd (zst a) 0 (nI k) = zst (k, a.2.1, a.2.2.1, a.2.2.2.1, a.2.2.2.2.1, a.2.2.2.2.2.1, a.2.2.2.2.2.2) := by
  funext j
  match j with
  | 0 => rfl
  | 1 | 2 | 3 | 4 | 5 | 6 | 7 => rfl
  | j + 8 => rfl
theorem zst_u1 (a : ZA) (k : Nat) : upd (zst a) 1 (nI k) = zst (a.1, k, a.2.2.1, a.2.2.2.1, a.2.2.2.2.1, a.2.2.2.2.2.1, a.2.2.2.2.2.2) := by
  funext j
  match j with
  | 0 => rfl
  | 1 | 2 | 3 | 4 | 5 | 6 | 7 => rfl
  | j + 8 => rfl
theorem zst_u2 (a : ZA) (k : Nat) : upd (zst a) 2 (nI k) = zst (a.1, a.2.1, k, a.2.2.2.1, a.2.2.2.2.1, a.2.2.2.2.2.1, a.2.2.2.2.2.2) := by
  funext j
  match j with
  | 0 => rfl
  | 1 | 2 | 3 | 4 | 5 | 6 | 7 => rfl
  | j + 8 => rfl
theorem zst_u3 (a : ZA) (k : Nat) : upd (zst a) 3 (nI k) = zst (a.1, a.2.1, a.2.2.1, k, a.2.2.2.2.1, a.2.2.2.2.2.1, a.2.2.2.2.2.2) := by
  funext j
  match j with
  | 0 => rfl
  | 1 | 2 | 3 | 4 | 5 | 6 | 7 => rfl
  | j + 8 => rfl
theorem zst_u4 (a : ZA) (k : Nat) : upd (zst a) 4 (nI k) = zst (a.1, a.2.1, a.2.2.1, a.2.2.2.1, k, a.2.2.2.2.2.1, a.2.2.2.2.2.2) := by
  funext j
  match j with
  | 0 => rfl
  | 1 | 2 | 3 | 4 | 5 | 6 | 7 => rfl
  | j + 8 => rfl
theorem zst_u5 (a : ZA) {k : Nat} (h : k < 3) (v : Int32) : upd (zst a) (5 + k) v = zst (a.1, a.2.1, a.2.2.1, a.2.2.2.1, a.2.2.2.2.1, a.2.2.2.2.2.1, upd a.2.2.2.2.2.2 k v) := by
  funext j
  rcases (show k = 0 ∨ k = 1 ∨ k = 2 by omega) with rfl | rfl | rfl
  all_goals
    match j with
    | 0 => rfl
    | 1 | 2 | 3 | 4 | 5 | 6 | 7 => rfl
    | j + 8 => rfl
theorem zst_u8 (a : ZA) (k : Nat) (v : Int32) : upd (zst a) (8 + k) v = zst (a.1, a.2.1, a.2.2.1, a.2.2.2.1, a.2.2.2.2.1, upd a.2.2.2.2.2.1 k v, a.2.2.2.2.2.2) := by
  funext j
  by_cases h : j = 8 + k
  · subst h
    rw [pk_us, zst_me]
    exact pk_us.symm
  · rw [pk_un h]
    match j, h with
    | 0, _ => rfl
    | 1, _ | 2, _ | 3, _ | 4, _ | 5, _ | 6, _ | 7, _ => rfl
    | j + 8, h =>
      show a.2.2.2.2.2.1 j = upd a.2.2.2.2.2.1 k v j
      rw [pk_un (by omega)]
def zfre (a : ZA) : Nat := (2 ^ 2 ^ a.1 - 1) &&& (a.2.2.2.1 ^^^ 65535)
theorem zfre_bit {a : ZA} (hI : zInv a) (k : Nat) : (zfre a).testBit k = (decide (k < 2 ^ a.1) && !(a.2.2.2.1.testBit k)) := by
  have h16 := zNp hI
  unfold zfre
  rw [Nat.testBit_and, Nat.testBit_xor, Nat.testBit_two_pow_sub_one, show 65535 = 2 ^ 16 - 1 from rfl, Nat.testBit_two_pow_sub_one]
  by_cases h : k < 2 ^ a.1
  · simp [h, show k < 16 by omega]
  · simp [h]
theorem zfre_lt {a : ZA} (hI : zInv a) : zfre a < 65536 := by
  have := zNN hI
  exact Nat.lt_of_le_of_lt Nat.and_le_left (by omega)
theorem zfre_1 {a : ZA} (hI : zInv a) {k : Nat} (hk : k < 2 ^ a.1) : (zfre a >>> k &&& 1 = 1) ↔ ¬ a.2.2.2.1.testBit k = true := by
  have h : zfre a >>> k &&& 1 = ((zfre a).testBit k).toNat := by
    rw [Nat.and_one_is_mod, Nat.shiftRight_eq_div_pow, zsz_bit]
  rw [h, zfre_bit hI, decide_eq_true hk]
  cases a.2.2.2.1.testBit k <;> simp
theorem zbit_01 (v k : Nat) : v >>> k &&& 1 = (v.testBit k).toNat := by rw [Nat.and_one_is_mod, Nat.shiftRight_eq_div_pow, zsz_bit]
theorem zbit_0 {v k : Nat} : (v >>> k &&& 1 = 0) ↔ ¬ v.testBit k = true := by
  rw [zbit_01]; cases v.testBit k <;> simp
theorem zbit_1 {v k : Nat} : (v >>> k &&& 1 = 1) ↔ v.testBit k = true := by
  rw [zbit_01]; cases v.testBit k <;> simp
theorem zI_1 {x : Nat} (h : x < 2 ^ 31) : (nI x = 1) ↔ x = 1 := nI_eq h (by decide)
theorem zand1 (x : Nat) : x &&& 1 < 2 ^ 31 := Nat.lt_of_le_of_lt Nat.and_le_right (by decide)
theorem zB_cong {P Q : Prop} [Decidable P] [Decidable Q] (h : P ↔ Q) : zB P = zB Q := by
  unfold zB
  by_cases hp : P
  · rw [if_pos hp, if_pos (h.mp hp)]
  · rw [if_neg hp, if_neg (fun q => hp (h.mpr q))]
/-- 'in' from lo to n less 1 -/
theorem zin_iff {p : Int32} {n : Nat} (h1 : 1 ≤ n) (h2 : n < 2 ^ 31) : ¬ (p < 0 ∨ nI (n - 1) < p) ↔ (¬ p < 0 ∧ p < nI n) := by
  have e : ¬ nI (n - 1) < p ↔ p < nI n := by
    rw [Int32.lt_iff_toInt_lt, Int32.lt_iff_toInt_lt, nI_toInt (by omega), nI_toInt h2]
    omega
  constructor
  · intro h
    exact ⟨fun q => h (Or.inl q), e.mp (fun q => h (Or.inr q))⟩
  · rintro ⟨q1, q2⟩ (q | q)
    · exact q1 q
    · exact e.mpr q2 q
theorem zw01 {w : Int32} (h0 : ¬ w = 0) (h1 : ¬ w = 1) : w < 0 ∨ 1 < w := by
  have q0 : w.toInt ≠ 0 := zsw 0 h0
  have q1 : w.toInt ≠ 1 := zsw 1 h1
  rcases (show w.toInt < 0 ∨ 1 < w.toInt by omega) with q | q
  · exact Or.inl (Int32.lt_iff_toInt_lt.mpr q)
  · exact Or.inr (Int32.lt_iff_toInt_lt.mpr q)
theorem zdn {d i : Nat} (h : i < d) : nI d - 1 - nI i = nI (d - 1 - i) := by
  rw [show (1 : Int32) = nI 1 from rfl, pk_sub (by omega), pk_sub (by omega)]
theorem zdn_e (d : Nat) : nI d - 1 - nI d < 0 := by
  have : nI d - 1 - nI d = -1 := by
    rw [Int32.sub_sub, Int32.add_comm, ← Int32.sub_sub, Int32.sub_self, Int32.zero_sub]
  rw [this]
  decide
theorem zdn_s {d i : Nat} (h : i < d) : nI (d - 1 - i) + (-1) = nI d - 1 - nI (i + 1) := by
  rw [← zdn h, ← nI_1, ← Int32.sub_eq_add_neg, ← Int32.sub_sub]
theorem zsz_s (z i : Nat) : zsz z i + (z >>> i &&& 1) = zsz z (i + 1) := by
  show _ = zsz z i + (z.testBit i).toNat
  rw [zbit_01]
/-- the bits that the reference leaves frozen -/
def zbs (a : ZA) : Nat → Nat
  | 0 => 2 ^ 2 ^ a.1 - 1
  | i + 1 => zbs a i &&& (2 ^ zbr a i ^^^ 65535)
theorem zbs_lt {a : ZA} (hI : zInv a) : ∀ i, zbs a i < 65536
  | 0 => by have := zNN hI; show 2 ^ 2 ^ a.1 - 1 < 65536; have := Nat.two_pow_pos (2 ^ a.1); omega
  | i + 1 => Nat.lt_of_le_of_lt Nat.and_le_left (zbs_lt hI i)
/-- one level of CODED, bit by bit -/
def zcb (v l k : Nat) : Nat := if k / 2 ^ l % 2 = 0 then (v >>> k &&& 1) ^^^ (v >>> (k + 2 ^ l) &&& 1) else v >>> k &&& 1
def zcn (v l : Nat) : Nat → Nat
  | 0 => 0
  | k + 1 => zcn v l k ||| zcb v l k <<< k
theorem zcb_le (v l k : Nat) : zcb v l k ≤ 1 := by
  unfold zcb
  split
  · rw [zbit_01, zbit_01]
    cases v.testBit k <;> cases v.testBit (k + 2 ^ l) <;> decide
  · exact Nat.and_le_right
theorem zcb_bit {v l k : Nat} : (zcb v l k).testBit 0 = if k / 2 ^ l % 2 = 0 then (v.testBit k ^^ v.testBit (k + 2 ^ l)) else v.testBit k := by
  unfold zcb
  rw [zbit_01, zbit_01]
  split <;> cases v.testBit k <;> cases v.testBit (k + 2 ^ l) <;> rfl
theorem zor_bit {x b k j : Nat} (hb : b ≤ 1) : (x ||| b <<< k).testBit j = (x.testBit j || (decide (j = k) && b.testBit 0)) := by
  rw [Nat.testBit_or, Nat.testBit_shiftLeft]
  congr 1
  by_cases h : j = k
  · subst h; simp
  · by_cases h2 : k ≤ j
    · have : b.testBit (j - k) = false := by
        rcases (show b = 0 ∨ b = 1 by omega) with rfl | rfl
        · simp
        · exact Nat.testBit_lt_two_pow (Nat.lt_of_lt_of_le (by decide : 1 < 2 ^ 1) (Nat.pow_le_pow_right (by omega) (by omega)))
      simp [h, this]
    · simp [h, h2]
theorem zcn_bit (v l : Nat) : ∀ m j, (zcn v l m).testBit j = (decide (j < m) && (zcb v l j).testBit 0)
  | 0, j => by simp [zcn]
  | m + 1, j => by
    rw [show zcn v l (m + 1) = zcn v l m ||| zcb v l m <<< m from rfl, zor_bit (zcb_le v l m), zcn_bit v l m j]
    by_cases h : j = m
    · subst h; simp
    · by_cases h2 : j < m
      · simp [h, h2, show j < m + 1 by omega]
      · simp [h, h2, show ¬ j < m + 1 by omega]
theorem zcn_lt (v l : Nat) (m : Nat) : zcn v l m < 2 ^ m := zlt_bits (fun i hi => by rw [zcn_bit]; simp [show ¬ i < m by omega])
theorem zmask_bit : ∀ l, l < 4 → ∀ j, j < 16 → (zmask l).testBit j = decide (j / 2 ^ l % 2 = 0) := by decide +kernel
/-- the reference's level is the class's -/
theorem zcn_eq {v m l : Nat} (hv : v < 2 ^ m) (hm : m ≤ 16) (hl : l < 4) : zcn v l m = v ^^^ ((v >>> 2 ^ l) &&& zmask l) := by
  apply Nat.eq_of_testBit_eq
  intro j
  rw [zcn_bit, zcb_bit, Nat.testBit_xor, Nat.testBit_and, Nat.testBit_shiftRight]
  by_cases h : j < m
  · rw [zmask_bit l hl j (by omega), Nat.add_comm (2 ^ l) j]
    by_cases h2 : j / 2 ^ l % 2 = 0
    · simp [h, h2]
    · simp [h, h2]
  · have e1 : v.testBit j = false := Nat.testBit_lt_two_pow (Nat.lt_of_lt_of_le hv (Nat.pow_le_pow_right (by omega) (by omega)))
    have e2 : v.testBit (2 ^ l + j) = false := Nat.testBit_lt_two_pow (Nat.lt_of_lt_of_le hv (Nat.pow_le_pow_right (by omega) (Nat.le_trans (by omega) (Nat.le_add_left j (2 ^ l)))))
    simp [h, e1, e2]
theorem zcl_ltm {v m : Nat} (hv : v < 2 ^ m) : ∀ i, zcl v i < 2 ^ m
  | 0 => hv
  | i + 1 => by
    have ih := zcl_ltm hv i
    refine Nat.xor_lt_two_pow ih (Nat.lt_of_le_of_lt (Nat.le_trans Nat.and_le_left (Nat.shiftRight_le _ _)) ih)
/-- levels beyond the length of a row change nothing -/
theorem zcl_top {v e : Nat} (hv : v < 2 ^ 2 ^ e) : ∀ i, e ≤ i → zcl v i = zcl v e := by
  intro i hi
  induction i with
  | zero => rw [show e = 0 by omega]
  | succ i ih =>
    by_cases h : e = i + 1
    · rw [h]
    · have ih := ih (by omega)
      have h1 := zcl_ltm hv i
      have : zcl v i >>> 2 ^ i = 0 := by
        rw [Nat.shiftRight_eq_div_pow]
        exact Nat.div_eq_of_lt (Nat.lt_of_lt_of_le h1 (Nat.pow_le_pow_right (by omega) (Nat.pow_le_pow_right (by omega) (by omega))))
      show zcl v i ^^^ ((zcl v i >>> 2 ^ i) &&& zmask i) = _
      rw [this, Nat.zero_and, Nat.xor_zero, ih]
end
section
theorem zsz_all {z : Nat} : ∀ n, (∀ k, k < n → z.testBit k = true) → zsz z n = n
  | 0, _ => rfl
  | n + 1, h => by
    show zsz z n + (z.testBit n).toNat = n + 1
    rw [zsz_all n (fun k hk => h k (by omega)), h n (by omega)]
    rfl
theorem zfree_ex {z N : Nat} (hz : z < 2 ^ N) (hN : N ≤ 16) (h : ¬ N - zpc z = 0) : ∃ k, k < N ∧ ¬ z.testBit k = true := by
  rcases Classical.em (∃ k, k < N ∧ ¬ z.testBit k = true) with q | q
  · exact q
  · exfalso
    apply h
    have : zsz z N = N := zsz_all N (fun k hk => Classical.not_not.mp (fun z => q ⟨k, hk, z⟩))
    rw [← zsz_16, show 16 = N + (16 - N) by omega, zsz_hi hz, this]
    omega
theorem zwt_16 : ∀ k, k < 16 → zpc (zcod (2 ^ k)) ≤ 16 := fun k _ => zpc_le _
theorem zlw_none {z : Nat} : ∀ i, (∀ k, k < i → z.testBit k = true) → zlw z i = 16
  | 0, _ => rfl
  | i + 1, h => by
    unfold zlw
    rw [if_pos (h i (by omega)), zlw_none i (fun k hk => h k (by omega))]
theorem zlw_at {z : Nat} : ∀ i, (∃ k, k < i ∧ ¬ z.testBit k = true) → ∃ k, k < i ∧ ¬ z.testBit k = true ∧ zlw z i = zpc (zcod (2 ^ k))
  | 0, ⟨k, h, _⟩ => absurd h (Nat.not_lt_zero _)
  | i + 1, h => by
    unfold zlw
    by_cases hb : z.testBit i = true
    · rw [if_pos hb]
      obtain ⟨k, h1, h2⟩ := h
      have : k ≠ i := fun e => h2 (by rw [e]; exact hb)
      obtain ⟨k', g1, g2⟩ := zlw_at i ⟨k, by omega, h2⟩
      exact ⟨k', by omega, g2⟩
    · rw [if_neg hb]
      by_cases hl : zpc (zcod (2 ^ i)) < zlw z i
      · rw [if_pos hl]
        exact ⟨i, by omega, hb, rfl⟩
      · rw [if_neg hl]
        rcases Classical.em (∃ k, k < i ∧ ¬ z.testBit k = true) with q | q
        · obtain ⟨k', g1, g2⟩ := zlw_at i q
          exact ⟨k', by omega, g2⟩
        · have h16 := zlw_none i (fun k hk => Classical.not_not.mp (fun w => q ⟨k, hk, w⟩))
          have := zpc_le (zcod (2 ^ i))
          exact ⟨i, by omega, hb, by omega⟩
theorem zlw_min {z : Nat} : ∀ i k, k < i → ¬ z.testBit k = true → zlw z i ≤ zpc (zcod (2 ^ k))
  | 0, k, h, _ => absurd h (Nat.not_lt_zero _)
  | i + 1, k, h, hk => by
    unfold zlw
    by_cases hb : z.testBit i = true
    · rw [if_pos hb]
      have : k ≠ i := fun e => hk (by rw [e]; exact hb)
      exact zlw_min i k (by omega) hk
    · rw [if_neg hb]
      by_cases e : k = i
      · subst e
        split <;> omega
      · have := zlw_min i k (by omega) hk
        split <;> omega
theorem zw_1 : ∀ k, k < 2 → zpc (zcod (2 ^ k)) = 1 ∨ zpc (zcod (2 ^ k)) = 2 := by decide +kernel
theorem zw_2 : ∀ k, k < 4 → zpc (zcod (2 ^ k)) = 1 ∨ zpc (zcod (2 ^ k)) = 2 ∨ zpc (zcod (2 ^ k)) = 4 := by decide +kernel
theorem zw_3 : ∀ k, k < 8 → zpc (zcod (2 ^ k)) = 1 ∨ zpc (zcod (2 ^ k)) = 2 ∨ zpc (zcod (2 ^ k)) = 4 ∨ zpc (zcod (2 ^ k)) = 8 := by decide +kernel
theorem zw_4 : ∀ k, k < 16 → zpc (zcod (2 ^ k)) = 1 ∨ zpc (zcod (2 ^ k)) = 2 ∨ zpc (zcod (2 ^ k)) = 4 ∨ zpc (zcod (2 ^ k)) = 8 ∨ zpc (zcod (2 ^ k)) = 16 := by decide +kernel
theorem zOk_w {d k : Nat} (h1 : 1 ≤ d) (h2 : d ≤ 4) (hk : k < 2 ^ d) : zOk (2 ^ d) (zpc (zcod (2 ^ k))) = true := by
  rcases (show d = 1 ∨ d = 2 ∨ d = 3 ∨ d = 4 by omega) with rfl | rfl | rfl | rfl
  · rcases zw_1 k hk with e | e <;> rw [e]
    · exact zOk_2.1
    · exact zOk_2.2
  · rcases zw_2 k hk with e | e | e <;> rw [e]
    · exact zOk_4.1
    · exact zOk_4.2.1
    · exact zOk_4.2.2
  · rcases zw_3 k hk with e | e | e | e <;> rw [e]
    · exact zOk_8.1
    · exact zOk_8.2.1
    · exact zOk_8.2.2.1
    · exact zOk_8.2.2.2
  · rcases zw_4 k hk with e | e | e | e | e <;> rw [e]
    · exact zOk_16_1
    · exact zOk_16_2
    · exact zOk_16_4
    · exact zOk_16_8
    · exact zOk_16_16
/-- the class goes through all sets of its weight, the least first -/
theorem zseq_ex {a : ZA} (hI : zInv a) (hf : ¬ 2 ^ a.1 - zpc a.2.2.2.1 = 0) : ∃ K, zSeq (zlw a.2.2.2.1 (2 ^ a.1)) (2 ^ a.1) K ∧ zGone (zlw a.2.2.2.1 (2 ^ a.1)) (2 ^ 2 ^ a.1) K := by
  obtain ⟨k, h1, h2, h3⟩ := zlw_at (2 ^ a.1) (zfree_ex hI.2.2.1 (zNp hI) hf)
  rw [h3]
  exact zOk_use (zOk_w hI.1.1 hI.1.2 h1)
theorem zopen_own : ∀ k, k < 16 → (zopn (zcod (2 ^ k))).testBit k = true := by decide +kernel
theorem zfl_spec {a : ZA} (hI : zInv a) (hf : ¬ 2 ^ a.1 - zpc a.2.2.2.1 = 0) {K : Nat} (hg : zGone (zlw a.2.2.2.1 (2 ^ a.1)) (2 ^ 2 ^ a.1) K) : ∃ m, m < K ∧ ¬ zopn (zsq (zlw a.2.2.2.1 (2 ^ a.1)) m) &&& (a.2.2.2.1 ^^^ 65535) = 0 ∧ (∀ j, j < m → zopn (zsq (zlw a.2.2.2.1 (2 ^ a.1)) j) &&& (a.2.2.2.1 ^^^ 65535) = 0) ∧ zsq (zlw a.2.2.2.1 (2 ^ a.1)) m = zfl a (zlw a.2.2.2.1 (2 ^ a.1)) := by
  have h16 := zNp hI
  obtain ⟨k, h1, h2, h3⟩ := zlw_at (2 ^ a.1) (zfree_ex hI.2.2.1 h16 hf)
  have hv : zcod (2 ^ k) < 2 ^ 2 ^ a.1 := zcl_ltm (Nat.pow_lt_pow_right (by omega) h1) 4
  obtain ⟨i0, hi0, e0⟩ := hg.2.1 (zcod (2 ^ k)) hv h3.symm
  have ho : ¬ zopn (zcod (2 ^ k)) &&& (a.2.2.2.1 ^^^ 65535) = 0 := by
    intro q
    have : (zopn (zcod (2 ^ k)) &&& (a.2.2.2.1 ^^^ 65535)).testBit k = true := by
      rw [Nat.testBit_and, zopen_own k (by omega), Nat.testBit_xor, show 65535 = 2 ^ 16 - 1 from rfl, Nat.testBit_two_pow_sub_one]
      simp [h2, show k < 16 by omega]
    rw [q] at this
    simp at this
  generalize zlw a.2.2.2.1 (2 ^ a.1) = w at hg e0 ⊢
  obtain ⟨m, g1, g2, g3⟩ := fb_first (p := fun i => ¬ zopn (zsq w i) &&& (a.2.2.2.1 ^^^ 65535) = 0) (n := K) ⟨i0, hi0, by rw [← e0]; exact ho⟩
  refine ⟨m, g1, g2, fun j hj => Classical.not_not.mp (g3 j hj), ?_⟩
  unfold zfl
  have hm := hg.1 m g1
  rw [zff_some (i := zsq w m) hm.1 ?_ ?_]
  · rfl
  · simp [zhm, hm.2.1, g2]
  · intro v hvm
    by_cases hw : zpc v = w
    · obtain ⟨i, hi, rfl⟩ := hg.2.1 v (by omega) hw
      have him : i < m := by
        rcases Nat.lt_or_ge i m with q | q
        · exact q
        · rcases Nat.lt_or_ge m i with q2 | q2
          · have := hg.2.2.1 m i q2 hi
            omega
          · rw [show i = m by omega] at hvm
            omega
      have := Classical.not_not.mp (g3 i him)
      simp [zhm, this]
    · simp [hw]
theorem zch_T (a : ZA) (hl : (zkp a (2 ^ a.1)).length ≤ 8) {v : Int32} (hv : v = zfr (zch a)) (c : ¬ v < 0 ∧ v < nI (zkp a (2 ^ a.1)).length) : ∃ j, j < (zkp a (2 ^ a.1)).length ∧ zch a = some j ∧ v = nI j := by
  cases hz : zch a with
  | none =>
    rw [hz] at hv
    rw [hv] at c
    exact absurd (by decide : (zfr none) < 0) c.1
  | some j =>
    rw [hz] at hv
    exact ⟨j, zff_lt hz, rfl, hv⟩
theorem zch_F (a : ZA) (hl : (zkp a (2 ^ a.1)).length ≤ 8) {v : Int32} (hv : v = zfr (zch a)) (c : ¬ (¬ v < 0 ∧ v < nI (zkp a (2 ^ a.1)).length)) : zch a = none := by
  cases hz : zch a with
  | none => rfl
  | some j =>
    rw [hz] at hv
    have hj := zff_lt hz
    exact absurd ⟨by rw [hv]; exact nI_pos (by omega), by rw [hv]; exact nI_lt hj (by omega)⟩ c
theorem zr01 {x : Int32} (h1 : ¬ x < 0) (h2 : x < 2) : x = 0 ∨ x = 1 := by
  obtain ⟨k, h3, h4⟩ := zr0 (n := 2) ⟨h1, h2⟩ (by decide)
  rcases (show k = 0 ∨ k = 1 by omega) with rfl | rfl
  · exact Or.inl h4
  · exact Or.inr h4
def zq_image (a b0 b1 : ZA) (ik : Nat) (k : Int32) : Int32 × ZA × ZA × Nat := if k < 0 ∨ ¬ k < 2 then (-2, b0, b1, ik) else if k = 0 then (1, a, b1, ik ||| 2 ^ 0) else (1, b0, a, ik ||| 2 ^ 1)
def zq_restore (a b0 b1 : ZA) (ik : Nat) (k : Int32) : Int32 × ZA := if k < 0 ∨ ¬ k < 2 then (-2, a) else if k = 0 then (if ¬ ik.testBit 0 = true then (-3, a) else (1, b0)) else (if ¬ ik.testBit 1 = true then (-3, a) else (1, b1))
end
section
theorem zdeep_z (a : ZA) (k0 j : Nat) (hj : j < 24) : fb_put (zst (k0, a.2.1, a.2.2.1, 0, a.2.2.2.2.1, a.2.2.2.2.2.1, a.2.2.2.2.2.2)) (fun _ => (0 : Int32)) 5 19 j = zst (k0, a.2.1, a.2.2.1, 0, a.2.2.2.2.1, (fun _ => 0), (fun _ => 0)) j := by
  by_cases h : j < 5
  · rw [fb_put_out (Or.inl h)]
    match j, h with
    | 0, _ | 1, _ | 2, _ | 3, _ | 4, _ => rfl
  · rw [fb_put_in (by omega) (by omega)]
    match j, h with
    | 5, _ | 6, _ | 7, _ => rfl
    | j + 8, _ => rfl
theorem zsz_fre {a : ZA} (hI : zInv a) : ∀ n, n ≤ 2 ^ a.1 → zsz (zfre a) n + zsz a.2.2.2.1 n = n
  | 0, _ => rfl
  | n + 1, h => by
    have ih := zsz_fre hI n (by omega)
    show zsz (zfre a) n + ((zfre a).testBit n).toNat + (zsz a.2.2.2.1 n + (a.2.2.2.1.testBit n).toNat) = n + 1
    rw [zfre_bit hI, decide_eq_true (show n < 2 ^ a.1 by omega)]
    cases a.2.2.2.1.testBit n <;> simp <;> omega
theorem zfre_ltN {a : ZA} (hI : zInv a) : zfre a < 2 ^ 2 ^ a.1 := zlt_bits (fun i hi => by rw [zfre_bit hI]; simp [show ¬ i < 2 ^ a.1 by omega])
theorem zpc_fre {a : ZA} (hI : zInv a) : zpc (zfre a) = 2 ^ a.1 - zpc a.2.2.2.1 := by
  have h16 := zNp hI
  have h1 := zsz_fre hI (2 ^ a.1) (Nat.le_refl _)
  rw [← zsz_16, ← zsz_16, show 16 = 2 ^ a.1 + (16 - 2 ^ a.1) by omega, zsz_hi (zfre_ltN hI), zsz_hi hI.2.2.1]
  omega
theorem zbs_bit {a : ZA} (hI : zInv a) {b : Nat} (hb : b < 16) : ∀ n, n ≤ 2 ^ a.1 → (zbs a n).testBit b = (decide (b < 2 ^ a.1) && decide (∀ i, i < n → zbr a i ≠ b))
  | 0, _ => by
    show (2 ^ 2 ^ a.1 - 1).testBit b = _
    rw [Nat.testBit_two_pow_sub_one]
    simp
  | n + 1, h => by
    have hz := zbr_spec hI (show n < 2 ^ a.1 by omega)
    have h16 := zNp hI
    show (zbs a n &&& (2 ^ zbr a n ^^^ 65535)).testBit b = _
    rw [Nat.testBit_and, zbs_bit hI hb n (by omega), Nat.testBit_xor, Nat.testBit_two_pow, show 65535 = 2 ^ 16 - 1 from rfl, Nat.testBit_two_pow_sub_one]
    by_cases e : zbr a n = b
    · have : ¬ (∀ i, i < n + 1 → zbr a i ≠ b) := fun q => q n (by omega) e
      rw [decide_eq_false this]
      simp [e, hb]
    · have : (∀ i, i < n + 1 → zbr a i ≠ b) ↔ (∀ i, i < n → zbr a i ≠ b) := by
        constructor
        · intro q i hi
          exact q i (by omega)
        · intro q i hi
          rcases Nat.lt_or_ge i n with z | z
          · exact q i z
          · rw [show i = n by omega]; exact e
      simp only [this]
      simp [e, hb]
theorem zbd_bit {a : ZA} {n b : Nat} : ∀ i, (zbd a n i).testBit b = (decide (b < i) && decide (¬ zrk a b < n))
  | 0 => by simp [zbd]
  | i + 1 => by
    have ih := zbd_bit (a := a) (n := n) (b := b) i
    unfold zbd
    by_cases h : zrk a i < n
    · rw [if_pos h, ih]
      by_cases e : b = i
      · subst e; simp [h]
      · by_cases h2 : b < i
        · simp [h2, show b < i + 1 by omega]
        · simp [h2, show ¬ b < i + 1 by omega]
    · rw [if_neg h, fb_bit_set, ih]
      by_cases e : b = i
      · subst e; simp [h]
      · by_cases h2 : b < i
        · simp [h2, e, show b < i + 1 by omega]
        · simp [h2, e, show ¬ b < i + 1 by omega]
theorem zbs_eq {a : ZA} (hI : zInv a) {n : Nat} (h : n ≤ 2 ^ a.1) : zbs a n = zbd a n (2 ^ a.1) := by
  have h16 := zNp hI
  apply Nat.eq_of_testBit_eq
  intro b
  rcases Nat.lt_or_ge b 16 with hb | hb
  · rw [zbs_bit hI hb n h, zbd_bit]
    by_cases hN : b < 2 ^ a.1
    · congr 1
      apply decide_eq_decide.mpr
      constructor
      · intro q hr
        have hz := zbr_spec hI (show zrk a b < 2 ^ a.1 by omega)
        refine q (zrk a b) hr ?_
        rcases Classical.em (zbr a (zrk a b) = b) with e | e
        · exact e
        · exact absurd hz.2.1 (zrk_inj hz.1 hN e)
      · intro q i hi e
        have hz := zbr_spec hI (show i < 2 ^ a.1 by omega)
        rw [e] at hz
        omega
    · simp [hN]
  · rw [Nat.testBit_lt_two_pow (Nat.lt_of_lt_of_le (zbs_lt hI n) (by rw [show 65536 = 2 ^ 16 from rfl]; exact Nat.pow_le_pow_right (by omega) hb)), zbd_bit]
    simp [show ¬ b < 2 ^ a.1 by omega]
theorem zloss_no {a : ZA} {t o : Int32} (h : (o < 2 ∨ 10 < o) ∨ (t < 0 ∨ o < t)) : (-2, a) = zq_loss a t o := by
  unfold zq_loss
  rw [if_pos]
  rcases h with (q | q) | (q | q)
  · exact Or.inl q
  · exact Or.inr (Or.inl q)
  · exact Or.inr (Or.inr (Or.inl q))
  · exact Or.inr (Or.inr (Or.inr q))
theorem zloss_ok {a : ZA} {t o : Int32} (h1 : ¬ (o < 2 ∨ 10 < o)) (h2 : ¬ (t < 0 ∨ o < t)) : (nI a.2.2.1, a.1, zN t, zN o, a.2.2.2) = zq_loss a t o := by
  unfold zq_loss
  rw [if_neg]
  rintro (q | q | q | q)
  · exact h1 (Or.inl q)
  · exact h1 (Or.inr q)
  · exact h2 (Or.inl q)
  · exact h2 (Or.inr q)
theorem zp4_16 {e : Nat} (h : e ≤ 4) : 2 ^ e ≤ 16 := by
  rcases (show e = 0 ∨ e = 1 ∨ e = 2 ∨ e = 3 ∨ e = 4 by omega) with rfl | rfl | rfl | rfl | rfl <;> decide
theorem zb_shl {b i : Nat} (hb : b ≤ 1) (hi : i < 16) : b * 2 ^ i < 2 ^ 32 := by
  have := zp2_16 hi
  rcases (show b = 0 ∨ b = 1 by omega) with rfl | rfl <;> omega
theorem zand_lt (x m : Nat) : x &&& (2 ^ m - 1) < 2 ^ m := Nat.and_lt_two_pow _ (by have := Nat.two_pow_pos m; omega)
/-- the least of f 1, f 2 .., and how many have it -/
def zls (f : Nat → Nat) : Nat → Option (Nat × Nat)
  | 0 => none
  | i + 1 => match zls f i with
    | none => some (f (1 + i), 1)
    | some (l, c) => if f (1 + i) < l then some (f (1 + i), 1) else if f (1 + i) = l then some (l, c + 1) else some (l, c)
def zlI (o : Option (Nat × Nat)) : Int32 := match o with
  | none => -6
  | some (l, _) => nI l
def zlC (o : Option (Nat × Nat)) : Nat := match o with
  | none => 0
  | some (_, c) => c
theorem zls_le {f : Nat → Nat} (hf : ∀ v, f v ≤ 16) : ∀ i l c, zls f i = some (l, c) → l ≤ 16
  | 0, l, c, h => by cases h
  | i + 1, l, c, h => by
    unfold zls at h
    cases hz : zls f i with
    | none => rw [hz] at h; cases h; exact hf _
    | some p =>
      obtain ⟨l0, c0⟩ := p
      have ih := zls_le hf i l0 c0 hz
      rw [hz] at h
      simp only at h
      split at h
      · cases h; exact hf _
      · split at h
        · cases h; exact ih
        · cases h; exact ih
theorem zls_neg {f : Nat → Nat} (hf : ∀ v, f v ≤ 16) {i : Nat} (h : zlI (zls f i) < 0) : zls f (i + 1) = some (f (1 + i), 1) := by
  unfold zls
  cases hz : zls f i with
  | none => rfl
  | some p =>
    obtain ⟨l0, c0⟩ := p
    have ih := zls_le hf i l0 c0 hz
    rw [hz] at h
    exact absurd h (nI_pos (by omega))
theorem zls_lt {f : Nat → Nat} (hf : ∀ v, f v ≤ 16) {i : Nat} (h : ¬ zlI (zls f i) < 0) (h2 : nI (f (1 + i)) < zlI (zls f i)) : zls f (i + 1) = some (f (1 + i), 1) := by
  unfold zls
  cases hz : zls f i with
  | none => exact absurd (by rw [hz]; decide) h
  | some p =>
    obtain ⟨l0, c0⟩ := p
    have ih := zls_le hf i l0 c0 hz
    rw [hz] at h2
    have := hf (1 + i)
    simp only
    rw [if_pos ((nI_ltI (by omega) (by omega)).mp h2)]
theorem zls_eq {f : Nat → Nat} (hf : ∀ v, f v ≤ 16) {i : Nat} (h : ¬ zlI (zls f i) < 0) (h3 : nI (f (1 + i)) = zlI (zls f i)) : zlI (zls f i) = zlI (zls f (i + 1)) ∧ zlC (zls f i) + 1 = zlC (zls f (i + 1)) := by
  conv => enter [1, 2]; unfold zls
  conv => enter [2, 2]; unfold zls
  cases hz : zls f i with
  | none => exact absurd (by rw [hz]; decide) h
  | some p =>
    obtain ⟨l0, c0⟩ := p
    have ih := zls_le hf i l0 c0 hz
    rw [hz] at h3
    have := hf (1 + i)
    have e : f (1 + i) = l0 := (nI_eq (by omega) (by omega)).mp h3
    simp only
    rw [if_neg (by omega), if_pos e]
    exact ⟨rfl, rfl⟩
theorem zls_gt {f : Nat → Nat} (hf : ∀ v, f v ≤ 16) {i : Nat} (h : ¬ zlI (zls f i) < 0) (h2 : ¬ nI (f (1 + i)) < zlI (zls f i)) (h3 : ¬ nI (f (1 + i)) = zlI (zls f i)) : zls f (i + 1) = zls f i := by
  conv => lhs; unfold zls
  cases hz : zls f i with
  | none => exact absurd (by rw [hz]; decide) h
  | some p =>
    obtain ⟨l0, c0⟩ := p
    have ih := zls_le hf i l0 c0 hz
    rw [hz] at h2 h3
    have := hf (1 + i)
    simp only
    rw [if_neg (fun q => h2 (nI_lt q (by omega))), if_neg (fun q => h3 (by rw [q]; rfl))]
/-- the weight of the v-th word -/
def zow (a : ZA) (v : Nat) : Nat := zpc (zcod (zwd a.2.2.2.1 v (2 ^ a.1)).1)
theorem zow_le (a : ZA) (v : Nat) : zow a v ≤ 16 := zpc_le _
end
section
theorem zst_w8 {d t o z m : Nat} {me ck : Nat → Int32} {k : Nat} {v : Int32} : upd (zst (d, t, o, z, m, me, ck)) (8 + k) v = zst (d, t, o, z, m, upd me k v, ck) := zst_u8 _ _ _
theorem zmn_l {x y : Int32} (h : x < y) : zmn x y = x := by
  unfold zmn
  rw [if_neg]
  intro q
  have h1 := Int32.lt_iff_toInt_lt.mp h
  have h2 := Int32.lt_iff_toInt_lt.mp q
  omega
theorem zmn_r {x y : Int32} (h : ¬ x < y) : zmn x y = y := by
  unfold zmn
  by_cases q : y < x
  · rw [if_pos q]
  · rw [if_neg q]
    apply Int32.toInt_inj.mp
    have h1 : ¬ x.toInt < y.toInt := fun z => h (Int32.lt_iff_toInt_lt.mpr z)
    have h2 : ¬ y.toInt < x.toInt := fun z => q (Int32.lt_iff_toInt_lt.mpr z)
    omega
theorem zg1_hi {h n k : Nat} {f : Nat → Int32} (hk : ¬ k < n) : zg1 h f n k = f k := by unfold zg1; rw [if_neg hk]
theorem zg2_hi {h c n k : Nat} {f : Nat → Int32} (hk : ¬ k < n) : zg2 h c f n k = f k := by unfold zg2; rw [if_neg hk]
theorem zg1_s2 {h i : Nat} {f : Nat → Int32} (hi : i < h) : upd (zg1 h f i) i (zwk (f i) (f (i + h))) = zg1 h f (i + 1) := by
  have := zg1_s (f := f) hi
  rw [zg1_hi (by omega), zg1_hi (by omega)] at this
  exact this
theorem zg2_s2 {h c i : Nat} {f : Nat → Int32} {v : Int32} (hi : i < h) (hv : v = f (i + h) + (if c.testBit i = true then - f i else f i)) : upd (zg2 h c f i) i v = zg2 h c f (i + 1) := zg2_s hi (by rw [zg2_hi (by omega)]; exact hv)
/-- a bit of k by its half -/
theorem zbit_half {k s d j : Nat} (h1 : s ≤ k) (h2 : k < s + 2 ^ (d - j)) (h3 : 2 ^ (d - j) ∣ s) (hj : j < d) : k.testBit (d - 1 - j) = true ↔ s + zhf d j ≤ k := by
  obtain ⟨q, rfl⟩ := h3
  obtain ⟨r, rfl⟩ := Nat.exists_eq_add_of_le h1
  have hr : r < 2 ^ (d - j) := by omega
  rw [zhf_eq hj, ztb_add hr, if_pos (by omega)]
  have e : 2 ^ (d - j) = 2 * 2 ^ (d - 1 - j) := by rw [show d - j = (d - 1 - j) + 1 by omega, Nat.pow_succ, Nat.mul_comm]
  have hb : r.testBit (d - 1 - j) = decide (2 ^ (d - 1 - j) ≤ r) := by
    rw [Nat.testBit_eq_decide_div_mod_eq]
    apply decide_eq_decide.mpr
    have hp := Nat.two_pow_pos (d - 1 - j)
    constructor
    · intro q
      rcases Nat.lt_or_ge r (2 ^ (d - 1 - j)) with z | z
      · rw [Nat.div_eq_of_lt z] at q
        omega
      · exact z
    · intro z
      have : r / 2 ^ (d - 1 - j) = 1 := by
        apply Nat.div_eq_of_lt_le
        · omega
        · omega
      rw [this]
  rw [hb, decide_eq_true_eq]
  omega
/-- which bit stands where: k lies among the 2 ^ (d - j) bits from the start on -/
theorem zsn_in (me : Nat → Int32) {d k w : Nat} (hk : k < 2 ^ d) : ∀ j, j ≤ d → (zsn me d k w j).2 ≤ k ∧ k < (zsn me d k w j).2 + 2 ^ (d - j) ∧ 2 ^ (d - j) ∣ (zsn me d k w j).2
  | 0, _ => by simp [zsn, hk]
  | j + 1, h => by
    obtain ⟨h1, h2, h3⟩ := zsn_in me (w := w) hk j (by omega)
    have e : 2 ^ (d - j) = 2 * 2 ^ (d - (j + 1)) := by rw [show d - j = (d - (j + 1)) + 1 by omega, Nat.pow_succ, Nat.mul_comm]
    have e2 : zhf d j = 2 ^ (d - (j + 1)) := by rw [zhf_eq (by omega)]; congr 1; omega
    have hb := zbit_half h1 h2 h3 (by omega : j < d)
    unfold zsn
    by_cases hc : k.testBit (d - 1 - j) = true
    · rw [if_pos hc]
      simp only [e2]
      have := hb.mp hc
      rw [e2] at this
      refine ⟨this, by omega, ?_⟩
      obtain ⟨q, hq⟩ := h3
      exact ⟨2 * q + 1, by rw [hq, e, Nat.mul_add, Nat.mul_one, Nat.mul_comm 2, Nat.mul_assoc]⟩
    · rw [if_neg hc]
      have : ¬ (zsn me d k w j).2 + zhf d j ≤ k := fun q => hc (hb.mpr q)
      rw [e2] at this
      simp only
      refine ⟨h1, by omega, ?_⟩
      obtain ⟨q, hq⟩ := h3
      exact ⟨2 * q, by rw [hq, e, Nat.mul_comm 2, Nat.mul_assoc]⟩
theorem zsee_j1 {me l1 : Nat → Int32} {d k w i : Nat} (hi : i < d) (hE : ∀ j, j < 2 ^ (d - i) → l1 j = (zsn me d k w i).1 j) (c : ¬ k.testBit (d - 1 - i) = true) : ∀ j, j < 2 ^ (d - (i + 1)) → zg1 (zhf d i) l1 (zhf d i) j = (zsn me d k w (i + 1)).1 j := by
  intro j hj
  have e : 2 ^ (d - i) = 2 * 2 ^ (d - (i + 1)) := by rw [show d - i = (d - (i + 1)) + 1 by omega, Nat.pow_succ, Nat.mul_comm]
  have e2 : zhf d i = 2 ^ (d - (i + 1)) := by rw [zhf_eq hi]; congr 1; omega
  conv => rhs; unfold zsn
  rw [if_neg c]
  show zg1 _ _ _ j = zg1 _ _ _ j
  unfold zg1
  rw [e2, if_pos hj, if_pos hj, hE j (by omega), hE (j + 2 ^ (d - (i + 1))) (by omega)]
theorem zsee_j2 {me l1 : Nat → Int32} {d k w i : Nat} (hi : i < d) (hE : ∀ j, j < 2 ^ (d - i) → l1 j = (zsn me d k w i).1 j) (c : k.testBit (d - 1 - i) = true) : ∀ j, j < 2 ^ (d - (i + 1)) → zg2 (zhf d i) (zcod ((w >>> (zsn me d k w i).2) &&& (2 ^ zhf d i - 1))) l1 (zhf d i) j = (zsn me d k w (i + 1)).1 j := by
  intro j hj
  have e : 2 ^ (d - i) = 2 * 2 ^ (d - (i + 1)) := by rw [show d - i = (d - (i + 1)) + 1 by omega, Nat.pow_succ, Nat.mul_comm]
  have e2 : zhf d i = 2 ^ (d - (i + 1)) := by rw [zhf_eq hi]; congr 1; omega
  conv => rhs; unfold zsn
  rw [if_pos c]
  show zg2 _ _ _ _ j = zg2 _ _ _ _ j
  unfold zg2
  rw [e2, if_pos hj, if_pos hj, hE j (by omega), hE (j + 2 ^ (d - (i + 1))) (by omega)]
def zhk (a : ZA) (w : Nat) : Nat → Bool
  | 0 => true
  | i + 1 => zhk a w i && decide (zpc (w &&& zck a i) % 2 = 0)
theorem zhk_3 (a : ZA) (w : Nat) : zhk a w 3 = zhd a w := by
  simp [zhk, zhd, Bool.and_assoc]
theorem zlt_int {x y : Int32} : x < y ↔ x.toInt < y.toInt := Int32.lt_iff_toInt_lt
theorem zle_int {x y : Int32} : x ≤ y ↔ x.toInt ≤ y.toInt := Int32.le_iff_toInt_le
theorem zI0 : (0 : Int32).toInt = 0 := by decide
theorem zint0 {x : Int32} (h : x.toInt = 0) : x = 0 := Int32.toInt_inj.mp (by rw [h]; decide)
theorem zfb_no {s : Int32} (h : ¬ s < 0) : (0 : Int32) = zfb s false := by
  unfold zfb zmx
  rw [if_neg (by decide)]
  rw [zlt_int, zI0] at h
  have hr := fb_rng s
  by_cases q : -s < 0
  · rw [if_pos q]
  · rw [if_neg q]
    rw [zlt_int, zI0, fb_negI (by omega)] at q
    rw [zint0 (show s.toInt = 0 by omega)]
    rfl
theorem zfb_n1 {s : Int32} (h : s < 0) : (0 : Int32) = zfb s true := by
  unfold zfb zmx
  rw [if_pos rfl, if_pos h]
theorem zfb_n2 {s : Int32} (h : ¬ 0 < s) (h2 : ¬ s < 0) : (0 : Int32) = zfb s true := by
  unfold zfb zmx
  rw [if_pos rfl, if_neg h2]
  rw [zlt_int, zI0] at h h2
  exact (zint0 (by omega)).symm
theorem zfb_y0 {s : Int32} (h : s < 0) (hb : -1584 ≤ s.toInt) : zab s = zfb s false := by
  unfold zfb zmx zab
  rw [if_neg (show ¬ 0 ≤ s from Int32.not_le.mpr h), if_neg (show ¬ false = true by decide), Int32.zero_sub, if_neg]
  rw [zlt_int, zI0, fb_negI (by omega)]
  rw [zlt_int, zI0] at h
  omega
theorem zfb_y1 {s : Int32} (h : 0 < s) : zab s = zfb s true := by
  have h2 := zlt_int.mp h
  rw [zI0] at h2
  unfold zfb zmx zab
  rw [if_pos rfl, if_pos (zle_int.mpr (by rw [zI0]; omega)), if_neg]
  rw [zlt_int, zI0]
  omega
/-- SEEN never grows beyond what came -/
def zbnd (c : Int) (x : Int32) : Prop := -c ≤ x.toInt ∧ x.toInt ≤ c
theorem zab_bnd {c : Int} {x : Int32} (hc : c ≤ 100000) (h : zbnd c x) : 0 ≤ (zab x).toInt ∧ (zab x).toInt ≤ c := by
  obtain ⟨h1, h2⟩ := h
  unfold zab
  by_cases q : 0 ≤ x
  · rw [if_pos q]
    rw [zle_int, zI0] at q
    omega
  · rw [if_neg q, Int32.zero_sub]
    rw [zle_int, zI0] at q
    rw [fb_negI (by omega)]
    omega
theorem zwk_bnd {c : Int} {x y : Int32} (hc : c ≤ 100000) (hx : zbnd c x) (hy : zbnd c y) : zbnd c (zwk x y) := by
  have h1 := zab_bnd hc hx
  have h2 := zab_bnd hc hy
  have h3 : 0 ≤ (zmn (zab x) (zab y)).toInt ∧ (zmn (zab x) (zab y)).toInt ≤ c := by
    unfold zmn
    split
    · exact h2
    · exact h1
  unfold zwk zbnd
  split
  · omega
  · rw [fb_negI (by omega)]
    omega
theorem zadd_bnd {c : Int} {x y : Int32} (hc : c ≤ 100000) (hx : zbnd c x) (hy : zbnd c y) : zbnd (2 * c) (x + y) := by
  unfold zbnd at *
  rw [fb_addI (by omega) (by omega)]
  omega
theorem zneg_bnd {c : Int} {x : Int32} (hc : c ≤ 100000) (hx : zbnd c x) : zbnd c (-x) := by
  unfold zbnd at *
  rw [fb_negI (by omega)]
  omega
theorem zsn_bnd {me : Nat → Int32} {d : Nat} (hd : d ≤ 4) (hm : ∀ k, k < 16 → zbnd 99 (me k)) (k w : Nat) : ∀ j, j ≤ d → ∀ y, y < 2 ^ (d - j) → zbnd (99 * 2 ^ j) ((zsn me d k w j).1 y)
  | 0, _, y, hy => by
    have : 2 ^ (d - 0) ≤ 2 ^ 4 := Nat.pow_le_pow_right (by omega) (by omega)
    have := hm y (by omega)
    simpa [zsn] using this
  | j + 1, hj, y, hy => by
    have e : 2 ^ (d - j) = 2 * 2 ^ (d - (j + 1)) := by rw [show d - j = (d - (j + 1)) + 1 by omega, Nat.pow_succ, Nat.mul_comm]
    have e2 : zhf d j = 2 ^ (d - (j + 1)) := by rw [zhf_eq (by omega)]; congr 1; omega
    have b1 := zsn_bnd hd hm k w j (by omega) y (by omega)
    have b2 := zsn_bnd hd hm k w j (by omega) (y + 2 ^ (d - (j + 1))) (by omega)
    have hc : (99 * 2 ^ j : Int) ≤ 100000 := by
      rcases (show j = 0 ∨ j = 1 ∨ j = 2 ∨ j = 3 by omega) with rfl | rfl | rfl | rfl <;> decide
    have hc2 : (99 * 2 ^ (j + 1) : Int) = 2 * (99 * 2 ^ j) := by rw [Int.pow_succ]; omega
    have hc3 : (0 : Int) ≤ 99 * 2 ^ j := by
      rcases (show j = 0 ∨ j = 1 ∨ j = 2 ∨ j = 3 by omega) with rfl | rfl | rfl | rfl <;> decide
    rw [hc2]
    unfold zsn
    split
    · show zbnd _ (zg2 _ _ _ _ y)
      unfold zg2
      rw [e2, if_pos hy]
      split
      · exact zadd_bnd hc b2 (zneg_bnd hc b1)
      · exact zadd_bnd hc b2 b1
    · show zbnd _ (zg1 _ _ _ y)
      unfold zg1
      rw [e2, if_pos hy]
      have := zwk_bnd hc b1 b2
      unfold zbnd at this ⊢
      omega
theorem zsee_bd {a : ZA} (hI : zInv a) (k w : Nat) : -1584 ≤ (zsee a.2.2.2.2.2.1 a.1 k w).toInt ∧ (zsee a.2.2.2.2.2.1 a.1 k w).toInt ≤ 1584 := by
  have h := zsn_bnd hI.1.2 (fun k hk => hI.2.2.2.2.1 k hk) k w a.1 (Nat.le_refl _) 0 (Nat.two_pow_pos _)
  have h1 := hI.1
  unfold zbnd at h
  unfold zsee
  rcases (show a.1 = 1 ∨ a.1 = 2 ∨ a.1 = 3 ∨ a.1 = 4 by omega) with e | e | e | e <;> rw [e] at h ⊢ <;> simp only [show (99 * 2 ^ 1 : Int) = 198 by decide, show (99 * 2 ^ 2 : Int) = 396 by decide, show (99 * 2 ^ 3 : Int) = 792 by decide, show (99 * 2 ^ 4 : Int) = 1584 by decide] at h <;> omega
end
section
/-! OPEN as the reference has it; its search for the least set; images -/
def zob (t h k : Nat) : Nat := if k / h % 2 = 0 then (t >>> k &&& 1) &&& (t >>> (k + h)) else (t >>> k &&& 1) ||| (t >>> (k - h) &&& 1)
def zon (t h : Nat) : Nat → Nat
  | 0 => 0
  | k + 1 => zon t h k ||| zob t h k <<< k
theorem zob_le (t h k : Nat) : zob t h k ≤ 1 := by
  unfold zob
  split
  · exact Nat.le_trans Nat.and_le_left Nat.and_le_right
  · rw [zbit_01, zbit_01]
    cases t.testBit k <;> cases t.testBit (k - h) <;> decide
theorem zon_bit (t h : Nat) : ∀ m j, (zon t h m).testBit j = (decide (j < m) && (zob t h j).testBit 0)
  | 0, j => by simp [zon]
  | m + 1, j => by
    rw [show zon t h (m + 1) = zon t h m ||| zob t h m <<< m from rfl, zor_bit (zob_le t h m), zon_bit t h m j]
    by_cases h : j = m
    · subst h; simp
    · by_cases h2 : j < m
      · simp [h, h2, show j < m + 1 by omega]
      · simp [h, h2, show ¬ j < m + 1 by omega]
theorem zon_lt (t h m : Nat) : zon t h m < 2 ^ m := zlt_bits (fun i hi => by rw [zon_bit]; simp [show ¬ i < m by omega])
def ztl (a : ZA) (v : Nat) : Nat → Nat
  | 0 => (2 ^ 2 ^ a.1 - 1) &&& (v ^^^ 65535)
  | i + 1 => zon (ztl a v i) (zhf a.1 i) (2 ^ a.1)
theorem ztl_lt {a : ZA} (hI : zInv a) (v : Nat) : ∀ i, ztl a v i < 65536
  | 0 => by
    have h1 := zNN hI
    have h2 := Nat.two_pow_pos (2 ^ a.1)
    exact Nat.lt_of_le_of_lt Nat.and_le_left (by omega)
  | i + 1 => Nat.lt_of_lt_of_le (zon_lt _ _ _) (zNN hI)
theorem zdiv_ge {k h : Nat} (c : ¬ k / h % 2 = 0) : h ≤ k := by
  rcases Nat.lt_or_ge k h with q | q
  · rw [Nat.div_eq_of_lt q] at c
    exact absurd rfl c
  · exact q
theorem zmask2_bit : ∀ l, l < 4 → ∀ j, j < 16 → (zmask l <<< 2 ^ l).testBit j = decide (¬ j / 2 ^ l % 2 = 0) := by decide +kernel
theorem zol_bit {l v j : Nat} (hl : l < 4) (hj : j < 16) : (zol l v).testBit j = if j / 2 ^ l % 2 = 0 then (v.testBit j || v.testBit (j + 2 ^ l)) else (v.testBit j && v.testBit (j - 2 ^ l)) := by
  unfold zol
  rw [Nat.testBit_or, Nat.testBit_and, Nat.testBit_or, Nat.testBit_and, Nat.testBit_and, zmask_bit l hl j hj, zmask2_bit l hl j hj, Nat.testBit_shiftRight, Nat.testBit_shiftLeft, Nat.add_comm (2 ^ l) j]
  by_cases h : j / 2 ^ l % 2 = 0
  · rw [if_pos h]; simp [h]
  · rw [if_neg h]
    have : 2 ^ l ≤ j := zdiv_ge h
    simp [h, this]
theorem zol_big {l v j : Nat} (hv : v < 65536) (hj : 16 ≤ j) : (zol l v).testBit j = false := Nat.testBit_lt_two_pow (Nat.lt_of_lt_of_le (zol_lt hv) (by rw [show 65536 = 2 ^ 16 from rfl]; exact Nat.pow_le_pow_right (by omega) hj))
/-- levels beyond the length of a row change nothing -/
theorem zol_top {d l v : Nat} (hv : v < 2 ^ 2 ^ d) (hd : d ≤ l) (hl : l < 4) : zol l v = v := by
  have hp : 2 ^ d ≤ 2 ^ l := Nat.pow_le_pow_right (by omega) hd
  have hz : ∀ k, 2 ^ l ≤ k → v.testBit k = false := fun k hk => Nat.testBit_lt_two_pow (Nat.lt_of_lt_of_le hv (Nat.pow_le_pow_right (by omega) (by omega)))
  have h8 := zpow4 hl
  have hv16 : v < 65536 := Nat.lt_of_lt_of_le hv (zp2_le (by omega))
  apply Nat.eq_of_testBit_eq
  intro j
  rcases Nat.lt_or_ge j 16 with h | h
  · rw [zol_bit hl h]
    by_cases h2 : j < 2 ^ l
    · rw [Nat.div_eq_of_lt h2, if_pos rfl, hz (j + 2 ^ l) (by omega), Bool.or_false]
    · rw [hz j (by omega), hz (j + 2 ^ l) (by omega)]
      split <;> rfl
  · rw [zol_big hv16 h, hz j (by omega)]
theorem zop_top {d v : Nat} (hd : d ≤ 4) (hv : v < 2 ^ 2 ^ d) : ∀ i, i ≤ 4 - d → zop v i = v
  | 0, _ => rfl
  | i + 1, h => by
    show zol (3 - i) (zop v i) = v
    rw [zop_top hd hv i (by omega), zol_top hv (by omega) (by omega)]
theorem zdiv_k {k h m : Nat} (hk : k < 2 * h * m) (hh : 0 < h) (c : k / h % 2 = 0) : k + h < 2 * h * m := by
  have h1 : k / h < 2 * m := by
    rw [Nat.div_lt_iff_lt_mul hh]
    calc k < 2 * h * m := hk
      _ = 2 * m * h := by rw [Nat.mul_right_comm]
  have h2 : k / h + 2 ≤ 2 * m := by omega
  have h3 : k < h * (k / h + 1) := Nat.lt_mul_div_succ k hh
  calc k + h < h * (k / h + 1) + h := by omega
    _ = h * (k / h + 2) := by rw [← Nat.mul_succ]
    _ ≤ h * (2 * m) := Nat.mul_le_mul_left _ h2
    _ = 2 * h * m := by rw [Nat.mul_left_comm, Nat.mul_assoc]
theorem ztl_bit {a : ZA} (hI : zInv a) {v : Nat} (hv : v < 2 ^ 2 ^ a.1) : ∀ i, i ≤ a.1 → ∀ k, k < 2 ^ a.1 → (ztl a v i).testBit k = !(zop v (4 - a.1 + i)).testBit k
  | 0, _, k, hk => by
    have h16 := zNp hI
    show ((2 ^ 2 ^ a.1 - 1) &&& (v ^^^ 65535)).testBit k = !(zop v (4 - a.1)).testBit k
    rw [zop_top hI.1.2 hv _ (Nat.le_refl _), Nat.testBit_and, Nat.testBit_xor, Nat.testBit_two_pow_sub_one, show 65535 = 2 ^ 16 - 1 from rfl, Nat.testBit_two_pow_sub_one]
    simp [hk, show k < 16 by omega]
  | i + 1, hi, k, hk => by
    have h16 := zNp hI
    have hd := hI.1.2
    have ih := ztl_bit hI hv i (by omega)
    have e : zhf a.1 i = 2 ^ (a.1 - 1 - i) := zhf_eq (by omega)
    have eN : 2 ^ a.1 = 2 * 2 ^ (a.1 - 1 - i) * 2 ^ i := by
      rw [← Nat.pow_succ', ← Nat.pow_add]; congr 1; omega
    show (zon (ztl a v i) (zhf a.1 i) (2 ^ a.1)).testBit k = !(zol (3 - (4 - a.1 + i)) (zop v (4 - a.1 + i))).testBit k
    rw [zon_bit, decide_eq_true hk, Bool.true_and, show 3 - (4 - a.1 + i) = a.1 - 1 - i by omega, zol_bit (by omega) (by omega), e]
    unfold zob
    by_cases c : k / 2 ^ (a.1 - 1 - i) % 2 = 0
    · have hk2 : k + 2 ^ (a.1 - 1 - i) < 2 ^ a.1 := by rw [eN] at hk ⊢; exact zdiv_k hk (Nat.two_pow_pos _) c
      rw [if_pos c, if_pos c, Nat.testBit_and, zbit_01, Nat.testBit_shiftRight, Nat.add_zero, ih k hk, ih _ hk2]
      cases (zop v (4 - a.1 + i)).testBit k <;> cases (zop v (4 - a.1 + i)).testBit (k + 2 ^ (a.1 - 1 - i)) <;> rfl
    · have hk2 : k - 2 ^ (a.1 - 1 - i) < 2 ^ a.1 := by omega
      rw [if_neg c, if_neg c, Nat.testBit_or, zbit_01, zbit_01, ih k hk, ih _ hk2]
      cases (zop v (4 - a.1 + i)).testBit k <;> cases (zop v (4 - a.1 + i)).testBit (k - 2 ^ (a.1 - 1 - i)) <;> rfl
theorem zol_ltN {d l v : Nat} (hd : d ≤ 4) (hl : l < 4) (hv : v < 2 ^ 2 ^ d) : zol l v < 2 ^ 2 ^ d := by
  have h16 := zp4_16 hd
  have hv16 : v < 65536 := Nat.lt_of_lt_of_le hv (zp2_le h16)
  refine zlt_bits (fun j hj => ?_)
  have hz : ∀ k, 2 ^ d ≤ k → v.testBit k = false := fun k hk => Nat.testBit_lt_two_pow (Nat.lt_of_lt_of_le hv (Nat.pow_le_pow_right (by omega) hk))
  rcases Nat.lt_or_ge j 16 with h | h
  · rw [zol_bit hl h, hz j hj, hz (j + 2 ^ l) (Nat.le_trans hj (Nat.le_add_right _ _))]
    split <;> rfl
  · exact zol_big hv16 h
theorem zop_ltN {d v : Nat} (hd : d ≤ 4) (hv : v < 2 ^ 2 ^ d) : ∀ i, zop v i < 2 ^ 2 ^ d
  | 0 => hv
  | i + 1 => zol_ltN hd (by omega) (zop_ltN hd hv i)
theorem zopen_eq {a : ZA} (hI : zInv a) {v : Nat} (hv : v < 2 ^ 2 ^ a.1) : zfre a &&& (ztl a v a.1 ^^^ 65535) = zopn v &&& (a.2.2.2.1 ^^^ 65535) := by
  have h16 := zNp hI
  have hd := hI.1.2
  apply Nat.eq_of_testBit_eq
  intro k
  rw [Nat.testBit_and, Nat.testBit_and, Nat.testBit_xor, Nat.testBit_xor, zfre_bit hI, show 65535 = 2 ^ 16 - 1 from rfl, Nat.testBit_two_pow_sub_one]
  by_cases hk : k < 2 ^ a.1
  · rw [ztl_bit hI hv a.1 (Nat.le_refl _) k hk, show 4 - a.1 + a.1 = 4 by omega]
    show _ = ((zop v 4).testBit k && _)
    rw [decide_eq_true hk, decide_eq_true (show k < 16 by omega)]
    cases (zop v 4).testBit k <;> cases a.2.2.2.1.testBit k <;> rfl
  · have : (zopn v).testBit k = false := Nat.testBit_lt_two_pow (Nat.lt_of_lt_of_le (zop_ltN hd hv 4) (Nat.pow_le_pow_right (by omega) (by omega)))
    rw [this, decide_eq_false hk]
    rfl
def zXo (a : ZA) (v : Nat) : Nat := zopn v &&& (a.2.2.2.1 ^^^ 65535)
theorem zXo_lt {a : ZA} {v : Nat} (hv : v < 65536) : zXo a v < 65536 := Nat.lt_of_le_of_lt Nat.and_le_left (zopn_lt hv)
/-- the reference's search: least size, first set, how many -/
def zfs (a : ZA) : Nat → Option (Nat × Nat × Nat)
  | 0 => none
  | i + 1 => match zfs a i with
    | none => if zXo a i = 0 then none else some (zpc i, i, 1)
    | some (l, f, c) => if l < zpc i ∨ zXo a i = 0 then some (l, f, c) else if zpc i = l then some (l, f, c + 1) else some (zpc i, i, 1)
def zfL (o : Option (Nat × Nat × Nat)) : Int32 := match o with
  | none => -6
  | some (l, _, _) => nI l
def zfF (o : Option (Nat × Nat × Nat)) : Int32 := match o with
  | none => -6
  | some (_, f, _) => nI f
def zfC (o : Option (Nat × Nat × Nat)) : Nat := match o with
  | none => 0
  | some (_, _, c) => c
theorem zfs_le (a : ZA) : ∀ i l f c, zfs a i = some (l, f, c) → l ≤ 16
  | 0, l, f, c, h => by cases h
  | i + 1, l, f, c, h => by
    unfold zfs at h
    cases hz : zfs a i with
    | none =>
      rw [hz] at h
      simp only at h
      split at h
      · cases h
      · cases h; exact zpc_le _
    | some p =>
      obtain ⟨l0, f0, c0⟩ := p
      have ih := zfs_le a i l0 f0 c0 hz
      rw [hz] at h
      simp only at h
      split at h
      · cases h; exact ih
      · split at h
        · cases h; exact ih
        · cases h; exact zpc_le _
theorem zfs_skip0 {a : ZA} {i : Nat} (h : zXo a i = 0) : zfs a (i + 1) = zfs a i := by
  conv => lhs; unfold zfs
  cases hz : zfs a i with
  | none => simp [h]
  | some p => obtain ⟨l0, f0, c0⟩ := p; simp [h]
theorem zfs_skip1 {a : ZA} {i : Nat} (h : ¬ zfL (zfs a i) < 0) (h2 : zfL (zfs a i) < nI (zpc i)) : zfs a (i + 1) = zfs a i := by
  conv => lhs; unfold zfs
  cases hz : zfs a i with
  | none => exact absurd (by rw [hz]; decide) h
  | some p =>
    obtain ⟨l0, f0, c0⟩ := p
    have ih := zfs_le a i l0 f0 c0 hz
    rw [hz] at h2
    have := zpc_le i
    simp only
    rw [if_pos (Or.inl ((nI_ltI (by omega) (by omega)).mp h2))]
theorem zfs_new {a : ZA} {i : Nat} (hx : ¬ zXo a i = 0) (h : zfL (zfs a i) < 0 ∨ (¬ zfL (zfs a i) < nI (zpc i) ∧ ¬ nI (zpc i) = zfL (zfs a i))) : zfs a (i + 1) = some (zpc i, i, 1) := by
  conv => lhs; unfold zfs
  cases hz : zfs a i with
  | none => simp [hx]
  | some p =>
    obtain ⟨l0, f0, c0⟩ := p
    have ih := zfs_le a i l0 f0 c0 hz
    have := zpc_le i
    rw [hz] at h
    rcases h with q | ⟨q1, q2⟩
    · exact absurd q (nI_pos (by omega))
    · simp only
      rw [if_neg, if_neg]
      · intro e; exact q2 (by rw [e]; rfl)
      · rintro (q | q)
        · exact q1 (nI_lt q (by omega))
        · exact hx q
theorem zfs_more {a : ZA} {i : Nat} (hx : ¬ zXo a i = 0) (h : ¬ zfL (zfs a i) < 0) (h2 : nI (zpc i) = zfL (zfs a i)) : zfL (zfs a (i + 1)) = zfL (zfs a i) ∧ zfF (zfs a (i + 1)) = zfF (zfs a i) ∧ zfC (zfs a (i + 1)) = zfC (zfs a i) + 1 := by
  have e : ∃ l0 f0 c0, zfs a i = some (l0, f0, c0) := by
    cases hz : zfs a i with
    | none => exact absurd (by rw [hz]; decide) h
    | some p => exact ⟨p.1, p.2.1, p.2.2, rfl⟩
  obtain ⟨l0, f0, c0, hz⟩ := e
  have ih := zfs_le a i l0 f0 c0 hz
  have := zpc_le i
  have hs : zfs a (i + 1) = some (l0, f0, c0 + 1) := by
    unfold zfs
    rw [hz] at h2 ⊢
    have e : zpc i = l0 := (nI_eq (by omega) (by omega)).mp h2
    simp only
    rw [if_neg (by rintro (q | q); omega; exact hx q), if_pos e]
  rw [hs, hz]
  exact ⟨rfl, rfl, rfl⟩
theorem zsz_miss {z k : Nat} (hb : z.testBit k = false) : ∀ n, k < n → zsz z n < n
  | 0, h => absurd h (Nat.not_lt_zero _)
  | n + 1, h => by
    show zsz z n + (z.testBit n).toNat < n + 1
    have h1 := zsz_le z n
    have h2 := Bool.toNat_le (z.testBit n)
    by_cases e : k = n
    · subst e
      rw [hb]
      show zsz z k + 0 < k + 1
      omega
    · have := zsz_miss hb n (by omega)
      omega
/-- the places whose own set is of more than w -/
def zMk (w : Nat) : Nat := if w < 1 then 65535 else if w < 2 then 65534 else if w < 4 then 65256 else if w < 8 then 59520 else if w < 16 then 32768 else 0
def zof3 (v : Nat) : Nat := ((v ||| v >>> 8) &&& 255) ||| (v &&& (v <<< 8) &&& 65280)
def zof2 (v : Nat) : Nat := ((v ||| v >>> 4) &&& 3855) ||| (v &&& (v <<< 4) &&& 61680)
def zof1 (v : Nat) : Nat := ((v ||| v >>> 2) &&& 13107) ||| (v &&& (v <<< 2) &&& 52428)
def zof0 (v : Nat) : Nat := ((v ||| v >>> 1) &&& 21845) ||| (v &&& (v <<< 1) &&& 43690)
def zopF (v : Nat) : Nat := zof0 (zof1 (zof2 (zof3 v)))
theorem zopF_eq (v : Nat) : zopF v = zopn v := rfl
def zMkP (v : Nat) : Bool := Nat.beq (Nat.land (zopF v) (zMk (zpc v))) 0
theorem zMk_c0 : zall zMkP 12 0 = true := by decide +kernel
theorem zMk_c1 : zall zMkP 12 4096 = true := by decide +kernel
theorem zMk_c2 : zall zMkP 12 8192 = true := by decide +kernel
theorem zMk_c3 : zall zMkP 12 12288 = true := by decide +kernel
theorem zMk_c4 : zall zMkP 12 16384 = true := by decide +kernel
theorem zMk_c5 : zall zMkP 12 20480 = true := by decide +kernel
theorem zMk_c6 : zall zMkP 12 24576 = true := by decide +kernel
theorem zMk_c7 : zall zMkP 12 28672 = true := by decide +kernel
theorem zMk_c8 : zall zMkP 12 32768 = true := by decide +kernel
theorem zMk_c9 : zall zMkP 12 36864 = true := by decide +kernel
theorem zMk_c10 : zall zMkP 12 40960 = true := by decide +kernel
theorem zMk_c11 : zall zMkP 12 45056 = true := by decide +kernel
theorem zMk_c12 : zall zMkP 12 49152 = true := by decide +kernel
theorem zMk_c13 : zall zMkP 12 53248 = true := by decide +kernel
theorem zMk_c14 : zall zMkP 12 57344 = true := by decide +kernel
theorem zMk_c15 : zall zMkP 12 61440 = true := by decide +kernel
theorem zMk_all {v : Nat} (hv : v < 65536) : zopn v &&& zMk (zpc v) = 0 := by
  have key : zMkP v = true := by
    rcases (show (0 ≤ v ∧ v < 0 + 2 ^ 12) ∨ (4096 ≤ v ∧ v < 4096 + 2 ^ 12) ∨ (8192 ≤ v ∧ v < 8192 + 2 ^ 12) ∨ (12288 ≤ v ∧ v < 12288 + 2 ^ 12) ∨ (16384 ≤ v ∧ v < 16384 + 2 ^ 12) ∨ (20480 ≤ v ∧ v < 20480 + 2 ^ 12) ∨ (24576 ≤ v ∧ v < 24576 + 2 ^ 12) ∨ (28672 ≤ v ∧ v < 28672 + 2 ^ 12) ∨ (32768 ≤ v ∧ v < 32768 + 2 ^ 12) ∨ (36864 ≤ v ∧ v < 36864 + 2 ^ 12) ∨ (40960 ≤ v ∧ v < 40960 + 2 ^ 12) ∨ (45056 ≤ v ∧ v < 45056 + 2 ^ 12) ∨ (49152 ≤ v ∧ v < 49152 + 2 ^ 12) ∨ (53248 ≤ v ∧ v < 53248 + 2 ^ 12) ∨ (57344 ≤ v ∧ v < 57344 + 2 ^ 12) ∨ (61440 ≤ v ∧ v < 61440 + 2 ^ 12) by omega) with h | h | h | h | h | h | h | h | h | h | h | h | h | h | h | h
    · exact zall_of zMkP 12 0 zMk_c0 v h.1 h.2
    · exact zall_of zMkP 12 4096 zMk_c1 v h.1 h.2
    · exact zall_of zMkP 12 8192 zMk_c2 v h.1 h.2
    · exact zall_of zMkP 12 12288 zMk_c3 v h.1 h.2
    · exact zall_of zMkP 12 16384 zMk_c4 v h.1 h.2
    · exact zall_of zMkP 12 20480 zMk_c5 v h.1 h.2
    · exact zall_of zMkP 12 24576 zMk_c6 v h.1 h.2
    · exact zall_of zMkP 12 28672 zMk_c7 v h.1 h.2
    · exact zall_of zMkP 12 32768 zMk_c8 v h.1 h.2
    · exact zall_of zMkP 12 36864 zMk_c9 v h.1 h.2
    · exact zall_of zMkP 12 40960 zMk_c10 v h.1 h.2
    · exact zall_of zMkP 12 45056 zMk_c11 v h.1 h.2
    · exact zall_of zMkP 12 49152 zMk_c12 v h.1 h.2
    · exact zall_of zMkP 12 53248 zMk_c13 v h.1 h.2
    · exact zall_of zMkP 12 57344 zMk_c14 v h.1 h.2
    · exact zall_of zMkP 12 61440 zMk_c15 v h.1 h.2
  have h := Nat.eq_of_beq_eq_true key
  exact h
theorem zMk_bit : ∀ w, w < 17 → ∀ k, k < 16 → w < zpc (zcod (2 ^ k)) → (zMk w).testBit k = true := by decide +kernel
theorem zopn_wt {v k : Nat} (hv : v < 65536) (hk : k < 16) (h : (zopn v).testBit k = true) : zpc (zcod (2 ^ k)) ≤ zpc v := by
  rcases Nat.lt_or_ge (zpc v) (zpc (zcod (2 ^ k))) with q | q
  · exfalso
    have h1 := zMk_bit (zpc v) (by have := zpc_le v; omega) k hk q
    have h2 : zopn v &&& zMk (zpc v) = 0 := zMk_all hv
    have h3 : (zopn v &&& zMk (zpc v)).testBit k = true := by rw [Nat.testBit_and, h, h1]; rfl
    rw [h2] at h3
    simp at h3
  · exact q
theorem zXo_ex {a : ZA} (hI : zInv a) {v : Nat} (hv : v < 2 ^ 2 ^ a.1) (h : ¬ zXo a v = 0) : ∃ k, k < 2 ^ a.1 ∧ a.2.2.2.1.testBit k = false ∧ zpc (zcod (2 ^ k)) ≤ zpc v := by
  have h16 := zNp hI
  have hv16 : v < 65536 := Nat.lt_of_lt_of_le hv (zp2_le h16)
  rcases Classical.em (∃ k, (zXo a v).testBit k = true) with ⟨k, q⟩ | q
  · unfold zXo at q
    rw [Nat.testBit_and, Bool.and_eq_true] at q
    have hkN : k < 2 ^ a.1 := by
      rcases Nat.lt_or_ge k (2 ^ a.1) with g | g
      · exact g
      · have : (zopn v).testBit k = false := Nat.testBit_lt_two_pow (Nat.lt_of_lt_of_le (zop_ltN hI.1.2 hv 4) (Nat.pow_le_pow_right (by omega) g))
        rw [this] at q
        exact absurd q.1 (by decide)
    have hk : k < 16 := by omega
    refine ⟨k, hkN, ?_, zopn_wt hv16 hk q.1⟩
    have := q.2
    rw [Nat.testBit_xor, show 65535 = 2 ^ 16 - 1 from rfl, Nat.testBit_two_pow_sub_one, decide_eq_true hk] at this
    revert this
    cases a.2.2.2.1.testBit k <;> simp
  · exact absurd (Nat.eq_of_testBit_eq (fun i => by rw [Nat.zero_testBit]; exact Bool.eq_false_iff.mpr (fun g => q ⟨i, g⟩))) h
def zfsS (a : ZA) (i : Nat) : Option (Nat × Nat × Nat) → Prop
  | none => ∀ v, v < i → zXo a v = 0
  | some (l, f, c) => f < i ∧ ¬ zXo a f = 0 ∧ zpc f = l ∧ (∀ v, v < i → ¬ zXo a v = 0 → l ≤ zpc v) ∧ (∀ v, v < f → ¬ zXo a v = 0 → ¬ zpc v = l) ∧ c = zct (fun v => decide (zpc v = l) && decide (¬ zXo a v = 0)) i
theorem zct_zero {P : Nat → Bool} : ∀ n, (∀ v, v < n → P v = false) → zct P n = 0
  | 0, _ => rfl
  | n + 1, h => by
    unfold zct
    rw [zct_zero n (fun v hv => h v (by omega)), h n (by omega)]
    rfl
theorem zfsS_of (a : ZA) : ∀ i, zfsS a i (zfs a i)
  | 0 => fun v hv => absurd hv (Nat.not_lt_zero _)
  | i + 1 => by
    have ih := zfsS_of a i
    unfold zfs
    cases hz : zfs a i with
    | none =>
      rw [hz] at ih
      have ih : ∀ v, v < i → zXo a v = 0 := ih
      simp only
      by_cases c : zXo a i = 0
      · rw [if_pos c]
        intro v hv
        by_cases e : v = i
        · rw [e]; exact c
        · exact ih v (by omega)
      · rw [if_neg c]
        refine ⟨Nat.lt_succ_self _, c, rfl, ?_, ?_, ?_⟩
        · intro v hv hx
          by_cases e : v = i
          · rw [e]; exact Nat.le_refl _
          · exact absurd (ih v (by omega)) hx
        · intro v hv hx
          exact absurd (ih v hv) hx
        · unfold zct
          rw [zct_zero i (fun v hv => by simp [ih v hv])]
          simp [c]
    | some p =>
      obtain ⟨l, f, c⟩ := p
      rw [hz] at ih
      obtain ⟨h1, h2, h3, h4, h5, h6⟩ := ih
      simp only
      by_cases q : l < zpc i ∨ zXo a i = 0
      · rw [if_pos q]
        refine ⟨by omega, h2, h3, ?_, h5, ?_⟩
        · intro v hv hx
          by_cases e : v = i
          · subst e
            rcases q with q | q
            · omega
            · exact absurd q hx
          · exact h4 v (by omega) hx
        · unfold zct
          rw [← h6]
          rcases q with q | q
          · simp [show ¬ zpc i = l by omega]
          · simp [q]
      · rw [if_neg q]
        have q1 : ¬ l < zpc i := fun z => q (Or.inl z)
        have q2 : ¬ zXo a i = 0 := fun z => q (Or.inr z)
        by_cases e : zpc i = l
        · rw [if_pos e]
          refine ⟨by omega, h2, h3, ?_, h5, ?_⟩
          · intro v hv hx
            by_cases e2 : v = i
            · rw [e2]; omega
            · exact h4 v (by omega) hx
          · unfold zct
            rw [← h6]
            simp [e, q2]
        · rw [if_neg e]
          refine ⟨Nat.lt_succ_self _, q2, rfl, ?_, ?_, ?_⟩
          · intro v hv hx
            by_cases e2 : v = i
            · rw [e2]; exact Nat.le_refl _
            · have := h4 v (by omega) hx
              omega
          · intro v hv hx e2
            have := h4 v hv hx
            omega
          · unfold zct
            rw [zct_zero i (fun v hv => by
              by_cases hx : zXo a v = 0
              · simp [hx]
              · have := h4 v hv hx
                simp [show ¬ zpc v = zpc i by omega])]
            simp [q2]
theorem zfrag_ref {a : ZA} (hI : zInv a) : (2 ^ a.1 - zpc a.2.2.2.1 = 0 ∧ zfs a (2 ^ 2 ^ a.1) = none) ∨ (¬ 2 ^ a.1 - zpc a.2.2.2.1 = 0 ∧ zfs a (2 ^ 2 ^ a.1) = some (zlw a.2.2.2.1 (2 ^ a.1), zfl a (zlw a.2.2.2.1 (2 ^ a.1)), zfc a (zlw a.2.2.2.1 (2 ^ a.1)))) := by
  have h16 := zNp hI
  have hS := zfsS_of a (2 ^ 2 ^ a.1)
  by_cases hf : 2 ^ a.1 - zpc a.2.2.2.1 = 0
  · refine Or.inl ⟨hf, ?_⟩
    cases hz : zfs a (2 ^ 2 ^ a.1) with
    | none => rfl
    | some p =>
      obtain ⟨l, f, c⟩ := p
      rw [hz] at hS
      obtain ⟨k, k1, k2, k3⟩ := zXo_ex hI hS.1 hS.2.1
      have h1 := zsz_miss k2 (2 ^ a.1) k1
      have h2 : zpc a.2.2.2.1 = zsz a.2.2.2.1 (2 ^ a.1) := by
        rw [← zsz_16]
        have := zsz_hi hI.2.2.1 (16 - 2 ^ a.1)
        rw [show 2 ^ a.1 + (16 - 2 ^ a.1) = 16 by omega] at this
        exact this
      omega
  · refine Or.inr ⟨hf, ?_⟩
    obtain ⟨k, h1, h2, h3⟩ := zlw_at (2 ^ a.1) (zfree_ex hI.2.2.1 h16 hf)
    have hv : zcod (2 ^ k) < 2 ^ 2 ^ a.1 := zcl_ltm (Nat.pow_lt_pow_right (by omega) h1) 4
    have ho : ¬ zXo a (zcod (2 ^ k)) = 0 := by
      intro q
      have : (zopn (zcod (2 ^ k)) &&& (a.2.2.2.1 ^^^ 65535)).testBit k = true := by
        rw [Nat.testBit_and, zopen_own k (by omega), Nat.testBit_xor, show 65535 = 2 ^ 16 - 1 from rfl, Nat.testBit_two_pow_sub_one]
        simp [h2, show k < 16 by omega]
      unfold zXo at q
      rw [q] at this
      simp at this
    cases hz : zfs a (2 ^ 2 ^ a.1) with
    | none =>
      rw [hz] at hS
      exact absurd (hS _ hv) ho
    | some p =>
      obtain ⟨l, f, c⟩ := p
      rw [hz] at hS
      obtain ⟨g1, g2, g3, g4, g5, g6⟩ := hS
      have hl : l = zlw a.2.2.2.1 (2 ^ a.1) := by
        obtain ⟨k', k1, k2, k3⟩ := zXo_ex hI g1 g2
        have m1 := zlw_min (2 ^ a.1) k' k1 (by rw [k2]; decide)
        have m2 := g4 _ hv ho
        omega
      rw [← hl]
      have e1 : f = zfl a l := by
        unfold zfl
        rw [zff_some (i := f) g1 ?_ ?_]
        · rfl
        · have : ¬ zopn f &&& (a.2.2.2.1 ^^^ 65535) = 0 := g2
          simp [zhm, g3, this]
        · intro v hvf
          by_cases hx : zXo a v = 0
          · have : zopn v &&& (a.2.2.2.1 ^^^ 65535) = 0 := hx
            simp [zhm, this]
          · simp [g5 v hvf hx]
      have e2 : c = zfc a l := by
        rw [g6]
        rfl
      rw [← e1, ← e2]
theorem zik_sum {ik : Nat} (h : ik < 4) : nI ik = (if ik.testBit 0 = true then 1 else 0) + (if ik.testBit 1 = true then 2 else 0) := by
  rcases (show ik = 0 ∨ ik = 1 ∨ ik = 2 ∨ ik = 3 by omega) with rfl | rfl | rfl | rfl <;> decide
theorem zin01 {x : Int32} (h : ¬ (x < 0 ∨ 1 < x)) : x = 0 ∨ x = 1 := by
  have := (zin_iff (p := x) (n := 2) (by decide) (by decide)).mp h
  exact zr01 this.1 this.2
theorem zin01_iff {x : Int32} : (x < 0 ∨ ¬ x < 2) ↔ (x < 0 ∨ 1 < x) := by
  have := zin_iff (p := x) (n := 2) (by decide) (by decide)
  constructor
  · intro h
    exact Classical.not_not.mp (fun q => by have := this.mp q; exact h.elim this.1 (fun z => z this.2))
  · intro h
    exact Classical.or_iff_not_imp_left.mpr (fun q q2 => (this.mpr ⟨q, q2⟩) h)
theorem zrest_st {im : Nat → Int32} {a b : ZA} {k : Nat} (h : ∀ j, j < 24 → im (k + j) = zst b j) (j : Nat) (hj : j < 24) : fb_put (zst a) (fun j => im (k + j)) 0 24 j = zst b j := by
  rw [fb_put_in (by omega) (by omega), Nat.sub_zero]
  exact h j hj
theorem zput_0 (f g : Nat → Int32) (n : Nat) : upd (fb_put f g 0 n) n (g n) = fb_put f g 0 (n + 1) := by
  have := fb_put_succ f g 0 n
  rw [Nat.zero_add] at this
  exact this
theorem zcount_5 {a : ZA} {k0 : Nat} (h : k0 < 3) : zst a (5 + k0) = zcc a (nI (10 + k0)) := by
  unfold zcc
  rw [if_neg, nI_clamp (by omega), Nat.add_sub_cancel_left, zst_ck a h]
  rintro (q | q)
  · exact nI_nlt (show 10 ≤ 10 + k0 by omega) (by omega) q
  · exact q (nI_lt (show 10 + k0 < 13 by omega) (by decide))
theorem zcc_out {a : ZA} {p : Int32} (h : p < 10 ∨ 12 < p) : zcc a p = -2 := by
  unfold zcc
  rw [if_pos]
  rcases h with q | q
  · exact Or.inl q
  · refine Or.inr (fun z => ?_)
    have h1 := Int32.lt_iff_toInt_lt.mp q
    have h2 := Int32.lt_iff_toInt_lt.mp z
    have e1 : (12 : Int32).toInt = 12 := by decide
    have e2 : (13 : Int32).toInt = 13 := by decide
    omega
theorem zin_iff13 {p : Int32} (h : ¬ (p < 10 ∨ 12 < p)) : p < 13 := by
  have e : ¬ (12 : Int32).toInt < p.toInt := fun q => h (Or.inr (Int32.lt_iff_toInt_lt.mpr q))
  apply Int32.lt_iff_toInt_lt.mpr
  have e1 : (12 : Int32).toInt = 12 := by decide
  have e2 : (13 : Int32).toInt = 13 := by decide
  omega
end
section
/-! The reference's kept rows: its sort by swaps is insertion, its two made of one are the class's. -/
def zsw2 (f : Nat → Int32) (i j : Nat) : Nat → Int32 := upd (upd f i (f j)) j (f i)
def zmid (G : ZL) (x : Nat × Int32) (R : ZL) (j : Nat) : ZL := G.take j ++ x :: (G.drop j ++ R)
theorem zmid_len (G : ZL) (x : Nat × Int32) (R : ZL) {j : Nat} (h : j ≤ G.length) : (zmid G x R j).length = G.length + 1 + R.length := by
  unfold zmid
  simp only [List.length_append, List.length_cons, List.length_take, List.length_drop]
  omega
theorem zmid_get (G : ZL) (x : Nat × Int32) (R : ZL) {j : Nat} (h : j ≤ G.length) (k : Nat) : (zmid G x R j).getD k (0, 0) = if k < j then G.getD k (0, 0) else if k = j then x else if k ≤ G.length then G.getD (k - 1) (0, 0) else R.getD (k - (G.length + 1)) (0, 0) := by
  unfold zmid
  have hl : (G.take j).length = j := by rw [List.length_take]; omega
  simp only [List.getD_eq_getElem?_getD]
  by_cases h1 : k < j
  · rw [if_pos h1, List.getElem?_append_left (by omega), List.getElem?_take_of_lt h1]
  · rw [if_neg h1, List.getElem?_append_right (by omega), hl]
    by_cases h2 : k = j
    · rw [if_pos h2, h2, Nat.sub_self]; rfl
    · rw [if_neg h2, show k - j = (k - j - 1) + 1 by omega, List.getElem?_cons_succ]
      have hd : (G.drop j).length = G.length - j := List.length_drop
      by_cases h3 : k ≤ G.length
      · rw [if_pos h3, List.getElem?_append_left (by omega), List.getElem?_drop, show j + (k - j - 1) = k - 1 by omega]
      · rw [if_neg h3, List.getElem?_append_right (by omega), hd, show k - j - 1 - (G.length - j) = k - (G.length + 1) by omega]
theorem zmid_swap {G R : ZL} {x : Nat × Int32} {r f : Nat → Int32} {n j : Nat} (h : zRL (r, f, n) (zmid G x R j)) (h1 : 1 ≤ j) (h2 : j ≤ G.length) : zRL (zsw2 r j (j - 1), zsw2 f j (j - 1), n) (zmid G x R (j - 1)) := by
  refine ⟨by rw [zmid_len _ _ _ (by omega), ← zmid_len G x R h2]; exact h.1, fun k hk => ?_⟩
  rw [zmid_len _ _ _ (by omega)] at hk
  have hj := h.2 j (by rw [zmid_len _ _ _ h2]; omega)
  have hj1 := h.2 (j - 1) (by rw [zmid_len _ _ _ h2]; omega)
  rw [zmid_get _ _ _ h2] at hj hj1
  rw [if_neg (by omega), if_pos rfl] at hj
  rw [if_pos (by omega)] at hj1
  rw [zmid_get _ _ _ (by omega)]
  show zsw2 r j (j - 1) k = _ ∧ zsw2 f j (j - 1) k = _ ∧ _
  unfold zsw2
  by_cases e1 : k = j - 1
  · subst e1
    rw [pk_us, pk_us, if_neg (by omega), if_pos rfl]
    exact hj
  · rw [pk_un e1, pk_un e1]
    by_cases e2 : k = j
    · subst e2
      rw [pk_us, pk_us, if_neg (by omega), if_neg (by omega), if_pos h2]
      exact hj1
    · rw [pk_un e2, pk_un e2]
      have hk2 := h.2 k (by rw [zmid_len _ _ _ h2]; exact hk)
      rw [zmid_get _ _ _ h2] at hk2
      by_cases e3 : k < j - 1
      · rw [if_pos e3]; rw [if_pos (by omega)] at hk2; exact hk2
      · rw [if_neg e3, if_neg e1]; rw [if_neg (by omega), if_neg e2] at hk2; exact hk2
theorem zmid_ah {G R : ZL} {x : Nat × Int32} {r f : Nat → Int32} {n j : Nat} (h : zRL (r, f, n) (zmid G x R j)) (h1 : 1 ≤ j) (h2 : j ≤ G.length) : (f j < f (j - 1) ∨ (f j = f (j - 1) ∧ r j < r (j - 1))) ↔ zah x (G.getD (j - 1) (0, 0)) = true := by
  have hj := h.2 j (by rw [zmid_len _ _ _ h2]; omega)
  have hj1 := h.2 (j - 1) (by rw [zmid_len _ _ _ h2]; omega)
  rw [zmid_get _ _ _ h2] at hj hj1
  rw [if_neg (by omega), if_pos rfl] at hj
  rw [if_pos (by omega)] at hj1
  dsimp only at hj hj1
  unfold zah
  rw [decide_eq_true_eq, hj.1, hj.2.1, hj1.1, hj1.2.1, nI_ltI (by omega) (by omega)]
def zso (L : ZL) (i : Nat) : ZL := (L.take i).foldl zins []
theorem zfold_len : ∀ (L G : ZL), (L.foldl zins G).length = G.length + L.length
  | [], G => rfl
  | x :: L, G => by
    show (L.foldl zins (zins G x)).length = _
    rw [zfold_len L, zins_len, List.length_cons]
    omega
theorem zso_len {L : ZL} {i : Nat} (h : i ≤ L.length) : (zso L i).length = i := by
  unfold zso
  rw [zfold_len, List.length_take, List.length_nil]
  omega
theorem zso_s {L : ZL} {i : Nat} (h : i < L.length) : zso L (i + 1) = zins (zso L i) (L.getD i (0, 0)) := by
  unfold zso
  rw [List.take_add_one, List.foldl_append, List.getElem?_eq_getElem h]
  simp [List.getD_eq_getElem?_getD, List.getElem?_eq_getElem h]
theorem zso_1 (L : ZL) : zso L 1 ++ L.drop 1 = L := by
  cases L with
  | nil => rfl
  | cons x L => rfl
theorem zmid_start {L : ZL} {i : Nat} (h : i < L.length) : zmid (zso L i) (L.getD i (0, 0)) (L.drop (i + 1)) i = zso L i ++ L.drop i := by
  have hl := zso_len (show i ≤ L.length by omega)
  unfold zmid
  rw [List.take_of_length_le (by omega), List.drop_of_length_le (by omega), List.nil_append]
  congr 1
  rw [List.drop_eq_getElem_cons h]
  simp [List.getD_eq_getElem?_getD, List.getElem?_eq_getElem h]
theorem zmid_end {L : ZL} {i : Nat} (h : i < L.length) : zmid (zso L i) (L.getD i (0, 0)) (L.drop (i + 1)) (zpos (zso L i) (L.getD i (0, 0)) (zso L i).length) = zso L (i + 1) ++ L.drop (i + 1) := by
  rw [zso_s h]
  unfold zmid zins
  simp
theorem zso_end {L : ZL} {n : Nat} (h : n = L.length) : zso L (1 + (n - 1)) ++ L.drop (1 + (n - 1)) = zso L L.length := by
  subst h
  cases L with
  | nil => rfl
  | cons x L =>
    have e : 1 + ((x :: L).length - 1) = (x :: L).length := by simp; omega
    rw [e, List.drop_length, List.append_nil]
theorem zia_a {x y r s : Int32} (h2 : x < y) : (1 : Int32) = zB (x < y ∨ (x = y ∧ r < s)) := zB_1 (Or.inl h2)
theorem zia_b {x y r s : Int32} (h : ¬ x = y) (h2 : ¬ x < y) : (0 : Int32) = zB (x < y ∨ (x = y ∧ r < s)) := zB_0 (by rintro (q | q); exact h2 q; exact h q.1)
theorem zia_c {x y r s : Int32} (h : x = y) (h2 : r < s) : (1 : Int32) = zB (x < y ∨ (x = y ∧ r < s)) := zB_1 (Or.inr ⟨h, h2⟩)
theorem zia_d {x y r s : Int32} (h : x = y) (h2 : ¬ r < s) : (0 : Int32) = zB (x < y ∨ (x = y ∧ r < s)) := zB_0 (by
  rintro (q | q)
  · rw [h] at q
    exact absurd (Int32.lt_iff_toInt_lt.mp q) (by omega)
  · exact h2 q.2)
/-- one bit more, as the reference lays it: the first i are done -/
def zA1 (a : ZA) (k : Nat) (p : Nat × Int32) : Nat × Int32 := (p.1, p.2 + zfb (zsee a.2.2.2.2.2.1 a.1 k p.1) (Nat.testBit p.1 k))
def zB1 (a : ZA) (k : Nat) (p : Nat × Int32) : Nat × Int32 := (p.1 ||| 2 ^ k, p.2 + zfb (zsee a.2.2.2.2.2.1 a.1 k (p.1 ||| 2 ^ k)) (Nat.testBit (p.1 ||| 2 ^ k) k))
def zla (a : ZA) (k : Nat) (L : ZL) (i : Nat) : ZL := (L.take i).map (zA1 a k) ++ L.drop i ++ (if Nat.testBit a.2.2.2.1 k = true then [] else (L.take i).map (zB1 a k))
theorem zla_0 (a : ZA) (k : Nat) (L : ZL) : zla a k L 0 = L := by
  unfold zla
  simp
theorem zla_len {a : ZA} {k : Nat} {L : ZL} {i : Nat} (h : i ≤ L.length) : (zla a k L i).length = L.length + (if Nat.testBit a.2.2.2.1 k = true then 0 else i) := by
  unfold zla
  split
  · simp only [List.length_append, List.length_map, List.length_take, List.length_drop, List.length_nil]; omega
  · simp only [List.length_append, List.length_map, List.length_take, List.length_drop]; omega
theorem zla_at {a : ZA} {k : Nat} {L : ZL} {i : Nat} (h : i < L.length) : (zla a k L i).getD i (0, 0) = L.getD i (0, 0) := by
  unfold zla
  simp only [List.getD_eq_getElem?_getD]
  have h1 : ((L.take i).map (zA1 a k)).length = i := by rw [List.length_map, List.length_take]; omega
  rw [List.append_assoc, List.getElem?_append_right (by omega), h1, Nat.sub_self, List.getElem?_append_left (by rw [List.length_drop]; omega), List.getElem?_drop, Nat.add_zero]
/-- the row a bit further -/
theorem zRL_app {r f : Nat → Int32} {n w : Nat} {x : Int32} {M : ZL} (h : zRL (r, f, n) M) (hw : w < 65536) : zRL (upd r n (nI w), upd f n x, n + 1) (M ++ [(w, x)]) := by
  have e : n = M.length := h.1
  refine ⟨by show n + 1 = _; rw [List.length_append, e]; rfl, fun k hk => ?_⟩
  rw [List.length_append] at hk
  show upd r n (nI w) k = _ ∧ upd f n x k = _ ∧ _
  by_cases hk2 : k = n
  · have e2 : (M ++ [(w, x)]).getD k (0, 0) = (w, x) := by
      simp only [List.getD_eq_getElem?_getD]
      rw [hk2, e, List.getElem?_append_right (Nat.le_refl _), Nat.sub_self]; rfl
    rw [e2, hk2, pk_us, pk_us]
    exact ⟨rfl, rfl, hw⟩
  · have hk3 : k < M.length := by simp at hk; omega
    have e2 : (M ++ [(w, x)]).getD k (0, 0) = M.getD k (0, 0) := by
      simp only [List.getD_eq_getElem?_getD]
      rw [List.getElem?_append_left hk3]
    rw [e2, pk_un hk2, pk_un hk2]
    exact h.2 k hk3
theorem zRL_set {r f : Nat → Int32} {n i : Nat} {x : Int32} {M : ZL} (h : zRL (r, f, n) M) (hi : i < M.length) : zRL (r, upd f i x, n) (M.set i ((M.getD i (0, 0)).1, x)) := by
  refine ⟨by rw [List.length_set]; exact h.1, fun k hk => ?_⟩
  rw [List.length_set] at hk
  show r k = _ ∧ upd f i x k = _ ∧ _
  have hk2 := h.2 k hk
  by_cases e : k = i
  · subst e
    have e2 : (M.set k ((M.getD k (0, 0)).1, x)).getD k (0, 0) = ((M.getD k (0, 0)).1, x) := by
      simp only [List.getD_eq_getElem?_getD]
      rw [List.getElem?_set_self hk]; rfl
    rw [e2, pk_us]
    exact ⟨hk2.1, rfl, hk2.2.2⟩
  · have e2 : (M.set i ((M.getD i (0, 0)).1, x)).getD k (0, 0) = M.getD k (0, 0) := by
      simp only [List.getD_eq_getElem?_getD]
      rw [List.getElem?_set_ne (fun q => e q.symm)]
    rw [e2, pk_un e]
    exact hk2
theorem zmap_set (a : ZA) (k : Nat) {L : ZL} {i : Nat} (h : i < L.length) : (L.take (i + 1)).map (zA1 a k) ++ L.drop (i + 1) = ((L.take i).map (zA1 a k) ++ L.drop i).set i (zA1 a k (L.getD i (0, 0))) := by
  have h1 : ((L.take i).map (zA1 a k)).length = i := by rw [List.length_map, List.length_take]; omega
  rw [List.set_append_right _ _ (by omega), h1, Nat.sub_self, List.drop_eq_getElem_cons h, List.set_cons_zero, List.take_add_one, List.map_append]
  simp [List.getD_eq_getElem?_getD, List.getElem?_eq_getElem h]
theorem zla_frz {a : ZA} {k : Nat} {L : ZL} {i : Nat} (h : i < L.length) (hz : Nat.testBit a.2.2.2.1 k = true) : zla a k L (i + 1) = (zla a k L i).set i (zA1 a k (L.getD i (0, 0))) := by
  unfold zla
  rw [if_pos hz, if_pos hz, List.append_nil, List.append_nil]
  exact zmap_set a k h
theorem zla_fre {a : ZA} {k : Nat} {L : ZL} {i : Nat} (h : i < L.length) (hz : ¬ Nat.testBit a.2.2.2.1 k = true) : zla a k L (i + 1) = (zla a k L i ++ [zB1 a k (L.getD i (0, 0))]).set i (zA1 a k (L.getD i (0, 0))) := by
  unfold zla
  rw [if_neg hz, if_neg hz]
  have hl : i < ((L.take i).map (zA1 a k) ++ L.drop i).length := by
    simp only [List.length_append, List.length_map, List.length_take, List.length_drop]; omega
  rw [List.append_assoc ((L.take i).map (zA1 a k) ++ L.drop i), List.set_append_left _ _ hl, ← zmap_set a k h]
  have e : (L.take (i + 1)).map (zB1 a k) = (L.take i).map (zB1 a k) ++ [zB1 a k (L.getD i (0, 0))] := by
    rw [List.take_add_one, List.map_append]
    simp [List.getD_eq_getElem?_getD, List.getElem?_eq_getElem h]
  rw [e]
theorem zla_stepZ {a : ZA} {k : Nat} {L : ZL} {i n : Nat} {r f : Nat → Int32} (h : zRL (r, f, n) (zla a k L i)) (hi : i < L.length) (hz : Nat.testBit a.2.2.2.1 k = true) : zRL (r, upd f i ((L.getD i (0, 0)).2 + zfb (zsee a.2.2.2.2.2.1 a.1 k (L.getD i (0, 0)).1) (Nat.testBit (L.getD i (0, 0)).1 k)), n) (zla a k L (i + 1)) := by
  have hl : i < (zla a k L i).length := by rw [zla_len (by omega)]; omega
  have h2 := zRL_set (i := i) (x := (zA1 a k (L.getD i (0, 0))).2) h hl
  rw [zla_at hi] at h2
  rw [zla_frz hi hz]
  exact h2
theorem zla_stepF {a : ZA} {k : Nat} {L : ZL} {i n : Nat} {r f : Nat → Int32} (h : zRL (r, f, n) (zla a k L i)) (hi : i < L.length) (hz : ¬ Nat.testBit a.2.2.2.1 k = true) (hw : (L.getD i (0, 0)).1 ||| 2 ^ k < 65536) : zRL (upd r n (nI ((L.getD i (0, 0)).1 ||| 2 ^ k)), upd (upd f n ((L.getD i (0, 0)).2 + zfb (zsee a.2.2.2.2.2.1 a.1 k ((L.getD i (0, 0)).1 ||| 2 ^ k)) (Nat.testBit ((L.getD i (0, 0)).1 ||| 2 ^ k) k))) i ((L.getD i (0, 0)).2 + zfb (zsee a.2.2.2.2.2.1 a.1 k (L.getD i (0, 0)).1) (Nat.testBit (L.getD i (0, 0)).1 k)), n + 1) (zla a k L (i + 1)) := by
  have h1 := zRL_app (w := (zB1 a k (L.getD i (0, 0))).1) (x := (zB1 a k (L.getD i (0, 0))).2) h hw
  have hl : i < (zla a k L i).length := by rw [zla_len (by omega)]; omega
  have hl2 : i < (zla a k L i ++ [((zB1 a k (L.getD i (0, 0))).1, (zB1 a k (L.getD i (0, 0))).2)]).length := by rw [List.length_append]; omega
  have h2 := zRL_set (i := i) (x := (zA1 a k (L.getD i (0, 0))).2) h1 hl2
  have e : (zla a k L i ++ [((zB1 a k (L.getD i (0, 0))).1, (zB1 a k (L.getD i (0, 0))).2)]).getD i (0, 0) = L.getD i (0, 0) := by
    rw [← zla_at (a := a) (k := k) hi]
    simp only [List.getD_eq_getElem?_getD]
    rw [List.getElem?_append_left hl]
  rw [e] at h2
  rw [zla_fre hi hz]
  exact h2
theorem zRL_one (r f : Nat → Int32) : zRL (upd r 0 0, upd f 0 0, 1) [(0, 0)] := ⟨rfl, fun k hk => by
  have : k = 0 := by simp at hk; omega
  subst this
  exact ⟨rfl, rfl, by decide⟩⟩
theorem zRL_cutT {r f : Nat → Int32} {n m : Nat} {M : ZL} (h : zRL (r, f, n) M) (c : ¬ m < n) : zRL (r, f, n) (M.take m) := by
  have e : n = M.length := h.1
  rw [List.take_of_length_le (by omega)]
  exact h
theorem zRL_cutF {r f : Nat → Int32} {n m : Nat} {M : ZL} (h : zRL (r, f, n) M) (c : m < n) : zRL (r, f, m) (M.take m) := by
  have e : n = M.length := h.1
  refine ⟨by rw [List.length_take]; show m = _; omega, fun k hk => ?_⟩
  rw [List.length_take] at hk
  have e2 : (M.take m).getD k (0, 0) = M.getD k (0, 0) := by
    simp only [List.getD_eq_getElem?_getD]
    rw [List.getElem?_take_of_lt (by omega)]
  rw [e2]
  exact h.2 k (by omega)
theorem zgr_pos (a : ZA) (k : Nat) (L : ZL) : ∀ i, i ≤ (zgr a k L i).length
  | 0 => Nat.zero_le _
  | i + 1 => by
    have ih := zgr_pos a k L i
    simp only [zgr]
    split
    · rw [zins_len]; omega
    · rw [zins_len, zins_len]; omega
theorem zkp_ne {a : ZA} (hI : zInv a) : ∀ i, 1 ≤ (zkp a i).length
  | 0 => Nat.le_refl _
  | i + 1 => by
    have ih := zkp_ne hI i
    have h1 := zgr_pos a i (zkp a i) (zkp a i).length
    have h2 := hI.2.2.2.1.1
    simp only [zkp]
    rw [List.length_take]
    omega
end
section
def zcf0 (v : Nat) : Nat := v ^^^ ((v >>> 1) &&& 21845)
def zcf1 (v : Nat) : Nat := v ^^^ ((v >>> 2) &&& 13107)
def zcf2 (v : Nat) : Nat := v ^^^ ((v >>> 4) &&& 3855)
def zcf3 (v : Nat) : Nat := v ^^^ ((v >>> 8) &&& 255)
def zcdF (v : Nat) : Nat := zcf3 (zcf2 (zcf1 (zcf0 v)))
theorem zcdF_eq (v : Nat) : zcdF v = zcod v := rfl
def zLkP (v : Nat) : Bool := Nat.beq (Nat.land (zlow v) (zMk (zpc (zcdF v)))) 0 && (Nat.beq v 0 || !Nat.beq (zlow v) 0) && Nat.beq (zcdF (zcdF v)) v
theorem zLk_c0 : zall zLkP 12 0 = true := by decide +kernel
theorem zLk_c1 : zall zLkP 12 4096 = true := by decide +kernel
theorem zLk_c2 : zall zLkP 12 8192 = true := by decide +kernel
theorem zLk_c3 : zall zLkP 12 12288 = true := by decide +kernel
theorem zLk_c4 : zall zLkP 12 16384 = true := by decide +kernel
theorem zLk_c5 : zall zLkP 12 20480 = true := by decide +kernel
theorem zLk_c6 : zall zLkP 12 24576 = true := by decide +kernel
theorem zLk_c7 : zall zLkP 12 28672 = true := by decide +kernel
theorem zLk_c8 : zall zLkP 12 32768 = true := by decide +kernel
theorem zLk_c9 : zall zLkP 12 36864 = true := by decide +kernel
theorem zLk_c10 : zall zLkP 12 40960 = true := by decide +kernel
theorem zLk_c11 : zall zLkP 12 45056 = true := by decide +kernel
theorem zLk_c12 : zall zLkP 12 49152 = true := by decide +kernel
theorem zLk_c13 : zall zLkP 12 53248 = true := by decide +kernel
theorem zLk_c14 : zall zLkP 12 57344 = true := by decide +kernel
theorem zLk_c15 : zall zLkP 12 61440 = true := by decide +kernel
theorem zLk_all {v : Nat} (hv : v < 65536) : zlow v &&& zMk (zpc (zcod v)) = 0 ∧ (v = 0 ∨ ¬ zlow v = 0) ∧ zcod (zcod v) = v := by
  have key : zLkP v = true := by
    rcases (show (0 ≤ v ∧ v < 0 + 2 ^ 12) ∨ (4096 ≤ v ∧ v < 4096 + 2 ^ 12) ∨ (8192 ≤ v ∧ v < 8192 + 2 ^ 12) ∨ (12288 ≤ v ∧ v < 12288 + 2 ^ 12) ∨ (16384 ≤ v ∧ v < 16384 + 2 ^ 12) ∨ (20480 ≤ v ∧ v < 20480 + 2 ^ 12) ∨ (24576 ≤ v ∧ v < 24576 + 2 ^ 12) ∨ (28672 ≤ v ∧ v < 28672 + 2 ^ 12) ∨ (32768 ≤ v ∧ v < 32768 + 2 ^ 12) ∨ (36864 ≤ v ∧ v < 36864 + 2 ^ 12) ∨ (40960 ≤ v ∧ v < 40960 + 2 ^ 12) ∨ (45056 ≤ v ∧ v < 45056 + 2 ^ 12) ∨ (49152 ≤ v ∧ v < 49152 + 2 ^ 12) ∨ (53248 ≤ v ∧ v < 53248 + 2 ^ 12) ∨ (57344 ≤ v ∧ v < 57344 + 2 ^ 12) ∨ (61440 ≤ v ∧ v < 61440 + 2 ^ 12) by omega) with h | h | h | h | h | h | h | h | h | h | h | h | h | h | h | h
    · exact zall_of zLkP 12 0 zLk_c0 v h.1 h.2
    · exact zall_of zLkP 12 4096 zLk_c1 v h.1 h.2
    · exact zall_of zLkP 12 8192 zLk_c2 v h.1 h.2
    · exact zall_of zLkP 12 12288 zLk_c3 v h.1 h.2
    · exact zall_of zLkP 12 16384 zLk_c4 v h.1 h.2
    · exact zall_of zLkP 12 20480 zLk_c5 v h.1 h.2
    · exact zall_of zLkP 12 24576 zLk_c6 v h.1 h.2
    · exact zall_of zLkP 12 28672 zLk_c7 v h.1 h.2
    · exact zall_of zLkP 12 32768 zLk_c8 v h.1 h.2
    · exact zall_of zLkP 12 36864 zLk_c9 v h.1 h.2
    · exact zall_of zLkP 12 40960 zLk_c10 v h.1 h.2
    · exact zall_of zLkP 12 45056 zLk_c11 v h.1 h.2
    · exact zall_of zLkP 12 49152 zLk_c12 v h.1 h.2
    · exact zall_of zLkP 12 53248 zLk_c13 v h.1 h.2
    · exact zall_of zLkP 12 57344 zLk_c14 v h.1 h.2
    · exact zall_of zLkP 12 61440 zLk_c15 v h.1 h.2
  unfold zLkP at key
  rw [Bool.and_eq_true, Bool.and_eq_true, Bool.or_eq_true] at key
  refine ⟨Nat.eq_of_beq_eq_true key.1.1, ?_, Nat.eq_of_beq_eq_true key.2⟩
  rcases key.1.2 with q | q
  · exact Or.inl (Nat.eq_of_beq_eq_true q)
  · refine Or.inr (fun e => ?_)
    rw [e] at q
    exact absurd q (by decide)
theorem zlight_wt {v : Nat} (hv : v < 65536) (h0 : ¬ v = 0) : ∃ k, k < 16 ∧ v.testBit k = true ∧ zpc (zcod (2 ^ k)) ≤ zpc (zcod v) := by
  obtain ⟨h1, h2, _⟩ := zLk_all hv
  have h2 := h2.resolve_left h0
  rcases Classical.em (∃ k, (zlow v).testBit k = true) with ⟨k, q⟩ | q
  · have hb : v.testBit k = true := by
      unfold zlow at q
      rw [Nat.testBit_and, Bool.and_eq_true] at q
      exact q.1
    have hk : k < 16 := by
      rcases Nat.lt_or_ge k 16 with g | g
      · exact g
      · rw [Nat.testBit_lt_two_pow (Nat.lt_of_lt_of_le hv (by rw [show 65536 = 2 ^ 16 from rfl]; exact Nat.pow_le_pow_right (by omega) g))] at hb
        exact absurd hb (by decide)
    refine ⟨k, hk, hb, ?_⟩
    rcases Nat.lt_or_ge (zpc (zcod v)) (zpc (zcod (2 ^ k))) with g | g
    · exfalso
      have g1 := zMk_bit (zpc (zcod v)) (by have := zpc_le (zcod v); omega) k hk g
      have g3 : (zlow v &&& zMk (zpc (zcod v))).testBit k = true := by rw [Nat.testBit_and, q, g1]; rfl
      rw [h1] at g3
      simp at g3
    · exact g
  · exact absurd (Nat.eq_of_testBit_eq (fun i => by rw [Nat.zero_testBit]; exact Bool.eq_false_iff.mpr (fun g => q ⟨i, g⟩))) h2
def zlsS (f : Nat → Nat) (i : Nat) : Option (Nat × Nat) → Prop
  | none => i = 0
  | some (l, c) => (∃ v, v < i ∧ f (1 + v) = l) ∧ (∀ v, v < i → l ≤ f (1 + v)) ∧ c = zct (fun v => decide (f (1 + v) = l)) i
theorem zlsS_of (f : Nat → Nat) : ∀ i, zlsS f i (zls f i)
  | 0 => rfl
  | i + 1 => by
    have ih := zlsS_of f i
    unfold zls
    cases hz : zls f i with
    | none =>
      rw [hz] at ih
      have ih : i = 0 := ih
      subst ih
      refine ⟨⟨0, by omega, rfl⟩, fun v hv => ?_, ?_⟩
      · rw [show v = 0 by omega]
        exact Nat.le_refl _
      · simp [zct]
    | some p =>
      obtain ⟨l, c⟩ := p
      rw [hz] at ih
      obtain ⟨⟨v0, h1, h2⟩, h3, h4⟩ := ih
      simp only
      by_cases q : f (1 + i) < l
      · rw [if_pos q]
        refine ⟨⟨i, by omega, rfl⟩, fun v hv => ?_, ?_⟩
        · by_cases e : v = i
          · rw [e]; exact Nat.le_refl _
          · have := h3 v (by omega)
            omega
        · unfold zct
          rw [zct_zero i (fun v hv => by have := h3 v hv; simp [show ¬ f (1 + v) = f (1 + i) by omega])]
          simp
      · rw [if_neg q]
        by_cases e : f (1 + i) = l
        · rw [if_pos e]
          refine ⟨⟨v0, by omega, h2⟩, fun v hv => ?_, ?_⟩
          · by_cases e2 : v = i
            · rw [e2]; omega
            · exact h3 v (by omega)
          · unfold zct
            rw [← h4]
            simp [e]
        · rw [if_neg e]
          refine ⟨⟨v0, by omega, h2⟩, fun v hv => ?_, ?_⟩
          · by_cases e2 : v = i
            · rw [e2]; omega
            · exact h3 v (by omega)
          · unfold zct
            rw [← h4]
            simp [e]
def zsm (g : Nat → Nat) : Nat → Nat
  | 0 => 0
  | i + 1 => zsm g i + g i
theorem zsm_add (g h : Nat → Nat) : ∀ n, zsm (fun v => g v + h v) n = zsm g n + zsm h n
  | 0 => rfl
  | n + 1 => by
    show zsm (fun v => g v + h v) n + (g n + h n) = zsm g n + g n + (zsm h n + h n)
    rw [zsm_add g h n]
    omega
theorem zsm_zero {g : Nat → Nat} : ∀ n, (∀ v, v < n → g v = 0) → zsm g n = 0
  | 0, _ => rfl
  | n + 1, h => by
    show zsm g n + g n = 0
    rw [zsm_zero n (fun v hv => h v (by omega)), h n (by omega)]
theorem zsm_swap (G : Nat → Nat → Nat) (m : Nat) : ∀ n, zsm (fun v => zsm (G v) m) n = zsm (fun w => zsm (fun v => G v w) n) m
  | 0 => (zsm_zero m (fun _ _ => rfl)).symm
  | n + 1 => by
    show zsm (fun v => zsm (G v) m) n + zsm (G n) m = zsm (fun w => zsm (fun v => G v w) n + G n w) m
    rw [zsm_swap G m n, zsm_add (fun w => zsm (fun v => G v w) n) (G n) m]
theorem zsm_one {g : Nat → Nat} {k : Nat} : ∀ n, k < n → (∀ v, v < n → ¬ v = k → g v = 0) → zsm g n = g k
  | 0, hk, _ => absurd hk (Nat.not_lt_zero _)
  | n + 1, hk, h => by
    show zsm g n + g n = g k
    by_cases e : k = n
    · rw [e, zsm_zero n (fun v hv => h v (by omega) (by omega)), Nat.zero_add]
    · rw [zsm_one n (by omega) (fun v hv hn => h v (by omega) hn), h n (by omega) (fun q => e q.symm), Nat.add_zero]
theorem zsm_cong {g h : Nat → Nat} : ∀ n, (∀ v, v < n → g v = h v) → zsm g n = zsm h n
  | 0, _ => rfl
  | n + 1, e => by
    show zsm g n + g n = zsm h n + h n
    rw [zsm_cong n (fun v hv => e v (by omega)), e n (by omega)]
theorem zct_sm (P : Nat → Bool) : ∀ n, zct P n = zsm (fun v => if P v = true then 1 else 0) n
  | 0 => rfl
  | n + 1 => by
    show zct P n + _ = zsm _ n + _
    rw [zct_sm P n]
theorem zct_inv {P : Nat → Bool} {s : Nat → Nat} {n : Nat} (h1 : ∀ v, v < n → s v < n) (h2 : ∀ v, v < n → s (s v) = v) : zct (fun v => P (s v)) n = zct P n := by
  rw [zct_sm, zct_sm]
  have e1 : zsm (fun v => if P (s v) = true then 1 else 0) n = zsm (fun v => zsm (fun w => if w = s v ∧ P w = true then 1 else 0) n) n := by
    refine zsm_cong n (fun v hv => ?_)
    rw [zsm_one (k := s v) n (h1 v hv) (fun w _ hn => if_neg (fun q => hn q.1))]
    simp
  rw [e1, zsm_swap (fun v w => if w = s v ∧ P w = true then 1 else 0) n n]
  refine zsm_cong n (fun w hw => ?_)
  rw [zsm_one (k := s w) n (h1 w hw) (fun v hv hn => if_neg (fun q => hn (by rw [q.1, h2 v hv])))]
  simp [h2 w hw]
theorem zct_split (P : Nat → Bool) (m : Nat) : ∀ n, zct P (m + n) = zct P m + zct (fun v => P (m + v)) n
  | 0 => rfl
  | n + 1 => by
    show zct P (m + n) + _ = zct P m + (zct (fun v => P (m + v)) n + _)
    rw [zct_split P m n]
    exact Nat.add_assoc _ _ _
/-- how many of the first i places are free -/
def zfn (z : Nat) : Nat → Nat
  | 0 => 0
  | i + 1 => if z.testBit i = true then zfn z i else zfn z i + 1
theorem zwd_sh (z v : Nat) : ∀ i, (zwd z v i).2 = v >>> zfn z i
  | 0 => rfl
  | i + 1 => by
    have ih := zwd_sh z v i
    unfold zwd zfn
    by_cases c : z.testBit i = true
    · rw [if_pos c, if_pos c, ih]
    · rw [if_neg c, if_neg c]
      show (zwd z v i).2 >>> 1 = _
      rw [ih, Nat.shiftRight_add]
theorem zwd_lo (z : Nat) : ∀ i (v u : Nat), (∀ k, k < zfn z i → v.testBit k = u.testBit k) → (zwd z v i).1 = (zwd z u i).1
  | 0, _, _, _ => rfl
  | i + 1, v, u, h => by
    have e1 := zwd_sh z v i
    have e2 := zwd_sh z u i
    unfold zfn at h
    unfold zwd
    by_cases c : z.testBit i = true
    · rw [if_pos c] at h
      rw [if_pos c, if_pos c]
      exact zwd_lo z i v u h
    · rw [if_neg c] at h
      rw [if_neg c, if_neg c]
      show (zwd z v i).1 ||| ((zwd z v i).2 &&& 1) <<< i = (zwd z u i).1 ||| ((zwd z u i).2 &&& 1) <<< i
      have hb := h (zfn z i) (by omega)
      have e3 : v >>> zfn z i &&& 1 = u >>> zfn z i &&& 1 := by
        rw [Nat.and_one_is_mod, Nat.and_one_is_mod, Nat.shiftRight_eq_div_pow, Nat.shiftRight_eq_div_pow]
        rw [← zsz_bit, ← zsz_bit, hb]
      rw [zwd_lo z i v u (fun k hk => h k (by omega)), e1, e2, e3]
end
section
theorem zadd_or {i w : Nat} (hw : w < 2 ^ i) : 2 ^ i + w = w ||| 2 ^ i := by
  have h := Nat.two_pow_add_eq_or_of_lt hw 1
  rw [Nat.mul_one] at h
  rw [Nat.or_comm, h]
theorem zor_and {i w z : Nat} (hz : z.testBit i = false) : (w ||| 2 ^ i) &&& z = w &&& z := by
  apply Nat.eq_of_testBit_eq
  intro k
  rw [Nat.testBit_and, Nat.testBit_and, Nat.testBit_or, Nat.testBit_two_pow]
  by_cases e : i = k
  · subst e
    rw [hz, Bool.and_false, Bool.and_false]
  · rw [decide_eq_false e, Bool.or_false]
theorem zor_nz {i w z : Nat} (hz : z.testBit i = true) : ¬ (w ||| 2 ^ i) &&& z = 0 := by
  intro q
  have : ((w ||| 2 ^ i) &&& z).testBit i = true := by
    rw [Nat.testBit_and, Nat.testBit_or, Nat.testBit_two_pow, hz, decide_eq_true rfl, Bool.or_true]
    rfl
  rw [q] at this
  simp at this
theorem zct_wd (z : Nat) : ∀ i (P : Nat → Bool), zct (fun v => P (zwd z v i).1) (2 ^ zfn z i) = zct (fun w => decide (w &&& z = 0) && P w) (2 ^ i)
  | 0, P => by simp [zct, zwd, zfn]
  | i + 1, P => by
    rw [Nat.pow_succ, Nat.mul_two, zct_split _ (2 ^ i)]
    by_cases c : z.testBit i = true
    · rw [zct_zero (P := fun v => decide ((2 ^ i + v) &&& z = 0) && P (2 ^ i + v)) (2 ^ i) (fun w hw => by show (decide ((2 ^ i + w) &&& z = 0) && P (2 ^ i + w)) = false; rw [zadd_or hw, decide_eq_false (zor_nz c)]; rfl), Nat.add_zero, ← zct_wd z i P]
      have e1 : zfn z (i + 1) = zfn z i := by
        conv => lhs; unfold zfn
        rw [if_pos c]
      rw [e1]
      refine zct_cong (fun v _ => ?_)
      have e2 : zwd z v (i + 1) = zwd z v i := by
        conv => lhs; unfold zwd
        rw [if_pos c]
      rw [e2]
    · have cb : z.testBit i = false := Bool.eq_false_iff.mpr c
      have e1 : zfn z (i + 1) = zfn z i + 1 := by
        conv => lhs; unfold zfn
        rw [if_neg c]
      have e2 : ∀ v, (zwd z v (i + 1)).1 = (zwd z v i).1 ||| (v >>> zfn z i &&& 1) <<< i := by
        intro v
        conv => lhs; unfold zwd
        rw [if_neg c, zwd_sh]
      rw [e1, Nat.pow_succ, Nat.mul_two, zct_split _ (2 ^ zfn z i)]
      have hl : zct (fun v => P (zwd z v (i + 1)).1) (2 ^ zfn z i) = zct (fun w => decide (w &&& z = 0) && P w) (2 ^ i) := by
        rw [← zct_wd z i P]
        refine zct_cong (fun v hv => ?_)
        rw [e2, Nat.shiftRight_eq_div_pow, Nat.div_eq_of_lt hv]
        simp
      have hh : zct (fun v => P (zwd z (2 ^ zfn z i + v) (i + 1)).1) (2 ^ zfn z i) = zct (fun w => decide ((2 ^ i + w) &&& z = 0) && P (2 ^ i + w)) (2 ^ i) := by
        have ih := zct_wd z i (fun w => P (w ||| 2 ^ i))
        have r : zct (fun w => decide ((2 ^ i + w) &&& z = 0) && P (2 ^ i + w)) (2 ^ i) = zct (fun w => decide (w &&& z = 0) && P (w ||| 2 ^ i)) (2 ^ i) := by
          refine zct_cong (fun w hw => ?_)
          rw [zadd_or hw, zor_and cb]
        rw [r, ← ih]
        refine zct_cong (fun v hv => ?_)
        have d : (2 ^ zfn z i + v) >>> zfn z i = 1 := by
          rw [Nat.shiftRight_eq_div_pow, Nat.add_div_left _ (Nat.two_pow_pos _), Nat.div_eq_of_lt hv]
        have lo : (zwd z (2 ^ zfn z i + v) i).1 = (zwd z v i).1 := zwd_lo z i _ _ (fun k hk => by
          rw [zadd_or hv, Nat.testBit_or, Nat.testBit_two_pow, decide_eq_false (by omega), Bool.or_false])
        rw [e2, d, lo]
        show P ((zwd z v i).1 ||| 1 <<< i) = _
        rw [Nat.one_shiftLeft]
      rw [hl, hh]
end
section
theorem zfn_sz {a : ZA} (hI : zInv a) : ∀ i, i ≤ 2 ^ a.1 → zsz (zfre a) i = zfn a.2.2.2.1 i
  | 0, _ => rfl
  | i + 1, h => by
    show zsz (zfre a) i + ((zfre a).testBit i).toNat = _
    rw [zfn_sz hI i (by omega), zfre_bit hI, decide_eq_true (show i < 2 ^ a.1 by omega)]
    conv => rhs; unfold zfn
    by_cases c : a.2.2.2.1.testBit i = true
    · rw [if_pos c, c]
      rfl
    · rw [if_neg c, Bool.eq_false_iff.mpr c]
      rfl
theorem zfn_pc {a : ZA} (hI : zInv a) : zfn a.2.2.2.1 (2 ^ a.1) = zpc (zfre a) := by
  have h16 := zNp hI
  have hl : zfre a < 2 ^ 2 ^ a.1 := zlt_bits (fun k hk => by rw [zfre_bit hI, decide_eq_false (by omega)]; rfl)
  rw [← zfn_sz hI _ (Nat.le_refl _), ← zsz_16]
  have := zsz_hi hl (16 - 2 ^ a.1)
  rw [show 2 ^ a.1 + (16 - 2 ^ a.1) = 16 by omega] at this
  exact this.symm
theorem zwd_fr (z v k : Nat) : ∀ i, (zwd z v i).1.testBit k = true → z.testBit k = false
  | 0, h => by simp [zwd] at h
  | i + 1, h => by
    by_cases c : z.testBit i = true
    · have e2 : zwd z v (i + 1) = zwd z v i := by
        conv => lhs; unfold zwd
        rw [if_pos c]
      rw [e2] at h
      exact zwd_fr z v k i h
    · have e2 : (zwd z v (i + 1)).1 = (zwd z v i).1 ||| ((zwd z v i).2 &&& 1) <<< i := by
        conv => lhs; unfold zwd
        rw [if_neg c]
      rw [e2, Nat.testBit_or, Bool.or_eq_true] at h
      rcases h with h | h
      · exact zwd_fr z v k i h
      · rw [Nat.testBit_shiftLeft, Bool.and_eq_true] at h
        have h1 := of_decide_eq_true h.1
        have h2 : (zwd z v i).2 &&& 1 < 2 := Nat.lt_of_le_of_lt Nat.and_le_right (by omega)
        by_cases e : k = i
        · rw [e]; exact Bool.eq_false_iff.mpr c
        · rw [Nat.testBit_lt_two_pow (Nat.lt_of_lt_of_le h2 (by
            have := Nat.pow_le_pow_right (n := 2) (by omega) (show 1 ≤ k - i by omega)
            exact this))] at h
          exact absurd h.2 (by decide)
theorem zwd_nz (z v : Nat) : ∀ i, (zwd z v i).1 = 0 → ∀ k, k < zfn z i → v.testBit k = false
  | 0, _, k, hk => absurd hk (Nat.not_lt_zero _)
  | i + 1, h, k, hk => by
    by_cases c : z.testBit i = true
    · have e2 : zwd z v (i + 1) = zwd z v i := by
        conv => lhs; unfold zwd
        rw [if_pos c]
      have e1 : zfn z (i + 1) = zfn z i := by
        conv => lhs; unfold zfn
        rw [if_pos c]
      rw [e2] at h
      exact zwd_nz z v i h k (by omega)
    · have e2 : (zwd z v (i + 1)).1 = (zwd z v i).1 ||| (v >>> zfn z i &&& 1) <<< i := by
        conv => lhs; unfold zwd
        rw [if_neg c, zwd_sh]
      have e1 : zfn z (i + 1) = zfn z i + 1 := by
        conv => lhs; unfold zfn
        rw [if_neg c]
      rw [e2] at h
      by_cases e : k = zfn z i
      · have hb : ((zwd z v i).1 ||| (v >>> zfn z i &&& 1) <<< i).testBit i = false := by rw [h]; simp
        rw [Nat.testBit_or, Bool.or_eq_false_iff, Nat.testBit_shiftLeft] at hb
        have := hb.2
        rw [e]
        simpa using this
      · refine zwd_nz z v i ?_ k (by omega)
        apply Nat.eq_of_testBit_eq
        intro j
        have hb : ((zwd z v i).1 ||| (v >>> zfn z i &&& 1) <<< i).testBit j = false := by rw [h]; simp
        rw [Nat.testBit_or, Bool.or_eq_false_iff] at hb
        rw [hb.1]
        simp
theorem zct_ex {P : Nat → Bool} : ∀ n, 0 < zct P n → ∃ v, v < n ∧ P v = true
  | 0, h => absurd h (Nat.lt_irrefl _)
  | n + 1, h => by
    by_cases c : P n = true
    · exact ⟨n, by omega, c⟩
    · have h : 0 < zct P n + (if P n = true then 1 else 0) := h
      rw [if_neg c] at h
      obtain ⟨v, h1, h2⟩ := zct_ex n h
      exact ⟨v, by omega, h2⟩
theorem zct_pos {P : Nat → Bool} {v : Nat} (hp : P v = true) : ∀ n, v < n → 0 < zct P n
  | 0, h => absurd h (Nat.not_lt_zero _)
  | n + 1, h => by
    show 0 < zct P n + (if P n = true then 1 else 0)
    by_cases e : v = n
    · rw [← e, if_pos hp]; omega
    · have := zct_pos hp n (by omega)
      omega
theorem zw_pos : ∀ k, k < 16 → 1 ≤ zpc (zcod (2 ^ k)) := by decide +kernel
theorem zwd_0 (z : Nat) : ∀ i, (zwd z 0 i).1 = 0
  | 0 => rfl
  | i + 1 => by
    have ih := zwd_0 z i
    have i2 := zwd_sh z 0 i
    unfold zwd
    by_cases c : z.testBit i = true
    · rw [if_pos c]; exact ih
    · rw [if_neg c, ih, i2]
      simp
theorem zlight_ref {a : ZA} (hI : zInv a) : (2 ^ a.1 - zpc a.2.2.2.1 = 0 ∧ zls (zow a) (2 ^ zpc (zfre a) - 1) = none) ∨ (¬ 2 ^ a.1 - zpc a.2.2.2.1 = 0 ∧ zls (zow a) (2 ^ zpc (zfre a) - 1) = some (zlw a.2.2.2.1 (2 ^ a.1), zlc a (zlw a.2.2.2.1 (2 ^ a.1)))) := by
  have h16 := zNp hI
  have hF := zfn_pc hI
  have hp : 2 ^ 2 ^ a.1 ≤ 65536 := zp2_le h16
  by_cases hf : 2 ^ a.1 - zpc a.2.2.2.1 = 0
  · refine Or.inl ⟨hf, ?_⟩
    have h2 : zpc a.2.2.2.1 = zsz a.2.2.2.1 (2 ^ a.1) := by
      rw [← zsz_16]
      have := zsz_hi hI.2.2.1 (16 - 2 ^ a.1)
      rw [show 2 ^ a.1 + (16 - 2 ^ a.1) = 16 by omega] at this
      exact this
    have h0 : zfre a = 0 := by
      apply Nat.eq_of_testBit_eq
      intro k
      rw [zfre_bit hI, Nat.zero_testBit]
      by_cases hk : k < 2 ^ a.1
      · cases hb : a.2.2.2.1.testBit k with
        | true => rw [decide_eq_true hk]; rfl
        | false =>
          have := zsz_miss hb (2 ^ a.1) hk
          omega
      · rw [decide_eq_false hk]; rfl
    rw [h0]
    rfl
  · refine Or.inr ⟨hf, ?_⟩
    obtain ⟨k, h1, h2, h3⟩ := zlw_at (2 ^ a.1) (zfree_ex hI.2.2.1 h16 hf)
    have h2 : a.2.2.2.1.testBit k = false := Bool.eq_false_iff.mpr h2
    have hwp := zw_pos k (by omega)
    have hS := zlsS_of (zow a) (2 ^ zpc (zfre a) - 1)
    have hex : ∃ v, v < 2 ^ zpc (zfre a) ∧ (zwd a.2.2.2.1 v (2 ^ a.1)).1 = 2 ^ k := by
      have hc := zct_wd a.2.2.2.1 (2 ^ a.1) (fun w => decide (w = 2 ^ k))
      rw [hF] at hc
      have : 0 < zct (fun w => decide (w &&& a.2.2.2.1 = 0) && decide (w = 2 ^ k)) (2 ^ 2 ^ a.1) := by
        refine zct_pos (v := 2 ^ k) ?_ _ (Nat.pow_lt_pow_right (by omega) h1)
        have e := zor_and (i := k) (w := 0) h2
        rw [Nat.zero_or, Nat.zero_and] at e
        simp [e]
      rw [← hc] at this
      obtain ⟨v, g1, g2⟩ := zct_ex _ this
      exact ⟨v, g1, of_decide_eq_true g2⟩
    obtain ⟨v, v1, v2⟩ := hex
    have v0 : ¬ v = 0 := by
      intro e
      rw [e, zwd_0] at v2
      have := Nat.two_pow_pos k
      omega
    have vf : zow a v = zlw a.2.2.2.1 (2 ^ a.1) := by
      unfold zow
      rw [v2, h3]
    cases hz : zls (zow a) (2 ^ zpc (zfre a) - 1) with
    | none =>
      rw [hz] at hS
      have hS : 2 ^ zpc (zfre a) - 1 = 0 := hS
      omega
    | some p =>
      obtain ⟨l, c⟩ := p
      rw [hz] at hS
      obtain ⟨⟨u, u1, u2⟩, g3, g4⟩ := hS
      have hl : l = zlw a.2.2.2.1 (2 ^ a.1) := by
        have m1 := g3 (v - 1) (by omega)
        rw [show 1 + (v - 1) = v by omega, vf] at m1
        have hW : ¬ (zwd a.2.2.2.1 (1 + u) (2 ^ a.1)).1 = 0 := by
          intro e
          have hb := zwd_nz a.2.2.2.1 (1 + u) (2 ^ a.1) e
          rw [hF] at hb
          have : 1 + u = 0 := by
            apply Nat.eq_of_testBit_eq
            intro j
            rw [Nat.zero_testBit]
            rcases Nat.lt_or_ge j (zpc (zfre a)) with q | q
            · exact hb j q
            · exact Nat.testBit_lt_two_pow (Nat.lt_of_lt_of_le (show 1 + u < 2 ^ zpc (zfre a) by omega) (Nat.pow_le_pow_right (by omega) q))
          omega
        have hWl := zwd_1 a.2.2.2.1 (1 + u) (2 ^ a.1)
        obtain ⟨j, j1, j2, j3⟩ := zlight_wt (Nat.lt_of_lt_of_le hWl hp) hW
        have jN : j < 2 ^ a.1 := by
          rcases Nat.lt_or_ge j (2 ^ a.1) with q | q
          · exact q
          · rw [Nat.testBit_lt_two_pow (Nat.lt_of_lt_of_le hWl (Nat.pow_le_pow_right (by omega) q))] at j2
            exact absurd j2 (by decide)
        have m2 := zlw_min (2 ^ a.1) j jN (by rw [zwd_fr _ _ _ _ j2]; decide)
        have m3 : zpc (zcod (zwd a.2.2.2.1 (1 + u) (2 ^ a.1)).1) = l := u2
        omega
      rw [← hl]
      rw [← hl] at h3
      have hc : c = zlc a l := by
        have s1 : zct (fun v => decide (zow a v = l)) (2 ^ zpc (zfre a)) = c := by
          rw [show 2 ^ zpc (zfre a) = 1 + (2 ^ zpc (zfre a) - 1) by omega, zct_split, ← g4]
          have : zct (fun v => decide (zow a v = l)) 1 = 0 := zct_zero 1 (fun x hx => by
            rw [show x = 0 by omega]
            apply decide_eq_false
            unfold zow
            rw [zwd_0]
            have : zpc (zcod 0) = 0 := by decide
            omega)
          rw [this, Nat.zero_add]
        have s2 := zct_wd a.2.2.2.1 (2 ^ a.1) (fun w => decide (zpc (zcod w) = l))
        rw [hF] at s2
        have s3 := zct_inv (P := fun v => decide (zpc v = l) && decide (zcod v &&& a.2.2.2.1 = 0)) (s := zcod) (n := 2 ^ 2 ^ a.1) (fun v hv => zcl_ltm hv 4) (fun v hv => (zLk_all (Nat.lt_of_lt_of_le hv hp)).2.2)
        have s4 : zlc a l = zct (fun v => decide (zpc v = l) && decide (zcod v &&& a.2.2.2.1 = 0)) (2 ^ 2 ^ a.1) := rfl
        rw [s4, ← s3, ← s1]
        refine Eq.trans s2 (zct_cong (fun w hw => ?_))
        rw [(zLk_all (Nat.lt_of_lt_of_le hw hp)).2.2, Bool.and_comm]
      rw [hc]
end
section
/-! Both ways of laying KEPT are sorted lists of the same rows. -/
def zRle (x y : Nat × Int32) : Prop := ¬ zah y x = true
theorem zRle_iff (x y : Nat × Int32) : zRle x y ↔ (x.2.toInt < y.2.toInt ∨ (x.2.toInt = y.2.toInt ∧ x.1 ≤ y.1)) := by
  unfold zRle zah
  rw [decide_eq_true_eq, Int32.lt_iff_toInt_lt, ← Int32.toInt_inj]
  omega
theorem zRle_tr {x y z : Nat × Int32} (h1 : zRle x y) (h2 : zRle y z) : zRle x z := by
  rw [zRle_iff] at h1 h2 ⊢
  omega
theorem zRle_as {x y : Nat × Int32} (h1 : zRle x y) (h2 : zRle y x) : x = y := by
  rw [zRle_iff] at h1 h2
  exact Prod.ext (by omega) (Int32.toInt_inj.mp (by omega))
theorem zRle_of {x y : Nat × Int32} (h : zah x y = true) : zRle x y := by
  unfold zah at h
  rw [decide_eq_true_eq, Int32.lt_iff_toInt_lt, ← Int32.toInt_inj] at h
  rw [zRle_iff]
  omega
theorem zins_pw {G : ZL} (x : Nat × Int32) (h : G.Pairwise zRle) : (zins G x).Pairwise zRle := by
  have hp := zpos_le G x G.length
  have h1 := zpos_1 G x G.length
  have h2 := zpos_2 G x G.length
  unfold zins
  generalize zpos G x G.length = p at hp h1 h2 ⊢
  have hs : (G.take p ++ G.drop p).Pairwise zRle := by rw [List.take_append_drop]; exact h
  rw [List.pairwise_append] at hs
  obtain ⟨s1, s2, s3⟩ := hs
  have hG : ∀ j (hj : j < G.length), G.getD j (0, 0) = G[j] := fun j hj => by simp [List.getD_eq_getElem?_getD, List.getElem?_eq_getElem hj]
  have ht : ∀ y ∈ G.take p, zRle y x := by
    intro y hy
    by_cases p0 : p = 0
    · subst p0
      simp at hy
    · rcases h2 with h2 | h2
      · exact absurd h2 p0
      · have hl : p - 1 < G.length := by omega
        have h3 : zRle G[p - 1] x := by
          rw [hG _ hl] at h2
          exact h2
        obtain ⟨j, hj, rfl⟩ := List.mem_take_iff_getElem.mp hy
        by_cases e : j = p - 1
        · subst e
          exact h3
        · exact zRle_tr (List.pairwise_iff_getElem.mp h j (p - 1) (by omega) hl (by omega)) h3
  have hd : ∀ y ∈ G.drop p, zRle x y := by
    intro y hy
    obtain ⟨j, hj, rfl⟩ := List.mem_drop_iff_getElem.mp hy
    have h3 := h1 (p + j) (by omega) (by omega)
    rw [hG _ (by omega)] at h3
    exact zRle_of h3
  rw [List.pairwise_append, List.pairwise_cons]
  refine ⟨s1, ⟨hd, s2⟩, fun y hy z hz => ?_⟩
  rcases List.mem_cons.mp hz with e | hz
  · rw [e]
    exact ht y hy
  · exact s3 y hy z hz
theorem zins_pm (G : ZL) (x : Nat × Int32) : List.Perm (zins G x) (x :: G) := by
  unfold zins
  refine List.Perm.trans List.perm_middle ?_
  rw [List.take_append_drop]
theorem zfold_pw : ∀ (L G : ZL), G.Pairwise zRle → (L.foldl zins G).Pairwise zRle
  | [], _, h => h
  | x :: L, G, h => zfold_pw L (zins G x) (zins_pw x h)
theorem zfold_pm : ∀ (L G : ZL), List.Perm (L.foldl zins G) (L ++ G)
  | [], G => List.Perm.refl G
  | x :: L, G => by
    refine List.Perm.trans (zfold_pm L (zins G x)) ?_
    refine List.Perm.trans (List.Perm.append_left L (zins_pm G x)) ?_
    exact List.perm_middle
theorem zso_pm (L : ZL) : List.Perm (zso L L.length) L := by
  unfold zso
  rw [List.take_length]
  have := zfold_pm L []
  rw [List.append_nil] at this
  exact this
theorem zso_pw (L : ZL) (i : Nat) : (zso L i).Pairwise zRle := zfold_pw _ _ List.Pairwise.nil
/-- the class's two made of one -/
def zC1 (a : ZA) (k : Nat) (p : Nat × Int32) : Nat × Int32 := (p.1, p.2 + zfb (zsee a.2.2.2.2.2.1 a.1 k p.1) false)
def zD1 (a : ZA) (k : Nat) (p : Nat × Int32) : Nat × Int32 := (p.1 ||| 2 ^ k, p.2 + zfb (zsee a.2.2.2.2.2.1 a.1 k p.1) true)
theorem zgr_pw (a : ZA) (k : Nat) (L : ZL) : ∀ i, (zgr a k L i).Pairwise zRle
  | 0 => List.Pairwise.nil
  | i + 1 => by
    have ih := zgr_pw a k L i
    simp only [zgr]
    split
    · exact zins_pw _ ih
    · exact zins_pw _ (zins_pw _ ih)
theorem zgr_pm (a : ZA) (k : Nat) (L : ZL) : ∀ i, i ≤ L.length → List.Perm (zgr a k L i) ((L.take i).map (zC1 a k) ++ (if Nat.testBit a.2.2.2.1 k = true then [] else (L.take i).map (zD1 a k)))
  | 0, _ => by
    simp [zgr]
  | i + 1, h => by
    have ih := zgr_pm a k L i (by omega)
    have e : L.take (i + 1) = L.take i ++ [L.getD i (0, 0)] := by
      rw [List.take_add_one]
      simp [List.getD_eq_getElem?_getD, List.getElem?_eq_getElem (show i < L.length by omega)]
    rw [e, List.map_append, List.map_append]
    simp only [zgr]
    by_cases c : Nat.testBit a.2.2.2.1 k = true
    · rw [if_pos c, if_pos c, List.append_nil]
      rw [if_pos c, List.append_nil] at ih
      refine List.Perm.trans (zins_pm _ _) ?_
      refine List.Perm.trans (List.Perm.cons _ ih) ?_
      exact (List.perm_append_singleton _ _).symm
    · rw [if_neg c, if_neg c]
      rw [if_neg c] at ih
      refine List.Perm.trans (zins_pm _ _) ?_
      refine List.Perm.trans (List.Perm.cons _ (zins_pm _ _)) ?_
      refine List.Perm.trans (List.Perm.cons _ (List.Perm.cons _ ih)) ?_
      generalize (L.take i).map (zC1 a k) = M1
      generalize (L.take i).map (zD1 a k) = M2
      have h1 : List.Perm (M1 ++ [zC1 a k (L.getD i (0, 0))] ++ (M2 ++ [zD1 a k (L.getD i (0, 0))])) (zC1 a k (L.getD i (0, 0)) :: (M1 ++ (M2 ++ [zD1 a k (L.getD i (0, 0))]))) := by
        rw [List.append_assoc]
        exact List.perm_middle
      have h2 : List.Perm (M1 ++ (M2 ++ [zD1 a k (L.getD i (0, 0))])) (zD1 a k (L.getD i (0, 0)) :: (M1 ++ M2)) := by
        rw [← List.append_assoc]
        exact List.perm_append_singleton _ _
      refine List.Perm.trans ?_ (List.Perm.trans h1 (List.Perm.cons _ h2)).symm
      exact List.Perm.swap _ _ _
/-- SEEN of a bit does not look at the bit itself -/
theorem zsn_own (me : Nat → Int32) {d k : Nat} (w : Nat) (hk : k < 2 ^ d) : ∀ j, j ≤ d → zsn me d k (w ||| 2 ^ k) j = zsn me d k w j
  | 0, _ => rfl
  | j + 1, h => by
    have ih := zsn_own me w hk j (by omega)
    obtain ⟨h1, h2, h3⟩ := zsn_in me (w := w) hk j (by omega)
    have hb := zbit_half h1 h2 h3 (by omega : j < d)
    conv => lhs; unfold zsn
    conv => rhs; unfold zsn
    rw [ih]
    by_cases c : k.testBit (d - 1 - j) = true
    · rw [if_pos c, if_pos c]
      have hs := hb.mp c
      have e : ((w ||| 2 ^ k) >>> (zsn me d k w j).2) &&& (2 ^ zhf d j - 1) = (w >>> (zsn me d k w j).2) &&& (2 ^ zhf d j - 1) := by
        apply Nat.eq_of_testBit_eq
        intro i
        rw [Nat.testBit_and, Nat.testBit_and, Nat.testBit_two_pow_sub_one]
        by_cases hi : i < zhf d j
        · rw [Nat.testBit_shiftRight, Nat.testBit_shiftRight, Nat.testBit_or, Nat.testBit_two_pow_of_ne (by omega), Bool.or_false]
        · rw [decide_eq_false hi, Bool.and_false, Bool.and_false]
      rw [e]
    · rw [if_neg c, if_neg c]
theorem zsee_own (me : Nat → Int32) {d k : Nat} (w : Nat) (hk : k < 2 ^ d) : zsee me d k (w ||| 2 ^ k) = zsee me d k w := by
  unfold zsee
  rw [zsn_own me w hk d (Nat.le_refl _)]
theorem zkp_rows (a : ZA) : ∀ k p, p ∈ zkp a k → p.1 < 2 ^ k
  | 0, p, h => by
    simp only [zkp, List.mem_singleton] at h
    rw [h]
    decide
  | k + 1, p, h => by
    have ih := zkp_rows a k
    simp only [zkp] at h
    have h1 := List.mem_of_mem_take h
    have h2 := (zgr_pm a k (zkp a k) (zkp a k).length (Nat.le_refl _)).mem_iff.mp h1
    rw [List.take_length] at h2
    have e2 : 2 ^ (k + 1) = 2 ^ k * 2 := Nat.pow_succ ..
    rcases List.mem_append.mp h2 with h2 | h2
    · obtain ⟨q, q1, q2⟩ := List.mem_map.mp h2
      have := ih q q1
      rw [← q2]
      show q.1 < _
      omega
    · by_cases c : Nat.testBit a.2.2.2.1 k = true
      · rw [if_pos c] at h2
        cases h2
      · rw [if_neg c] at h2
        obtain ⟨q, q1, q2⟩ := List.mem_map.mp h2
        have := ih q q1
        rw [← q2]
        show q.1 ||| 2 ^ k < _
        exact Nat.or_lt_two_pow (by omega) (by have := Nat.two_pow_pos k; omega)
/-- the two ways come to the same rows -/
theorem zkp_ref {a : ZA} (hI : zInv a) {k : Nat} (hk : k < 2 ^ a.1) : (zso (zla a k (zkp a k) (zkp a k).length) (zla a k (zkp a k) (zkp a k).length).length).take a.2.2.2.2.1 = zkp a (k + 1) := by
  have h0 := zkp_rows a k
  show _ = (zgr a k (zkp a k) (zkp a k).length).take a.2.2.2.2.1
  congr 1
  refine List.Perm.eq_of_pairwise (le := zRle) (fun x y _ _ h1 h2 => zRle_as h1 h2) (zso_pw _ _) (zgr_pw a k _ _) ?_
  refine List.Perm.trans (zso_pm _) ?_
  refine List.Perm.trans ?_ (zgr_pm a k (zkp a k) (zkp a k).length (Nat.le_refl _)).symm
  have eA : (zkp a k).map (zA1 a k) = (zkp a k).map (zC1 a k) := by
    apply List.map_congr_left
    intro p hp
    unfold zA1 zC1
    rw [Nat.testBit_lt_two_pow (h0 p hp)]
  have eB : (zkp a k).map (zB1 a k) = (zkp a k).map (zD1 a k) := by
    apply List.map_congr_left
    intro p hp
    unfold zB1 zD1
    rw [zsee_own _ _ hk, Nat.testBit_or, Nat.testBit_two_pow_self, Bool.or_true]
  unfold zla
  rw [List.take_length, List.drop_length, List.append_nil, eA, eB]
end
