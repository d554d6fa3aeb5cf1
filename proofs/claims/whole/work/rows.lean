section
-- ===== PART A: goes FIRST, ahead of the names: the tables' words, and 'selects' of the private methods out of them =====
/-- a private method of a class that the tables say can be made, by its rows of tables_1 -/
def lw_okq (q : MethodName × Nat) : Prop := (q.1.cls ≠ "java/lang/invoke/MethodHandle" ∧ q.1.cls ≠ "java/lang/invoke/VarHandle") ∧ Cond.instantiable q.1.cls q.2 ∈ tables_1 ∧ Cond.privateMethod q.1 ∈ tables_1 ∧ Cond.instanceMethod q.1 ∈ tables_1
theorem lw_p0 : lw_okq (⟨"SecretSquares", "padHasOnlyLetters", "()Z"⟩, 8) := ⟨⟨by decide +kernel, by decide +kernel⟩, List.mem_of_getElem? (i := 9) (by decide +kernel), List.mem_of_getElem? (i := 143) (by decide +kernel), List.mem_of_getElem? (i := 144) (by decide +kernel)⟩
theorem lw_p1 : lw_okq (⟨"SecretSquares", "readPadInto", "([I)V"⟩, 8) := ⟨⟨by decide +kernel, by decide +kernel⟩, List.mem_of_getElem? (i := 9) (by decide +kernel), List.mem_of_getElem? (i := 150) (by decide +kernel), List.mem_of_getElem? (i := 151) (by decide +kernel)⟩
theorem lw_p2 : lw_okq (⟨"SecretSquares$Square", "put", "(II)V"⟩, 2) := ⟨⟨by decide +kernel, by decide +kernel⟩, List.mem_of_getElem? (i := 70) (by decide +kernel), List.mem_of_getElem? (i := 184) (by decide +kernel), List.mem_of_getElem? (i := 185) (by decide +kernel)⟩
theorem lw_p3 : lw_okq (⟨"SecretSquares", "step", "(IZ)I"⟩, 8) := ⟨⟨by decide +kernel, by decide +kernel⟩, List.mem_of_getElem? (i := 9) (by decide +kernel), List.mem_of_getElem? (i := 192) (by decide +kernel), List.mem_of_getElem? (i := 193) (by decide +kernel)⟩
theorem lw_p4 : lw_okq (⟨"SecretSquares", "hasOddText", "()Z"⟩, 8) := ⟨⟨by decide +kernel, by decide +kernel⟩, List.mem_of_getElem? (i := 9) (by decide +kernel), List.mem_of_getElem? (i := 196) (by decide +kernel), List.mem_of_getElem? (i := 197) (by decide +kernel)⟩
theorem lw_p5 : lw_okq (⟨"SecretSquares$Worker", "addKey", "(LSecretSquares$Desk;IZ)V"⟩, 5) := ⟨⟨by decide +kernel, by decide +kernel⟩, List.mem_of_getElem? (i := 64) (by decide +kernel), List.mem_of_getElem? (i := 204) (by decide +kernel), List.mem_of_getElem? (i := 205) (by decide +kernel)⟩
theorem lw_p6 : lw_okq (⟨"SecretSquares$Worker", "orderByKey", "(LSecretSquares$Desk;)V"⟩, 5) := ⟨⟨by decide +kernel, by decide +kernel⟩, List.mem_of_getElem? (i := 64) (by decide +kernel), List.mem_of_getElem? (i := 229) (by decide +kernel), List.mem_of_getElem? (i := 230) (by decide +kernel)⟩
theorem lw_p7 : lw_okq (⟨"SecretSquares$Worker", "readRails", "(II)V"⟩, 5) := ⟨⟨by decide +kernel, by decide +kernel⟩, List.mem_of_getElem? (i := 64) (by decide +kernel), List.mem_of_getElem? (i := 241) (by decide +kernel), List.mem_of_getElem? (i := 242) (by decide +kernel)⟩
theorem lw_p8 : lw_okq (⟨"SecretSquares$Worker", "takeApart", "(LSecretSquares$Desk;Z)V"⟩, 5) := ⟨⟨by decide +kernel, by decide +kernel⟩, List.mem_of_getElem? (i := 64) (by decide +kernel), List.mem_of_getElem? (i := 245) (by decide +kernel), List.mem_of_getElem? (i := 246) (by decide +kernel)⟩
theorem lw_p9 : lw_okq (⟨"SecretSquares$Desk", "dropOldestStep", "()V"⟩, 9) := ⟨⟨by decide +kernel, by decide +kernel⟩, List.mem_of_getElem? (i := 17) (by decide +kernel), List.mem_of_getElem? (i := 262) (by decide +kernel), List.mem_of_getElem? (i := 263) (by decide +kernel)⟩
theorem lw_p10 : lw_okq (⟨"SecretSquares", "sameAt", "(I)I"⟩, 8) := ⟨⟨by decide +kernel, by decide +kernel⟩, List.mem_of_getElem? (i := 9) (by decide +kernel), List.mem_of_getElem? (i := 289) (by decide +kernel), List.mem_of_getElem? (i := 290) (by decide +kernel)⟩
theorem lw_p11 : lw_okq (⟨"SecretSquares", "scoreOf", "(III)I"⟩, 8) := ⟨⟨by decide +kernel, by decide +kernel⟩, List.mem_of_getElem? (i := 9) (by decide +kernel), List.mem_of_getElem? (i := 301) (by decide +kernel), List.mem_of_getElem? (i := 302) (by decide +kernel)⟩
theorem lw_p12 : lw_okq (⟨"SecretSquares", "shiftRanked", "(I)I"⟩, 8) := ⟨⟨by decide +kernel, by decide +kernel⟩, List.mem_of_getElem? (i := 9) (by decide +kernel), List.mem_of_getElem? (i := 305) (by decide +kernel), List.mem_of_getElem? (i := 306) (by decide +kernel)⟩
theorem lw_p13 : lw_okq (⟨"SecretSquares", "shiftsAheadOf", "(I)I"⟩, 8) := ⟨⟨by decide +kernel, by decide +kernel⟩, List.mem_of_getElem? (i := 9) (by decide +kernel), List.mem_of_getElem? (i := 309) (by decide +kernel), List.mem_of_getElem? (i := 310) (by decide +kernel)⟩
theorem lw_p14 : lw_okq (⟨"SecretSquares", "goodByOrder", "(I)I"⟩, 8) := ⟨⟨by decide +kernel, by decide +kernel⟩, List.mem_of_getElem? (i := 9) (by decide +kernel), List.mem_of_getElem? (i := 329) (by decide +kernel), List.mem_of_getElem? (i := 330) (by decide +kernel)⟩
theorem lw_p15 : lw_okq (⟨"SecretSquares$Worker", "swapInOrder", "(II)V"⟩, 5) := ⟨⟨by decide +kernel, by decide +kernel⟩, List.mem_of_getElem? (i := 64) (by decide +kernel), List.mem_of_getElem? (i := 340) (by decide +kernel), List.mem_of_getElem? (i := 341) (by decide +kernel)⟩
def lw_privs_1 : List (MethodName × Nat) := [(⟨"SecretSquares", "padHasOnlyLetters", "()Z"⟩, 8), (⟨"SecretSquares", "readPadInto", "([I)V"⟩, 8), (⟨"SecretSquares$Square", "put", "(II)V"⟩, 2), (⟨"SecretSquares", "step", "(IZ)I"⟩, 8), (⟨"SecretSquares", "hasOddText", "()Z"⟩, 8), (⟨"SecretSquares$Worker", "addKey", "(LSecretSquares$Desk;IZ)V"⟩, 5), (⟨"SecretSquares$Worker", "orderByKey", "(LSecretSquares$Desk;)V"⟩, 5), (⟨"SecretSquares$Worker", "readRails", "(II)V"⟩, 5), (⟨"SecretSquares$Worker", "takeApart", "(LSecretSquares$Desk;Z)V"⟩, 5), (⟨"SecretSquares$Desk", "dropOldestStep", "()V"⟩, 9), (⟨"SecretSquares", "sameAt", "(I)I"⟩, 8), (⟨"SecretSquares", "scoreOf", "(III)I"⟩, 8), (⟨"SecretSquares", "shiftRanked", "(I)I"⟩, 8), (⟨"SecretSquares", "shiftsAheadOf", "(I)I"⟩, 8), (⟨"SecretSquares", "goodByOrder", "(I)I"⟩, 8), (⟨"SecretSquares$Worker", "swapInOrder", "(II)V"⟩, 5)]
theorem lw_r1 : ∀ q ∈ lw_privs_1, lw_okq q := List.forall_mem_cons.mpr ⟨lw_p0, List.forall_mem_cons.mpr ⟨lw_p1, List.forall_mem_cons.mpr ⟨lw_p2, List.forall_mem_cons.mpr ⟨lw_p3, List.forall_mem_cons.mpr ⟨lw_p4, List.forall_mem_cons.mpr ⟨lw_p5, List.forall_mem_cons.mpr ⟨lw_p6, List.forall_mem_cons.mpr ⟨lw_p7, List.forall_mem_cons.mpr ⟨lw_p8, List.forall_mem_cons.mpr ⟨lw_p9, List.forall_mem_cons.mpr ⟨lw_p10, List.forall_mem_cons.mpr ⟨lw_p11, List.forall_mem_cons.mpr ⟨lw_p12, List.forall_mem_cons.mpr ⟨lw_p13, List.forall_mem_cons.mpr ⟨lw_p14, List.forall_mem_cons.mpr ⟨lw_p15, fun _ h => absurd h List.not_mem_nil⟩⟩⟩⟩⟩⟩⟩⟩⟩⟩⟩⟩⟩⟩⟩⟩
theorem lw_p16 : lw_okq (⟨"SecretSquares", "goodByPairs", "()I"⟩, 8) := ⟨⟨by decide +kernel, by decide +kernel⟩, List.mem_of_getElem? (i := 9) (by decide +kernel), List.mem_of_getElem? (i := 348) (by decide +kernel), List.mem_of_getElem? (i := 349) (by decide +kernel)⟩
theorem lw_p17 : lw_okq (⟨"SecretSquaresModel", "liked", "()I"⟩, 12) := ⟨⟨by decide +kernel, by decide +kernel⟩, List.mem_of_getElem? (i := 374) (by decide +kernel), List.mem_of_getElem? (i := 444) (by decide +kernel), List.mem_of_getElem? (i := 445) (by decide +kernel)⟩
theorem lw_p18 : lw_okq (⟨"SecretSquaresModel", "many", "()I"⟩, 12) := ⟨⟨by decide +kernel, by decide +kernel⟩, List.mem_of_getElem? (i := 374) (by decide +kernel), List.mem_of_getElem? (i := 452) (by decide +kernel), List.mem_of_getElem? (i := 453) (by decide +kernel)⟩
theorem lw_p19 : lw_okq (⟨"SecretSquaresModel", "laySquare", "()V"⟩, 12) := ⟨⟨by decide +kernel, by decide +kernel⟩, List.mem_of_getElem? (i := 374) (by decide +kernel), List.mem_of_getElem? (i := 456) (by decide +kernel), List.mem_of_getElem? (i := 457) (by decide +kernel)⟩
theorem lw_p20 : lw_okq (⟨"SecretSquaresModel", "step", "(II)I"⟩, 12) := ⟨⟨by decide +kernel, by decide +kernel⟩, List.mem_of_getElem? (i := 374) (by decide +kernel), List.mem_of_getElem? (i := 464) (by decide +kernel), List.mem_of_getElem? (i := 465) (by decide +kernel)⟩
theorem lw_p21 : lw_okq (⟨"SecretSquaresModel", "goWay", "(II)V"⟩, 12) := ⟨⟨by decide +kernel, by decide +kernel⟩, List.mem_of_getElem? (i := 374) (by decide +kernel), List.mem_of_getElem? (i := 468) (by decide +kernel), List.mem_of_getElem? (i := 469) (by decide +kernel)⟩
theorem lw_p22 : lw_okq (⟨"SecretSquaresModel", "shiftAll", "(IZ)V"⟩, 12) := ⟨⟨by decide +kernel, by decide +kernel⟩, List.mem_of_getElem? (i := 374) (by decide +kernel), List.mem_of_getElem? (i := 472) (by decide +kernel), List.mem_of_getElem? (i := 473) (by decide +kernel)⟩
theorem lw_p23 : lw_okq (⟨"SecretSquaresModel", "pairs", "(I)V"⟩, 12) := ⟨⟨by decide +kernel, by decide +kernel⟩, List.mem_of_getElem? (i := 374) (by decide +kernel), List.mem_of_getElem? (i := 476) (by decide +kernel), List.mem_of_getElem? (i := 477) (by decide +kernel)⟩
theorem lw_p24 : lw_okq (⟨"SecretSquaresModel", "pair", "(II)V"⟩, 12) := ⟨⟨by decide +kernel, by decide +kernel⟩, List.mem_of_getElem? (i := 374) (by decide +kernel), List.mem_of_getElem? (i := 480) (by decide +kernel), List.mem_of_getElem? (i := 481) (by decide +kernel)⟩
theorem lw_p25 : lw_okq (⟨"SecretSquaresModel", "placeOf", "(I)I"⟩, 12) := ⟨⟨by decide +kernel, by decide +kernel⟩, List.mem_of_getElem? (i := 374) (by decide +kernel), List.mem_of_getElem? (i := 484) (by decide +kernel), List.mem_of_getElem? (i := 485) (by decide +kernel)⟩
theorem lw_p26 : lw_okq (⟨"SecretSquaresModel", "atSquare", "(II)I"⟩, 12) := ⟨⟨by decide +kernel, by decide +kernel⟩, List.mem_of_getElem? (i := 374) (by decide +kernel), List.mem_of_getElem? (i := 488) (by decide +kernel), List.mem_of_getElem? (i := 489) (by decide +kernel)⟩
theorem lw_p27 : lw_okq (⟨"SecretSquaresModel", "layKeyOrder", "()V"⟩, 12) := ⟨⟨by decide +kernel, by decide +kernel⟩, List.mem_of_getElem? (i := 374) (by decide +kernel), List.mem_of_getElem? (i := 495) (by decide +kernel), List.mem_of_getElem? (i := 496) (by decide +kernel)⟩
theorem lw_p28 : lw_okq (⟨"SecretSquaresModel", "layColumns", "(I)V"⟩, 12) := ⟨⟨by decide +kernel, by decide +kernel⟩, List.mem_of_getElem? (i := 374) (by decide +kernel), List.mem_of_getElem? (i := 499) (by decide +kernel), List.mem_of_getElem? (i := 500) (by decide +kernel)⟩
theorem lw_p29 : lw_okq (⟨"SecretSquaresModel", "readBy", "(I)V"⟩, 12) := ⟨⟨by decide +kernel, by decide +kernel⟩, List.mem_of_getElem? (i := 374) (by decide +kernel), List.mem_of_getElem? (i := 503) (by decide +kernel), List.mem_of_getElem? (i := 504) (by decide +kernel)⟩
theorem lw_p30 : lw_okq (⟨"SecretSquaresModel", "layRails", "(I)V"⟩, 12) := ⟨⟨by decide +kernel, by decide +kernel⟩, List.mem_of_getElem? (i := 374) (by decide +kernel), List.mem_of_getElem? (i := 507) (by decide +kernel), List.mem_of_getElem? (i := 508) (by decide +kernel)⟩
theorem lw_p31 : lw_okq (⟨"SecretSquaresModel", "apart", "(I)V"⟩, 12) := ⟨⟨by decide +kernel, by decide +kernel⟩, List.mem_of_getElem? (i := 374) (by decide +kernel), List.mem_of_getElem? (i := 511) (by decide +kernel), List.mem_of_getElem? (i := 512) (by decide +kernel)⟩
def lw_privs_2 : List (MethodName × Nat) := [(⟨"SecretSquares", "goodByPairs", "()I"⟩, 8), (⟨"SecretSquaresModel", "liked", "()I"⟩, 12), (⟨"SecretSquaresModel", "many", "()I"⟩, 12), (⟨"SecretSquaresModel", "laySquare", "()V"⟩, 12), (⟨"SecretSquaresModel", "step", "(II)I"⟩, 12), (⟨"SecretSquaresModel", "goWay", "(II)V"⟩, 12), (⟨"SecretSquaresModel", "shiftAll", "(IZ)V"⟩, 12), (⟨"SecretSquaresModel", "pairs", "(I)V"⟩, 12), (⟨"SecretSquaresModel", "pair", "(II)V"⟩, 12), (⟨"SecretSquaresModel", "placeOf", "(I)I"⟩, 12), (⟨"SecretSquaresModel", "atSquare", "(II)I"⟩, 12), (⟨"SecretSquaresModel", "layKeyOrder", "()V"⟩, 12), (⟨"SecretSquaresModel", "layColumns", "(I)V"⟩, 12), (⟨"SecretSquaresModel", "readBy", "(I)V"⟩, 12), (⟨"SecretSquaresModel", "layRails", "(I)V"⟩, 12), (⟨"SecretSquaresModel", "apart", "(I)V"⟩, 12)]
theorem lw_r2 : ∀ q ∈ lw_privs_2, lw_okq q := List.forall_mem_cons.mpr ⟨lw_p16, List.forall_mem_cons.mpr ⟨lw_p17, List.forall_mem_cons.mpr ⟨lw_p18, List.forall_mem_cons.mpr ⟨lw_p19, List.forall_mem_cons.mpr ⟨lw_p20, List.forall_mem_cons.mpr ⟨lw_p21, List.forall_mem_cons.mpr ⟨lw_p22, List.forall_mem_cons.mpr ⟨lw_p23, List.forall_mem_cons.mpr ⟨lw_p24, List.forall_mem_cons.mpr ⟨lw_p25, List.forall_mem_cons.mpr ⟨lw_p26, List.forall_mem_cons.mpr ⟨lw_p27, List.forall_mem_cons.mpr ⟨lw_p28, List.forall_mem_cons.mpr ⟨lw_p29, List.forall_mem_cons.mpr ⟨lw_p30, List.forall_mem_cons.mpr ⟨lw_p31, fun _ h => absurd h List.not_mem_nil⟩⟩⟩⟩⟩⟩⟩⟩⟩⟩⟩⟩⟩⟩⟩⟩
theorem lw_p32 : lw_okq (⟨"SecretSquaresModel", "keepStep", "()V"⟩, 12) := ⟨⟨by decide +kernel, by decide +kernel⟩, List.mem_of_getElem? (i := 374) (by decide +kernel), List.mem_of_getElem? (i := 515) (by decide +kernel), List.mem_of_getElem? (i := 516) (by decide +kernel)⟩
theorem lw_p33 : lw_okq (⟨"SecretSquaresModel", "sameAt", "(I)I"⟩, 12) := ⟨⟨by decide +kernel, by decide +kernel⟩, List.mem_of_getElem? (i := 374) (by decide +kernel), List.mem_of_getElem? (i := 535) (by decide +kernel), List.mem_of_getElem? (i := 536) (by decide +kernel)⟩
theorem lw_p34 : lw_okq (⟨"SecretSquaresModel", "rankOf", "(III)I"⟩, 12) := ⟨⟨by decide +kernel, by decide +kernel⟩, List.mem_of_getElem? (i := 374) (by decide +kernel), List.mem_of_getElem? (i := 547) (by decide +kernel), List.mem_of_getElem? (i := 548) (by decide +kernel)⟩
theorem lw_p35 : lw_okq (⟨"SecretSquaresModel", "score", "(III)I"⟩, 12) := ⟨⟨by decide +kernel, by decide +kernel⟩, List.mem_of_getElem? (i := 374) (by decide +kernel), List.mem_of_getElem? (i := 551) (by decide +kernel), List.mem_of_getElem? (i := 552) (by decide +kernel)⟩
theorem lw_p36 : lw_okq (⟨"SecretSquaresModel", "layText", "()V"⟩, 12) := ⟨⟨by decide +kernel, by decide +kernel⟩, List.mem_of_getElem? (i := 374) (by decide +kernel), List.mem_of_getElem? (i := 559) (by decide +kernel), List.mem_of_getElem? (i := 560) (by decide +kernel)⟩
theorem lw_p37 : lw_okq (⟨"SecretSquaresModel", "goodOf", "([I)I"⟩, 12) := ⟨⟨by decide +kernel, by decide +kernel⟩, List.mem_of_getElem? (i := 374) (by decide +kernel), List.mem_of_getElem? (i := 563) (by decide +kernel), List.mem_of_getElem? (i := 564) (by decide +kernel)⟩
theorem lw_p38 : lw_okq (⟨"SecretSquaresModel", "goodBy", "(II)I"⟩, 12) := ⟨⟨by decide +kernel, by decide +kernel⟩, List.mem_of_getElem? (i := 374) (by decide +kernel), List.mem_of_getElem? (i := 574) (by decide +kernel), List.mem_of_getElem? (i := 575) (by decide +kernel)⟩
theorem lw_p39 : lw_okq (⟨"SecretSquaresModel", "layOrder", "(II)V"⟩, 12) := ⟨⟨by decide +kernel, by decide +kernel⟩, List.mem_of_getElem? (i := 374) (by decide +kernel), List.mem_of_getElem? (i := 578) (by decide +kernel), List.mem_of_getElem? (i := 579) (by decide +kernel)⟩
theorem lw_p40 : lw_okq (⟨"SecretSquaresModel", "goUp", "(II)I"⟩, 12) := ⟨⟨by decide +kernel, by decide +kernel⟩, List.mem_of_getElem? (i := 374) (by decide +kernel), List.mem_of_getElem? (i := 586) (by decide +kernel), List.mem_of_getElem? (i := 587) (by decide +kernel)⟩
theorem lw_p41 : lw_okq (⟨"SecretSquaresModel", "goodByPairs", "()I"⟩, 12) := ⟨⟨by decide +kernel, by decide +kernel⟩, List.mem_of_getElem? (i := 374) (by decide +kernel), List.mem_of_getElem? (i := 590) (by decide +kernel), List.mem_of_getElem? (i := 591) (by decide +kernel)⟩
theorem lw_p42 : lw_okq (⟨"SecretSquaresModel", "swap", "(II)V"⟩, 12) := ⟨⟨by decide +kernel, by decide +kernel⟩, List.mem_of_getElem? (i := 374) (by decide +kernel), List.mem_of_getElem? (i := 595) (by decide +kernel), List.mem_of_getElem? (i := 596) (by decide +kernel)⟩
def lw_privs_3 : List (MethodName × Nat) := [(⟨"SecretSquaresModel", "keepStep", "()V"⟩, 12), (⟨"SecretSquaresModel", "sameAt", "(I)I"⟩, 12), (⟨"SecretSquaresModel", "rankOf", "(III)I"⟩, 12), (⟨"SecretSquaresModel", "score", "(III)I"⟩, 12), (⟨"SecretSquaresModel", "layText", "()V"⟩, 12), (⟨"SecretSquaresModel", "goodOf", "([I)I"⟩, 12), (⟨"SecretSquaresModel", "goodBy", "(II)I"⟩, 12), (⟨"SecretSquaresModel", "layOrder", "(II)V"⟩, 12), (⟨"SecretSquaresModel", "goUp", "(II)I"⟩, 12), (⟨"SecretSquaresModel", "goodByPairs", "()I"⟩, 12), (⟨"SecretSquaresModel", "swap", "(II)V"⟩, 12)]
theorem lw_r3 : ∀ q ∈ lw_privs_3, lw_okq q := List.forall_mem_cons.mpr ⟨lw_p32, List.forall_mem_cons.mpr ⟨lw_p33, List.forall_mem_cons.mpr ⟨lw_p34, List.forall_mem_cons.mpr ⟨lw_p35, List.forall_mem_cons.mpr ⟨lw_p36, List.forall_mem_cons.mpr ⟨lw_p37, List.forall_mem_cons.mpr ⟨lw_p38, List.forall_mem_cons.mpr ⟨lw_p39, List.forall_mem_cons.mpr ⟨lw_p40, List.forall_mem_cons.mpr ⟨lw_p41, List.forall_mem_cons.mpr ⟨lw_p42, fun _ h => absurd h List.not_mem_nil⟩⟩⟩⟩⟩⟩⟩⟩⟩⟩⟩
def lw_privs : List (MethodName × Nat) := lw_privs_1 ++ (lw_privs_2 ++ (lw_privs_3))
def lw_tbl : List Cond := k2_sels lw_privs ++ tables_1
theorem lw_privs_ok : ∀ q ∈ lw_privs, lw_okq q := by
  show ∀ q ∈ lw_privs_1 ++ (lw_privs_2 ++ (lw_privs_3)), lw_okq q
  exact List.forall_mem_append.mpr ⟨lw_r1, List.forall_mem_append.mpr ⟨lw_r2, lw_r3⟩⟩
end
section
/-! ===== BEGIN words of one list among another's, by their places ===== -/
theorem goodIn_r {big : List Cond} (ws : List Cond) (ps : List Nat) (hp : ws = ps.filterMap (fun i => big[i]?)) (h : ws.all goodWord = true) : GoodIn big ws := by
  intro w hw
  have h1 := List.all_eq_true.mp h w hw
  rw [hp] at hw
  obtain ⟨i, -, hi⟩ := List.mem_filterMap.mp hw
  have hm : w ∈ big := by first | exact List.mem_of_getElem? hi | exact List.getElem?_mem hi
  exact ⟨hm, good_of_word h1⟩
theorem goodIn_app {big a b : List Cond} (ha : GoodIn big a) (hb : GoodIn big b) : GoodIn big (a ++ b) := fun w h => (List.mem_append.mp h).elim (ha w) (hb w)
theorem goodIn_ca {big a b : List Cond} {c : Cond} (ha : GoodIn big (c :: a)) (hb : GoodIn big b) : GoodIn big (c :: (a ++ b)) := fun w h => (List.mem_cons.mp h).elim (fun e => ha w (List.mem_cons.mpr (Or.inl e))) (fun h => (List.mem_append.mp h).elim (fun h => ha w (List.mem_cons.mpr (Or.inr h))) (hb w))
theorem goodIn_sub {big ws : List Cond} (hm : ∀ w ∈ ws, w ∈ big) (h : ws.all goodWord = true) : GoodIn big ws := fun w hw => ⟨hm w hw, good_of_word (List.all_eq_true.mp h w hw)⟩
/-! ===== END ===== -/

/-! ===== BEGIN printed: names, fields, word lists, decode rows ===== -/
def RX0 : String := "SecretSquares$Desk"
def TX0 : u_T := fun k => match k with
  | 0 => ("SecretSquares$Desk", "text", "[I", true)
  | 1 => ("SecretSquares$Desk", "textSize", "I", false)
  | 2 => ("SecretSquares$Desk", "key", "[I", true)
  | 3 => ("SecretSquares$Desk", "keySize", "I", false)
  | 4 => ("SecretSquares$Desk", "worth", "[I", true)
  | 5 => ("SecretSquares$Desk", "liked", "[I", true)
  | 6 => ("SecretSquares$Desk", "steps", "[I", true)
  | 7 => ("SecretSquares$Desk", "stepSizes", "[I", true)
  | _ => ("SecretSquares$Desk", "stepCount", "I", false)
def tyX0 : Nat → FieldType := fun k => match k with
  | 0 => .array .int
  | 1 => .int
  | 2 => .array .int
  | 3 => .int
  | 4 => .array .int
  | 5 => .array .int
  | 6 => .array .int
  | 7 => .array .int
  | _ => .int
abbrev wsX00 : List Cond := u_ws RX0 TX0 9
theorem nmX0 : ∀ a, a < 9 → ∀ b, b < 9 → a ≠ b → (TX0 a).2.1 ≠ (TX0 b).2.1 := by decide +kernel
theorem tyX0_ok : ∀ k, k < 9 → parseFieldDescriptor (TX0 k).2.2.1 = some (tyX0 k) := by decide +kernel
abbrev cX0_init : ByteArray := prog_2_method_1_code
def yX0_init : MethodName := ⟨RX0, "<init>", "()V"⟩
abbrev cX0_copyFrom : ByteArray := prog_2_method_2_code
def yX0_copyFrom : MethodName := ⟨RX0, "copyFrom", "(LSecretSquares$Desk;)V"⟩
abbrev cX0_keepStep : ByteArray := prog_2_method_3_code
def yX0_keepStep : MethodName := ⟨RX0, "keepStep", "()V"⟩
abbrev cX0_dropOldestStep : ByteArray := prog_2_method_4_code
def yX0_dropOldestStep : MethodName := ⟨RX0, "dropOldestStep", "()V"⟩
abbrev cX0_takeStepBack : ByteArray := prog_2_method_5_code
def yX0_takeStepBack : MethodName := ⟨RX0, "takeStepBack", "()V"⟩
abbrev cX0_likedPairs : ByteArray := prog_2_method_6_code
def yX0_likedPairs : MethodName := ⟨RX0, "likedPairs", "()I"⟩
abbrev cX0_likedIn : ByteArray := prog_2_method_7_code
def yX0_likedIn : MethodName := ⟨RX0, "likedIn", "([I)I"⟩
def RX1 : String := "SecretSquares$Square"
def TX1 : u_T := fun k => match k with
  | 0 => ("SecretSquares$Square", "letters", "[I", true)
  | _ => ("SecretSquares$Square", "places", "[I", true)
def tyX1 : Nat → FieldType := fun k => match k with
  | 0 => .array .int
  | _ => .array .int
abbrev wsX10 : List Cond := u_ws RX1 TX1 2
theorem nmX1 : ∀ a, a < 2 → ∀ b, b < 2 → a ≠ b → (TX1 a).2.1 ≠ (TX1 b).2.1 := by decide +kernel
theorem tyX1_ok : ∀ k, k < 2 → parseFieldDescriptor (TX1 k).2.2.1 = some (tyX1 k) := by decide +kernel
abbrev cX1_init : ByteArray := prog_3_method_1_code
def yX1_init : MethodName := ⟨RX1, "<init>", "()V"⟩
abbrev cX1_layOut : ByteArray := prog_3_method_2_code
def yX1_layOut : MethodName := ⟨RX1, "layOut", "([II)V"⟩
abbrev cX1_put : ByteArray := prog_3_method_3_code
def yX1_put : MethodName := ⟨RX1, "put", "(II)V"⟩
abbrev cX1_exchange : ByteArray := prog_3_method_4_code
def yX1_exchange : MethodName := ⟨RX1, "exchange", "(II)V"⟩
abbrev cX1_rowOf : ByteArray := prog_3_method_5_code
def yX1_rowOf : MethodName := ⟨RX1, "rowOf", "(I)I"⟩
abbrev cX1_columnOf : ByteArray := prog_3_method_6_code
def yX1_columnOf : MethodName := ⟨RX1, "columnOf", "(I)I"⟩
abbrev cX1_at : ByteArray := prog_3_method_7_code
def yX1_at : MethodName := ⟨RX1, "at", "(II)I"⟩
abbrev cX1_beside : ByteArray := prog_3_method_8_code
def yX1_beside : MethodName := ⟨RX1, "beside", "(III)I"⟩
def RX2 : String := "SecretSquares$Worker"
def TX2 : u_T := fun k => match k with
  | 0 => ("SecretSquares$Worker", "made", "[I", true)
  | 1 => ("SecretSquares$Worker", "square", "LSecretSquares$Square;", true)
  | 2 => ("SecretSquares$Worker", "order", "[I", true)
  | 3 => ("SecretSquares$Worker", "readFrom", "[I", true)
  | _ => ("SecretSquares$Worker", "line", "[I", true)
def tyX2 : Nat → FieldType := fun k => match k with
  | 0 => .array .int
  | 1 => .object "SecretSquares$Square"
  | 2 => .array .int
  | 3 => .array .int
  | _ => .array .int
abbrev wsX20 : List Cond := u_ws RX2 TX2 5
theorem nmX2 : ∀ a, a < 5 → ∀ b, b < 5 → a ≠ b → (TX2 a).2.1 ≠ (TX2 b).2.1 := by decide +kernel
theorem tyX2_ok : ∀ k, k < 5 → parseFieldDescriptor (TX2 k).2.2.1 = some (tyX2 k) := by decide +kernel
abbrev cX2_init : ByteArray := prog_4_method_1_code
def yX2_init : MethodName := ⟨RX2, "<init>", "()V"⟩
abbrev cX2_work : ByteArray := prog_4_method_2_code
def yX2_work : MethodName := ⟨RX2, "work", "(LSecretSquares$Desk;IZ)V"⟩
abbrev cX2_addKey : ByteArray := prog_4_method_3_code
def yX2_addKey : MethodName := ⟨RX2, "addKey", "(LSecretSquares$Desk;IZ)V"⟩
abbrev cX2_changePairs : ByteArray := prog_4_method_4_code
def yX2_changePairs : MethodName := ⟨RX2, "changePairs", "(LSecretSquares$Desk;Z)V"⟩
abbrev cX2_orderByKey : ByteArray := prog_4_method_5_code
def yX2_orderByKey : MethodName := ⟨RX2, "orderByKey", "(LSecretSquares$Desk;)V"⟩
abbrev cX2_startOrder : ByteArray := prog_4_method_6_code
def yX2_startOrder : MethodName := ⟨RX2, "startOrder", "(I)V"⟩
abbrev cX2_nextOrder : ByteArray := prog_4_method_7_code
def yX2_nextOrder : MethodName := ⟨RX2, "nextOrder", "(I)Z"⟩
abbrev cX2_swapInOrder : ByteArray := prog_4_method_8_code
def yX2_swapInOrder : MethodName := ⟨RX2, "swapInOrder", "(II)V"⟩
abbrev cX2_readColumns : ByteArray := prog_4_method_9_code
def yX2_readColumns : MethodName := ⟨RX2, "readColumns", "(II)V"⟩
abbrev cX2_readRails : ByteArray := prog_4_method_10_code
def yX2_readRails : MethodName := ⟨RX2, "readRails", "(II)V"⟩
abbrev cX2_putInPlace : ByteArray := prog_4_method_11_code
def yX2_putInPlace : MethodName := ⟨RX2, "putInPlace", "(LSecretSquares$Desk;Z)V"⟩
abbrev cX2_takeApart : ByteArray := prog_4_method_12_code
def yX2_takeApart : MethodName := ⟨RX2, "takeApart", "(LSecretSquares$Desk;Z)V"⟩
abbrev cX2_rowPlace : ByteArray := prog_4_method_13_code
def yX2_rowPlace : MethodName := ⟨RX2, "rowPlace", "(IZ)I"⟩
abbrev cX2_columnPlace : ByteArray := prog_4_method_14_code
def yX2_columnPlace : MethodName := ⟨RX2, "columnPlace", "(IIZ)I"⟩
def RX3 : String := "SecretSquares"
def TX3 : u_T := fun k => match k with
  | 0 => ("SecretSquares", "pad", "[I", true)
  | 1 => ("SecretSquares", "padSize", "I", false)
  | 2 => ("SecretSquares", "desk", "LSecretSquares$Desk;", true)
  | 3 => ("SecretSquares", "images", "[LSecretSquares$Desk;", true)
  | 4 => ("SecretSquares", "keptImages", "I", false)
  | 5 => ("SecretSquares", "worker", "LSecretSquares$Worker;", true)
  | 6 => ("SecretSquares", "scores", "[I", true)
  | _ => ("SecretSquares", "bestOrder", "[I", true)
def tyX3 : Nat → FieldType := fun k => match k with
  | 0 => .array .int
  | 1 => .int
  | 2 => .object "SecretSquares$Desk"
  | 3 => .array (.object "SecretSquares$Desk")
  | 4 => .int
  | 5 => .object "SecretSquares$Worker"
  | 6 => .array .int
  | _ => .array .int
abbrev wsX30 : List Cond := u_ws RX3 TX3 8
theorem nmX3 : ∀ a, a < 8 → ∀ b, b < 8 → a ≠ b → (TX3 a).2.1 ≠ (TX3 b).2.1 := by decide +kernel
theorem tyX3_ok : ∀ k, k < 8 → parseFieldDescriptor (TX3 k).2.2.1 = some (tyX3 k) := by decide +kernel
abbrev cX3_init : ByteArray := prog_1_method_1_code
def yX3_init : MethodName := ⟨RX3, "<init>", "()V"⟩
abbrev cX3_say : ByteArray := prog_1_method_2_code
def yX3_say : MethodName := ⟨RX3, "say", "(I)I"⟩
abbrev cX3_wipe : ByteArray := prog_1_method_3_code
def yX3_wipe : MethodName := ⟨RX3, "wipe", "()I"⟩
abbrev cX3_take : ByteArray := prog_1_method_4_code
def yX3_take : MethodName := ⟨RX3, "take", "(I)I"⟩
abbrev cX3_worth : ByteArray := prog_1_method_5_code
def yX3_worth : MethodName := ⟨RX3, "worth", "(II)I"⟩
abbrev cX3_like : ByteArray := prog_1_method_6_code
def yX3_like : MethodName := ⟨RX3, "like", "(III)I"⟩
abbrev cX3_letter : ByteArray := prog_1_method_7_code
def yX3_letter : MethodName := ⟨RX3, "letter", "(II)I"⟩
abbrev cX3_hide : ByteArray := prog_1_method_8_code
def yX3_hide : MethodName := ⟨RX3, "hide", "(I)I"⟩
abbrev cX3_find : ByteArray := prog_1_method_9_code
def yX3_find : MethodName := ⟨RX3, "find", "(I)I"⟩
abbrev cX3_undo : ByteArray := prog_1_method_10_code
def yX3_undo : MethodName := ⟨RX3, "undo", "()I"⟩
abbrev cX3_times : ByteArray := prog_1_method_11_code
def yX3_times : MethodName := ⟨RX3, "times", "(I)I"⟩
abbrev cX3_same : ByteArray := prog_1_method_12_code
def yX3_same : MethodName := ⟨RX3, "same", "(I)I"⟩
abbrev cX3_length : ByteArray := prog_1_method_13_code
def yX3_length : MethodName := ⟨RX3, "length", "(I)I"⟩
abbrev cX3_shift : ByteArray := prog_1_method_14_code
def yX3_shift : MethodName := ⟨RX3, "shift", "(IIII)I"⟩
abbrev cX3_good : ByteArray := prog_1_method_15_code
def yX3_good : MethodName := ⟨RX3, "good", "()I"⟩
abbrev cX3_order : ByteArray := prog_1_method_16_code
def yX3_order : MethodName := ⟨RX3, "order", "(II)I"⟩
abbrev cX3_climb : ByteArray := prog_1_method_17_code
def yX3_climb : MethodName := ⟨RX3, "climb", "(III)I"⟩
abbrev cX3_image : ByteArray := prog_1_method_18_code
def yX3_image : MethodName := ⟨RX3, "image", "(I)I"⟩
abbrev cX3_restore : ByteArray := prog_1_method_19_code
def yX3_restore : MethodName := ⟨RX3, "restore", "(I)I"⟩
abbrev cX3_count : ByteArray := prog_1_method_20_code
def yX3_count : MethodName := ⟨RX3, "count", "(I)I"⟩
abbrev cX3_isOutside : ByteArray := prog_1_method_21_code
def yX3_isOutside : MethodName := ⟨RX3, "isOutside", "(III)Z"⟩
abbrev cX3_isNoLetter : ByteArray := prog_1_method_22_code
def yX3_isNoLetter : MethodName := ⟨RX3, "isNoLetter", "(I)Z"⟩
abbrev cX3_padHasOnlyLetters : ByteArray := prog_1_method_23_code
def yX3_padHasOnlyLetters : MethodName := ⟨RX3, "padHasOnlyLetters", "()Z"⟩
abbrev cX3_readPadInto : ByteArray := prog_1_method_24_code
def yX3_readPadInto : MethodName := ⟨RX3, "readPadInto", "([I)V"⟩
abbrev cX3_letterAt : ByteArray := prog_1_method_25_code
def yX3_letterAt : MethodName := ⟨RX3, "letterAt", "([III)I"⟩
abbrev cX3_hasOddText : ByteArray := prog_1_method_26_code
def yX3_hasOddText : MethodName := ⟨RX3, "hasOddText", "()Z"⟩
abbrev cX3_step : ByteArray := prog_1_method_27_code
def yX3_step : MethodName := ⟨RX3, "step", "(IZ)I"⟩
abbrev cX3_sameAt : ByteArray := prog_1_method_28_code
def yX3_sameAt : MethodName := ⟨RX3, "sameAt", "(I)I"⟩
abbrev cX3_scoreOf : ByteArray := prog_1_method_29_code
def yX3_scoreOf : MethodName := ⟨RX3, "scoreOf", "(III)I"⟩
abbrev cX3_shiftRanked : ByteArray := prog_1_method_30_code
def yX3_shiftRanked : MethodName := ⟨RX3, "shiftRanked", "(I)I"⟩
abbrev cX3_shiftsAheadOf : ByteArray := prog_1_method_31_code
def yX3_shiftsAheadOf : MethodName := ⟨RX3, "shiftsAheadOf", "(I)I"⟩
abbrev cX3_goodByOrder : ByteArray := prog_1_method_32_code
def yX3_goodByOrder : MethodName := ⟨RX3, "goodByOrder", "(I)I"⟩
abbrev cX3_goodByPairs : ByteArray := prog_1_method_33_code
def yX3_goodByPairs : MethodName := ⟨RX3, "goodByPairs", "()I"⟩
def RX4 : String := "SecretSquaresModel"
def TX4 : u_T := fun k => match k with
  | 0 => ("SecretSquaresModel", "state", "[I", true)
  | 1 => ("SecretSquaresModel", "images", "[I", true)
  | 2 => ("SecretSquaresModel", "isKept", "[Z", true)
  | 3 => ("SecretSquaresModel", "pad", "[I", true)
  | 4 => ("SecretSquaresModel", "said", "I", false)
  | 5 => ("SecretSquaresModel", "text", "[I", true)
  | 6 => ("SecretSquaresModel", "other", "[I", true)
  | 7 => ("SecretSquaresModel", "square", "[I", true)
  | 8 => ("SecretSquaresModel", "order", "[I", true)
  | 9 => ("SecretSquaresModel", "from", "[I", true)
  | 10 => ("SecretSquaresModel", "line", "[I", true)
  | _ => ("SecretSquaresModel", "kept", "I", false)
def tyX4 : Nat → FieldType := fun k => match k with
  | 0 => .array .int
  | 1 => .array .int
  | 2 => .array .boolean
  | 3 => .array .int
  | 4 => .int
  | 5 => .array .int
  | 6 => .array .int
  | 7 => .array .int
  | 8 => .array .int
  | 9 => .array .int
  | 10 => .array .int
  | _ => .int
abbrev wsX40 : List Cond := u_ws RX4 TX4 12
theorem nmX4 : ∀ a, a < 12 → ∀ b, b < 12 → a ≠ b → (TX4 a).2.1 ≠ (TX4 b).2.1 := by decide +kernel
theorem tyX4_ok : ∀ k, k < 12 → parseFieldDescriptor (TX4 k).2.2.1 = some (tyX4 k) := by decide +kernel
abbrev cX4_init : ByteArray := prog_6_method_1_code
def yX4_init : MethodName := ⟨RX4, "<init>", "()V"⟩
abbrev cX4_in : ByteArray := prog_6_method_2_code
def yX4_in : MethodName := ⟨RX4, "in", "(III)Z"⟩
abbrev cX4_isLetter : ByteArray := prog_6_method_3_code
def yX4_isLetter : MethodName := ⟨RX4, "isLetter", "(I)Z"⟩
abbrev cX4_many : ByteArray := prog_6_method_4_code
def yX4_many : MethodName := ⟨RX4, "many", "()I"⟩
abbrev cX4_say : ByteArray := prog_6_method_5_code
def yX4_say : MethodName := ⟨RX4, "say", "(I)I"⟩
abbrev cX4_wipe : ByteArray := prog_6_method_6_code
def yX4_wipe : MethodName := ⟨RX4, "wipe", "()I"⟩
abbrev cX4_take : ByteArray := prog_6_method_7_code
def yX4_take : MethodName := ⟨RX4, "take", "(I)I"⟩
abbrev cX4_worth : ByteArray := prog_6_method_8_code
def yX4_worth : MethodName := ⟨RX4, "worth", "(II)I"⟩
abbrev cX4_liked : ByteArray := prog_6_method_9_code
def yX4_liked : MethodName := ⟨RX4, "liked", "()I"⟩
abbrev cX4_like : ByteArray := prog_6_method_10_code
def yX4_like : MethodName := ⟨RX4, "like", "(III)I"⟩
abbrev cX4_laySquare : ByteArray := prog_6_method_11_code
def yX4_laySquare : MethodName := ⟨RX4, "laySquare", "()V"⟩
abbrev cX4_placeOf : ByteArray := prog_6_method_12_code
def yX4_placeOf : MethodName := ⟨RX4, "placeOf", "(I)I"⟩
abbrev cX4_letter : ByteArray := prog_6_method_13_code
def yX4_letter : MethodName := ⟨RX4, "letter", "(II)I"⟩
abbrev cX4_shiftAll : ByteArray := prog_6_method_14_code
def yX4_shiftAll : MethodName := ⟨RX4, "shiftAll", "(IZ)V"⟩
abbrev cX4_round : ByteArray := prog_6_method_15_code
def yX4_round : MethodName := ⟨RX4, "round", "(I)I"⟩
abbrev cX4_atSquare : ByteArray := prog_6_method_16_code
def yX4_atSquare : MethodName := ⟨RX4, "atSquare", "(II)I"⟩
abbrev cX4_pair : ByteArray := prog_6_method_17_code
def yX4_pair : MethodName := ⟨RX4, "pair", "(II)V"⟩
abbrev cX4_pairs : ByteArray := prog_6_method_18_code
def yX4_pairs : MethodName := ⟨RX4, "pairs", "(I)V"⟩
abbrev cX4_layKeyOrder : ByteArray := prog_6_method_19_code
def yX4_layKeyOrder : MethodName := ⟨RX4, "layKeyOrder", "()V"⟩
abbrev cX4_layColumns : ByteArray := prog_6_method_20_code
def yX4_layColumns : MethodName := ⟨RX4, "layColumns", "(I)V"⟩
abbrev cX4_layRails : ByteArray := prog_6_method_21_code
def yX4_layRails : MethodName := ⟨RX4, "layRails", "(I)V"⟩
abbrev cX4_readBy : ByteArray := prog_6_method_22_code
def yX4_readBy : MethodName := ⟨RX4, "readBy", "(I)V"⟩
abbrev cX4_apart : ByteArray := prog_6_method_23_code
def yX4_apart : MethodName := ⟨RX4, "apart", "(I)V"⟩
abbrev cX4_goWay : ByteArray := prog_6_method_24_code
def yX4_goWay : MethodName := ⟨RX4, "goWay", "(II)V"⟩
abbrev cX4_keepStep : ByteArray := prog_6_method_25_code
def yX4_keepStep : MethodName := ⟨RX4, "keepStep", "()V"⟩
abbrev cX4_step : ByteArray := prog_6_method_26_code
def yX4_step : MethodName := ⟨RX4, "step", "(II)I"⟩
abbrev cX4_hide : ByteArray := prog_6_method_27_code
def yX4_hide : MethodName := ⟨RX4, "hide", "(I)I"⟩
abbrev cX4_find : ByteArray := prog_6_method_28_code
def yX4_find : MethodName := ⟨RX4, "find", "(I)I"⟩
abbrev cX4_undo : ByteArray := prog_6_method_29_code
def yX4_undo : MethodName := ⟨RX4, "undo", "()I"⟩
abbrev cX4_times : ByteArray := prog_6_method_30_code
def yX4_times : MethodName := ⟨RX4, "times", "(I)I"⟩
abbrev cX4_sameAt : ByteArray := prog_6_method_31_code
def yX4_sameAt : MethodName := ⟨RX4, "sameAt", "(I)I"⟩
abbrev cX4_same : ByteArray := prog_6_method_32_code
def yX4_same : MethodName := ⟨RX4, "same", "(I)I"⟩
abbrev cX4_length : ByteArray := prog_6_method_33_code
def yX4_length : MethodName := ⟨RX4, "length", "(I)I"⟩
abbrev cX4_score : ByteArray := prog_6_method_34_code
def yX4_score : MethodName := ⟨RX4, "score", "(III)I"⟩
abbrev cX4_rankOf : ByteArray := prog_6_method_35_code
def yX4_rankOf : MethodName := ⟨RX4, "rankOf", "(III)I"⟩
abbrev cX4_shift : ByteArray := prog_6_method_36_code
def yX4_shift : MethodName := ⟨RX4, "shift", "(IIII)I"⟩
abbrev cX4_goodOf : ByteArray := prog_6_method_37_code
def yX4_goodOf : MethodName := ⟨RX4, "goodOf", "([I)I"⟩
abbrev cX4_layText : ByteArray := prog_6_method_38_code
def yX4_layText : MethodName := ⟨RX4, "layText", "()V"⟩
abbrev cX4_good : ByteArray := prog_6_method_39_code
def yX4_good : MethodName := ⟨RX4, "good", "()I"⟩
abbrev cX4_layOrder : ByteArray := prog_6_method_40_code
def yX4_layOrder : MethodName := ⟨RX4, "layOrder", "(II)V"⟩
abbrev cX4_goodBy : ByteArray := prog_6_method_41_code
def yX4_goodBy : MethodName := ⟨RX4, "goodBy", "(II)I"⟩
abbrev cX4_orders : ByteArray := prog_6_method_42_code
def yX4_orders : MethodName := ⟨RX4, "orders", "(I)I"⟩
abbrev cX4_order : ByteArray := prog_6_method_43_code
def yX4_order : MethodName := ⟨RX4, "order", "(II)I"⟩
abbrev cX4_goodByPairs : ByteArray := prog_6_method_44_code
def yX4_goodByPairs : MethodName := ⟨RX4, "goodByPairs", "()I"⟩
abbrev cX4_swap : ByteArray := prog_6_method_45_code
def yX4_swap : MethodName := ⟨RX4, "swap", "(II)V"⟩
abbrev cX4_goUp : ByteArray := prog_6_method_46_code
def yX4_goUp : MethodName := ⟨RX4, "goUp", "(II)I"⟩
abbrev cX4_climb : ByteArray := prog_6_method_47_code
def yX4_climb : MethodName := ⟨RX4, "climb", "(III)I"⟩
abbrev cX4_image : ByteArray := prog_6_method_48_code
def yX4_image : MethodName := ⟨RX4, "image", "(I)I"⟩
abbrev cX4_restore : ByteArray := prog_6_method_49_code
def yX4_restore : MethodName := ⟨RX4, "restore", "(I)I"⟩
abbrev cX4_count : ByteArray := prog_6_method_50_code
def yX4_count : MethodName := ⟨RX4, "count", "(I)I"⟩
def RJ6 : String := "java/lang/Integer"
def TJ6 : u_T := fun k => match k with
  | _ => ("", "", "", false)
def tyJ6 : Nat → FieldType := fun k => match k with
  | _ => .int
abbrev wsJ60 : List Cond := u_ws RJ6 TJ6 0
theorem nmJ6 : ∀ a, a < 0 → ∀ b, b < 0 → a ≠ b → (TJ6 a).2.1 ≠ (TJ6 b).2.1 := by decide +kernel
theorem tyJ6_ok : ∀ k, k < 0 → parseFieldDescriptor (TJ6 k).2.2.1 = some (tyJ6 k) := by decide +kernel
abbrev cJ6_bitCount_0f7a4 : ByteArray := prog_7_method_49_code
def yJ6_bitCount_0f7a4 : MethodName := ⟨RJ6, "bitCount", "(I)I"⟩
def RJ10 : String := "java/lang/System"
def TJ10 : u_T := fun k => match k with
  | _ => ("", "", "", false)
def tyJ10 : Nat → FieldType := fun k => match k with
  | _ => .int
abbrev wsJ100 : List Cond := u_ws RJ10 TJ10 0
theorem nmJ10 : ∀ a, a < 0 → ∀ b, b < 0 → a ≠ b → (TJ10 a).2.1 ≠ (TJ10 b).2.1 := by decide +kernel
theorem tyJ10_ok : ∀ k, k < 0 → parseFieldDescriptor (TJ10 k).2.2.1 = some (tyJ10 k) := by decide +kernel
def RL : String := "SecretSquaresLaw"
abbrev cL_law : ByteArray := code
def yL_law : MethodName := ⟨RL, "law", "([I)Z"⟩
def wsX0_init : List Cond := .code yX0_init cX0_init 1 none :: ([.methodLink RX0 3 objectInit, .instanceMethod objectInit, .code objectInit ⟨#[0xb1]⟩ 1 none, .arrayClass .int, .fieldLink RX0 9 "SecretSquares$Desk" "text" "[I", .fieldLink RX0 15 "SecretSquares$Desk" "key" "[I", .fieldLink RX0 18 "SecretSquares$Desk" "keySize" "I", .fieldLink RX0 22 "SecretSquares$Desk" "worth" "[I", .fieldLink RX0 25 "SecretSquares$Desk" "liked" "[I", .fieldLink RX0 28 "SecretSquares$Desk" "steps" "[I", .fieldLink RX0 31 "SecretSquares$Desk" "stepSizes" "[I"] ++ wsX00)
def wsX0_copyFrom : List Cond := .code yX0_copyFrom cX0_copyFrom 2 none :: ([.fieldLink RX0 9 "SecretSquares$Desk" "text" "[I", .methodLink RX0 34 arraycopyName, .native arraycopyName, .static arraycopyName, .initialized "java/lang/System", .fieldLink RX0 40 "SecretSquares$Desk" "textSize" "I", .fieldLink RX0 15 "SecretSquares$Desk" "key" "[I", .fieldLink RX0 18 "SecretSquares$Desk" "keySize" "I", .fieldLink RX0 22 "SecretSquares$Desk" "worth" "[I", .fieldLink RX0 25 "SecretSquares$Desk" "liked" "[I", .fieldLink RX0 28 "SecretSquares$Desk" "steps" "[I", .fieldLink RX0 31 "SecretSquares$Desk" "stepSizes" "[I", .fieldLink RX0 43 "SecretSquares$Desk" "stepCount" "I"] ++ wsX00)
def wsX0_dropOldestStep : List Cond := .code yX0_dropOldestStep cX0_dropOldestStep 1 none :: ([.fieldLink RX0 28 "SecretSquares$Desk" "steps" "[I", .methodLink RX0 34 arraycopyName, .native arraycopyName, .static arraycopyName, .initialized "java/lang/System", .fieldLink RX0 31 "SecretSquares$Desk" "stepSizes" "[I", .fieldLink RX0 43 "SecretSquares$Desk" "stepCount" "I"] ++ wsX00)
def wsX0_keepStep : List Cond := .code yX0_keepStep cX0_keepStep 1 none :: ([.fieldLink RX0 43 "SecretSquares$Desk" "stepCount" "I", .fieldLink RX0 9 "SecretSquares$Desk" "text" "[I", .fieldLink RX0 28 "SecretSquares$Desk" "steps" "[I", .fieldLink RX0 40 "SecretSquares$Desk" "textSize" "I", .methodLink RX0 34 arraycopyName, .native arraycopyName, .static arraycopyName, .initialized "java/lang/System", .fieldLink RX0 31 "SecretSquares$Desk" "stepSizes" "[I", .methodLink RX0 46 yX0_dropOldestStep, .instanceMethod yX0_dropOldestStep, .selects RX0 yX0_dropOldestStep yX0_dropOldestStep, .initialized RX0, .code yX0_dropOldestStep cX0_dropOldestStep 1 none] ++ wsX00)
def wsX0_takeStepBack : List Cond := .code yX0_takeStepBack cX0_takeStepBack 1 none :: ([.fieldLink RX0 43 "SecretSquares$Desk" "stepCount" "I", .fieldLink RX0 31 "SecretSquares$Desk" "stepSizes" "[I", .fieldLink RX0 40 "SecretSquares$Desk" "textSize" "I", .fieldLink RX0 28 "SecretSquares$Desk" "steps" "[I", .fieldLink RX0 9 "SecretSquares$Desk" "text" "[I", .methodLink RX0 34 arraycopyName, .native arraycopyName, .static arraycopyName, .initialized "java/lang/System"] ++ wsX00)
def wsJ6_bitCount_0f7a4 : List Cond := .code yJ6_bitCount_0f7a4 cJ6_bitCount_0f7a4 1 (some .int) :: ([.constant RJ6 265 (1431655765), .constant RJ6 266 (858993459), .constant RJ6 267 (252645135)])
def wsX0_likedPairs : List Cond := .code yX0_likedPairs cX0_likedPairs 3 (some .int) :: ([.fieldLink RX0 25 "SecretSquares$Desk" "liked" "[I", .methodLink RX0 49 yJ6_bitCount_0f7a4, .static yJ6_bitCount_0f7a4, .initialized RJ6, .code yJ6_bitCount_0f7a4 cJ6_bitCount_0f7a4 1 (some .int), .constant RJ6 265 (1431655765), .constant RJ6 266 (858993459), .constant RJ6 267 (252645135)] ++ wsX00)
def wsX0_likedIn : List Cond := .code yX0_likedIn cX0_likedIn 4 (some .int) :: ([.fieldLink RX0 40 "SecretSquares$Desk" "textSize" "I", .fieldLink RX0 25 "SecretSquares$Desk" "liked" "[I"] ++ wsX00)
def wsX1_init : List Cond := .code yX1_init cX1_init 1 none :: ([.methodLink RX1 3 objectInit, .instanceMethod objectInit, .code objectInit ⟨#[0xb1]⟩ 1 none, .arrayClass .int, .fieldLink RX1 9 "SecretSquares$Square" "letters" "[I", .fieldLink RX1 15 "SecretSquares$Square" "places" "[I"] ++ wsX10)
def wsX1_put : List Cond := .code yX1_put cX1_put 3 none :: ([.fieldLink RX1 9 "SecretSquares$Square" "letters" "[I", .fieldLink RX1 15 "SecretSquares$Square" "places" "[I"] ++ wsX10)
def wsX1_layOut : List Cond := .code yX1_layOut cX1_layOut 6 none :: ([.methodLink RX1 18 yX1_put, .instanceMethod yX1_put, .selects RX1 yX1_put yX1_put, .initialized RX1, .code yX1_put cX1_put 3 none, .fieldLink RX1 9 "SecretSquares$Square" "letters" "[I", .fieldLink RX1 15 "SecretSquares$Square" "places" "[I"] ++ wsX10)
def wsX1_exchange : List Cond := .code yX1_exchange cX1_exchange 4 none :: ([.fieldLink RX1 9 "SecretSquares$Square" "letters" "[I", .methodLink RX1 18 yX1_put, .instanceMethod yX1_put, .selects RX1 yX1_put yX1_put, .initialized RX1, .code yX1_put cX1_put 3 none, .fieldLink RX1 15 "SecretSquares$Square" "places" "[I"] ++ wsX10)
def wsX1_rowOf : List Cond := .code yX1_rowOf cX1_rowOf 2 (some .int) :: ([.fieldLink RX1 15 "SecretSquares$Square" "places" "[I"] ++ wsX10)
def wsX1_columnOf : List Cond := .code yX1_columnOf cX1_columnOf 2 (some .int) :: ([.fieldLink RX1 15 "SecretSquares$Square" "places" "[I"] ++ wsX10)
def wsX1_at : List Cond := .code yX1_at cX1_at 3 (some .int) :: ([.fieldLink RX1 9 "SecretSquares$Square" "letters" "[I"] ++ wsX10)
def wsX1_beside : List Cond := .code yX1_beside cX1_beside 6 (some .int) :: ([.methodLink RX1 22 yX1_rowOf, .instanceMethod yX1_rowOf, .selects RX1 yX1_rowOf yX1_rowOf, .initialized RX1, .code yX1_rowOf cX1_rowOf 2 (some .int), .fieldLink RX1 15 "SecretSquares$Square" "places" "[I", .methodLink RX1 26 yX1_columnOf, .instanceMethod yX1_columnOf, .selects RX1 yX1_columnOf yX1_columnOf, .code yX1_columnOf cX1_columnOf 2 (some .int), .methodLink RX1 29 yX1_at, .instanceMethod yX1_at, .selects RX1 yX1_at yX1_at, .code yX1_at cX1_at 3 (some .int), .fieldLink RX1 9 "SecretSquares$Square" "letters" "[I"] ++ wsX10)
def wsX2_init : List Cond := .code yX2_init cX2_init 1 none :: ([.methodLink RX2 3 objectInit, .instanceMethod objectInit, .code objectInit ⟨#[0xb1]⟩ 1 none, .arrayClass .int, .fieldLink RX2 9 "SecretSquares$Worker" "made" "[I", .classLink RX2 15 RX1, .instantiable RX1 2, .initialized RX1, .fieldLink RX2 18 "SecretSquares$Worker" "square" "LSecretSquares$Square;", .fieldLink RX2 22 "SecretSquares$Worker" "order" "[I", .fieldLink RX2 25 "SecretSquares$Worker" "readFrom" "[I", .fieldLink RX2 28 "SecretSquares$Worker" "line" "[I", .instanceMethod yX1_init, .code yX1_init cX1_init 1 none, .methodLink RX1 3 objectInit, .fieldLink RX1 9 "SecretSquares$Square" "letters" "[I", .fieldLink RX1 15 "SecretSquares$Square" "places" "[I"] ++ wsX20 ++ wsX10)
def wsX2_addKey : List Cond := .code yX2_addKey cX2_addKey 7 none :: ([.fieldLink RX2 56 "SecretSquares$Desk" "textSize" "I", .fieldLink RX2 41 "SecretSquares$Desk" "key" "[I", .fieldLink RX2 9 "SecretSquares$Worker" "made" "[I", .fieldLink RX2 72 "SecretSquares$Desk" "text" "[I"] ++ wsX00 ++ wsX20)
def wsX2_changePairs : List Cond := .code yX2_changePairs cX2_changePairs 7 none :: ([.fieldLink RX2 56 "SecretSquares$Desk" "textSize" "I", .fieldLink RX2 72 "SecretSquares$Desk" "text" "[I", .fieldLink RX2 9 "SecretSquares$Worker" "made" "[I", .fieldLink RX2 18 "SecretSquares$Worker" "square" "LSecretSquares$Square;", .methodLink RX2 75 yX1_beside, .instanceMethod yX1_beside, .selects RX1 yX1_beside yX1_beside, .initialized RX1, .code yX1_beside cX1_beside 6 (some .int), .methodLink RX1 22 yX1_rowOf, .instanceMethod yX1_rowOf, .selects RX1 yX1_rowOf yX1_rowOf, .code yX1_rowOf cX1_rowOf 2 (some .int), .fieldLink RX1 15 "SecretSquares$Square" "places" "[I", .methodLink RX1 26 yX1_columnOf, .instanceMethod yX1_columnOf, .selects RX1 yX1_columnOf yX1_columnOf, .code yX1_columnOf cX1_columnOf 2 (some .int), .methodLink RX1 29 yX1_at, .instanceMethod yX1_at, .selects RX1 yX1_at yX1_at, .code yX1_at cX1_at 3 (some .int), .fieldLink RX1 9 "SecretSquares$Square" "letters" "[I"] ++ wsX00 ++ wsX20 ++ wsX10)
def wsX2_orderByKey : List Cond := .code yX2_orderByKey cX2_orderByKey 5 none :: ([.fieldLink RX2 35 "SecretSquares$Desk" "keySize" "I", .fieldLink RX2 41 "SecretSquares$Desk" "key" "[I", .fieldLink RX2 22 "SecretSquares$Worker" "order" "[I"] ++ wsX00 ++ wsX20)
def wsX2_readColumns : List Cond := .code yX2_readColumns cX2_readColumns 6 none :: ([.fieldLink RX2 22 "SecretSquares$Worker" "order" "[I", .fieldLink RX2 25 "SecretSquares$Worker" "readFrom" "[I"] ++ wsX20)
def wsX2_putInPlace : List Cond := .code yX2_putInPlace cX2_putInPlace 4 none :: ([.fieldLink RX2 56 "SecretSquares$Desk" "textSize" "I", .fieldLink RX2 9 "SecretSquares$Worker" "made" "[I", .fieldLink RX2 72 "SecretSquares$Desk" "text" "[I", .fieldLink RX2 25 "SecretSquares$Worker" "readFrom" "[I"] ++ wsX00 ++ wsX20)
def wsX2_readRails : List Cond := .code yX2_readRails cX2_readRails 8 none :: ([.fieldLink RX2 25 "SecretSquares$Worker" "readFrom" "[I"] ++ wsX20)
def wsX2_rowPlace : List Cond := .code yX2_rowPlace cX2_rowPlace 2 (some .int) :: ([])
def wsX2_columnPlace : List Cond := .code yX2_columnPlace cX2_columnPlace 3 (some .int) :: ([])
def wsX2_takeApart_r1 : List Cond := [Cond.fieldLink RX2 56 "SecretSquares$Desk" "textSize" "I", Cond.fieldLink RX2 28 "SecretSquares$Worker" "line" "[I", Cond.fieldLink RX2 18 "SecretSquares$Worker" "square" "LSecretSquares$Square;", Cond.fieldLink RX2 72 "SecretSquares$Desk" "text" "[I", Cond.fieldLink RX2 9 "SecretSquares$Worker" "made" "[I", Cond.methodLink RX2 82 yX2_rowPlace, Cond.static yX2_rowPlace, Cond.initialized RX2, Cond.code yX2_rowPlace cX2_rowPlace 2 (some .int), Cond.methodLink RX2 86 yX1_rowOf, Cond.instanceMethod yX1_rowOf, Cond.selects RX1 yX1_rowOf yX1_rowOf, Cond.initialized RX1, Cond.code yX1_rowOf cX1_rowOf 2 (some .int), Cond.fieldLink RX1 15 "SecretSquares$Square" "places" "[I", Cond.methodLink RX2 90 yX2_columnPlace, Cond.static yX2_columnPlace, Cond.code yX2_columnPlace cX2_columnPlace 3 (some .int), Cond.methodLink RX2 94 yX1_columnOf, Cond.instanceMethod yX1_columnOf, Cond.selects RX1 yX1_columnOf yX1_columnOf, Cond.code yX1_columnOf cX1_columnOf 2 (some .int), Cond.methodLink RX2 97 yX1_at, Cond.instanceMethod yX1_at]
def wsX2_takeApart_r2 : List Cond := [Cond.selects RX1 yX1_at yX1_at, Cond.code yX1_at cX1_at 3 (some .int), Cond.fieldLink RX1 9 "SecretSquares$Square" "letters" "[I"]
def wsX2_takeApart : List Cond := .code yX2_takeApart cX2_takeApart 5 none :: ((wsX2_takeApart_r1 ++ wsX2_takeApart_r2) ++ wsX00 ++ wsX20 ++ wsX10)
def wsX2_work_r1 : List Cond := [Cond.fieldLink RX2 35 "SecretSquares$Desk" "keySize" "I", Cond.fieldLink RX2 18 "SecretSquares$Worker" "square" "LSecretSquares$Square;", Cond.fieldLink RX2 41 "SecretSquares$Desk" "key" "[I", Cond.fieldLink RX2 56 "SecretSquares$Desk" "textSize" "I", Cond.methodLink RX2 31 yX2_addKey, Cond.instanceMethod yX2_addKey, Cond.selects RX2 yX2_addKey yX2_addKey, Cond.initialized RX2, Cond.code yX2_addKey cX2_addKey 7 none, Cond.fieldLink RX2 9 "SecretSquares$Worker" "made" "[I", Cond.fieldLink RX2 72 "SecretSquares$Desk" "text" "[I", Cond.methodLink RX2 44 yX1_layOut, Cond.instanceMethod yX1_layOut, Cond.selects RX1 yX1_layOut yX1_layOut, Cond.initialized RX1, Cond.code yX1_layOut cX1_layOut 6 none, Cond.methodLink RX1 18 yX1_put, Cond.instanceMethod yX1_put, Cond.selects RX1 yX1_put yX1_put, Cond.code yX1_put cX1_put 3 none, Cond.fieldLink RX1 9 "SecretSquares$Square" "letters" "[I", Cond.fieldLink RX1 15 "SecretSquares$Square" "places" "[I", Cond.methodLink RX2 48 yX2_changePairs, Cond.instanceMethod yX2_changePairs]
def wsX2_work_r2 : List Cond := [Cond.selects RX2 yX2_changePairs yX2_changePairs, Cond.code yX2_changePairs cX2_changePairs 7 none, Cond.methodLink RX2 75 yX1_beside, Cond.instanceMethod yX1_beside, Cond.selects RX1 yX1_beside yX1_beside, Cond.code yX1_beside cX1_beside 6 (some .int), Cond.methodLink RX1 22 yX1_rowOf, Cond.instanceMethod yX1_rowOf, Cond.selects RX1 yX1_rowOf yX1_rowOf, Cond.code yX1_rowOf cX1_rowOf 2 (some .int), Cond.methodLink RX1 26 yX1_columnOf, Cond.instanceMethod yX1_columnOf, Cond.selects RX1 yX1_columnOf yX1_columnOf, Cond.code yX1_columnOf cX1_columnOf 2 (some .int), Cond.methodLink RX1 29 yX1_at, Cond.instanceMethod yX1_at, Cond.selects RX1 yX1_at yX1_at, Cond.code yX1_at cX1_at 3 (some .int), Cond.methodLink RX2 52 yX2_orderByKey, Cond.instanceMethod yX2_orderByKey, Cond.selects RX2 yX2_orderByKey yX2_orderByKey, Cond.code yX2_orderByKey cX2_orderByKey 5 none, Cond.fieldLink RX2 22 "SecretSquares$Worker" "order" "[I", Cond.methodLink RX2 59 yX2_readColumns]
def wsX2_work_r3 : List Cond := [Cond.instanceMethod yX2_readColumns, Cond.selects RX2 yX2_readColumns yX2_readColumns, Cond.code yX2_readColumns cX2_readColumns 6 none, Cond.fieldLink RX2 25 "SecretSquares$Worker" "readFrom" "[I", Cond.methodLink RX2 63 yX2_putInPlace, Cond.instanceMethod yX2_putInPlace, Cond.selects RX2 yX2_putInPlace yX2_putInPlace, Cond.code yX2_putInPlace cX2_putInPlace 4 none, Cond.methodLink RX2 66 yX2_readRails, Cond.instanceMethod yX2_readRails, Cond.selects RX2 yX2_readRails yX2_readRails, Cond.code yX2_readRails cX2_readRails 8 none, Cond.methodLink RX2 69 yX2_takeApart, Cond.instanceMethod yX2_takeApart, Cond.selects RX2 yX2_takeApart yX2_takeApart, Cond.code yX2_takeApart cX2_takeApart 5 none, Cond.fieldLink RX2 28 "SecretSquares$Worker" "line" "[I", Cond.methodLink RX2 82 yX2_rowPlace, Cond.static yX2_rowPlace, Cond.code yX2_rowPlace cX2_rowPlace 2 (some .int), Cond.methodLink RX2 86 yX1_rowOf, Cond.methodLink RX2 90 yX2_columnPlace, Cond.static yX2_columnPlace, Cond.code yX2_columnPlace cX2_columnPlace 3 (some .int)]
def wsX2_work_r4 : List Cond := [Cond.methodLink RX2 94 yX1_columnOf, Cond.methodLink RX2 97 yX1_at]
def wsX2_work : List Cond := .code yX2_work cX2_work 4 none :: ((wsX2_work_r1 ++ (wsX2_work_r2 ++ (wsX2_work_r3 ++ wsX2_work_r4))) ++ wsX00 ++ wsX20 ++ wsX10)
def wsX2_startOrder : List Cond := .code yX2_startOrder cX2_startOrder 3 none :: ([.fieldLink RX2 22 "SecretSquares$Worker" "order" "[I"] ++ wsX20)
def wsX2_swapInOrder : List Cond := .code yX2_swapInOrder cX2_swapInOrder 4 none :: ([.fieldLink RX2 22 "SecretSquares$Worker" "order" "[I"] ++ wsX20)
def wsX2_nextOrder : List Cond := .code yX2_nextOrder cX2_nextOrder 6 (some .boolean) :: ([.fieldLink RX2 22 "SecretSquares$Worker" "order" "[I", .methodLink RX2 79 yX2_swapInOrder, .instanceMethod yX2_swapInOrder, .selects RX2 yX2_swapInOrder yX2_swapInOrder, .initialized RX2, .code yX2_swapInOrder cX2_swapInOrder 4 none] ++ wsX20)
def wsX3_init_r1 : List Cond := [Cond.methodLink RX3 1 objectInit, Cond.instanceMethod objectInit, Cond.code objectInit ⟨#[0xb1]⟩ 1 none, Cond.arrayClass .int, Cond.fieldLink RX3 9 "SecretSquares" "pad" "[I", Cond.classLink RX3 13 RX0, Cond.instantiable RX0 9, Cond.initialized RX0, Cond.fieldLink RX3 16 "SecretSquares" "desk" "LSecretSquares$Desk;", Cond.fieldLink RX3 20 "SecretSquares" "images" "[LSecretSquares$Desk;", Cond.classLink RX3 24 RX2, Cond.instantiable RX2 5, Cond.initialized RX2, Cond.fieldLink RX3 27 "SecretSquares" "worker" "LSecretSquares$Worker;", Cond.fieldLink RX3 31 "SecretSquares" "scores" "[I", Cond.fieldLink RX3 34 "SecretSquares" "bestOrder" "[I", Cond.instanceMethod yX0_init, Cond.code yX0_init cX0_init 1 none, Cond.methodLink RX0 3 objectInit, Cond.fieldLink RX0 9 "SecretSquares$Desk" "text" "[I", Cond.fieldLink RX0 15 "SecretSquares$Desk" "key" "[I", Cond.fieldLink RX0 18 "SecretSquares$Desk" "keySize" "I", Cond.fieldLink RX0 22 "SecretSquares$Desk" "worth" "[I", Cond.fieldLink RX0 25 "SecretSquares$Desk" "liked" "[I"]
def wsX3_init_r2 : List Cond := [Cond.fieldLink RX0 28 "SecretSquares$Desk" "steps" "[I", Cond.fieldLink RX0 31 "SecretSquares$Desk" "stepSizes" "[I", Cond.instanceMethod yX2_init, Cond.code yX2_init cX2_init 1 none, Cond.methodLink RX2 3 objectInit, Cond.fieldLink RX2 9 "SecretSquares$Worker" "made" "[I", Cond.classLink RX2 15 RX1, Cond.instantiable RX1 2, Cond.initialized RX1, Cond.fieldLink RX2 18 "SecretSquares$Worker" "square" "LSecretSquares$Square;", Cond.fieldLink RX2 22 "SecretSquares$Worker" "order" "[I", Cond.fieldLink RX2 25 "SecretSquares$Worker" "readFrom" "[I", Cond.fieldLink RX2 28 "SecretSquares$Worker" "line" "[I", Cond.instanceMethod yX1_init, Cond.code yX1_init cX1_init 1 none, Cond.methodLink RX1 3 objectInit, Cond.fieldLink RX1 9 "SecretSquares$Square" "letters" "[I", Cond.fieldLink RX1 15 "SecretSquares$Square" "places" "[I"]
def wsX3_init : List Cond := .code yX3_init cX3_init 2 none :: ((wsX3_init_r1 ++ wsX3_init_r2) ++ wsX30 ++ wsX00 ++ wsX20 ++ wsX10)
def wsX3_isOutside : List Cond := .code yX3_isOutside cX3_isOutside 3 (some .boolean) :: ([])
def wsX3_say : List Cond := .code yX3_say cX3_say 2 (some .int) :: ([.fieldLink RX3 41 "SecretSquares" "padSize" "I", .fieldLink RX3 9 "SecretSquares" "pad" "[I", .methodLink RX3 37 yX3_isOutside, .static yX3_isOutside, .initialized RX3, .code yX3_isOutside cX3_isOutside 3 (some .boolean)] ++ wsX30)
def wsX3_wipe : List Cond := .code yX3_wipe cX3_wipe 2 (some .int) :: ([.fieldLink RX3 41 "SecretSquares" "padSize" "I"] ++ wsX30)
def wsX3_isNoLetter : List Cond := .code yX3_isNoLetter cX3_isNoLetter 1 (some .boolean) :: ([.methodLink RX3 37 yX3_isOutside, .static yX3_isOutside, .initialized RX3, .code yX3_isOutside cX3_isOutside 3 (some .boolean)])
def wsX3_padHasOnlyLetters : List Cond := .code yX3_padHasOnlyLetters cX3_padHasOnlyLetters 2 (some .boolean) :: ([.fieldLink RX3 41 "SecretSquares" "padSize" "I", .fieldLink RX3 9 "SecretSquares" "pad" "[I", .methodLink RX3 69 yX3_isNoLetter, .static yX3_isNoLetter, .initialized RX3, .code yX3_isNoLetter cX3_isNoLetter 1 (some .boolean), .methodLink RX3 37 yX3_isOutside, .static yX3_isOutside, .code yX3_isOutside cX3_isOutside 3 (some .boolean)] ++ wsX30)
def wsX3_readPadInto : List Cond := .code yX3_readPadInto cX3_readPadInto 3 none :: ([.fieldLink RX3 41 "SecretSquares" "padSize" "I", .fieldLink RX3 9 "SecretSquares" "pad" "[I"] ++ wsX30)
def wsX3_take_r1 : List Cond := [Cond.fieldLink RX3 41 "SecretSquares" "padSize" "I", Cond.fieldLink RX3 16 "SecretSquares" "desk" "LSecretSquares$Desk;", Cond.fieldLink RX3 49 "SecretSquares$Desk" "text" "[I", Cond.fieldLink RX3 56 "SecretSquares$Desk" "textSize" "I", Cond.fieldLink RX3 59 "SecretSquares$Desk" "key" "[I", Cond.fieldLink RX3 62 "SecretSquares$Desk" "keySize" "I", Cond.methodLink RX3 37 yX3_isOutside, Cond.static yX3_isOutside, Cond.initialized RX3, Cond.code yX3_isOutside cX3_isOutside 3 (some .boolean), Cond.methodLink RX3 45 yX3_padHasOnlyLetters, Cond.instanceMethod yX3_padHasOnlyLetters, Cond.selects RX3 yX3_padHasOnlyLetters yX3_padHasOnlyLetters, Cond.code yX3_padHasOnlyLetters cX3_padHasOnlyLetters 2 (some .boolean), Cond.fieldLink RX3 9 "SecretSquares" "pad" "[I", Cond.methodLink RX3 69 yX3_isNoLetter, Cond.static yX3_isNoLetter, Cond.code yX3_isNoLetter cX3_isNoLetter 1 (some .boolean), Cond.methodLink RX3 52 yX3_readPadInto, Cond.instanceMethod yX3_readPadInto, Cond.selects RX3 yX3_readPadInto yX3_readPadInto, Cond.code yX3_readPadInto cX3_readPadInto 3 none, Cond.methodLink RX3 65 yX3_wipe, Cond.instanceMethod yX3_wipe]
def wsX3_take_r2 : List Cond := [Cond.selects RX3 yX3_wipe yX3_wipe, Cond.code yX3_wipe cX3_wipe 2 (some .int)]
def wsX3_take : List Cond := .code yX3_take cX3_take 2 (some .int) :: ((wsX3_take_r1 ++ wsX3_take_r2) ++ wsX30 ++ wsX00)
def wsX3_worth : List Cond := .code yX3_worth cX3_worth 4 (some .int) :: ([.fieldLink RX3 16 "SecretSquares" "desk" "LSecretSquares$Desk;", .fieldLink RX3 73 "SecretSquares$Desk" "worth" "[I", .methodLink RX3 69 yX3_isNoLetter, .static yX3_isNoLetter, .initialized RX3, .code yX3_isNoLetter cX3_isNoLetter 1 (some .boolean), .methodLink RX3 37 yX3_isOutside, .static yX3_isOutside, .code yX3_isOutside cX3_isOutside 3 (some .boolean)] ++ wsX30 ++ wsX00)
def wsX3_like : List Cond := .code yX3_like cX3_like 5 (some .int) :: ([.fieldLink RX3 16 "SecretSquares" "desk" "LSecretSquares$Desk;", .fieldLink RX3 76 "SecretSquares$Desk" "liked" "[I", .methodLink RX3 69 yX3_isNoLetter, .static yX3_isNoLetter, .initialized RX3, .code yX3_isNoLetter cX3_isNoLetter 1 (some .boolean), .methodLink RX3 37 yX3_isOutside, .static yX3_isOutside, .code yX3_isOutside cX3_isOutside 3 (some .boolean), .methodLink RX3 79 yX0_likedPairs, .instanceMethod yX0_likedPairs, .selects RX0 yX0_likedPairs yX0_likedPairs, .initialized RX0, .code yX0_likedPairs cX0_likedPairs 3 (some .int), .fieldLink RX0 25 "SecretSquares$Desk" "liked" "[I", .methodLink RX0 49 yJ6_bitCount_0f7a4, .static yJ6_bitCount_0f7a4, .initialized RJ6, .code yJ6_bitCount_0f7a4 cJ6_bitCount_0f7a4 1 (some .int), .constant RJ6 265 (1431655765), .constant RJ6 266 (858993459), .constant RJ6 267 (252645135)] ++ wsX30 ++ wsX00)
def wsX3_letterAt : List Cond := .code yX3_letterAt cX3_letterAt 3 (some .int) :: ([.methodLink RX3 37 yX3_isOutside, .static yX3_isOutside, .initialized RX3, .code yX3_isOutside cX3_isOutside 3 (some .boolean)])
def wsX3_letter_r1 : List Cond := [Cond.fieldLink RX3 16 "SecretSquares" "desk" "LSecretSquares$Desk;", Cond.fieldLink RX3 49 "SecretSquares$Desk" "text" "[I", Cond.fieldLink RX3 56 "SecretSquares$Desk" "textSize" "I", Cond.fieldLink RX3 59 "SecretSquares$Desk" "key" "[I", Cond.fieldLink RX3 62 "SecretSquares$Desk" "keySize" "I", Cond.fieldLink RX3 27 "SecretSquares" "worker" "LSecretSquares$Worker;", Cond.fieldLink RX3 86 "SecretSquares$Worker" "square" "LSecretSquares$Square;", Cond.fieldLink RX3 96 "SecretSquares$Square" "letters" "[I", Cond.methodLink RX3 82 yX3_letterAt, Cond.static yX3_letterAt, Cond.initialized RX3, Cond.code yX3_letterAt cX3_letterAt 3 (some .int), Cond.methodLink RX3 37 yX3_isOutside, Cond.static yX3_isOutside, Cond.code yX3_isOutside cX3_isOutside 3 (some .boolean), Cond.methodLink RX3 90 yX1_layOut, Cond.instanceMethod yX1_layOut, Cond.selects RX1 yX1_layOut yX1_layOut, Cond.initialized RX1, Cond.code yX1_layOut cX1_layOut 6 none, Cond.methodLink RX1 18 yX1_put, Cond.instanceMethod yX1_put, Cond.selects RX1 yX1_put yX1_put, Cond.code yX1_put cX1_put 3 none]
def wsX3_letter_r2 : List Cond := [Cond.fieldLink RX1 9 "SecretSquares$Square" "letters" "[I", Cond.fieldLink RX1 15 "SecretSquares$Square" "places" "[I"]
def wsX3_letter : List Cond := .code yX3_letter cX3_letter 3 (some .int) :: ((wsX3_letter_r1 ++ wsX3_letter_r2) ++ wsX30 ++ wsX00 ++ wsX20 ++ wsX10)
def wsX3_hasOddText : List Cond := .code yX3_hasOddText cX3_hasOddText 1 (some .boolean) :: ([.fieldLink RX3 16 "SecretSquares" "desk" "LSecretSquares$Desk;", .fieldLink RX3 56 "SecretSquares$Desk" "textSize" "I"] ++ wsX30 ++ wsX00)
def wsX3_step_r1 : List Cond := [Cond.fieldLink RX3 27 "SecretSquares" "worker" "LSecretSquares$Worker;", Cond.fieldLink RX3 16 "SecretSquares" "desk" "LSecretSquares$Desk;", Cond.fieldLink RX3 56 "SecretSquares$Desk" "textSize" "I", Cond.fieldLink RX3 49 "SecretSquares$Desk" "text" "[I", Cond.fieldLink RX3 168 "SecretSquares$Worker" "made" "[I", Cond.methodLink RX3 37 yX3_isOutside, Cond.static yX3_isOutside, Cond.initialized RX3, Cond.code yX3_isOutside cX3_isOutside 3 (some .boolean), Cond.methodLink RX3 143 yX3_hasOddText, Cond.instanceMethod yX3_hasOddText, Cond.selects RX3 yX3_hasOddText yX3_hasOddText, Cond.code yX3_hasOddText cX3_hasOddText 1 (some .boolean), Cond.methodLink RX3 161 yX2_work, Cond.instanceMethod yX2_work, Cond.selects RX2 yX2_work yX2_work, Cond.initialized RX2, Cond.code yX2_work cX2_work 4 none, Cond.fieldLink RX2 35 "SecretSquares$Desk" "keySize" "I", Cond.fieldLink RX2 18 "SecretSquares$Worker" "square" "LSecretSquares$Square;", Cond.fieldLink RX2 41 "SecretSquares$Desk" "key" "[I", Cond.fieldLink RX2 56 "SecretSquares$Desk" "textSize" "I", Cond.methodLink RX2 31 yX2_addKey, Cond.instanceMethod yX2_addKey]
def wsX3_step_r2 : List Cond := [Cond.selects RX2 yX2_addKey yX2_addKey, Cond.code yX2_addKey cX2_addKey 7 none, Cond.fieldLink RX2 9 "SecretSquares$Worker" "made" "[I", Cond.fieldLink RX2 72 "SecretSquares$Desk" "text" "[I", Cond.methodLink RX2 44 yX1_layOut, Cond.instanceMethod yX1_layOut, Cond.selects RX1 yX1_layOut yX1_layOut, Cond.initialized RX1, Cond.code yX1_layOut cX1_layOut 6 none, Cond.methodLink RX1 18 yX1_put, Cond.instanceMethod yX1_put, Cond.selects RX1 yX1_put yX1_put, Cond.code yX1_put cX1_put 3 none, Cond.fieldLink RX1 9 "SecretSquares$Square" "letters" "[I", Cond.fieldLink RX1 15 "SecretSquares$Square" "places" "[I", Cond.methodLink RX2 48 yX2_changePairs, Cond.instanceMethod yX2_changePairs, Cond.selects RX2 yX2_changePairs yX2_changePairs, Cond.code yX2_changePairs cX2_changePairs 7 none, Cond.methodLink RX2 75 yX1_beside, Cond.instanceMethod yX1_beside, Cond.selects RX1 yX1_beside yX1_beside, Cond.code yX1_beside cX1_beside 6 (some .int), Cond.methodLink RX1 22 yX1_rowOf]
def wsX3_step_r3 : List Cond := [Cond.instanceMethod yX1_rowOf, Cond.selects RX1 yX1_rowOf yX1_rowOf, Cond.code yX1_rowOf cX1_rowOf 2 (some .int), Cond.methodLink RX1 26 yX1_columnOf, Cond.instanceMethod yX1_columnOf, Cond.selects RX1 yX1_columnOf yX1_columnOf, Cond.code yX1_columnOf cX1_columnOf 2 (some .int), Cond.methodLink RX1 29 yX1_at, Cond.instanceMethod yX1_at, Cond.selects RX1 yX1_at yX1_at, Cond.code yX1_at cX1_at 3 (some .int), Cond.methodLink RX2 52 yX2_orderByKey, Cond.instanceMethod yX2_orderByKey, Cond.selects RX2 yX2_orderByKey yX2_orderByKey, Cond.code yX2_orderByKey cX2_orderByKey 5 none, Cond.fieldLink RX2 22 "SecretSquares$Worker" "order" "[I", Cond.methodLink RX2 59 yX2_readColumns, Cond.instanceMethod yX2_readColumns, Cond.selects RX2 yX2_readColumns yX2_readColumns, Cond.code yX2_readColumns cX2_readColumns 6 none, Cond.fieldLink RX2 25 "SecretSquares$Worker" "readFrom" "[I", Cond.methodLink RX2 63 yX2_putInPlace, Cond.instanceMethod yX2_putInPlace, Cond.selects RX2 yX2_putInPlace yX2_putInPlace]
def wsX3_step_r4 : List Cond := [Cond.code yX2_putInPlace cX2_putInPlace 4 none, Cond.methodLink RX2 66 yX2_readRails, Cond.instanceMethod yX2_readRails, Cond.selects RX2 yX2_readRails yX2_readRails, Cond.code yX2_readRails cX2_readRails 8 none, Cond.methodLink RX2 69 yX2_takeApart, Cond.instanceMethod yX2_takeApart, Cond.selects RX2 yX2_takeApart yX2_takeApart, Cond.code yX2_takeApart cX2_takeApart 5 none, Cond.fieldLink RX2 28 "SecretSquares$Worker" "line" "[I", Cond.methodLink RX2 82 yX2_rowPlace, Cond.static yX2_rowPlace, Cond.code yX2_rowPlace cX2_rowPlace 2 (some .int), Cond.methodLink RX2 86 yX1_rowOf, Cond.methodLink RX2 90 yX2_columnPlace, Cond.static yX2_columnPlace, Cond.code yX2_columnPlace cX2_columnPlace 3 (some .int), Cond.methodLink RX2 94 yX1_columnOf, Cond.methodLink RX2 97 yX1_at, Cond.methodLink RX3 165 yX0_keepStep, Cond.instanceMethod yX0_keepStep, Cond.selects RX0 yX0_keepStep yX0_keepStep, Cond.initialized RX0, Cond.code yX0_keepStep cX0_keepStep 1 none]
def wsX3_step_r5 : List Cond := [Cond.fieldLink RX0 43 "SecretSquares$Desk" "stepCount" "I", Cond.fieldLink RX0 9 "SecretSquares$Desk" "text" "[I", Cond.fieldLink RX0 28 "SecretSquares$Desk" "steps" "[I", Cond.fieldLink RX0 40 "SecretSquares$Desk" "textSize" "I", Cond.methodLink RX0 34 arraycopyName, Cond.native arraycopyName, Cond.static arraycopyName, Cond.initialized "java/lang/System", Cond.fieldLink RX0 31 "SecretSquares$Desk" "stepSizes" "[I", Cond.methodLink RX0 46 yX0_dropOldestStep, Cond.instanceMethod yX0_dropOldestStep, Cond.selects RX0 yX0_dropOldestStep yX0_dropOldestStep, Cond.code yX0_dropOldestStep cX0_dropOldestStep 1 none]
def wsX3_step : List Cond := .code yX3_step cX3_step 5 (some .int) :: ((wsX3_step_r1 ++ (wsX3_step_r2 ++ (wsX3_step_r3 ++ (wsX3_step_r4 ++ wsX3_step_r5)))) ++ wsX30 ++ wsX00 ++ wsX20 ++ wsX10)
def wsX3_hide_r1 : List Cond := [Cond.methodLink RX3 99 yX3_step, Cond.instanceMethod yX3_step, Cond.selects RX3 yX3_step yX3_step, Cond.initialized RX3, Cond.code yX3_step cX3_step 5 (some .int), Cond.fieldLink RX3 27 "SecretSquares" "worker" "LSecretSquares$Worker;", Cond.fieldLink RX3 16 "SecretSquares" "desk" "LSecretSquares$Desk;", Cond.fieldLink RX3 56 "SecretSquares$Desk" "textSize" "I", Cond.fieldLink RX3 49 "SecretSquares$Desk" "text" "[I", Cond.fieldLink RX3 168 "SecretSquares$Worker" "made" "[I", Cond.methodLink RX3 37 yX3_isOutside, Cond.static yX3_isOutside, Cond.code yX3_isOutside cX3_isOutside 3 (some .boolean), Cond.methodLink RX3 143 yX3_hasOddText, Cond.instanceMethod yX3_hasOddText, Cond.selects RX3 yX3_hasOddText yX3_hasOddText, Cond.code yX3_hasOddText cX3_hasOddText 1 (some .boolean), Cond.methodLink RX3 161 yX2_work, Cond.instanceMethod yX2_work, Cond.selects RX2 yX2_work yX2_work, Cond.initialized RX2, Cond.code yX2_work cX2_work 4 none, Cond.fieldLink RX2 35 "SecretSquares$Desk" "keySize" "I", Cond.fieldLink RX2 18 "SecretSquares$Worker" "square" "LSecretSquares$Square;"]
def wsX3_hide_r2 : List Cond := [Cond.fieldLink RX2 41 "SecretSquares$Desk" "key" "[I", Cond.fieldLink RX2 56 "SecretSquares$Desk" "textSize" "I", Cond.methodLink RX2 31 yX2_addKey, Cond.instanceMethod yX2_addKey, Cond.selects RX2 yX2_addKey yX2_addKey, Cond.code yX2_addKey cX2_addKey 7 none, Cond.fieldLink RX2 9 "SecretSquares$Worker" "made" "[I", Cond.fieldLink RX2 72 "SecretSquares$Desk" "text" "[I", Cond.methodLink RX2 44 yX1_layOut, Cond.instanceMethod yX1_layOut, Cond.selects RX1 yX1_layOut yX1_layOut, Cond.initialized RX1, Cond.code yX1_layOut cX1_layOut 6 none, Cond.methodLink RX1 18 yX1_put, Cond.instanceMethod yX1_put, Cond.selects RX1 yX1_put yX1_put, Cond.code yX1_put cX1_put 3 none, Cond.fieldLink RX1 9 "SecretSquares$Square" "letters" "[I", Cond.fieldLink RX1 15 "SecretSquares$Square" "places" "[I", Cond.methodLink RX2 48 yX2_changePairs, Cond.instanceMethod yX2_changePairs, Cond.selects RX2 yX2_changePairs yX2_changePairs, Cond.code yX2_changePairs cX2_changePairs 7 none, Cond.methodLink RX2 75 yX1_beside]
def wsX3_hide_r3 : List Cond := [Cond.instanceMethod yX1_beside, Cond.selects RX1 yX1_beside yX1_beside, Cond.code yX1_beside cX1_beside 6 (some .int), Cond.methodLink RX1 22 yX1_rowOf, Cond.instanceMethod yX1_rowOf, Cond.selects RX1 yX1_rowOf yX1_rowOf, Cond.code yX1_rowOf cX1_rowOf 2 (some .int), Cond.methodLink RX1 26 yX1_columnOf, Cond.instanceMethod yX1_columnOf, Cond.selects RX1 yX1_columnOf yX1_columnOf, Cond.code yX1_columnOf cX1_columnOf 2 (some .int), Cond.methodLink RX1 29 yX1_at, Cond.instanceMethod yX1_at, Cond.selects RX1 yX1_at yX1_at, Cond.code yX1_at cX1_at 3 (some .int), Cond.methodLink RX2 52 yX2_orderByKey, Cond.instanceMethod yX2_orderByKey, Cond.selects RX2 yX2_orderByKey yX2_orderByKey, Cond.code yX2_orderByKey cX2_orderByKey 5 none, Cond.fieldLink RX2 22 "SecretSquares$Worker" "order" "[I", Cond.methodLink RX2 59 yX2_readColumns, Cond.instanceMethod yX2_readColumns, Cond.selects RX2 yX2_readColumns yX2_readColumns, Cond.code yX2_readColumns cX2_readColumns 6 none]
def wsX3_hide_r4 : List Cond := [Cond.fieldLink RX2 25 "SecretSquares$Worker" "readFrom" "[I", Cond.methodLink RX2 63 yX2_putInPlace, Cond.instanceMethod yX2_putInPlace, Cond.selects RX2 yX2_putInPlace yX2_putInPlace, Cond.code yX2_putInPlace cX2_putInPlace 4 none, Cond.methodLink RX2 66 yX2_readRails, Cond.instanceMethod yX2_readRails, Cond.selects RX2 yX2_readRails yX2_readRails, Cond.code yX2_readRails cX2_readRails 8 none, Cond.methodLink RX2 69 yX2_takeApart, Cond.instanceMethod yX2_takeApart, Cond.selects RX2 yX2_takeApart yX2_takeApart, Cond.code yX2_takeApart cX2_takeApart 5 none, Cond.fieldLink RX2 28 "SecretSquares$Worker" "line" "[I", Cond.methodLink RX2 82 yX2_rowPlace, Cond.static yX2_rowPlace, Cond.code yX2_rowPlace cX2_rowPlace 2 (some .int), Cond.methodLink RX2 86 yX1_rowOf, Cond.methodLink RX2 90 yX2_columnPlace, Cond.static yX2_columnPlace, Cond.code yX2_columnPlace cX2_columnPlace 3 (some .int), Cond.methodLink RX2 94 yX1_columnOf, Cond.methodLink RX2 97 yX1_at, Cond.methodLink RX3 165 yX0_keepStep]
def wsX3_hide_r5 : List Cond := [Cond.instanceMethod yX0_keepStep, Cond.selects RX0 yX0_keepStep yX0_keepStep, Cond.initialized RX0, Cond.code yX0_keepStep cX0_keepStep 1 none, Cond.fieldLink RX0 43 "SecretSquares$Desk" "stepCount" "I", Cond.fieldLink RX0 9 "SecretSquares$Desk" "text" "[I", Cond.fieldLink RX0 28 "SecretSquares$Desk" "steps" "[I", Cond.fieldLink RX0 40 "SecretSquares$Desk" "textSize" "I", Cond.methodLink RX0 34 arraycopyName, Cond.native arraycopyName, Cond.static arraycopyName, Cond.initialized "java/lang/System", Cond.fieldLink RX0 31 "SecretSquares$Desk" "stepSizes" "[I", Cond.methodLink RX0 46 yX0_dropOldestStep, Cond.instanceMethod yX0_dropOldestStep, Cond.selects RX0 yX0_dropOldestStep yX0_dropOldestStep, Cond.code yX0_dropOldestStep cX0_dropOldestStep 1 none]
def wsX3_hide : List Cond := .code yX3_hide cX3_hide 2 (some .int) :: ((wsX3_hide_r1 ++ (wsX3_hide_r2 ++ (wsX3_hide_r3 ++ (wsX3_hide_r4 ++ wsX3_hide_r5)))) ++ wsX30 ++ wsX00 ++ wsX20 ++ wsX10)
def wsX3_find_r1 : List Cond := [Cond.methodLink RX3 99 yX3_step, Cond.instanceMethod yX3_step, Cond.selects RX3 yX3_step yX3_step, Cond.initialized RX3, Cond.code yX3_step cX3_step 5 (some .int), Cond.fieldLink RX3 27 "SecretSquares" "worker" "LSecretSquares$Worker;", Cond.fieldLink RX3 16 "SecretSquares" "desk" "LSecretSquares$Desk;", Cond.fieldLink RX3 56 "SecretSquares$Desk" "textSize" "I", Cond.fieldLink RX3 49 "SecretSquares$Desk" "text" "[I", Cond.fieldLink RX3 168 "SecretSquares$Worker" "made" "[I", Cond.methodLink RX3 37 yX3_isOutside, Cond.static yX3_isOutside, Cond.code yX3_isOutside cX3_isOutside 3 (some .boolean), Cond.methodLink RX3 143 yX3_hasOddText, Cond.instanceMethod yX3_hasOddText, Cond.selects RX3 yX3_hasOddText yX3_hasOddText, Cond.code yX3_hasOddText cX3_hasOddText 1 (some .boolean), Cond.methodLink RX3 161 yX2_work, Cond.instanceMethod yX2_work, Cond.selects RX2 yX2_work yX2_work, Cond.initialized RX2, Cond.code yX2_work cX2_work 4 none, Cond.fieldLink RX2 35 "SecretSquares$Desk" "keySize" "I", Cond.fieldLink RX2 18 "SecretSquares$Worker" "square" "LSecretSquares$Square;"]
def wsX3_find_r2 : List Cond := [Cond.fieldLink RX2 41 "SecretSquares$Desk" "key" "[I", Cond.fieldLink RX2 56 "SecretSquares$Desk" "textSize" "I", Cond.methodLink RX2 31 yX2_addKey, Cond.instanceMethod yX2_addKey, Cond.selects RX2 yX2_addKey yX2_addKey, Cond.code yX2_addKey cX2_addKey 7 none, Cond.fieldLink RX2 9 "SecretSquares$Worker" "made" "[I", Cond.fieldLink RX2 72 "SecretSquares$Desk" "text" "[I", Cond.methodLink RX2 44 yX1_layOut, Cond.instanceMethod yX1_layOut, Cond.selects RX1 yX1_layOut yX1_layOut, Cond.initialized RX1, Cond.code yX1_layOut cX1_layOut 6 none, Cond.methodLink RX1 18 yX1_put, Cond.instanceMethod yX1_put, Cond.selects RX1 yX1_put yX1_put, Cond.code yX1_put cX1_put 3 none, Cond.fieldLink RX1 9 "SecretSquares$Square" "letters" "[I", Cond.fieldLink RX1 15 "SecretSquares$Square" "places" "[I", Cond.methodLink RX2 48 yX2_changePairs, Cond.instanceMethod yX2_changePairs, Cond.selects RX2 yX2_changePairs yX2_changePairs, Cond.code yX2_changePairs cX2_changePairs 7 none, Cond.methodLink RX2 75 yX1_beside]
def wsX3_find_r3 : List Cond := [Cond.instanceMethod yX1_beside, Cond.selects RX1 yX1_beside yX1_beside, Cond.code yX1_beside cX1_beside 6 (some .int), Cond.methodLink RX1 22 yX1_rowOf, Cond.instanceMethod yX1_rowOf, Cond.selects RX1 yX1_rowOf yX1_rowOf, Cond.code yX1_rowOf cX1_rowOf 2 (some .int), Cond.methodLink RX1 26 yX1_columnOf, Cond.instanceMethod yX1_columnOf, Cond.selects RX1 yX1_columnOf yX1_columnOf, Cond.code yX1_columnOf cX1_columnOf 2 (some .int), Cond.methodLink RX1 29 yX1_at, Cond.instanceMethod yX1_at, Cond.selects RX1 yX1_at yX1_at, Cond.code yX1_at cX1_at 3 (some .int), Cond.methodLink RX2 52 yX2_orderByKey, Cond.instanceMethod yX2_orderByKey, Cond.selects RX2 yX2_orderByKey yX2_orderByKey, Cond.code yX2_orderByKey cX2_orderByKey 5 none, Cond.fieldLink RX2 22 "SecretSquares$Worker" "order" "[I", Cond.methodLink RX2 59 yX2_readColumns, Cond.instanceMethod yX2_readColumns, Cond.selects RX2 yX2_readColumns yX2_readColumns, Cond.code yX2_readColumns cX2_readColumns 6 none]
def wsX3_find_r4 : List Cond := [Cond.fieldLink RX2 25 "SecretSquares$Worker" "readFrom" "[I", Cond.methodLink RX2 63 yX2_putInPlace, Cond.instanceMethod yX2_putInPlace, Cond.selects RX2 yX2_putInPlace yX2_putInPlace, Cond.code yX2_putInPlace cX2_putInPlace 4 none, Cond.methodLink RX2 66 yX2_readRails, Cond.instanceMethod yX2_readRails, Cond.selects RX2 yX2_readRails yX2_readRails, Cond.code yX2_readRails cX2_readRails 8 none, Cond.methodLink RX2 69 yX2_takeApart, Cond.instanceMethod yX2_takeApart, Cond.selects RX2 yX2_takeApart yX2_takeApart, Cond.code yX2_takeApart cX2_takeApart 5 none, Cond.fieldLink RX2 28 "SecretSquares$Worker" "line" "[I", Cond.methodLink RX2 82 yX2_rowPlace, Cond.static yX2_rowPlace, Cond.code yX2_rowPlace cX2_rowPlace 2 (some .int), Cond.methodLink RX2 86 yX1_rowOf, Cond.methodLink RX2 90 yX2_columnPlace, Cond.static yX2_columnPlace, Cond.code yX2_columnPlace cX2_columnPlace 3 (some .int), Cond.methodLink RX2 94 yX1_columnOf, Cond.methodLink RX2 97 yX1_at, Cond.methodLink RX3 165 yX0_keepStep]
def wsX3_find_r5 : List Cond := [Cond.instanceMethod yX0_keepStep, Cond.selects RX0 yX0_keepStep yX0_keepStep, Cond.initialized RX0, Cond.code yX0_keepStep cX0_keepStep 1 none, Cond.fieldLink RX0 43 "SecretSquares$Desk" "stepCount" "I", Cond.fieldLink RX0 9 "SecretSquares$Desk" "text" "[I", Cond.fieldLink RX0 28 "SecretSquares$Desk" "steps" "[I", Cond.fieldLink RX0 40 "SecretSquares$Desk" "textSize" "I", Cond.methodLink RX0 34 arraycopyName, Cond.native arraycopyName, Cond.static arraycopyName, Cond.initialized "java/lang/System", Cond.fieldLink RX0 31 "SecretSquares$Desk" "stepSizes" "[I", Cond.methodLink RX0 46 yX0_dropOldestStep, Cond.instanceMethod yX0_dropOldestStep, Cond.selects RX0 yX0_dropOldestStep yX0_dropOldestStep, Cond.code yX0_dropOldestStep cX0_dropOldestStep 1 none]
def wsX3_find : List Cond := .code yX3_find cX3_find 2 (some .int) :: ((wsX3_find_r1 ++ (wsX3_find_r2 ++ (wsX3_find_r3 ++ (wsX3_find_r4 ++ wsX3_find_r5)))) ++ wsX30 ++ wsX00 ++ wsX20 ++ wsX10)
def wsX3_undo : List Cond := .code yX3_undo cX3_undo 1 (some .int) :: ([.fieldLink RX3 16 "SecretSquares" "desk" "LSecretSquares$Desk;", .fieldLink RX3 103 "SecretSquares$Desk" "stepCount" "I", .methodLink RX3 106 yX0_takeStepBack, .instanceMethod yX0_takeStepBack, .selects RX0 yX0_takeStepBack yX0_takeStepBack, .initialized RX0, .code yX0_takeStepBack cX0_takeStepBack 1 none, .fieldLink RX0 43 "SecretSquares$Desk" "stepCount" "I", .fieldLink RX0 31 "SecretSquares$Desk" "stepSizes" "[I", .fieldLink RX0 40 "SecretSquares$Desk" "textSize" "I", .fieldLink RX0 28 "SecretSquares$Desk" "steps" "[I", .fieldLink RX0 9 "SecretSquares$Desk" "text" "[I", .methodLink RX0 34 arraycopyName, .native arraycopyName, .static arraycopyName, .initialized "java/lang/System"] ++ wsX30 ++ wsX00)
def wsX3_times : List Cond := .code yX3_times cX3_times 4 (some .int) :: ([.fieldLink RX3 16 "SecretSquares" "desk" "LSecretSquares$Desk;", .fieldLink RX3 56 "SecretSquares$Desk" "textSize" "I", .fieldLink RX3 49 "SecretSquares$Desk" "text" "[I", .methodLink RX3 69 yX3_isNoLetter, .static yX3_isNoLetter, .initialized RX3, .code yX3_isNoLetter cX3_isNoLetter 1 (some .boolean), .methodLink RX3 37 yX3_isOutside, .static yX3_isOutside, .code yX3_isOutside cX3_isOutside 3 (some .boolean)] ++ wsX30 ++ wsX00)
def wsX3_sameAt : List Cond := .code yX3_sameAt cX3_sameAt 4 (some .int) :: ([.fieldLink RX3 16 "SecretSquares" "desk" "LSecretSquares$Desk;", .fieldLink RX3 56 "SecretSquares$Desk" "textSize" "I", .fieldLink RX3 49 "SecretSquares$Desk" "text" "[I"] ++ wsX30 ++ wsX00)
def wsX3_same : List Cond := .code yX3_same cX3_same 2 (some .int) :: ([.methodLink RX3 37 yX3_isOutside, .static yX3_isOutside, .initialized RX3, .code yX3_isOutside cX3_isOutside 3 (some .boolean), .methodLink RX3 109 yX3_sameAt, .instanceMethod yX3_sameAt, .selects RX3 yX3_sameAt yX3_sameAt, .code yX3_sameAt cX3_sameAt 4 (some .int), .fieldLink RX3 16 "SecretSquares" "desk" "LSecretSquares$Desk;", .fieldLink RX3 56 "SecretSquares$Desk" "textSize" "I", .fieldLink RX3 49 "SecretSquares$Desk" "text" "[I"] ++ wsX30 ++ wsX00)
def wsX3_length : List Cond := .code yX3_length cX3_length 6 (some .int) :: ([.fieldLink RX3 16 "SecretSquares" "desk" "LSecretSquares$Desk;", .fieldLink RX3 56 "SecretSquares$Desk" "textSize" "I", .methodLink RX3 37 yX3_isOutside, .static yX3_isOutside, .initialized RX3, .code yX3_isOutside cX3_isOutside 3 (some .boolean), .methodLink RX3 109 yX3_sameAt, .instanceMethod yX3_sameAt, .selects RX3 yX3_sameAt yX3_sameAt, .code yX3_sameAt cX3_sameAt 4 (some .int), .fieldLink RX3 49 "SecretSquares$Desk" "text" "[I"] ++ wsX30 ++ wsX00)
def wsX3_scoreOf : List Cond := .code yX3_scoreOf cX3_scoreOf 6 (some .int) :: ([.fieldLink RX3 16 "SecretSquares" "desk" "LSecretSquares$Desk;", .fieldLink RX3 56 "SecretSquares$Desk" "textSize" "I", .fieldLink RX3 73 "SecretSquares$Desk" "worth" "[I", .fieldLink RX3 49 "SecretSquares$Desk" "text" "[I"] ++ wsX30 ++ wsX00)
def wsX3_shiftsAheadOf : List Cond := .code yX3_shiftsAheadOf cX3_shiftsAheadOf 4 (some .int) :: ([.fieldLink RX3 31 "SecretSquares" "scores" "[I"] ++ wsX30)
def wsX3_shiftRanked : List Cond := .code yX3_shiftRanked cX3_shiftRanked 3 (some .int) :: ([.methodLink RX3 171 yX3_shiftsAheadOf, .instanceMethod yX3_shiftsAheadOf, .selects RX3 yX3_shiftsAheadOf yX3_shiftsAheadOf, .initialized RX3, .code yX3_shiftsAheadOf cX3_shiftsAheadOf 4 (some .int), .fieldLink RX3 31 "SecretSquares" "scores" "[I"] ++ wsX30)
def wsX3_shift : List Cond := .code yX3_shift cX3_shift 6 (some .int) :: ([.fieldLink RX3 31 "SecretSquares" "scores" "[I", .methodLink RX3 37 yX3_isOutside, .static yX3_isOutside, .initialized RX3, .code yX3_isOutside cX3_isOutside 3 (some .boolean), .methodLink RX3 113 yX3_scoreOf, .instanceMethod yX3_scoreOf, .selects RX3 yX3_scoreOf yX3_scoreOf, .code yX3_scoreOf cX3_scoreOf 6 (some .int), .fieldLink RX3 16 "SecretSquares" "desk" "LSecretSquares$Desk;", .fieldLink RX3 56 "SecretSquares$Desk" "textSize" "I", .fieldLink RX3 73 "SecretSquares$Desk" "worth" "[I", .fieldLink RX3 49 "SecretSquares$Desk" "text" "[I", .methodLink RX3 117 yX3_shiftRanked, .instanceMethod yX3_shiftRanked, .selects RX3 yX3_shiftRanked yX3_shiftRanked, .code yX3_shiftRanked cX3_shiftRanked 3 (some .int), .methodLink RX3 171 yX3_shiftsAheadOf, .instanceMethod yX3_shiftsAheadOf, .selects RX3 yX3_shiftsAheadOf yX3_shiftsAheadOf, .code yX3_shiftsAheadOf cX3_shiftsAheadOf 4 (some .int)] ++ wsX30 ++ wsX00)
def wsX3_good : List Cond := .code yX3_good cX3_good 1 (some .int) :: ([.fieldLink RX3 16 "SecretSquares" "desk" "LSecretSquares$Desk;", .fieldLink RX3 49 "SecretSquares$Desk" "text" "[I", .methodLink RX3 120 yX0_likedIn, .instanceMethod yX0_likedIn, .selects RX0 yX0_likedIn yX0_likedIn, .initialized RX0, .code yX0_likedIn cX0_likedIn 4 (some .int), .fieldLink RX0 40 "SecretSquares$Desk" "textSize" "I", .fieldLink RX0 25 "SecretSquares$Desk" "liked" "[I"] ++ wsX30 ++ wsX00)
def wsX3_goodByOrder_r1 : List Cond := [Cond.fieldLink RX3 27 "SecretSquares" "worker" "LSecretSquares$Worker;", Cond.fieldLink RX3 16 "SecretSquares" "desk" "LSecretSquares$Desk;", Cond.fieldLink RX3 56 "SecretSquares$Desk" "textSize" "I", Cond.fieldLink RX3 168 "SecretSquares$Worker" "made" "[I", Cond.methodLink RX3 174 yX2_readColumns, Cond.instanceMethod yX2_readColumns, Cond.selects RX2 yX2_readColumns yX2_readColumns, Cond.initialized RX2, Cond.code yX2_readColumns cX2_readColumns 6 none, Cond.fieldLink RX2 22 "SecretSquares$Worker" "order" "[I", Cond.fieldLink RX2 25 "SecretSquares$Worker" "readFrom" "[I", Cond.methodLink RX3 177 yX2_putInPlace, Cond.instanceMethod yX2_putInPlace, Cond.selects RX2 yX2_putInPlace yX2_putInPlace, Cond.code yX2_putInPlace cX2_putInPlace 4 none, Cond.fieldLink RX2 56 "SecretSquares$Desk" "textSize" "I", Cond.fieldLink RX2 9 "SecretSquares$Worker" "made" "[I", Cond.fieldLink RX2 72 "SecretSquares$Desk" "text" "[I", Cond.methodLink RX3 120 yX0_likedIn, Cond.instanceMethod yX0_likedIn, Cond.selects RX0 yX0_likedIn yX0_likedIn, Cond.initialized RX0, Cond.code yX0_likedIn cX0_likedIn 4 (some .int), Cond.fieldLink RX0 40 "SecretSquares$Desk" "textSize" "I"]
def wsX3_goodByOrder_r2 : List Cond := [Cond.fieldLink RX0 25 "SecretSquares$Desk" "liked" "[I"]
def wsX3_goodByOrder : List Cond := .code yX3_goodByOrder cX3_goodByOrder 2 (some .int) :: ((wsX3_goodByOrder_r1 ++ wsX3_goodByOrder_r2) ++ wsX30 ++ wsX00 ++ wsX20)
def wsX3_order_r1 : List Cond := [Cond.fieldLink RX3 27 "SecretSquares" "worker" "LSecretSquares$Worker;", Cond.fieldLink RX3 131 "SecretSquares$Worker" "order" "[I", Cond.fieldLink RX3 34 "SecretSquares" "bestOrder" "[I", Cond.methodLink RX3 134 arraycopyName, Cond.native arraycopyName, Cond.static arraycopyName, Cond.initialized "java/lang/System", Cond.methodLink RX3 37 yX3_isOutside, Cond.static yX3_isOutside, Cond.initialized RX3, Cond.code yX3_isOutside cX3_isOutside 3 (some .boolean), Cond.methodLink RX3 124 yX2_startOrder, Cond.instanceMethod yX2_startOrder, Cond.selects RX2 yX2_startOrder yX2_startOrder, Cond.initialized RX2, Cond.code yX2_startOrder cX2_startOrder 3 none, Cond.fieldLink RX2 22 "SecretSquares$Worker" "order" "[I", Cond.methodLink RX3 128 yX3_goodByOrder, Cond.instanceMethod yX3_goodByOrder, Cond.selects RX3 yX3_goodByOrder yX3_goodByOrder, Cond.code yX3_goodByOrder cX3_goodByOrder 2 (some .int), Cond.fieldLink RX3 16 "SecretSquares" "desk" "LSecretSquares$Desk;", Cond.fieldLink RX3 56 "SecretSquares$Desk" "textSize" "I", Cond.fieldLink RX3 168 "SecretSquares$Worker" "made" "[I"]
def wsX3_order_r2 : List Cond := [Cond.methodLink RX3 174 yX2_readColumns, Cond.instanceMethod yX2_readColumns, Cond.selects RX2 yX2_readColumns yX2_readColumns, Cond.code yX2_readColumns cX2_readColumns 6 none, Cond.fieldLink RX2 25 "SecretSquares$Worker" "readFrom" "[I", Cond.methodLink RX3 177 yX2_putInPlace, Cond.instanceMethod yX2_putInPlace, Cond.selects RX2 yX2_putInPlace yX2_putInPlace, Cond.code yX2_putInPlace cX2_putInPlace 4 none, Cond.fieldLink RX2 56 "SecretSquares$Desk" "textSize" "I", Cond.fieldLink RX2 9 "SecretSquares$Worker" "made" "[I", Cond.fieldLink RX2 72 "SecretSquares$Desk" "text" "[I", Cond.methodLink RX3 120 yX0_likedIn, Cond.instanceMethod yX0_likedIn, Cond.selects RX0 yX0_likedIn yX0_likedIn, Cond.initialized RX0, Cond.code yX0_likedIn cX0_likedIn 4 (some .int), Cond.fieldLink RX0 40 "SecretSquares$Desk" "textSize" "I", Cond.fieldLink RX0 25 "SecretSquares$Desk" "liked" "[I", Cond.methodLink RX3 140 yX2_nextOrder, Cond.instanceMethod yX2_nextOrder, Cond.selects RX2 yX2_nextOrder yX2_nextOrder, Cond.code yX2_nextOrder cX2_nextOrder 6 (some .boolean), Cond.methodLink RX2 79 yX2_swapInOrder]
def wsX3_order_r3 : List Cond := [Cond.instanceMethod yX2_swapInOrder, Cond.selects RX2 yX2_swapInOrder yX2_swapInOrder, Cond.code yX2_swapInOrder cX2_swapInOrder 4 none]
def wsX3_order : List Cond := .code yX3_order cX3_order 8 (some .int) :: ((wsX3_order_r1 ++ (wsX3_order_r2 ++ wsX3_order_r3)) ++ wsX30 ++ wsX20 ++ wsX00)
def wsX3_goodByPairs_r1 : List Cond := [Cond.fieldLink RX3 27 "SecretSquares" "worker" "LSecretSquares$Worker;", Cond.fieldLink RX3 16 "SecretSquares" "desk" "LSecretSquares$Desk;", Cond.fieldLink RX3 168 "SecretSquares$Worker" "made" "[I", Cond.methodLink RX3 181 yX2_changePairs, Cond.instanceMethod yX2_changePairs, Cond.selects RX2 yX2_changePairs yX2_changePairs, Cond.initialized RX2, Cond.code yX2_changePairs cX2_changePairs 7 none, Cond.fieldLink RX2 56 "SecretSquares$Desk" "textSize" "I", Cond.fieldLink RX2 72 "SecretSquares$Desk" "text" "[I", Cond.fieldLink RX2 9 "SecretSquares$Worker" "made" "[I", Cond.fieldLink RX2 18 "SecretSquares$Worker" "square" "LSecretSquares$Square;", Cond.methodLink RX2 75 yX1_beside, Cond.instanceMethod yX1_beside, Cond.selects RX1 yX1_beside yX1_beside, Cond.initialized RX1, Cond.code yX1_beside cX1_beside 6 (some .int), Cond.methodLink RX1 22 yX1_rowOf, Cond.instanceMethod yX1_rowOf, Cond.selects RX1 yX1_rowOf yX1_rowOf, Cond.code yX1_rowOf cX1_rowOf 2 (some .int), Cond.fieldLink RX1 15 "SecretSquares$Square" "places" "[I", Cond.methodLink RX1 26 yX1_columnOf, Cond.instanceMethod yX1_columnOf]
def wsX3_goodByPairs_r2 : List Cond := [Cond.selects RX1 yX1_columnOf yX1_columnOf, Cond.code yX1_columnOf cX1_columnOf 2 (some .int), Cond.methodLink RX1 29 yX1_at, Cond.instanceMethod yX1_at, Cond.selects RX1 yX1_at yX1_at, Cond.code yX1_at cX1_at 3 (some .int), Cond.fieldLink RX1 9 "SecretSquares$Square" "letters" "[I", Cond.methodLink RX3 120 yX0_likedIn, Cond.instanceMethod yX0_likedIn, Cond.selects RX0 yX0_likedIn yX0_likedIn, Cond.initialized RX0, Cond.code yX0_likedIn cX0_likedIn 4 (some .int), Cond.fieldLink RX0 40 "SecretSquares$Desk" "textSize" "I", Cond.fieldLink RX0 25 "SecretSquares$Desk" "liked" "[I"]
def wsX3_goodByPairs : List Cond := .code yX3_goodByPairs cX3_goodByPairs 1 (some .int) :: ((wsX3_goodByPairs_r1 ++ wsX3_goodByPairs_r2) ++ wsX30 ++ wsX20 ++ wsX00 ++ wsX10)
def wsX3_climb_r1 : List Cond := [Cond.fieldLink RX3 27 "SecretSquares" "worker" "LSecretSquares$Worker;", Cond.fieldLink RX3 86 "SecretSquares$Worker" "square" "LSecretSquares$Square;", Cond.fieldLink RX3 16 "SecretSquares" "desk" "LSecretSquares$Desk;", Cond.fieldLink RX3 59 "SecretSquares$Desk" "key" "[I", Cond.fieldLink RX3 62 "SecretSquares$Desk" "keySize" "I", Cond.constant RX3 149 (65537), Cond.fieldLink RX3 96 "SecretSquares$Square" "letters" "[I", Cond.methodLink RX3 37 yX3_isOutside, Cond.static yX3_isOutside, Cond.initialized RX3, Cond.code yX3_isOutside cX3_isOutside 3 (some .boolean), Cond.methodLink RX3 143 yX3_hasOddText, Cond.instanceMethod yX3_hasOddText, Cond.selects RX3 yX3_hasOddText yX3_hasOddText, Cond.code yX3_hasOddText cX3_hasOddText 1 (some .boolean), Cond.fieldLink RX3 56 "SecretSquares$Desk" "textSize" "I", Cond.methodLink RX3 90 yX1_layOut, Cond.instanceMethod yX1_layOut, Cond.selects RX1 yX1_layOut yX1_layOut, Cond.initialized RX1, Cond.code yX1_layOut cX1_layOut 6 none, Cond.methodLink RX1 18 yX1_put, Cond.instanceMethod yX1_put, Cond.selects RX1 yX1_put yX1_put]
def wsX3_climb_r2 : List Cond := [Cond.code yX1_put cX1_put 3 none, Cond.fieldLink RX1 9 "SecretSquares$Square" "letters" "[I", Cond.fieldLink RX1 15 "SecretSquares$Square" "places" "[I", Cond.methodLink RX3 146 yX3_goodByPairs, Cond.instanceMethod yX3_goodByPairs, Cond.selects RX3 yX3_goodByPairs yX3_goodByPairs, Cond.code yX3_goodByPairs cX3_goodByPairs 1 (some .int), Cond.fieldLink RX3 168 "SecretSquares$Worker" "made" "[I", Cond.methodLink RX3 181 yX2_changePairs, Cond.instanceMethod yX2_changePairs, Cond.selects RX2 yX2_changePairs yX2_changePairs, Cond.initialized RX2, Cond.code yX2_changePairs cX2_changePairs 7 none, Cond.fieldLink RX2 56 "SecretSquares$Desk" "textSize" "I", Cond.fieldLink RX2 72 "SecretSquares$Desk" "text" "[I", Cond.fieldLink RX2 9 "SecretSquares$Worker" "made" "[I", Cond.fieldLink RX2 18 "SecretSquares$Worker" "square" "LSecretSquares$Square;", Cond.methodLink RX2 75 yX1_beside, Cond.instanceMethod yX1_beside, Cond.selects RX1 yX1_beside yX1_beside, Cond.code yX1_beside cX1_beside 6 (some .int), Cond.methodLink RX1 22 yX1_rowOf, Cond.instanceMethod yX1_rowOf, Cond.selects RX1 yX1_rowOf yX1_rowOf]
def wsX3_climb_r3 : List Cond := [Cond.code yX1_rowOf cX1_rowOf 2 (some .int), Cond.methodLink RX1 26 yX1_columnOf, Cond.instanceMethod yX1_columnOf, Cond.selects RX1 yX1_columnOf yX1_columnOf, Cond.code yX1_columnOf cX1_columnOf 2 (some .int), Cond.methodLink RX1 29 yX1_at, Cond.instanceMethod yX1_at, Cond.selects RX1 yX1_at yX1_at, Cond.code yX1_at cX1_at 3 (some .int), Cond.methodLink RX3 120 yX0_likedIn, Cond.instanceMethod yX0_likedIn, Cond.selects RX0 yX0_likedIn yX0_likedIn, Cond.initialized RX0, Cond.code yX0_likedIn cX0_likedIn 4 (some .int), Cond.fieldLink RX0 40 "SecretSquares$Desk" "textSize" "I", Cond.fieldLink RX0 25 "SecretSquares$Desk" "liked" "[I", Cond.methodLink RX3 150 yX1_exchange, Cond.instanceMethod yX1_exchange, Cond.selects RX1 yX1_exchange yX1_exchange, Cond.code yX1_exchange cX1_exchange 4 none]
def wsX3_climb : List Cond := .code yX3_climb cX3_climb 12 (some .int) :: ((wsX3_climb_r1 ++ (wsX3_climb_r2 ++ wsX3_climb_r3)) ++ wsX30 ++ wsX20 ++ wsX00 ++ wsX10)
def wsX3_image_r1 : List Cond := [Cond.fieldLink RX3 20 "SecretSquares" "images" "[LSecretSquares$Desk;", Cond.fieldLink RX3 16 "SecretSquares" "desk" "LSecretSquares$Desk;", Cond.fieldLink RX3 158 "SecretSquares" "keptImages" "I", Cond.methodLink RX3 37 yX3_isOutside, Cond.static yX3_isOutside, Cond.initialized RX3, Cond.code yX3_isOutside cX3_isOutside 3 (some .boolean), Cond.methodLink RX3 154 yX0_copyFrom, Cond.instanceMethod yX0_copyFrom, Cond.selects RX0 yX0_copyFrom yX0_copyFrom, Cond.initialized RX0, Cond.code yX0_copyFrom cX0_copyFrom 2 none, Cond.fieldLink RX0 9 "SecretSquares$Desk" "text" "[I", Cond.methodLink RX0 34 arraycopyName, Cond.native arraycopyName, Cond.static arraycopyName, Cond.initialized "java/lang/System", Cond.fieldLink RX0 40 "SecretSquares$Desk" "textSize" "I", Cond.fieldLink RX0 15 "SecretSquares$Desk" "key" "[I", Cond.fieldLink RX0 18 "SecretSquares$Desk" "keySize" "I", Cond.fieldLink RX0 22 "SecretSquares$Desk" "worth" "[I", Cond.fieldLink RX0 25 "SecretSquares$Desk" "liked" "[I", Cond.fieldLink RX0 28 "SecretSquares$Desk" "steps" "[I", Cond.fieldLink RX0 31 "SecretSquares$Desk" "stepSizes" "[I"]
def wsX3_image_r2 : List Cond := [Cond.fieldLink RX0 43 "SecretSquares$Desk" "stepCount" "I"]
def wsX3_image : List Cond := .code yX3_image cX3_image 2 (some .int) :: ((wsX3_image_r1 ++ wsX3_image_r2) ++ wsX30 ++ wsX00)
def wsX3_restore_r1 : List Cond := [Cond.fieldLink RX3 158 "SecretSquares" "keptImages" "I", Cond.fieldLink RX3 16 "SecretSquares" "desk" "LSecretSquares$Desk;", Cond.fieldLink RX3 20 "SecretSquares" "images" "[LSecretSquares$Desk;", Cond.methodLink RX3 37 yX3_isOutside, Cond.static yX3_isOutside, Cond.initialized RX3, Cond.code yX3_isOutside cX3_isOutside 3 (some .boolean), Cond.methodLink RX3 154 yX0_copyFrom, Cond.instanceMethod yX0_copyFrom, Cond.selects RX0 yX0_copyFrom yX0_copyFrom, Cond.initialized RX0, Cond.code yX0_copyFrom cX0_copyFrom 2 none, Cond.fieldLink RX0 9 "SecretSquares$Desk" "text" "[I", Cond.methodLink RX0 34 arraycopyName, Cond.native arraycopyName, Cond.static arraycopyName, Cond.initialized "java/lang/System", Cond.fieldLink RX0 40 "SecretSquares$Desk" "textSize" "I", Cond.fieldLink RX0 15 "SecretSquares$Desk" "key" "[I", Cond.fieldLink RX0 18 "SecretSquares$Desk" "keySize" "I", Cond.fieldLink RX0 22 "SecretSquares$Desk" "worth" "[I", Cond.fieldLink RX0 25 "SecretSquares$Desk" "liked" "[I", Cond.fieldLink RX0 28 "SecretSquares$Desk" "steps" "[I", Cond.fieldLink RX0 31 "SecretSquares$Desk" "stepSizes" "[I"]
def wsX3_restore_r2 : List Cond := [Cond.fieldLink RX0 43 "SecretSquares$Desk" "stepCount" "I"]
def wsX3_restore : List Cond := .code yX3_restore cX3_restore 2 (some .int) :: ((wsX3_restore_r1 ++ wsX3_restore_r2) ++ wsX30 ++ wsX00)
def wsX3_count : List Cond := .code yX3_count cX3_count 2 (some .int) :: ([.fieldLink RX3 16 "SecretSquares" "desk" "LSecretSquares$Desk;", .fieldLink RX3 56 "SecretSquares$Desk" "textSize" "I", .fieldLink RX3 62 "SecretSquares$Desk" "keySize" "I", .fieldLink RX3 41 "SecretSquares" "padSize" "I", .fieldLink RX3 103 "SecretSquares$Desk" "stepCount" "I", .fieldLink RX3 158 "SecretSquares" "keptImages" "I", .fieldLink RX3 73 "SecretSquares$Desk" "worth" "[I", .methodLink RX3 79 yX0_likedPairs, .instanceMethod yX0_likedPairs, .selects RX0 yX0_likedPairs yX0_likedPairs, .initialized RX0, .code yX0_likedPairs cX0_likedPairs 3 (some .int), .fieldLink RX0 25 "SecretSquares$Desk" "liked" "[I", .methodLink RX0 49 yJ6_bitCount_0f7a4, .static yJ6_bitCount_0f7a4, .initialized RJ6, .code yJ6_bitCount_0f7a4 cJ6_bitCount_0f7a4 1 (some .int), .constant RJ6 265 (1431655765), .constant RJ6 266 (858993459), .constant RJ6 267 (252645135), .methodLink RX3 37 yX3_isOutside, .static yX3_isOutside, .initialized RX3, .code yX3_isOutside cX3_isOutside 3 (some .boolean)] ++ wsX30 ++ wsX00)
def wsX4_init : List Cond := .code yX4_init cX4_init 1 none :: ([.methodLink RX4 1 objectInit, .instanceMethod objectInit, .code objectInit ⟨#[0xb1]⟩ 1 none, .arrayClass .int, .fieldLink RX4 7 "SecretSquaresModel" "state" "[I", .fieldLink RX4 13 "SecretSquaresModel" "images" "[I", .arrayClass .boolean, .fieldLink RX4 16 "SecretSquaresModel" "isKept" "[Z", .fieldLink RX4 20 "SecretSquaresModel" "pad" "[I", .fieldLink RX4 23 "SecretSquaresModel" "text" "[I", .fieldLink RX4 26 "SecretSquaresModel" "other" "[I", .fieldLink RX4 29 "SecretSquaresModel" "square" "[I", .fieldLink RX4 32 "SecretSquaresModel" "order" "[I", .fieldLink RX4 35 "SecretSquaresModel" "from" "[I", .fieldLink RX4 38 "SecretSquaresModel" "line" "[I"] ++ wsX40)
def wsX4_in : List Cond := .code yX4_in cX4_in 3 (some .boolean) :: ([])
def wsX4_isLetter : List Cond := .code yX4_isLetter cX4_isLetter 1 (some .boolean) :: ([.methodLink RX4 41 yX4_in, .static yX4_in, .initialized RX4, .code yX4_in cX4_in 3 (some .boolean)])
def wsX4_many : List Cond := .code yX4_many cX4_many 1 (some .int) :: ([.fieldLink RX4 7 "SecretSquaresModel" "state" "[I"] ++ wsX40)
def wsX4_say : List Cond := .code yX4_say cX4_say 2 (some .int) :: ([.fieldLink RX4 45 "SecretSquaresModel" "said" "I", .fieldLink RX4 20 "SecretSquaresModel" "pad" "[I", .methodLink RX4 41 yX4_in, .static yX4_in, .initialized RX4, .code yX4_in cX4_in 3 (some .boolean)] ++ wsX40)
def wsX4_wipe : List Cond := .code yX4_wipe cX4_wipe 2 (some .int) :: ([.fieldLink RX4 45 "SecretSquaresModel" "said" "I"] ++ wsX40)
def wsX4_take : List Cond := .code yX4_take cX4_take 4 (some .int) :: ([.fieldLink RX4 45 "SecretSquaresModel" "said" "I", .fieldLink RX4 20 "SecretSquaresModel" "pad" "[I", .fieldLink RX4 7 "SecretSquaresModel" "state" "[I", .methodLink RX4 41 yX4_in, .static yX4_in, .initialized RX4, .code yX4_in cX4_in 3 (some .boolean)] ++ wsX40)
def wsX4_worth : List Cond := .code yX4_worth cX4_worth 4 (some .int) :: ([.fieldLink RX4 7 "SecretSquaresModel" "state" "[I", .methodLink RX4 49 yX4_isLetter, .static yX4_isLetter, .initialized RX4, .code yX4_isLetter cX4_isLetter 1 (some .boolean), .methodLink RX4 41 yX4_in, .static yX4_in, .code yX4_in cX4_in 3 (some .boolean)] ++ wsX40)
def wsX4_liked : List Cond := .code yX4_liked cX4_liked 3 (some .int) :: ([.fieldLink RX4 7 "SecretSquaresModel" "state" "[I"] ++ wsX40)
def wsX4_like : List Cond := .code yX4_like cX4_like 4 (some .int) :: ([.fieldLink RX4 7 "SecretSquaresModel" "state" "[I", .methodLink RX4 49 yX4_isLetter, .static yX4_isLetter, .initialized RX4, .code yX4_isLetter cX4_isLetter 1 (some .boolean), .methodLink RX4 41 yX4_in, .static yX4_in, .code yX4_in cX4_in 3 (some .boolean), .methodLink RX4 53 yX4_liked, .instanceMethod yX4_liked, .selects RX4 yX4_liked yX4_liked, .code yX4_liked cX4_liked 3 (some .int)] ++ wsX40)
def wsX4_laySquare : List Cond := .code yX4_laySquare cX4_laySquare 5 none :: ([.fieldLink RX4 7 "SecretSquaresModel" "state" "[I", .fieldLink RX4 29 "SecretSquaresModel" "square" "[I"] ++ wsX40)
def wsX4_placeOf : List Cond := .code yX4_placeOf cX4_placeOf 3 (some .int) :: ([.fieldLink RX4 29 "SecretSquaresModel" "square" "[I"] ++ wsX40)
def wsX4_letter : List Cond := .code yX4_letter cX4_letter 4 (some .int) :: ([.fieldLink RX4 7 "SecretSquaresModel" "state" "[I", .fieldLink RX4 29 "SecretSquaresModel" "square" "[I", .methodLink RX4 41 yX4_in, .static yX4_in, .initialized RX4, .code yX4_in cX4_in 3 (some .boolean), .methodLink RX4 57 yX4_many, .instanceMethod yX4_many, .selects RX4 yX4_many yX4_many, .code yX4_many cX4_many 1 (some .int), .methodLink RX4 60 yX4_laySquare, .instanceMethod yX4_laySquare, .selects RX4 yX4_laySquare yX4_laySquare, .code yX4_laySquare cX4_laySquare 5 none] ++ wsX40)
def wsX4_shiftAll : List Cond := .code yX4_shiftAll cX4_shiftAll 5 none :: ([.fieldLink RX4 7 "SecretSquaresModel" "state" "[I", .fieldLink RX4 26 "SecretSquaresModel" "other" "[I", .fieldLink RX4 23 "SecretSquaresModel" "text" "[I", .methodLink RX4 57 yX4_many, .instanceMethod yX4_many, .selects RX4 yX4_many yX4_many, .initialized RX4, .code yX4_many cX4_many 1 (some .int)] ++ wsX40)
def wsX4_round : List Cond := .code yX4_round cX4_round 1 (some .int) :: ([])
def wsX4_atSquare : List Cond := .code yX4_atSquare cX4_atSquare 3 (some .int) :: ([.fieldLink RX4 29 "SecretSquaresModel" "square" "[I", .methodLink RX4 63 yX4_round, .static yX4_round, .initialized RX4, .code yX4_round cX4_round 1 (some .int)] ++ wsX40)
def wsX4_pair : List Cond := .code yX4_pair cX4_pair 7 none :: ([.fieldLink RX4 23 "SecretSquaresModel" "text" "[I", .fieldLink RX4 26 "SecretSquaresModel" "other" "[I", .methodLink RX4 67 yX4_placeOf, .instanceMethod yX4_placeOf, .selects RX4 yX4_placeOf yX4_placeOf, .initialized RX4, .code yX4_placeOf cX4_placeOf 3 (some .int), .fieldLink RX4 29 "SecretSquaresModel" "square" "[I", .methodLink RX4 70 yX4_atSquare, .instanceMethod yX4_atSquare, .selects RX4 yX4_atSquare yX4_atSquare, .code yX4_atSquare cX4_atSquare 3 (some .int), .methodLink RX4 63 yX4_round, .static yX4_round, .code yX4_round cX4_round 1 (some .int)] ++ wsX40)
def wsX4_pairs : List Cond := .code yX4_pairs cX4_pairs 3 none :: ([.methodLink RX4 57 yX4_many, .instanceMethod yX4_many, .selects RX4 yX4_many yX4_many, .initialized RX4, .code yX4_many cX4_many 1 (some .int), .fieldLink RX4 7 "SecretSquaresModel" "state" "[I", .methodLink RX4 74 yX4_pair, .instanceMethod yX4_pair, .selects RX4 yX4_pair yX4_pair, .code yX4_pair cX4_pair 7 none, .fieldLink RX4 23 "SecretSquaresModel" "text" "[I", .fieldLink RX4 26 "SecretSquaresModel" "other" "[I", .methodLink RX4 67 yX4_placeOf, .instanceMethod yX4_placeOf, .selects RX4 yX4_placeOf yX4_placeOf, .code yX4_placeOf cX4_placeOf 3 (some .int), .fieldLink RX4 29 "SecretSquaresModel" "square" "[I", .methodLink RX4 70 yX4_atSquare, .instanceMethod yX4_atSquare, .selects RX4 yX4_atSquare yX4_atSquare, .code yX4_atSquare cX4_atSquare 3 (some .int), .methodLink RX4 63 yX4_round, .static yX4_round, .code yX4_round cX4_round 1 (some .int)] ++ wsX40)
def wsX4_layKeyOrder : List Cond := .code yX4_layKeyOrder cX4_layKeyOrder 4 none :: ([.fieldLink RX4 7 "SecretSquaresModel" "state" "[I", .fieldLink RX4 32 "SecretSquaresModel" "order" "[I"] ++ wsX40)
def wsX4_layColumns : List Cond := .code yX4_layColumns cX4_layColumns 5 none :: ([.fieldLink RX4 32 "SecretSquaresModel" "order" "[I", .fieldLink RX4 35 "SecretSquaresModel" "from" "[I", .methodLink RX4 57 yX4_many, .instanceMethod yX4_many, .selects RX4 yX4_many yX4_many, .initialized RX4, .code yX4_many cX4_many 1 (some .int), .fieldLink RX4 7 "SecretSquaresModel" "state" "[I"] ++ wsX40)
def wsX4_layRails : List Cond := .code yX4_layRails cX4_layRails 7 none :: ([.fieldLink RX4 35 "SecretSquaresModel" "from" "[I", .methodLink RX4 57 yX4_many, .instanceMethod yX4_many, .selects RX4 yX4_many yX4_many, .initialized RX4, .code yX4_many cX4_many 1 (some .int), .fieldLink RX4 7 "SecretSquaresModel" "state" "[I"] ++ wsX40)
def wsX4_readBy : List Cond := .code yX4_readBy cX4_readBy 3 none :: ([.fieldLink RX4 26 "SecretSquaresModel" "other" "[I", .fieldLink RX4 23 "SecretSquaresModel" "text" "[I", .fieldLink RX4 35 "SecretSquaresModel" "from" "[I", .methodLink RX4 57 yX4_many, .instanceMethod yX4_many, .selects RX4 yX4_many yX4_many, .initialized RX4, .code yX4_many cX4_many 1 (some .int), .fieldLink RX4 7 "SecretSquaresModel" "state" "[I"] ++ wsX40)
def wsX4_apart : List Cond := .code yX4_apart cX4_apart 5 none :: ([.fieldLink RX4 23 "SecretSquaresModel" "text" "[I", .fieldLink RX4 38 "SecretSquaresModel" "line" "[I", .fieldLink RX4 26 "SecretSquaresModel" "other" "[I", .fieldLink RX4 29 "SecretSquaresModel" "square" "[I", .methodLink RX4 57 yX4_many, .instanceMethod yX4_many, .selects RX4 yX4_many yX4_many, .initialized RX4, .code yX4_many cX4_many 1 (some .int), .fieldLink RX4 7 "SecretSquaresModel" "state" "[I", .methodLink RX4 67 yX4_placeOf, .instanceMethod yX4_placeOf, .selects RX4 yX4_placeOf yX4_placeOf, .code yX4_placeOf cX4_placeOf 3 (some .int)] ++ wsX40)
def wsX4_goWay_r1 : List Cond := [Cond.fieldLink RX4 23 "SecretSquaresModel" "text" "[I", Cond.fieldLink RX4 7 "SecretSquaresModel" "state" "[I", Cond.methodLink RX4 60 yX4_laySquare, Cond.instanceMethod yX4_laySquare, Cond.selects RX4 yX4_laySquare yX4_laySquare, Cond.initialized RX4, Cond.code yX4_laySquare cX4_laySquare 5 none, Cond.fieldLink RX4 29 "SecretSquaresModel" "square" "[I", Cond.methodLink RX4 57 yX4_many, Cond.instanceMethod yX4_many, Cond.selects RX4 yX4_many yX4_many, Cond.code yX4_many cX4_many 1 (some .int), Cond.methodLink RX4 78 yX4_shiftAll, Cond.instanceMethod yX4_shiftAll, Cond.selects RX4 yX4_shiftAll yX4_shiftAll, Cond.code yX4_shiftAll cX4_shiftAll 5 none, Cond.fieldLink RX4 26 "SecretSquaresModel" "other" "[I", Cond.methodLink RX4 82 yX4_pairs, Cond.instanceMethod yX4_pairs, Cond.selects RX4 yX4_pairs yX4_pairs, Cond.code yX4_pairs cX4_pairs 3 none, Cond.methodLink RX4 74 yX4_pair, Cond.instanceMethod yX4_pair, Cond.selects RX4 yX4_pair yX4_pair]
def wsX4_goWay_r2 : List Cond := [Cond.code yX4_pair cX4_pair 7 none, Cond.methodLink RX4 67 yX4_placeOf, Cond.instanceMethod yX4_placeOf, Cond.selects RX4 yX4_placeOf yX4_placeOf, Cond.code yX4_placeOf cX4_placeOf 3 (some .int), Cond.methodLink RX4 70 yX4_atSquare, Cond.instanceMethod yX4_atSquare, Cond.selects RX4 yX4_atSquare yX4_atSquare, Cond.code yX4_atSquare cX4_atSquare 3 (some .int), Cond.methodLink RX4 63 yX4_round, Cond.static yX4_round, Cond.code yX4_round cX4_round 1 (some .int), Cond.methodLink RX4 86 yX4_layKeyOrder, Cond.instanceMethod yX4_layKeyOrder, Cond.selects RX4 yX4_layKeyOrder yX4_layKeyOrder, Cond.code yX4_layKeyOrder cX4_layKeyOrder 4 none, Cond.fieldLink RX4 32 "SecretSquaresModel" "order" "[I", Cond.methodLink RX4 89 yX4_layColumns, Cond.instanceMethod yX4_layColumns, Cond.selects RX4 yX4_layColumns yX4_layColumns, Cond.code yX4_layColumns cX4_layColumns 5 none, Cond.fieldLink RX4 35 "SecretSquaresModel" "from" "[I", Cond.methodLink RX4 92 yX4_readBy, Cond.instanceMethod yX4_readBy]
def wsX4_goWay_r3 : List Cond := [Cond.selects RX4 yX4_readBy yX4_readBy, Cond.code yX4_readBy cX4_readBy 3 none, Cond.methodLink RX4 95 yX4_layRails, Cond.instanceMethod yX4_layRails, Cond.selects RX4 yX4_layRails yX4_layRails, Cond.code yX4_layRails cX4_layRails 7 none, Cond.methodLink RX4 98 yX4_apart, Cond.instanceMethod yX4_apart, Cond.selects RX4 yX4_apart yX4_apart, Cond.code yX4_apart cX4_apart 5 none, Cond.fieldLink RX4 38 "SecretSquaresModel" "line" "[I"]
def wsX4_goWay : List Cond := .code yX4_goWay cX4_goWay 4 none :: ((wsX4_goWay_r1 ++ (wsX4_goWay_r2 ++ wsX4_goWay_r3)) ++ wsX40)
def wsX4_keepStep : List Cond := .code yX4_keepStep cX4_keepStep 2 none :: ([.fieldLink RX4 7 "SecretSquaresModel" "state" "[I"] ++ wsX40)
def wsX4_step_r1 : List Cond := [Cond.fieldLink RX4 7 "SecretSquaresModel" "state" "[I", Cond.fieldLink RX4 26 "SecretSquaresModel" "other" "[I", Cond.methodLink RX4 41 yX4_in, Cond.static yX4_in, Cond.initialized RX4, Cond.code yX4_in cX4_in 3 (some .boolean), Cond.methodLink RX4 57 yX4_many, Cond.instanceMethod yX4_many, Cond.selects RX4 yX4_many yX4_many, Cond.code yX4_many cX4_many 1 (some .int), Cond.methodLink RX4 101 yX4_goWay, Cond.instanceMethod yX4_goWay, Cond.selects RX4 yX4_goWay yX4_goWay, Cond.code yX4_goWay cX4_goWay 4 none, Cond.fieldLink RX4 23 "SecretSquaresModel" "text" "[I", Cond.methodLink RX4 60 yX4_laySquare, Cond.instanceMethod yX4_laySquare, Cond.selects RX4 yX4_laySquare yX4_laySquare, Cond.code yX4_laySquare cX4_laySquare 5 none, Cond.fieldLink RX4 29 "SecretSquaresModel" "square" "[I", Cond.methodLink RX4 78 yX4_shiftAll, Cond.instanceMethod yX4_shiftAll, Cond.selects RX4 yX4_shiftAll yX4_shiftAll, Cond.code yX4_shiftAll cX4_shiftAll 5 none]
def wsX4_step_r2 : List Cond := [Cond.methodLink RX4 82 yX4_pairs, Cond.instanceMethod yX4_pairs, Cond.selects RX4 yX4_pairs yX4_pairs, Cond.code yX4_pairs cX4_pairs 3 none, Cond.methodLink RX4 74 yX4_pair, Cond.instanceMethod yX4_pair, Cond.selects RX4 yX4_pair yX4_pair, Cond.code yX4_pair cX4_pair 7 none, Cond.methodLink RX4 67 yX4_placeOf, Cond.instanceMethod yX4_placeOf, Cond.selects RX4 yX4_placeOf yX4_placeOf, Cond.code yX4_placeOf cX4_placeOf 3 (some .int), Cond.methodLink RX4 70 yX4_atSquare, Cond.instanceMethod yX4_atSquare, Cond.selects RX4 yX4_atSquare yX4_atSquare, Cond.code yX4_atSquare cX4_atSquare 3 (some .int), Cond.methodLink RX4 63 yX4_round, Cond.static yX4_round, Cond.code yX4_round cX4_round 1 (some .int), Cond.methodLink RX4 86 yX4_layKeyOrder, Cond.instanceMethod yX4_layKeyOrder, Cond.selects RX4 yX4_layKeyOrder yX4_layKeyOrder, Cond.code yX4_layKeyOrder cX4_layKeyOrder 4 none, Cond.fieldLink RX4 32 "SecretSquaresModel" "order" "[I"]
def wsX4_step_r3 : List Cond := [Cond.methodLink RX4 89 yX4_layColumns, Cond.instanceMethod yX4_layColumns, Cond.selects RX4 yX4_layColumns yX4_layColumns, Cond.code yX4_layColumns cX4_layColumns 5 none, Cond.fieldLink RX4 35 "SecretSquaresModel" "from" "[I", Cond.methodLink RX4 92 yX4_readBy, Cond.instanceMethod yX4_readBy, Cond.selects RX4 yX4_readBy yX4_readBy, Cond.code yX4_readBy cX4_readBy 3 none, Cond.methodLink RX4 95 yX4_layRails, Cond.instanceMethod yX4_layRails, Cond.selects RX4 yX4_layRails yX4_layRails, Cond.code yX4_layRails cX4_layRails 7 none, Cond.methodLink RX4 98 yX4_apart, Cond.instanceMethod yX4_apart, Cond.selects RX4 yX4_apart yX4_apart, Cond.code yX4_apart cX4_apart 5 none, Cond.fieldLink RX4 38 "SecretSquaresModel" "line" "[I", Cond.methodLink RX4 104 yX4_keepStep, Cond.instanceMethod yX4_keepStep, Cond.selects RX4 yX4_keepStep yX4_keepStep, Cond.code yX4_keepStep cX4_keepStep 2 none]
def wsX4_step : List Cond := .code yX4_step cX4_step 5 (some .int) :: ((wsX4_step_r1 ++ (wsX4_step_r2 ++ wsX4_step_r3)) ++ wsX40)
def wsX4_hide_r1 : List Cond := [Cond.methodLink RX4 107 yX4_step, Cond.instanceMethod yX4_step, Cond.selects RX4 yX4_step yX4_step, Cond.initialized RX4, Cond.code yX4_step cX4_step 5 (some .int), Cond.fieldLink RX4 7 "SecretSquaresModel" "state" "[I", Cond.fieldLink RX4 26 "SecretSquaresModel" "other" "[I", Cond.methodLink RX4 41 yX4_in, Cond.static yX4_in, Cond.code yX4_in cX4_in 3 (some .boolean), Cond.methodLink RX4 57 yX4_many, Cond.instanceMethod yX4_many, Cond.selects RX4 yX4_many yX4_many, Cond.code yX4_many cX4_many 1 (some .int), Cond.methodLink RX4 101 yX4_goWay, Cond.instanceMethod yX4_goWay, Cond.selects RX4 yX4_goWay yX4_goWay, Cond.code yX4_goWay cX4_goWay 4 none, Cond.fieldLink RX4 23 "SecretSquaresModel" "text" "[I", Cond.methodLink RX4 60 yX4_laySquare, Cond.instanceMethod yX4_laySquare, Cond.selects RX4 yX4_laySquare yX4_laySquare, Cond.code yX4_laySquare cX4_laySquare 5 none, Cond.fieldLink RX4 29 "SecretSquaresModel" "square" "[I"]
def wsX4_hide_r2 : List Cond := [Cond.methodLink RX4 78 yX4_shiftAll, Cond.instanceMethod yX4_shiftAll, Cond.selects RX4 yX4_shiftAll yX4_shiftAll, Cond.code yX4_shiftAll cX4_shiftAll 5 none, Cond.methodLink RX4 82 yX4_pairs, Cond.instanceMethod yX4_pairs, Cond.selects RX4 yX4_pairs yX4_pairs, Cond.code yX4_pairs cX4_pairs 3 none, Cond.methodLink RX4 74 yX4_pair, Cond.instanceMethod yX4_pair, Cond.selects RX4 yX4_pair yX4_pair, Cond.code yX4_pair cX4_pair 7 none, Cond.methodLink RX4 67 yX4_placeOf, Cond.instanceMethod yX4_placeOf, Cond.selects RX4 yX4_placeOf yX4_placeOf, Cond.code yX4_placeOf cX4_placeOf 3 (some .int), Cond.methodLink RX4 70 yX4_atSquare, Cond.instanceMethod yX4_atSquare, Cond.selects RX4 yX4_atSquare yX4_atSquare, Cond.code yX4_atSquare cX4_atSquare 3 (some .int), Cond.methodLink RX4 63 yX4_round, Cond.static yX4_round, Cond.code yX4_round cX4_round 1 (some .int), Cond.methodLink RX4 86 yX4_layKeyOrder]
def wsX4_hide_r3 : List Cond := [Cond.instanceMethod yX4_layKeyOrder, Cond.selects RX4 yX4_layKeyOrder yX4_layKeyOrder, Cond.code yX4_layKeyOrder cX4_layKeyOrder 4 none, Cond.fieldLink RX4 32 "SecretSquaresModel" "order" "[I", Cond.methodLink RX4 89 yX4_layColumns, Cond.instanceMethod yX4_layColumns, Cond.selects RX4 yX4_layColumns yX4_layColumns, Cond.code yX4_layColumns cX4_layColumns 5 none, Cond.fieldLink RX4 35 "SecretSquaresModel" "from" "[I", Cond.methodLink RX4 92 yX4_readBy, Cond.instanceMethod yX4_readBy, Cond.selects RX4 yX4_readBy yX4_readBy, Cond.code yX4_readBy cX4_readBy 3 none, Cond.methodLink RX4 95 yX4_layRails, Cond.instanceMethod yX4_layRails, Cond.selects RX4 yX4_layRails yX4_layRails, Cond.code yX4_layRails cX4_layRails 7 none, Cond.methodLink RX4 98 yX4_apart, Cond.instanceMethod yX4_apart, Cond.selects RX4 yX4_apart yX4_apart, Cond.code yX4_apart cX4_apart 5 none, Cond.fieldLink RX4 38 "SecretSquaresModel" "line" "[I", Cond.methodLink RX4 104 yX4_keepStep, Cond.instanceMethod yX4_keepStep]
def wsX4_hide_r4 : List Cond := [Cond.selects RX4 yX4_keepStep yX4_keepStep, Cond.code yX4_keepStep cX4_keepStep 2 none]
def wsX4_hide : List Cond := .code yX4_hide cX4_hide 2 (some .int) :: ((wsX4_hide_r1 ++ (wsX4_hide_r2 ++ (wsX4_hide_r3 ++ wsX4_hide_r4))) ++ wsX40)
def wsX4_find_r1 : List Cond := [Cond.methodLink RX4 107 yX4_step, Cond.instanceMethod yX4_step, Cond.selects RX4 yX4_step yX4_step, Cond.initialized RX4, Cond.code yX4_step cX4_step 5 (some .int), Cond.fieldLink RX4 7 "SecretSquaresModel" "state" "[I", Cond.fieldLink RX4 26 "SecretSquaresModel" "other" "[I", Cond.methodLink RX4 41 yX4_in, Cond.static yX4_in, Cond.code yX4_in cX4_in 3 (some .boolean), Cond.methodLink RX4 57 yX4_many, Cond.instanceMethod yX4_many, Cond.selects RX4 yX4_many yX4_many, Cond.code yX4_many cX4_many 1 (some .int), Cond.methodLink RX4 101 yX4_goWay, Cond.instanceMethod yX4_goWay, Cond.selects RX4 yX4_goWay yX4_goWay, Cond.code yX4_goWay cX4_goWay 4 none, Cond.fieldLink RX4 23 "SecretSquaresModel" "text" "[I", Cond.methodLink RX4 60 yX4_laySquare, Cond.instanceMethod yX4_laySquare, Cond.selects RX4 yX4_laySquare yX4_laySquare, Cond.code yX4_laySquare cX4_laySquare 5 none, Cond.fieldLink RX4 29 "SecretSquaresModel" "square" "[I"]
def wsX4_find_r2 : List Cond := [Cond.methodLink RX4 78 yX4_shiftAll, Cond.instanceMethod yX4_shiftAll, Cond.selects RX4 yX4_shiftAll yX4_shiftAll, Cond.code yX4_shiftAll cX4_shiftAll 5 none, Cond.methodLink RX4 82 yX4_pairs, Cond.instanceMethod yX4_pairs, Cond.selects RX4 yX4_pairs yX4_pairs, Cond.code yX4_pairs cX4_pairs 3 none, Cond.methodLink RX4 74 yX4_pair, Cond.instanceMethod yX4_pair, Cond.selects RX4 yX4_pair yX4_pair, Cond.code yX4_pair cX4_pair 7 none, Cond.methodLink RX4 67 yX4_placeOf, Cond.instanceMethod yX4_placeOf, Cond.selects RX4 yX4_placeOf yX4_placeOf, Cond.code yX4_placeOf cX4_placeOf 3 (some .int), Cond.methodLink RX4 70 yX4_atSquare, Cond.instanceMethod yX4_atSquare, Cond.selects RX4 yX4_atSquare yX4_atSquare, Cond.code yX4_atSquare cX4_atSquare 3 (some .int), Cond.methodLink RX4 63 yX4_round, Cond.static yX4_round, Cond.code yX4_round cX4_round 1 (some .int), Cond.methodLink RX4 86 yX4_layKeyOrder]
def wsX4_find_r3 : List Cond := [Cond.instanceMethod yX4_layKeyOrder, Cond.selects RX4 yX4_layKeyOrder yX4_layKeyOrder, Cond.code yX4_layKeyOrder cX4_layKeyOrder 4 none, Cond.fieldLink RX4 32 "SecretSquaresModel" "order" "[I", Cond.methodLink RX4 89 yX4_layColumns, Cond.instanceMethod yX4_layColumns, Cond.selects RX4 yX4_layColumns yX4_layColumns, Cond.code yX4_layColumns cX4_layColumns 5 none, Cond.fieldLink RX4 35 "SecretSquaresModel" "from" "[I", Cond.methodLink RX4 92 yX4_readBy, Cond.instanceMethod yX4_readBy, Cond.selects RX4 yX4_readBy yX4_readBy, Cond.code yX4_readBy cX4_readBy 3 none, Cond.methodLink RX4 95 yX4_layRails, Cond.instanceMethod yX4_layRails, Cond.selects RX4 yX4_layRails yX4_layRails, Cond.code yX4_layRails cX4_layRails 7 none, Cond.methodLink RX4 98 yX4_apart, Cond.instanceMethod yX4_apart, Cond.selects RX4 yX4_apart yX4_apart, Cond.code yX4_apart cX4_apart 5 none, Cond.fieldLink RX4 38 "SecretSquaresModel" "line" "[I", Cond.methodLink RX4 104 yX4_keepStep, Cond.instanceMethod yX4_keepStep]
def wsX4_find_r4 : List Cond := [Cond.selects RX4 yX4_keepStep yX4_keepStep, Cond.code yX4_keepStep cX4_keepStep 2 none]
def wsX4_find : List Cond := .code yX4_find cX4_find 2 (some .int) :: ((wsX4_find_r1 ++ (wsX4_find_r2 ++ (wsX4_find_r3 ++ wsX4_find_r4))) ++ wsX40)
def wsX4_undo : List Cond := .code yX4_undo cX4_undo 2 (some .int) :: ([.fieldLink RX4 7 "SecretSquaresModel" "state" "[I"] ++ wsX40)
def wsX4_times : List Cond := .code yX4_times cX4_times 4 (some .int) :: ([.fieldLink RX4 7 "SecretSquaresModel" "state" "[I", .methodLink RX4 49 yX4_isLetter, .static yX4_isLetter, .initialized RX4, .code yX4_isLetter cX4_isLetter 1 (some .boolean), .methodLink RX4 41 yX4_in, .static yX4_in, .code yX4_in cX4_in 3 (some .boolean), .methodLink RX4 57 yX4_many, .instanceMethod yX4_many, .selects RX4 yX4_many yX4_many, .code yX4_many cX4_many 1 (some .int)] ++ wsX40)
def wsX4_sameAt : List Cond := .code yX4_sameAt cX4_sameAt 4 (some .int) :: ([.fieldLink RX4 7 "SecretSquaresModel" "state" "[I", .methodLink RX4 57 yX4_many, .instanceMethod yX4_many, .selects RX4 yX4_many yX4_many, .initialized RX4, .code yX4_many cX4_many 1 (some .int)] ++ wsX40)
def wsX4_same : List Cond := .code yX4_same cX4_same 2 (some .int) :: ([.methodLink RX4 41 yX4_in, .static yX4_in, .initialized RX4, .code yX4_in cX4_in 3 (some .boolean), .methodLink RX4 110 yX4_sameAt, .instanceMethod yX4_sameAt, .selects RX4 yX4_sameAt yX4_sameAt, .code yX4_sameAt cX4_sameAt 4 (some .int), .fieldLink RX4 7 "SecretSquaresModel" "state" "[I", .methodLink RX4 57 yX4_many, .instanceMethod yX4_many, .selects RX4 yX4_many yX4_many, .code yX4_many cX4_many 1 (some .int)] ++ wsX40)
def wsX4_length : List Cond := .code yX4_length cX4_length 5 (some .int) :: ([.methodLink RX4 41 yX4_in, .static yX4_in, .initialized RX4, .code yX4_in cX4_in 3 (some .boolean), .methodLink RX4 57 yX4_many, .instanceMethod yX4_many, .selects RX4 yX4_many yX4_many, .code yX4_many cX4_many 1 (some .int), .fieldLink RX4 7 "SecretSquaresModel" "state" "[I", .methodLink RX4 110 yX4_sameAt, .instanceMethod yX4_sameAt, .selects RX4 yX4_sameAt yX4_sameAt, .code yX4_sameAt cX4_sameAt 4 (some .int)] ++ wsX40)
def wsX4_score : List Cond := .code yX4_score cX4_score 6 (some .int) :: ([.fieldLink RX4 7 "SecretSquaresModel" "state" "[I", .methodLink RX4 57 yX4_many, .instanceMethod yX4_many, .selects RX4 yX4_many yX4_many, .initialized RX4, .code yX4_many cX4_many 1 (some .int)] ++ wsX40)
def wsX4_rankOf : List Cond := .code yX4_rankOf cX4_rankOf 8 (some .int) :: ([.methodLink RX4 113 yX4_score, .instanceMethod yX4_score, .selects RX4 yX4_score yX4_score, .initialized RX4, .code yX4_score cX4_score 6 (some .int), .fieldLink RX4 7 "SecretSquaresModel" "state" "[I", .methodLink RX4 57 yX4_many, .instanceMethod yX4_many, .selects RX4 yX4_many yX4_many, .code yX4_many cX4_many 1 (some .int)] ++ wsX40)
def wsX4_shift : List Cond := .code yX4_shift cX4_shift 6 (some .int) :: ([.methodLink RX4 41 yX4_in, .static yX4_in, .initialized RX4, .code yX4_in cX4_in 3 (some .boolean), .methodLink RX4 117 yX4_rankOf, .instanceMethod yX4_rankOf, .selects RX4 yX4_rankOf yX4_rankOf, .code yX4_rankOf cX4_rankOf 8 (some .int), .methodLink RX4 113 yX4_score, .instanceMethod yX4_score, .selects RX4 yX4_score yX4_score, .code yX4_score cX4_score 6 (some .int), .fieldLink RX4 7 "SecretSquaresModel" "state" "[I", .methodLink RX4 57 yX4_many, .instanceMethod yX4_many, .selects RX4 yX4_many yX4_many, .code yX4_many cX4_many 1 (some .int)] ++ wsX40)
def wsX4_goodOf : List Cond := .code yX4_goodOf cX4_goodOf 4 (some .int) :: ([.fieldLink RX4 7 "SecretSquaresModel" "state" "[I", .methodLink RX4 57 yX4_many, .instanceMethod yX4_many, .selects RX4 yX4_many yX4_many, .initialized RX4, .code yX4_many cX4_many 1 (some .int)] ++ wsX40)
def wsX4_layText : List Cond := .code yX4_layText cX4_layText 2 none :: ([.fieldLink RX4 23 "SecretSquaresModel" "text" "[I", .fieldLink RX4 7 "SecretSquaresModel" "state" "[I", .methodLink RX4 57 yX4_many, .instanceMethod yX4_many, .selects RX4 yX4_many yX4_many, .initialized RX4, .code yX4_many cX4_many 1 (some .int)] ++ wsX40)
def wsX4_good : List Cond := .code yX4_good cX4_good 1 (some .int) :: ([.fieldLink RX4 23 "SecretSquaresModel" "text" "[I", .methodLink RX4 120 yX4_layText, .instanceMethod yX4_layText, .selects RX4 yX4_layText yX4_layText, .initialized RX4, .code yX4_layText cX4_layText 2 none, .fieldLink RX4 7 "SecretSquaresModel" "state" "[I", .methodLink RX4 57 yX4_many, .instanceMethod yX4_many, .selects RX4 yX4_many yX4_many, .code yX4_many cX4_many 1 (some .int), .methodLink RX4 123 yX4_goodOf, .instanceMethod yX4_goodOf, .selects RX4 yX4_goodOf yX4_goodOf, .code yX4_goodOf cX4_goodOf 4 (some .int)] ++ wsX40)
def wsX4_layOrder : List Cond := .code yX4_layOrder cX4_layOrder 8 none :: ([.fieldLink RX4 32 "SecretSquaresModel" "order" "[I"] ++ wsX40)
def wsX4_goodBy_r1 : List Cond := [Cond.fieldLink RX4 26 "SecretSquaresModel" "other" "[I", Cond.methodLink RX4 127 yX4_layOrder, Cond.instanceMethod yX4_layOrder, Cond.selects RX4 yX4_layOrder yX4_layOrder, Cond.initialized RX4, Cond.code yX4_layOrder cX4_layOrder 8 none, Cond.fieldLink RX4 32 "SecretSquaresModel" "order" "[I", Cond.methodLink RX4 120 yX4_layText, Cond.instanceMethod yX4_layText, Cond.selects RX4 yX4_layText yX4_layText, Cond.code yX4_layText cX4_layText 2 none, Cond.fieldLink RX4 23 "SecretSquaresModel" "text" "[I", Cond.fieldLink RX4 7 "SecretSquaresModel" "state" "[I", Cond.methodLink RX4 57 yX4_many, Cond.instanceMethod yX4_many, Cond.selects RX4 yX4_many yX4_many, Cond.code yX4_many cX4_many 1 (some .int), Cond.methodLink RX4 89 yX4_layColumns, Cond.instanceMethod yX4_layColumns, Cond.selects RX4 yX4_layColumns yX4_layColumns, Cond.code yX4_layColumns cX4_layColumns 5 none, Cond.fieldLink RX4 35 "SecretSquaresModel" "from" "[I", Cond.methodLink RX4 92 yX4_readBy, Cond.instanceMethod yX4_readBy]
def wsX4_goodBy_r2 : List Cond := [Cond.selects RX4 yX4_readBy yX4_readBy, Cond.code yX4_readBy cX4_readBy 3 none, Cond.methodLink RX4 123 yX4_goodOf, Cond.instanceMethod yX4_goodOf, Cond.selects RX4 yX4_goodOf yX4_goodOf, Cond.code yX4_goodOf cX4_goodOf 4 (some .int)]
def wsX4_goodBy : List Cond := .code yX4_goodBy cX4_goodBy 3 (some .int) :: ((wsX4_goodBy_r1 ++ wsX4_goodBy_r2) ++ wsX40)
def wsX4_orders : List Cond := .code yX4_orders cX4_orders 3 (some .int) :: ([])
def wsX4_order_r1 : List Cond := [Cond.fieldLink RX4 32 "SecretSquaresModel" "order" "[I", Cond.methodLink RX4 41 yX4_in, Cond.static yX4_in, Cond.initialized RX4, Cond.code yX4_in cX4_in 3 (some .boolean), Cond.methodLink RX4 130 yX4_orders, Cond.static yX4_orders, Cond.code yX4_orders cX4_orders 3 (some .int), Cond.methodLink RX4 133 yX4_goodBy, Cond.instanceMethod yX4_goodBy, Cond.selects RX4 yX4_goodBy yX4_goodBy, Cond.code yX4_goodBy cX4_goodBy 3 (some .int), Cond.fieldLink RX4 26 "SecretSquaresModel" "other" "[I", Cond.methodLink RX4 127 yX4_layOrder, Cond.instanceMethod yX4_layOrder, Cond.selects RX4 yX4_layOrder yX4_layOrder, Cond.code yX4_layOrder cX4_layOrder 8 none, Cond.methodLink RX4 120 yX4_layText, Cond.instanceMethod yX4_layText, Cond.selects RX4 yX4_layText yX4_layText, Cond.code yX4_layText cX4_layText 2 none, Cond.fieldLink RX4 23 "SecretSquaresModel" "text" "[I", Cond.fieldLink RX4 7 "SecretSquaresModel" "state" "[I", Cond.methodLink RX4 57 yX4_many]
def wsX4_order_r2 : List Cond := [Cond.instanceMethod yX4_many, Cond.selects RX4 yX4_many yX4_many, Cond.code yX4_many cX4_many 1 (some .int), Cond.methodLink RX4 89 yX4_layColumns, Cond.instanceMethod yX4_layColumns, Cond.selects RX4 yX4_layColumns yX4_layColumns, Cond.code yX4_layColumns cX4_layColumns 5 none, Cond.fieldLink RX4 35 "SecretSquaresModel" "from" "[I", Cond.methodLink RX4 92 yX4_readBy, Cond.instanceMethod yX4_readBy, Cond.selects RX4 yX4_readBy yX4_readBy, Cond.code yX4_readBy cX4_readBy 3 none, Cond.methodLink RX4 123 yX4_goodOf, Cond.instanceMethod yX4_goodOf, Cond.selects RX4 yX4_goodOf yX4_goodOf, Cond.code yX4_goodOf cX4_goodOf 4 (some .int)]
def wsX4_order : List Cond := .code yX4_order cX4_order 8 (some .int) :: ((wsX4_order_r1 ++ wsX4_order_r2) ++ wsX40)
def wsX4_goodByPairs_r1 : List Cond := [Cond.fieldLink RX4 26 "SecretSquaresModel" "other" "[I", Cond.methodLink RX4 82 yX4_pairs, Cond.instanceMethod yX4_pairs, Cond.selects RX4 yX4_pairs yX4_pairs, Cond.initialized RX4, Cond.code yX4_pairs cX4_pairs 3 none, Cond.methodLink RX4 57 yX4_many, Cond.instanceMethod yX4_many, Cond.selects RX4 yX4_many yX4_many, Cond.code yX4_many cX4_many 1 (some .int), Cond.fieldLink RX4 7 "SecretSquaresModel" "state" "[I", Cond.methodLink RX4 74 yX4_pair, Cond.instanceMethod yX4_pair, Cond.selects RX4 yX4_pair yX4_pair, Cond.code yX4_pair cX4_pair 7 none, Cond.fieldLink RX4 23 "SecretSquaresModel" "text" "[I", Cond.methodLink RX4 67 yX4_placeOf, Cond.instanceMethod yX4_placeOf, Cond.selects RX4 yX4_placeOf yX4_placeOf, Cond.code yX4_placeOf cX4_placeOf 3 (some .int), Cond.fieldLink RX4 29 "SecretSquaresModel" "square" "[I", Cond.methodLink RX4 70 yX4_atSquare, Cond.instanceMethod yX4_atSquare, Cond.selects RX4 yX4_atSquare yX4_atSquare]
def wsX4_goodByPairs_r2 : List Cond := [Cond.code yX4_atSquare cX4_atSquare 3 (some .int), Cond.methodLink RX4 63 yX4_round, Cond.static yX4_round, Cond.code yX4_round cX4_round 1 (some .int), Cond.methodLink RX4 123 yX4_goodOf, Cond.instanceMethod yX4_goodOf, Cond.selects RX4 yX4_goodOf yX4_goodOf, Cond.code yX4_goodOf cX4_goodOf 4 (some .int)]
def wsX4_goodByPairs : List Cond := .code yX4_goodByPairs cX4_goodByPairs 1 (some .int) :: ((wsX4_goodByPairs_r1 ++ wsX4_goodByPairs_r2) ++ wsX40)
def wsX4_swap : List Cond := .code yX4_swap cX4_swap 4 none :: ([.fieldLink RX4 29 "SecretSquaresModel" "square" "[I"] ++ wsX40)
def wsX4_goUp_r1 : List Cond := [Cond.fieldLink RX4 139 "SecretSquaresModel" "kept" "I", Cond.constant RX4 142 (65537), Cond.methodLink RX4 60 yX4_laySquare, Cond.instanceMethod yX4_laySquare, Cond.selects RX4 yX4_laySquare yX4_laySquare, Cond.initialized RX4, Cond.code yX4_laySquare cX4_laySquare 5 none, Cond.fieldLink RX4 7 "SecretSquaresModel" "state" "[I", Cond.fieldLink RX4 29 "SecretSquaresModel" "square" "[I", Cond.methodLink RX4 120 yX4_layText, Cond.instanceMethod yX4_layText, Cond.selects RX4 yX4_layText yX4_layText, Cond.code yX4_layText cX4_layText 2 none, Cond.fieldLink RX4 23 "SecretSquaresModel" "text" "[I", Cond.methodLink RX4 57 yX4_many, Cond.instanceMethod yX4_many, Cond.selects RX4 yX4_many yX4_many, Cond.code yX4_many cX4_many 1 (some .int), Cond.methodLink RX4 136 yX4_goodByPairs, Cond.instanceMethod yX4_goodByPairs, Cond.selects RX4 yX4_goodByPairs yX4_goodByPairs, Cond.code yX4_goodByPairs cX4_goodByPairs 1 (some .int), Cond.fieldLink RX4 26 "SecretSquaresModel" "other" "[I", Cond.methodLink RX4 82 yX4_pairs]
def wsX4_goUp_r2 : List Cond := [Cond.instanceMethod yX4_pairs, Cond.selects RX4 yX4_pairs yX4_pairs, Cond.code yX4_pairs cX4_pairs 3 none, Cond.methodLink RX4 74 yX4_pair, Cond.instanceMethod yX4_pair, Cond.selects RX4 yX4_pair yX4_pair, Cond.code yX4_pair cX4_pair 7 none, Cond.methodLink RX4 67 yX4_placeOf, Cond.instanceMethod yX4_placeOf, Cond.selects RX4 yX4_placeOf yX4_placeOf, Cond.code yX4_placeOf cX4_placeOf 3 (some .int), Cond.methodLink RX4 70 yX4_atSquare, Cond.instanceMethod yX4_atSquare, Cond.selects RX4 yX4_atSquare yX4_atSquare, Cond.code yX4_atSquare cX4_atSquare 3 (some .int), Cond.methodLink RX4 63 yX4_round, Cond.static yX4_round, Cond.code yX4_round cX4_round 1 (some .int), Cond.methodLink RX4 123 yX4_goodOf, Cond.instanceMethod yX4_goodOf, Cond.selects RX4 yX4_goodOf yX4_goodOf, Cond.code yX4_goodOf cX4_goodOf 4 (some .int), Cond.methodLink RX4 143 yX4_swap, Cond.instanceMethod yX4_swap]
def wsX4_goUp_r3 : List Cond := [Cond.selects RX4 yX4_swap yX4_swap, Cond.code yX4_swap cX4_swap 4 none]
def wsX4_goUp : List Cond := .code yX4_goUp cX4_goUp 7 (some .int) :: ((wsX4_goUp_r1 ++ (wsX4_goUp_r2 ++ wsX4_goUp_r3)) ++ wsX40)
def wsX4_climb_r1 : List Cond := [Cond.fieldLink RX4 139 "SecretSquaresModel" "kept" "I", Cond.fieldLink RX4 29 "SecretSquaresModel" "square" "[I", Cond.methodLink RX4 41 yX4_in, Cond.static yX4_in, Cond.initialized RX4, Cond.code yX4_in cX4_in 3 (some .boolean), Cond.methodLink RX4 57 yX4_many, Cond.instanceMethod yX4_many, Cond.selects RX4 yX4_many yX4_many, Cond.code yX4_many cX4_many 1 (some .int), Cond.fieldLink RX4 7 "SecretSquaresModel" "state" "[I", Cond.methodLink RX4 146 yX4_goUp, Cond.instanceMethod yX4_goUp, Cond.selects RX4 yX4_goUp yX4_goUp, Cond.code yX4_goUp cX4_goUp 7 (some .int), Cond.constant RX4 142 (65537), Cond.methodLink RX4 60 yX4_laySquare, Cond.instanceMethod yX4_laySquare, Cond.selects RX4 yX4_laySquare yX4_laySquare, Cond.code yX4_laySquare cX4_laySquare 5 none, Cond.methodLink RX4 120 yX4_layText, Cond.instanceMethod yX4_layText, Cond.selects RX4 yX4_layText yX4_layText, Cond.code yX4_layText cX4_layText 2 none]
def wsX4_climb_r2 : List Cond := [Cond.fieldLink RX4 23 "SecretSquaresModel" "text" "[I", Cond.methodLink RX4 136 yX4_goodByPairs, Cond.instanceMethod yX4_goodByPairs, Cond.selects RX4 yX4_goodByPairs yX4_goodByPairs, Cond.code yX4_goodByPairs cX4_goodByPairs 1 (some .int), Cond.fieldLink RX4 26 "SecretSquaresModel" "other" "[I", Cond.methodLink RX4 82 yX4_pairs, Cond.instanceMethod yX4_pairs, Cond.selects RX4 yX4_pairs yX4_pairs, Cond.code yX4_pairs cX4_pairs 3 none, Cond.methodLink RX4 74 yX4_pair, Cond.instanceMethod yX4_pair, Cond.selects RX4 yX4_pair yX4_pair, Cond.code yX4_pair cX4_pair 7 none, Cond.methodLink RX4 67 yX4_placeOf, Cond.instanceMethod yX4_placeOf, Cond.selects RX4 yX4_placeOf yX4_placeOf, Cond.code yX4_placeOf cX4_placeOf 3 (some .int), Cond.methodLink RX4 70 yX4_atSquare, Cond.instanceMethod yX4_atSquare, Cond.selects RX4 yX4_atSquare yX4_atSquare, Cond.code yX4_atSquare cX4_atSquare 3 (some .int), Cond.methodLink RX4 63 yX4_round, Cond.static yX4_round]
def wsX4_climb_r3 : List Cond := [Cond.code yX4_round cX4_round 1 (some .int), Cond.methodLink RX4 123 yX4_goodOf, Cond.instanceMethod yX4_goodOf, Cond.selects RX4 yX4_goodOf yX4_goodOf, Cond.code yX4_goodOf cX4_goodOf 4 (some .int), Cond.methodLink RX4 143 yX4_swap, Cond.instanceMethod yX4_swap, Cond.selects RX4 yX4_swap yX4_swap, Cond.code yX4_swap cX4_swap 4 none]
def wsX4_climb : List Cond := .code yX4_climb cX4_climb 5 (some .int) :: ((wsX4_climb_r1 ++ (wsX4_climb_r2 ++ wsX4_climb_r3)) ++ wsX40)
def wsX4_image : List Cond := .code yX4_image cX4_image 3 (some .int) :: ([.fieldLink RX4 13 "SecretSquaresModel" "images" "[I", .fieldLink RX4 7 "SecretSquaresModel" "state" "[I", .fieldLink RX4 16 "SecretSquaresModel" "isKept" "[Z", .methodLink RX4 41 yX4_in, .static yX4_in, .initialized RX4, .code yX4_in cX4_in 3 (some .boolean)] ++ wsX40)
def wsX4_restore : List Cond := .code yX4_restore cX4_restore 3 (some .int) :: ([.fieldLink RX4 16 "SecretSquaresModel" "isKept" "[Z", .fieldLink RX4 7 "SecretSquaresModel" "state" "[I", .fieldLink RX4 13 "SecretSquaresModel" "images" "[I", .methodLink RX4 41 yX4_in, .static yX4_in, .initialized RX4, .code yX4_in cX4_in 3 (some .boolean)] ++ wsX40)
def wsX4_count : List Cond := .code yX4_count cX4_count 2 (some .int) :: ([.fieldLink RX4 7 "SecretSquaresModel" "state" "[I", .fieldLink RX4 45 "SecretSquaresModel" "said" "I", .fieldLink RX4 16 "SecretSquaresModel" "isKept" "[Z", .methodLink RX4 41 yX4_in, .static yX4_in, .initialized RX4, .code yX4_in cX4_in 3 (some .boolean), .methodLink RX4 57 yX4_many, .instanceMethod yX4_many, .selects RX4 yX4_many yX4_many, .code yX4_many cX4_many 1 (some .int), .methodLink RX4 53 yX4_liked, .instanceMethod yX4_liked, .selects RX4 yX4_liked yX4_liked, .code yX4_liked cX4_liked 3 (some .int)] ++ wsX40)
def wsL_law_r1 : List Cond := [Cond.classLink RL 7 RX3, Cond.instantiable RX3 8, Cond.initialized RX3, Cond.classLink RL 10 RX4, Cond.instantiable RX4 12, Cond.initialized RX4, Cond.methodLink RL 9 yX3_init, Cond.instanceMethod yX3_init, Cond.code yX3_init cX3_init 2 none, Cond.methodLink RX3 1 objectInit, Cond.instanceMethod objectInit, Cond.code objectInit ⟨#[0xb1]⟩ 1 none, Cond.arrayClass .int, Cond.fieldLink RX3 9 "SecretSquares" "pad" "[I", Cond.classLink RX3 13 RX0, Cond.instantiable RX0 9, Cond.initialized RX0, Cond.fieldLink RX3 16 "SecretSquares" "desk" "LSecretSquares$Desk;", Cond.fieldLink RX3 20 "SecretSquares" "images" "[LSecretSquares$Desk;", Cond.classLink RX3 24 RX2, Cond.instantiable RX2 5, Cond.initialized RX2, Cond.fieldLink RX3 27 "SecretSquares" "worker" "LSecretSquares$Worker;", Cond.fieldLink RX3 31 "SecretSquares" "scores" "[I"]
def wsL_law_r2 : List Cond := [Cond.fieldLink RX3 34 "SecretSquares" "bestOrder" "[I", Cond.instanceMethod yX0_init, Cond.code yX0_init cX0_init 1 none, Cond.methodLink RX0 3 objectInit, Cond.fieldLink RX0 9 "SecretSquares$Desk" "text" "[I", Cond.fieldLink RX0 15 "SecretSquares$Desk" "key" "[I", Cond.fieldLink RX0 18 "SecretSquares$Desk" "keySize" "I", Cond.fieldLink RX0 22 "SecretSquares$Desk" "worth" "[I", Cond.fieldLink RX0 25 "SecretSquares$Desk" "liked" "[I", Cond.fieldLink RX0 28 "SecretSquares$Desk" "steps" "[I", Cond.fieldLink RX0 31 "SecretSquares$Desk" "stepSizes" "[I", Cond.instanceMethod yX2_init, Cond.code yX2_init cX2_init 1 none, Cond.methodLink RX2 3 objectInit, Cond.fieldLink RX2 9 "SecretSquares$Worker" "made" "[I", Cond.classLink RX2 15 RX1, Cond.instantiable RX1 2, Cond.initialized RX1, Cond.fieldLink RX2 18 "SecretSquares$Worker" "square" "LSecretSquares$Square;", Cond.fieldLink RX2 22 "SecretSquares$Worker" "order" "[I", Cond.fieldLink RX2 25 "SecretSquares$Worker" "readFrom" "[I", Cond.fieldLink RX2 28 "SecretSquares$Worker" "line" "[I", Cond.instanceMethod yX1_init, Cond.code yX1_init cX1_init 1 none]
def wsL_law_r3 : List Cond := [Cond.methodLink RX1 3 objectInit, Cond.fieldLink RX1 9 "SecretSquares$Square" "letters" "[I", Cond.fieldLink RX1 15 "SecretSquares$Square" "places" "[I", Cond.methodLink RL 12 yX4_init, Cond.instanceMethod yX4_init, Cond.code yX4_init cX4_init 1 none, Cond.methodLink RX4 1 objectInit, Cond.fieldLink RX4 7 "SecretSquaresModel" "state" "[I", Cond.fieldLink RX4 13 "SecretSquaresModel" "images" "[I", Cond.arrayClass .boolean, Cond.fieldLink RX4 16 "SecretSquaresModel" "isKept" "[Z", Cond.fieldLink RX4 20 "SecretSquaresModel" "pad" "[I", Cond.fieldLink RX4 23 "SecretSquaresModel" "text" "[I", Cond.fieldLink RX4 26 "SecretSquaresModel" "other" "[I", Cond.fieldLink RX4 29 "SecretSquaresModel" "square" "[I", Cond.fieldLink RX4 32 "SecretSquaresModel" "order" "[I", Cond.fieldLink RX4 35 "SecretSquaresModel" "from" "[I", Cond.fieldLink RX4 38 "SecretSquaresModel" "line" "[I", Cond.methodLink RL 13 yX3_say, Cond.instanceMethod yX3_say, Cond.selects RX3 yX3_say yX3_say, Cond.code yX3_say cX3_say 2 (some .int), Cond.fieldLink RX3 41 "SecretSquares" "padSize" "I", Cond.methodLink RX3 37 yX3_isOutside]
def wsL_law_r4 : List Cond := [Cond.static yX3_isOutside, Cond.code yX3_isOutside cX3_isOutside 3 (some .boolean), Cond.methodLink RL 17 yX4_say, Cond.instanceMethod yX4_say, Cond.selects RX4 yX4_say yX4_say, Cond.code yX4_say cX4_say 2 (some .int), Cond.fieldLink RX4 45 "SecretSquaresModel" "said" "I", Cond.methodLink RX4 41 yX4_in, Cond.static yX4_in, Cond.code yX4_in cX4_in 3 (some .boolean), Cond.methodLink RL 18 yX3_wipe, Cond.instanceMethod yX3_wipe, Cond.selects RX3 yX3_wipe yX3_wipe, Cond.code yX3_wipe cX3_wipe 2 (some .int), Cond.methodLink RL 22 yX4_wipe, Cond.instanceMethod yX4_wipe, Cond.selects RX4 yX4_wipe yX4_wipe, Cond.code yX4_wipe cX4_wipe 2 (some .int), Cond.methodLink RL 23 yX3_take, Cond.instanceMethod yX3_take, Cond.selects RX3 yX3_take yX3_take, Cond.code yX3_take cX3_take 2 (some .int), Cond.fieldLink RX3 49 "SecretSquares$Desk" "text" "[I", Cond.fieldLink RX3 56 "SecretSquares$Desk" "textSize" "I"]
def wsL_law_r5 : List Cond := [Cond.fieldLink RX3 59 "SecretSquares$Desk" "key" "[I", Cond.fieldLink RX3 62 "SecretSquares$Desk" "keySize" "I", Cond.methodLink RX3 45 yX3_padHasOnlyLetters, Cond.instanceMethod yX3_padHasOnlyLetters, Cond.selects RX3 yX3_padHasOnlyLetters yX3_padHasOnlyLetters, Cond.code yX3_padHasOnlyLetters cX3_padHasOnlyLetters 2 (some .boolean), Cond.methodLink RX3 69 yX3_isNoLetter, Cond.static yX3_isNoLetter, Cond.code yX3_isNoLetter cX3_isNoLetter 1 (some .boolean), Cond.methodLink RX3 52 yX3_readPadInto, Cond.instanceMethod yX3_readPadInto, Cond.selects RX3 yX3_readPadInto yX3_readPadInto, Cond.code yX3_readPadInto cX3_readPadInto 3 none, Cond.methodLink RX3 65 yX3_wipe, Cond.methodLink RL 26 yX4_take, Cond.instanceMethod yX4_take, Cond.selects RX4 yX4_take yX4_take, Cond.code yX4_take cX4_take 4 (some .int), Cond.methodLink RL 27 yX3_worth, Cond.instanceMethod yX3_worth, Cond.selects RX3 yX3_worth yX3_worth, Cond.code yX3_worth cX3_worth 4 (some .int), Cond.fieldLink RX3 73 "SecretSquares$Desk" "worth" "[I", Cond.methodLink RL 31 yX4_worth]
def wsL_law_r6 : List Cond := [Cond.instanceMethod yX4_worth, Cond.selects RX4 yX4_worth yX4_worth, Cond.code yX4_worth cX4_worth 4 (some .int), Cond.methodLink RX4 49 yX4_isLetter, Cond.static yX4_isLetter, Cond.code yX4_isLetter cX4_isLetter 1 (some .boolean), Cond.methodLink RL 32 yX3_like, Cond.instanceMethod yX3_like, Cond.selects RX3 yX3_like yX3_like, Cond.code yX3_like cX3_like 5 (some .int), Cond.fieldLink RX3 76 "SecretSquares$Desk" "liked" "[I", Cond.methodLink RX3 79 yX0_likedPairs, Cond.instanceMethod yX0_likedPairs, Cond.selects RX0 yX0_likedPairs yX0_likedPairs, Cond.code yX0_likedPairs cX0_likedPairs 3 (some .int), Cond.methodLink RX0 49 yJ6_bitCount_0f7a4, Cond.static yJ6_bitCount_0f7a4, Cond.initialized RJ6, Cond.code yJ6_bitCount_0f7a4 cJ6_bitCount_0f7a4 1 (some .int), Cond.constant RJ6 265 (1431655765), Cond.constant RJ6 266 (858993459), Cond.constant RJ6 267 (252645135), Cond.methodLink RL 36 yX4_like, Cond.instanceMethod yX4_like]
def wsL_law_r7 : List Cond := [Cond.selects RX4 yX4_like yX4_like, Cond.code yX4_like cX4_like 4 (some .int), Cond.methodLink RX4 53 yX4_liked, Cond.instanceMethod yX4_liked, Cond.selects RX4 yX4_liked yX4_liked, Cond.code yX4_liked cX4_liked 3 (some .int), Cond.methodLink RL 37 yX3_letter, Cond.instanceMethod yX3_letter, Cond.selects RX3 yX3_letter yX3_letter, Cond.code yX3_letter cX3_letter 3 (some .int), Cond.fieldLink RX3 86 "SecretSquares$Worker" "square" "LSecretSquares$Square;", Cond.fieldLink RX3 96 "SecretSquares$Square" "letters" "[I", Cond.methodLink RX3 82 yX3_letterAt, Cond.static yX3_letterAt, Cond.code yX3_letterAt cX3_letterAt 3 (some .int), Cond.methodLink RX3 90 yX1_layOut, Cond.instanceMethod yX1_layOut, Cond.selects RX1 yX1_layOut yX1_layOut, Cond.code yX1_layOut cX1_layOut 6 none, Cond.methodLink RX1 18 yX1_put, Cond.instanceMethod yX1_put, Cond.selects RX1 yX1_put yX1_put, Cond.code yX1_put cX1_put 3 none, Cond.methodLink RL 40 yX4_letter]
def wsL_law_r8 : List Cond := [Cond.instanceMethod yX4_letter, Cond.selects RX4 yX4_letter yX4_letter, Cond.code yX4_letter cX4_letter 4 (some .int), Cond.methodLink RX4 57 yX4_many, Cond.instanceMethod yX4_many, Cond.selects RX4 yX4_many yX4_many, Cond.code yX4_many cX4_many 1 (some .int), Cond.methodLink RX4 60 yX4_laySquare, Cond.instanceMethod yX4_laySquare, Cond.selects RX4 yX4_laySquare yX4_laySquare, Cond.code yX4_laySquare cX4_laySquare 5 none, Cond.methodLink RL 41 yX3_hide, Cond.instanceMethod yX3_hide, Cond.selects RX3 yX3_hide yX3_hide, Cond.code yX3_hide cX3_hide 2 (some .int), Cond.methodLink RX3 99 yX3_step, Cond.instanceMethod yX3_step, Cond.selects RX3 yX3_step yX3_step, Cond.code yX3_step cX3_step 5 (some .int), Cond.fieldLink RX3 168 "SecretSquares$Worker" "made" "[I", Cond.methodLink RX3 143 yX3_hasOddText, Cond.instanceMethod yX3_hasOddText, Cond.selects RX3 yX3_hasOddText yX3_hasOddText, Cond.code yX3_hasOddText cX3_hasOddText 1 (some .boolean)]
def wsL_law_r9 : List Cond := [Cond.methodLink RX3 161 yX2_work, Cond.instanceMethod yX2_work, Cond.selects RX2 yX2_work yX2_work, Cond.code yX2_work cX2_work 4 none, Cond.fieldLink RX2 35 "SecretSquares$Desk" "keySize" "I", Cond.fieldLink RX2 41 "SecretSquares$Desk" "key" "[I", Cond.fieldLink RX2 56 "SecretSquares$Desk" "textSize" "I", Cond.methodLink RX2 31 yX2_addKey, Cond.instanceMethod yX2_addKey, Cond.selects RX2 yX2_addKey yX2_addKey, Cond.code yX2_addKey cX2_addKey 7 none, Cond.fieldLink RX2 72 "SecretSquares$Desk" "text" "[I", Cond.methodLink RX2 44 yX1_layOut, Cond.methodLink RX2 48 yX2_changePairs, Cond.instanceMethod yX2_changePairs, Cond.selects RX2 yX2_changePairs yX2_changePairs, Cond.code yX2_changePairs cX2_changePairs 7 none, Cond.methodLink RX2 75 yX1_beside, Cond.instanceMethod yX1_beside, Cond.selects RX1 yX1_beside yX1_beside, Cond.code yX1_beside cX1_beside 6 (some .int), Cond.methodLink RX1 22 yX1_rowOf, Cond.instanceMethod yX1_rowOf, Cond.selects RX1 yX1_rowOf yX1_rowOf]
def wsL_law_r10 : List Cond := [Cond.code yX1_rowOf cX1_rowOf 2 (some .int), Cond.methodLink RX1 26 yX1_columnOf, Cond.instanceMethod yX1_columnOf, Cond.selects RX1 yX1_columnOf yX1_columnOf, Cond.code yX1_columnOf cX1_columnOf 2 (some .int), Cond.methodLink RX1 29 yX1_at, Cond.instanceMethod yX1_at, Cond.selects RX1 yX1_at yX1_at, Cond.code yX1_at cX1_at 3 (some .int), Cond.methodLink RX2 52 yX2_orderByKey, Cond.instanceMethod yX2_orderByKey, Cond.selects RX2 yX2_orderByKey yX2_orderByKey, Cond.code yX2_orderByKey cX2_orderByKey 5 none, Cond.methodLink RX2 59 yX2_readColumns, Cond.instanceMethod yX2_readColumns, Cond.selects RX2 yX2_readColumns yX2_readColumns, Cond.code yX2_readColumns cX2_readColumns 6 none, Cond.methodLink RX2 63 yX2_putInPlace, Cond.instanceMethod yX2_putInPlace, Cond.selects RX2 yX2_putInPlace yX2_putInPlace, Cond.code yX2_putInPlace cX2_putInPlace 4 none, Cond.methodLink RX2 66 yX2_readRails, Cond.instanceMethod yX2_readRails, Cond.selects RX2 yX2_readRails yX2_readRails]
def wsL_law_r11 : List Cond := [Cond.code yX2_readRails cX2_readRails 8 none, Cond.methodLink RX2 69 yX2_takeApart, Cond.instanceMethod yX2_takeApart, Cond.selects RX2 yX2_takeApart yX2_takeApart, Cond.code yX2_takeApart cX2_takeApart 5 none, Cond.methodLink RX2 82 yX2_rowPlace, Cond.static yX2_rowPlace, Cond.code yX2_rowPlace cX2_rowPlace 2 (some .int), Cond.methodLink RX2 86 yX1_rowOf, Cond.methodLink RX2 90 yX2_columnPlace, Cond.static yX2_columnPlace, Cond.code yX2_columnPlace cX2_columnPlace 3 (some .int), Cond.methodLink RX2 94 yX1_columnOf, Cond.methodLink RX2 97 yX1_at, Cond.methodLink RX3 165 yX0_keepStep, Cond.instanceMethod yX0_keepStep, Cond.selects RX0 yX0_keepStep yX0_keepStep, Cond.code yX0_keepStep cX0_keepStep 1 none, Cond.fieldLink RX0 43 "SecretSquares$Desk" "stepCount" "I", Cond.fieldLink RX0 40 "SecretSquares$Desk" "textSize" "I", Cond.methodLink RX0 34 arraycopyName, Cond.native arraycopyName, Cond.static arraycopyName, Cond.initialized "java/lang/System"]
def wsL_law_r12 : List Cond := [Cond.methodLink RX0 46 yX0_dropOldestStep, Cond.instanceMethod yX0_dropOldestStep, Cond.selects RX0 yX0_dropOldestStep yX0_dropOldestStep, Cond.code yX0_dropOldestStep cX0_dropOldestStep 1 none, Cond.methodLink RL 44 yX4_hide, Cond.instanceMethod yX4_hide, Cond.selects RX4 yX4_hide yX4_hide, Cond.code yX4_hide cX4_hide 2 (some .int), Cond.methodLink RX4 107 yX4_step, Cond.instanceMethod yX4_step, Cond.selects RX4 yX4_step yX4_step, Cond.code yX4_step cX4_step 5 (some .int), Cond.methodLink RX4 101 yX4_goWay, Cond.instanceMethod yX4_goWay, Cond.selects RX4 yX4_goWay yX4_goWay, Cond.code yX4_goWay cX4_goWay 4 none, Cond.methodLink RX4 78 yX4_shiftAll, Cond.instanceMethod yX4_shiftAll, Cond.selects RX4 yX4_shiftAll yX4_shiftAll, Cond.code yX4_shiftAll cX4_shiftAll 5 none, Cond.methodLink RX4 82 yX4_pairs, Cond.instanceMethod yX4_pairs, Cond.selects RX4 yX4_pairs yX4_pairs, Cond.code yX4_pairs cX4_pairs 3 none]
def wsL_law_r13 : List Cond := [Cond.methodLink RX4 74 yX4_pair, Cond.instanceMethod yX4_pair, Cond.selects RX4 yX4_pair yX4_pair, Cond.code yX4_pair cX4_pair 7 none, Cond.methodLink RX4 67 yX4_placeOf, Cond.instanceMethod yX4_placeOf, Cond.selects RX4 yX4_placeOf yX4_placeOf, Cond.code yX4_placeOf cX4_placeOf 3 (some .int), Cond.methodLink RX4 70 yX4_atSquare, Cond.instanceMethod yX4_atSquare, Cond.selects RX4 yX4_atSquare yX4_atSquare, Cond.code yX4_atSquare cX4_atSquare 3 (some .int), Cond.methodLink RX4 63 yX4_round, Cond.static yX4_round, Cond.code yX4_round cX4_round 1 (some .int), Cond.methodLink RX4 86 yX4_layKeyOrder, Cond.instanceMethod yX4_layKeyOrder, Cond.selects RX4 yX4_layKeyOrder yX4_layKeyOrder, Cond.code yX4_layKeyOrder cX4_layKeyOrder 4 none, Cond.methodLink RX4 89 yX4_layColumns, Cond.instanceMethod yX4_layColumns, Cond.selects RX4 yX4_layColumns yX4_layColumns, Cond.code yX4_layColumns cX4_layColumns 5 none, Cond.methodLink RX4 92 yX4_readBy]
def wsL_law_r14 : List Cond := [Cond.instanceMethod yX4_readBy, Cond.selects RX4 yX4_readBy yX4_readBy, Cond.code yX4_readBy cX4_readBy 3 none, Cond.methodLink RX4 95 yX4_layRails, Cond.instanceMethod yX4_layRails, Cond.selects RX4 yX4_layRails yX4_layRails, Cond.code yX4_layRails cX4_layRails 7 none, Cond.methodLink RX4 98 yX4_apart, Cond.instanceMethod yX4_apart, Cond.selects RX4 yX4_apart yX4_apart, Cond.code yX4_apart cX4_apart 5 none, Cond.methodLink RX4 104 yX4_keepStep, Cond.instanceMethod yX4_keepStep, Cond.selects RX4 yX4_keepStep yX4_keepStep, Cond.code yX4_keepStep cX4_keepStep 2 none, Cond.methodLink RL 45 yX3_find, Cond.instanceMethod yX3_find, Cond.selects RX3 yX3_find yX3_find, Cond.code yX3_find cX3_find 2 (some .int), Cond.methodLink RL 48 yX4_find, Cond.instanceMethod yX4_find, Cond.selects RX4 yX4_find yX4_find, Cond.code yX4_find cX4_find 2 (some .int), Cond.methodLink RL 49 yX3_undo]
def wsL_law_r15 : List Cond := [Cond.instanceMethod yX3_undo, Cond.selects RX3 yX3_undo yX3_undo, Cond.code yX3_undo cX3_undo 1 (some .int), Cond.fieldLink RX3 103 "SecretSquares$Desk" "stepCount" "I", Cond.methodLink RX3 106 yX0_takeStepBack, Cond.instanceMethod yX0_takeStepBack, Cond.selects RX0 yX0_takeStepBack yX0_takeStepBack, Cond.code yX0_takeStepBack cX0_takeStepBack 1 none, Cond.methodLink RL 52 yX4_undo, Cond.instanceMethod yX4_undo, Cond.selects RX4 yX4_undo yX4_undo, Cond.code yX4_undo cX4_undo 2 (some .int), Cond.methodLink RL 53 yX3_times, Cond.instanceMethod yX3_times, Cond.selects RX3 yX3_times yX3_times, Cond.code yX3_times cX3_times 4 (some .int), Cond.methodLink RL 56 yX4_times, Cond.instanceMethod yX4_times, Cond.selects RX4 yX4_times yX4_times, Cond.code yX4_times cX4_times 4 (some .int), Cond.methodLink RL 57 yX3_same, Cond.instanceMethod yX3_same, Cond.selects RX3 yX3_same yX3_same, Cond.code yX3_same cX3_same 2 (some .int)]
def wsL_law_r16 : List Cond := [Cond.methodLink RX3 109 yX3_sameAt, Cond.instanceMethod yX3_sameAt, Cond.selects RX3 yX3_sameAt yX3_sameAt, Cond.code yX3_sameAt cX3_sameAt 4 (some .int), Cond.methodLink RL 60 yX4_same, Cond.instanceMethod yX4_same, Cond.selects RX4 yX4_same yX4_same, Cond.code yX4_same cX4_same 2 (some .int), Cond.methodLink RX4 110 yX4_sameAt, Cond.instanceMethod yX4_sameAt, Cond.selects RX4 yX4_sameAt yX4_sameAt, Cond.code yX4_sameAt cX4_sameAt 4 (some .int), Cond.methodLink RL 61 yX3_length, Cond.instanceMethod yX3_length, Cond.selects RX3 yX3_length yX3_length, Cond.code yX3_length cX3_length 6 (some .int), Cond.methodLink RL 64 yX4_length, Cond.instanceMethod yX4_length, Cond.selects RX4 yX4_length yX4_length, Cond.code yX4_length cX4_length 5 (some .int), Cond.methodLink RL 65 yX3_shift, Cond.instanceMethod yX3_shift, Cond.selects RX3 yX3_shift yX3_shift, Cond.code yX3_shift cX3_shift 6 (some .int)]
def wsL_law_r17 : List Cond := [Cond.methodLink RX3 113 yX3_scoreOf, Cond.instanceMethod yX3_scoreOf, Cond.selects RX3 yX3_scoreOf yX3_scoreOf, Cond.code yX3_scoreOf cX3_scoreOf 6 (some .int), Cond.methodLink RX3 117 yX3_shiftRanked, Cond.instanceMethod yX3_shiftRanked, Cond.selects RX3 yX3_shiftRanked yX3_shiftRanked, Cond.code yX3_shiftRanked cX3_shiftRanked 3 (some .int), Cond.methodLink RX3 171 yX3_shiftsAheadOf, Cond.instanceMethod yX3_shiftsAheadOf, Cond.selects RX3 yX3_shiftsAheadOf yX3_shiftsAheadOf, Cond.code yX3_shiftsAheadOf cX3_shiftsAheadOf 4 (some .int), Cond.methodLink RL 69 yX4_shift, Cond.instanceMethod yX4_shift, Cond.selects RX4 yX4_shift yX4_shift, Cond.code yX4_shift cX4_shift 6 (some .int), Cond.methodLink RX4 117 yX4_rankOf, Cond.instanceMethod yX4_rankOf, Cond.selects RX4 yX4_rankOf yX4_rankOf, Cond.code yX4_rankOf cX4_rankOf 8 (some .int), Cond.methodLink RX4 113 yX4_score, Cond.instanceMethod yX4_score, Cond.selects RX4 yX4_score yX4_score, Cond.code yX4_score cX4_score 6 (some .int)]
def wsL_law_r18 : List Cond := [Cond.methodLink RL 70 yX3_good, Cond.instanceMethod yX3_good, Cond.selects RX3 yX3_good yX3_good, Cond.code yX3_good cX3_good 1 (some .int), Cond.methodLink RX3 120 yX0_likedIn, Cond.instanceMethod yX0_likedIn, Cond.selects RX0 yX0_likedIn yX0_likedIn, Cond.code yX0_likedIn cX0_likedIn 4 (some .int), Cond.methodLink RL 73 yX4_good, Cond.instanceMethod yX4_good, Cond.selects RX4 yX4_good yX4_good, Cond.code yX4_good cX4_good 1 (some .int), Cond.methodLink RX4 120 yX4_layText, Cond.instanceMethod yX4_layText, Cond.selects RX4 yX4_layText yX4_layText, Cond.code yX4_layText cX4_layText 2 none, Cond.methodLink RX4 123 yX4_goodOf, Cond.instanceMethod yX4_goodOf, Cond.selects RX4 yX4_goodOf yX4_goodOf, Cond.code yX4_goodOf cX4_goodOf 4 (some .int), Cond.methodLink RL 74 yX3_order, Cond.instanceMethod yX3_order, Cond.selects RX3 yX3_order yX3_order, Cond.code yX3_order cX3_order 8 (some .int)]
def wsL_law_r19 : List Cond := [Cond.fieldLink RX3 131 "SecretSquares$Worker" "order" "[I", Cond.methodLink RX3 134 arraycopyName, Cond.methodLink RX3 124 yX2_startOrder, Cond.instanceMethod yX2_startOrder, Cond.selects RX2 yX2_startOrder yX2_startOrder, Cond.code yX2_startOrder cX2_startOrder 3 none, Cond.methodLink RX3 128 yX3_goodByOrder, Cond.instanceMethod yX3_goodByOrder, Cond.selects RX3 yX3_goodByOrder yX3_goodByOrder, Cond.code yX3_goodByOrder cX3_goodByOrder 2 (some .int), Cond.methodLink RX3 174 yX2_readColumns, Cond.methodLink RX3 177 yX2_putInPlace, Cond.methodLink RX3 140 yX2_nextOrder, Cond.instanceMethod yX2_nextOrder, Cond.selects RX2 yX2_nextOrder yX2_nextOrder, Cond.code yX2_nextOrder cX2_nextOrder 6 (some .boolean), Cond.methodLink RX2 79 yX2_swapInOrder, Cond.instanceMethod yX2_swapInOrder, Cond.selects RX2 yX2_swapInOrder yX2_swapInOrder, Cond.code yX2_swapInOrder cX2_swapInOrder 4 none, Cond.methodLink RL 77 yX4_order, Cond.instanceMethod yX4_order, Cond.selects RX4 yX4_order yX4_order, Cond.code yX4_order cX4_order 8 (some .int)]
def wsL_law_r20 : List Cond := [Cond.methodLink RX4 130 yX4_orders, Cond.static yX4_orders, Cond.code yX4_orders cX4_orders 3 (some .int), Cond.methodLink RX4 133 yX4_goodBy, Cond.instanceMethod yX4_goodBy, Cond.selects RX4 yX4_goodBy yX4_goodBy, Cond.code yX4_goodBy cX4_goodBy 3 (some .int), Cond.methodLink RX4 127 yX4_layOrder, Cond.instanceMethod yX4_layOrder, Cond.selects RX4 yX4_layOrder yX4_layOrder, Cond.code yX4_layOrder cX4_layOrder 8 none, Cond.methodLink RL 78 yX3_climb, Cond.instanceMethod yX3_climb, Cond.selects RX3 yX3_climb yX3_climb, Cond.code yX3_climb cX3_climb 12 (some .int), Cond.constant RX3 149 (65537), Cond.methodLink RX3 146 yX3_goodByPairs, Cond.instanceMethod yX3_goodByPairs, Cond.selects RX3 yX3_goodByPairs yX3_goodByPairs, Cond.code yX3_goodByPairs cX3_goodByPairs 1 (some .int), Cond.methodLink RX3 181 yX2_changePairs, Cond.methodLink RX3 150 yX1_exchange, Cond.instanceMethod yX1_exchange, Cond.selects RX1 yX1_exchange yX1_exchange]
def wsL_law_r21 : List Cond := [Cond.code yX1_exchange cX1_exchange 4 none, Cond.methodLink RL 81 yX4_climb, Cond.instanceMethod yX4_climb, Cond.selects RX4 yX4_climb yX4_climb, Cond.code yX4_climb cX4_climb 5 (some .int), Cond.fieldLink RX4 139 "SecretSquaresModel" "kept" "I", Cond.methodLink RX4 146 yX4_goUp, Cond.instanceMethod yX4_goUp, Cond.selects RX4 yX4_goUp yX4_goUp, Cond.code yX4_goUp cX4_goUp 7 (some .int), Cond.constant RX4 142 (65537), Cond.methodLink RX4 136 yX4_goodByPairs, Cond.instanceMethod yX4_goodByPairs, Cond.selects RX4 yX4_goodByPairs yX4_goodByPairs, Cond.code yX4_goodByPairs cX4_goodByPairs 1 (some .int), Cond.methodLink RX4 143 yX4_swap, Cond.instanceMethod yX4_swap, Cond.selects RX4 yX4_swap yX4_swap, Cond.code yX4_swap cX4_swap 4 none, Cond.methodLink RL 82 yX3_image, Cond.instanceMethod yX3_image, Cond.selects RX3 yX3_image yX3_image, Cond.code yX3_image cX3_image 2 (some .int), Cond.fieldLink RX3 158 "SecretSquares" "keptImages" "I"]
def wsL_law_r22 : List Cond := [Cond.methodLink RX3 154 yX0_copyFrom, Cond.instanceMethod yX0_copyFrom, Cond.selects RX0 yX0_copyFrom yX0_copyFrom, Cond.code yX0_copyFrom cX0_copyFrom 2 none, Cond.methodLink RL 85 yX4_image, Cond.instanceMethod yX4_image, Cond.selects RX4 yX4_image yX4_image, Cond.code yX4_image cX4_image 3 (some .int), Cond.methodLink RL 86 yX3_restore, Cond.instanceMethod yX3_restore, Cond.selects RX3 yX3_restore yX3_restore, Cond.code yX3_restore cX3_restore 2 (some .int), Cond.methodLink RL 89 yX4_restore, Cond.instanceMethod yX4_restore, Cond.selects RX4 yX4_restore yX4_restore, Cond.code yX4_restore cX4_restore 3 (some .int), Cond.methodLink RL 90 yX3_count, Cond.instanceMethod yX3_count, Cond.selects RX3 yX3_count yX3_count, Cond.code yX3_count cX3_count 2 (some .int), Cond.methodLink RL 93 yX4_count, Cond.instanceMethod yX4_count, Cond.selects RX4 yX4_count yX4_count, Cond.code yX4_count cX4_count 2 (some .int)]
def wsL_law : List Cond := (wsL_law_r1 ++ (wsL_law_r2 ++ (wsL_law_r3 ++ (wsL_law_r4 ++ (wsL_law_r5 ++ (wsL_law_r6 ++ (wsL_law_r7 ++ (wsL_law_r8 ++ (wsL_law_r9 ++ (wsL_law_r10 ++ (wsL_law_r11 ++ (wsL_law_r12 ++ (wsL_law_r13 ++ (wsL_law_r14 ++ (wsL_law_r15 ++ (wsL_law_r16 ++ (wsL_law_r17 ++ (wsL_law_r18 ++ (wsL_law_r19 ++ (wsL_law_r20 ++ (wsL_law_r21 ++ wsL_law_r22))))))))))))))))))))) ++ wsX30 ++ wsX40 ++ wsX00 ++ wsX20 ++ wsX10 ++ ([] : List Cond)
theorem dX0_init_0 : decode cX0_init 0 = .ok (.aload_n 0, 1) := by decide +kernel
theorem dX0_init_1 : decode cX0_init 1 = .ok (.invokespecial 3, 3) := by decide +kernel
theorem dX0_init_4 : decode cX0_init 4 = .ok (.aload_n 0, 1) := by decide +kernel
theorem dX0_init_5 : decode cX0_init 5 = .ok (.bipush 48, 2) := by decide +kernel
theorem dX0_init_7 : decode cX0_init 7 = .ok (.newarray .int, 2) := by decide +kernel
theorem dX0_init_9 : decode cX0_init 9 = .ok (.putfield 9, 3) := by decide +kernel
theorem dX0_init_12 : decode cX0_init 12 = .ok (.aload_n 0, 1) := by decide +kernel
theorem dX0_init_13 : decode cX0_init 13 = .ok (.bipush 6, 2) := by decide +kernel
theorem dX0_init_15 : decode cX0_init 15 = .ok (.newarray .int, 2) := by decide +kernel
theorem dX0_init_17 : decode cX0_init 17 = .ok (.putfield 15, 3) := by decide +kernel
theorem dX0_init_20 : decode cX0_init 20 = .ok (.aload_n 0, 1) := by decide +kernel
theorem dX0_init_21 : decode cX0_init 21 = .ok (.iconst 1, 1) := by decide +kernel
theorem dX0_init_22 : decode cX0_init 22 = .ok (.putfield 18, 3) := by decide +kernel
theorem dX0_init_25 : decode cX0_init 25 = .ok (.aload_n 0, 1) := by decide +kernel
theorem dX0_init_26 : decode cX0_init 26 = .ok (.bipush 16, 2) := by decide +kernel
theorem dX0_init_28 : decode cX0_init 28 = .ok (.newarray .int, 2) := by decide +kernel
theorem dX0_init_30 : decode cX0_init 30 = .ok (.putfield 22, 3) := by decide +kernel
theorem dX0_init_33 : decode cX0_init 33 = .ok (.aload_n 0, 1) := by decide +kernel
theorem dX0_init_34 : decode cX0_init 34 = .ok (.bipush 16, 2) := by decide +kernel
theorem dX0_init_36 : decode cX0_init 36 = .ok (.newarray .int, 2) := by decide +kernel
theorem dX0_init_38 : decode cX0_init 38 = .ok (.putfield 25, 3) := by decide +kernel
theorem dX0_init_41 : decode cX0_init 41 = .ok (.aload_n 0, 1) := by decide +kernel
theorem dX0_init_42 : decode cX0_init 42 = .ok (.sipush 480, 3) := by decide +kernel
theorem dX0_init_45 : decode cX0_init 45 = .ok (.newarray .int, 2) := by decide +kernel
theorem dX0_init_47 : decode cX0_init 47 = .ok (.putfield 28, 3) := by decide +kernel
theorem dX0_init_50 : decode cX0_init 50 = .ok (.aload_n 0, 1) := by decide +kernel
theorem dX0_init_51 : decode cX0_init 51 = .ok (.bipush 10, 2) := by decide +kernel
theorem dX0_init_53 : decode cX0_init 53 = .ok (.newarray .int, 2) := by decide +kernel
theorem dX0_init_55 : decode cX0_init 55 = .ok (.putfield 31, 3) := by decide +kernel
theorem dX0_init_58 : decode cX0_init 58 = .ok (.return_, 1) := by decide +kernel
theorem dX0_copyFrom_0 : decode cX0_copyFrom 0 = .ok (.aload_n 1, 1) := by decide +kernel
theorem dX0_copyFrom_1 : decode cX0_copyFrom 1 = .ok (.getfield 9, 3) := by decide +kernel
theorem dX0_copyFrom_4 : decode cX0_copyFrom 4 = .ok (.iconst 0, 1) := by decide +kernel
theorem dX0_copyFrom_5 : decode cX0_copyFrom 5 = .ok (.aload_n 0, 1) := by decide +kernel
theorem dX0_copyFrom_6 : decode cX0_copyFrom 6 = .ok (.getfield 9, 3) := by decide +kernel
theorem dX0_copyFrom_9 : decode cX0_copyFrom 9 = .ok (.iconst 0, 1) := by decide +kernel
theorem dX0_copyFrom_10 : decode cX0_copyFrom 10 = .ok (.bipush 48, 2) := by decide +kernel
theorem dX0_copyFrom_12 : decode cX0_copyFrom 12 = .ok (.invokestatic 34, 3) := by decide +kernel
theorem dX0_copyFrom_15 : decode cX0_copyFrom 15 = .ok (.aload_n 0, 1) := by decide +kernel
theorem dX0_copyFrom_16 : decode cX0_copyFrom 16 = .ok (.aload_n 1, 1) := by decide +kernel
theorem dX0_copyFrom_17 : decode cX0_copyFrom 17 = .ok (.getfield 40, 3) := by decide +kernel
theorem dX0_copyFrom_20 : decode cX0_copyFrom 20 = .ok (.putfield 40, 3) := by decide +kernel
theorem dX0_copyFrom_23 : decode cX0_copyFrom 23 = .ok (.aload_n 1, 1) := by decide +kernel
theorem dX0_copyFrom_24 : decode cX0_copyFrom 24 = .ok (.getfield 15, 3) := by decide +kernel
theorem dX0_copyFrom_27 : decode cX0_copyFrom 27 = .ok (.iconst 0, 1) := by decide +kernel
theorem dX0_copyFrom_28 : decode cX0_copyFrom 28 = .ok (.aload_n 0, 1) := by decide +kernel
theorem dX0_copyFrom_29 : decode cX0_copyFrom 29 = .ok (.getfield 15, 3) := by decide +kernel
theorem dX0_copyFrom_32 : decode cX0_copyFrom 32 = .ok (.iconst 0, 1) := by decide +kernel
theorem dX0_copyFrom_33 : decode cX0_copyFrom 33 = .ok (.bipush 6, 2) := by decide +kernel
theorem dX0_copyFrom_35 : decode cX0_copyFrom 35 = .ok (.invokestatic 34, 3) := by decide +kernel
theorem dX0_copyFrom_38 : decode cX0_copyFrom 38 = .ok (.aload_n 0, 1) := by decide +kernel
theorem dX0_copyFrom_39 : decode cX0_copyFrom 39 = .ok (.aload_n 1, 1) := by decide +kernel
theorem dX0_copyFrom_40 : decode cX0_copyFrom 40 = .ok (.getfield 18, 3) := by decide +kernel
theorem dX0_copyFrom_43 : decode cX0_copyFrom 43 = .ok (.putfield 18, 3) := by decide +kernel
theorem dX0_copyFrom_46 : decode cX0_copyFrom 46 = .ok (.aload_n 1, 1) := by decide +kernel
theorem dX0_copyFrom_47 : decode cX0_copyFrom 47 = .ok (.getfield 22, 3) := by decide +kernel
theorem dX0_copyFrom_50 : decode cX0_copyFrom 50 = .ok (.iconst 0, 1) := by decide +kernel
theorem dX0_copyFrom_51 : decode cX0_copyFrom 51 = .ok (.aload_n 0, 1) := by decide +kernel
theorem dX0_copyFrom_52 : decode cX0_copyFrom 52 = .ok (.getfield 22, 3) := by decide +kernel
theorem dX0_copyFrom_55 : decode cX0_copyFrom 55 = .ok (.iconst 0, 1) := by decide +kernel
theorem dX0_copyFrom_56 : decode cX0_copyFrom 56 = .ok (.bipush 16, 2) := by decide +kernel
theorem dX0_copyFrom_58 : decode cX0_copyFrom 58 = .ok (.invokestatic 34, 3) := by decide +kernel
theorem dX0_copyFrom_61 : decode cX0_copyFrom 61 = .ok (.aload_n 1, 1) := by decide +kernel
theorem dX0_copyFrom_62 : decode cX0_copyFrom 62 = .ok (.getfield 25, 3) := by decide +kernel
theorem dX0_copyFrom_65 : decode cX0_copyFrom 65 = .ok (.iconst 0, 1) := by decide +kernel
theorem dX0_copyFrom_66 : decode cX0_copyFrom 66 = .ok (.aload_n 0, 1) := by decide +kernel
theorem dX0_copyFrom_67 : decode cX0_copyFrom 67 = .ok (.getfield 25, 3) := by decide +kernel
theorem dX0_copyFrom_70 : decode cX0_copyFrom 70 = .ok (.iconst 0, 1) := by decide +kernel
theorem dX0_copyFrom_71 : decode cX0_copyFrom 71 = .ok (.bipush 16, 2) := by decide +kernel
theorem dX0_copyFrom_73 : decode cX0_copyFrom 73 = .ok (.invokestatic 34, 3) := by decide +kernel
theorem dX0_copyFrom_76 : decode cX0_copyFrom 76 = .ok (.aload_n 1, 1) := by decide +kernel
theorem dX0_copyFrom_77 : decode cX0_copyFrom 77 = .ok (.getfield 28, 3) := by decide +kernel
theorem dX0_copyFrom_80 : decode cX0_copyFrom 80 = .ok (.iconst 0, 1) := by decide +kernel
theorem dX0_copyFrom_81 : decode cX0_copyFrom 81 = .ok (.aload_n 0, 1) := by decide +kernel
theorem dX0_copyFrom_82 : decode cX0_copyFrom 82 = .ok (.getfield 28, 3) := by decide +kernel
theorem dX0_copyFrom_85 : decode cX0_copyFrom 85 = .ok (.iconst 0, 1) := by decide +kernel
theorem dX0_copyFrom_86 : decode cX0_copyFrom 86 = .ok (.sipush 480, 3) := by decide +kernel
theorem dX0_copyFrom_89 : decode cX0_copyFrom 89 = .ok (.invokestatic 34, 3) := by decide +kernel
theorem dX0_copyFrom_92 : decode cX0_copyFrom 92 = .ok (.aload_n 1, 1) := by decide +kernel
theorem dX0_copyFrom_93 : decode cX0_copyFrom 93 = .ok (.getfield 31, 3) := by decide +kernel
theorem dX0_copyFrom_96 : decode cX0_copyFrom 96 = .ok (.iconst 0, 1) := by decide +kernel
theorem dX0_copyFrom_97 : decode cX0_copyFrom 97 = .ok (.aload_n 0, 1) := by decide +kernel
theorem dX0_copyFrom_98 : decode cX0_copyFrom 98 = .ok (.getfield 31, 3) := by decide +kernel
theorem dX0_copyFrom_101 : decode cX0_copyFrom 101 = .ok (.iconst 0, 1) := by decide +kernel
theorem dX0_copyFrom_102 : decode cX0_copyFrom 102 = .ok (.bipush 10, 2) := by decide +kernel
theorem dX0_copyFrom_104 : decode cX0_copyFrom 104 = .ok (.invokestatic 34, 3) := by decide +kernel
theorem dX0_copyFrom_107 : decode cX0_copyFrom 107 = .ok (.aload_n 0, 1) := by decide +kernel
theorem dX0_copyFrom_108 : decode cX0_copyFrom 108 = .ok (.aload_n 1, 1) := by decide +kernel
theorem dX0_copyFrom_109 : decode cX0_copyFrom 109 = .ok (.getfield 43, 3) := by decide +kernel
theorem dX0_copyFrom_112 : decode cX0_copyFrom 112 = .ok (.putfield 43, 3) := by decide +kernel
theorem dX0_copyFrom_115 : decode cX0_copyFrom 115 = .ok (.return_, 1) := by decide +kernel
set_option maxRecDepth 20000 in
theorem ggX0_keepStep_X0_dropOldestStep : GoodIn wsX0_keepStep wsX0_dropOldestStep := goodIn_r _ [14, 3, 5, 6, 7, 8, 9, 1, 15, 16, 17, 18, 19, 20, 21, 22, 23] (by decide +kernel) (by decide +kernel)
set_option maxRecDepth 20000 in
theorem gX0_keepStep_X0_dropOldestStep : GoodIn wsX0_keepStep (wsV RX0 46 RX0 yX0_dropOldestStep wsX0_dropOldestStep) := goodIn_app (goodIn_of _ (by decide +kernel)) ggX0_keepStep_X0_dropOldestStep
theorem dX0_keepStep_0 : decode cX0_keepStep 0 = .ok (.aload_n 0, 1) := by decide +kernel
theorem dX0_keepStep_1 : decode cX0_keepStep 1 = .ok (.getfield 43, 3) := by decide +kernel
theorem dX0_keepStep_4 : decode cX0_keepStep 4 = .ok (.bipush 10, 2) := by decide +kernel
theorem dX0_keepStep_6 : decode cX0_keepStep 6 = .ok (.if_icmp .lt 7, 3) := by decide +kernel
theorem dX0_keepStep_9 : decode cX0_keepStep 9 = .ok (.aload_n 0, 1) := by decide +kernel
theorem dX0_keepStep_10 : decode cX0_keepStep 10 = .ok (.invokevirtual 46, 3) := by decide +kernel
theorem dX0_keepStep_13 : decode cX0_keepStep 13 = .ok (.aload_n 0, 1) := by decide +kernel
theorem dX0_keepStep_14 : decode cX0_keepStep 14 = .ok (.getfield 9, 3) := by decide +kernel
theorem dX0_keepStep_17 : decode cX0_keepStep 17 = .ok (.iconst 0, 1) := by decide +kernel
theorem dX0_keepStep_18 : decode cX0_keepStep 18 = .ok (.aload_n 0, 1) := by decide +kernel
theorem dX0_keepStep_19 : decode cX0_keepStep 19 = .ok (.getfield 28, 3) := by decide +kernel
theorem dX0_keepStep_22 : decode cX0_keepStep 22 = .ok (.aload_n 0, 1) := by decide +kernel
theorem dX0_keepStep_23 : decode cX0_keepStep 23 = .ok (.getfield 43, 3) := by decide +kernel
theorem dX0_keepStep_26 : decode cX0_keepStep 26 = .ok (.bipush 48, 2) := by decide +kernel
theorem dX0_keepStep_28 : decode cX0_keepStep 28 = .ok (.imul, 1) := by decide +kernel
theorem dX0_keepStep_29 : decode cX0_keepStep 29 = .ok (.aload_n 0, 1) := by decide +kernel
theorem dX0_keepStep_30 : decode cX0_keepStep 30 = .ok (.getfield 40, 3) := by decide +kernel
theorem dX0_keepStep_33 : decode cX0_keepStep 33 = .ok (.invokestatic 34, 3) := by decide +kernel
theorem dX0_keepStep_36 : decode cX0_keepStep 36 = .ok (.aload_n 0, 1) := by decide +kernel
theorem dX0_keepStep_37 : decode cX0_keepStep 37 = .ok (.getfield 31, 3) := by decide +kernel
theorem dX0_keepStep_40 : decode cX0_keepStep 40 = .ok (.aload_n 0, 1) := by decide +kernel
theorem dX0_keepStep_41 : decode cX0_keepStep 41 = .ok (.getfield 43, 3) := by decide +kernel
theorem dX0_keepStep_44 : decode cX0_keepStep 44 = .ok (.aload_n 0, 1) := by decide +kernel
theorem dX0_keepStep_45 : decode cX0_keepStep 45 = .ok (.getfield 40, 3) := by decide +kernel
theorem dX0_keepStep_48 : decode cX0_keepStep 48 = .ok (.iastore, 1) := by decide +kernel
theorem dX0_keepStep_49 : decode cX0_keepStep 49 = .ok (.aload_n 0, 1) := by decide +kernel
theorem dX0_keepStep_50 : decode cX0_keepStep 50 = .ok (.dup, 1) := by decide +kernel
theorem dX0_keepStep_51 : decode cX0_keepStep 51 = .ok (.getfield 43, 3) := by decide +kernel
theorem dX0_keepStep_54 : decode cX0_keepStep 54 = .ok (.iconst 1, 1) := by decide +kernel
theorem dX0_keepStep_55 : decode cX0_keepStep 55 = .ok (.iadd, 1) := by decide +kernel
theorem dX0_keepStep_56 : decode cX0_keepStep 56 = .ok (.putfield 43, 3) := by decide +kernel
theorem dX0_keepStep_59 : decode cX0_keepStep 59 = .ok (.return_, 1) := by decide +kernel
theorem dX0_dropOldestStep_0 : decode cX0_dropOldestStep 0 = .ok (.aload_n 0, 1) := by decide +kernel
theorem dX0_dropOldestStep_1 : decode cX0_dropOldestStep 1 = .ok (.getfield 28, 3) := by decide +kernel
theorem dX0_dropOldestStep_4 : decode cX0_dropOldestStep 4 = .ok (.bipush 48, 2) := by decide +kernel
theorem dX0_dropOldestStep_6 : decode cX0_dropOldestStep 6 = .ok (.aload_n 0, 1) := by decide +kernel
theorem dX0_dropOldestStep_7 : decode cX0_dropOldestStep 7 = .ok (.getfield 28, 3) := by decide +kernel
theorem dX0_dropOldestStep_10 : decode cX0_dropOldestStep 10 = .ok (.iconst 0, 1) := by decide +kernel
theorem dX0_dropOldestStep_11 : decode cX0_dropOldestStep 11 = .ok (.sipush 432, 3) := by decide +kernel
theorem dX0_dropOldestStep_14 : decode cX0_dropOldestStep 14 = .ok (.invokestatic 34, 3) := by decide +kernel
theorem dX0_dropOldestStep_17 : decode cX0_dropOldestStep 17 = .ok (.aload_n 0, 1) := by decide +kernel
theorem dX0_dropOldestStep_18 : decode cX0_dropOldestStep 18 = .ok (.getfield 31, 3) := by decide +kernel
theorem dX0_dropOldestStep_21 : decode cX0_dropOldestStep 21 = .ok (.iconst 1, 1) := by decide +kernel
theorem dX0_dropOldestStep_22 : decode cX0_dropOldestStep 22 = .ok (.aload_n 0, 1) := by decide +kernel
theorem dX0_dropOldestStep_23 : decode cX0_dropOldestStep 23 = .ok (.getfield 31, 3) := by decide +kernel
theorem dX0_dropOldestStep_26 : decode cX0_dropOldestStep 26 = .ok (.iconst 0, 1) := by decide +kernel
theorem dX0_dropOldestStep_27 : decode cX0_dropOldestStep 27 = .ok (.bipush 9, 2) := by decide +kernel
theorem dX0_dropOldestStep_29 : decode cX0_dropOldestStep 29 = .ok (.invokestatic 34, 3) := by decide +kernel
theorem dX0_dropOldestStep_32 : decode cX0_dropOldestStep 32 = .ok (.aload_n 0, 1) := by decide +kernel
theorem dX0_dropOldestStep_33 : decode cX0_dropOldestStep 33 = .ok (.bipush 9, 2) := by decide +kernel
theorem dX0_dropOldestStep_35 : decode cX0_dropOldestStep 35 = .ok (.putfield 43, 3) := by decide +kernel
theorem dX0_dropOldestStep_38 : decode cX0_dropOldestStep 38 = .ok (.return_, 1) := by decide +kernel
theorem dX0_takeStepBack_0 : decode cX0_takeStepBack 0 = .ok (.aload_n 0, 1) := by decide +kernel
theorem dX0_takeStepBack_1 : decode cX0_takeStepBack 1 = .ok (.getfield 43, 3) := by decide +kernel
theorem dX0_takeStepBack_4 : decode cX0_takeStepBack 4 = .ok (.ifCond .ne 4, 3) := by decide +kernel
theorem dX0_takeStepBack_7 : decode cX0_takeStepBack 7 = .ok (.return_, 1) := by decide +kernel
theorem dX0_takeStepBack_8 : decode cX0_takeStepBack 8 = .ok (.aload_n 0, 1) := by decide +kernel
theorem dX0_takeStepBack_9 : decode cX0_takeStepBack 9 = .ok (.dup, 1) := by decide +kernel
theorem dX0_takeStepBack_10 : decode cX0_takeStepBack 10 = .ok (.getfield 43, 3) := by decide +kernel
theorem dX0_takeStepBack_13 : decode cX0_takeStepBack 13 = .ok (.iconst 1, 1) := by decide +kernel
theorem dX0_takeStepBack_14 : decode cX0_takeStepBack 14 = .ok (.isub, 1) := by decide +kernel
theorem dX0_takeStepBack_15 : decode cX0_takeStepBack 15 = .ok (.putfield 43, 3) := by decide +kernel
theorem dX0_takeStepBack_18 : decode cX0_takeStepBack 18 = .ok (.aload_n 0, 1) := by decide +kernel
theorem dX0_takeStepBack_19 : decode cX0_takeStepBack 19 = .ok (.aload_n 0, 1) := by decide +kernel
theorem dX0_takeStepBack_20 : decode cX0_takeStepBack 20 = .ok (.getfield 31, 3) := by decide +kernel
theorem dX0_takeStepBack_23 : decode cX0_takeStepBack 23 = .ok (.aload_n 0, 1) := by decide +kernel
theorem dX0_takeStepBack_24 : decode cX0_takeStepBack 24 = .ok (.getfield 43, 3) := by decide +kernel
theorem dX0_takeStepBack_27 : decode cX0_takeStepBack 27 = .ok (.iaload, 1) := by decide +kernel
theorem dX0_takeStepBack_28 : decode cX0_takeStepBack 28 = .ok (.putfield 40, 3) := by decide +kernel
theorem dX0_takeStepBack_31 : decode cX0_takeStepBack 31 = .ok (.aload_n 0, 1) := by decide +kernel
theorem dX0_takeStepBack_32 : decode cX0_takeStepBack 32 = .ok (.getfield 28, 3) := by decide +kernel
theorem dX0_takeStepBack_35 : decode cX0_takeStepBack 35 = .ok (.aload_n 0, 1) := by decide +kernel
theorem dX0_takeStepBack_36 : decode cX0_takeStepBack 36 = .ok (.getfield 43, 3) := by decide +kernel
theorem dX0_takeStepBack_39 : decode cX0_takeStepBack 39 = .ok (.bipush 48, 2) := by decide +kernel
theorem dX0_takeStepBack_41 : decode cX0_takeStepBack 41 = .ok (.imul, 1) := by decide +kernel
theorem dX0_takeStepBack_42 : decode cX0_takeStepBack 42 = .ok (.aload_n 0, 1) := by decide +kernel
theorem dX0_takeStepBack_43 : decode cX0_takeStepBack 43 = .ok (.getfield 9, 3) := by decide +kernel
theorem dX0_takeStepBack_46 : decode cX0_takeStepBack 46 = .ok (.iconst 0, 1) := by decide +kernel
theorem dX0_takeStepBack_47 : decode cX0_takeStepBack 47 = .ok (.aload_n 0, 1) := by decide +kernel
theorem dX0_takeStepBack_48 : decode cX0_takeStepBack 48 = .ok (.getfield 40, 3) := by decide +kernel
theorem dX0_takeStepBack_51 : decode cX0_takeStepBack 51 = .ok (.invokestatic 34, 3) := by decide +kernel
theorem dX0_takeStepBack_54 : decode cX0_takeStepBack 54 = .ok (.return_, 1) := by decide +kernel
set_option maxRecDepth 20000 in
theorem ggX0_likedPairs_J6_bitCount_0f7a4 : GoodIn wsX0_likedPairs wsJ6_bitCount_0f7a4 := goodIn_r _ [5, 6, 7, 8] (by decide +kernel) (by decide +kernel)
set_option maxRecDepth 20000 in
theorem gX0_likedPairs_J6_bitCount_0f7a4 : GoodIn wsX0_likedPairs (va_wsS RX0 49 yJ6_bitCount_0f7a4 wsJ6_bitCount_0f7a4) := goodIn_app (goodIn_of _ (by decide +kernel)) ggX0_likedPairs_J6_bitCount_0f7a4
theorem dX0_likedPairs_0 : decode cX0_likedPairs 0 = .ok (.iconst 0, 1) := by decide +kernel
theorem dX0_likedPairs_1 : decode cX0_likedPairs 1 = .ok (.istore_n 1, 1) := by decide +kernel
theorem dX0_likedPairs_2 : decode cX0_likedPairs 2 = .ok (.iconst 0, 1) := by decide +kernel
theorem dX0_likedPairs_3 : decode cX0_likedPairs 3 = .ok (.istore_n 2, 1) := by decide +kernel
theorem dX0_likedPairs_4 : decode cX0_likedPairs 4 = .ok (.iload_n 2, 1) := by decide +kernel
theorem dX0_likedPairs_5 : decode cX0_likedPairs 5 = .ok (.bipush 16, 2) := by decide +kernel
theorem dX0_likedPairs_7 : decode cX0_likedPairs 7 = .ok (.if_icmp .ge 21, 3) := by decide +kernel
theorem dX0_likedPairs_10 : decode cX0_likedPairs 10 = .ok (.iload_n 1, 1) := by decide +kernel
theorem dX0_likedPairs_11 : decode cX0_likedPairs 11 = .ok (.aload_n 0, 1) := by decide +kernel
theorem dX0_likedPairs_12 : decode cX0_likedPairs 12 = .ok (.getfield 25, 3) := by decide +kernel
theorem dX0_likedPairs_15 : decode cX0_likedPairs 15 = .ok (.iload_n 2, 1) := by decide +kernel
theorem dX0_likedPairs_16 : decode cX0_likedPairs 16 = .ok (.iaload, 1) := by decide +kernel
theorem dX0_likedPairs_17 : decode cX0_likedPairs 17 = .ok (.invokestatic 49, 3) := by decide +kernel
theorem dX0_likedPairs_20 : decode cX0_likedPairs 20 = .ok (.iadd, 1) := by decide +kernel
theorem dX0_likedPairs_21 : decode cX0_likedPairs 21 = .ok (.istore_n 1, 1) := by decide +kernel
theorem dX0_likedPairs_22 : decode cX0_likedPairs 22 = .ok (.iinc 2 1, 3) := by decide +kernel
theorem dX0_likedPairs_25 : decode cX0_likedPairs 25 = .ok (.goto (-21), 3) := by decide +kernel
theorem dX0_likedPairs_28 : decode cX0_likedPairs 28 = .ok (.iload_n 1, 1) := by decide +kernel
theorem dX0_likedPairs_29 : decode cX0_likedPairs 29 = .ok (.ireturn, 1) := by decide +kernel
theorem dX0_likedIn_0 : decode cX0_likedIn 0 = .ok (.iconst 0, 1) := by decide +kernel
theorem dX0_likedIn_1 : decode cX0_likedIn 1 = .ok (.istore_n 2, 1) := by decide +kernel
theorem dX0_likedIn_2 : decode cX0_likedIn 2 = .ok (.iconst 1, 1) := by decide +kernel
theorem dX0_likedIn_3 : decode cX0_likedIn 3 = .ok (.istore_n 3, 1) := by decide +kernel
theorem dX0_likedIn_4 : decode cX0_likedIn 4 = .ok (.iload_n 3, 1) := by decide +kernel
theorem dX0_likedIn_5 : decode cX0_likedIn 5 = .ok (.aload_n 0, 1) := by decide +kernel
theorem dX0_likedIn_6 : decode cX0_likedIn 6 = .ok (.getfield 40, 3) := by decide +kernel
theorem dX0_likedIn_9 : decode cX0_likedIn 9 = .ok (.if_icmp .ge 28, 3) := by decide +kernel
theorem dX0_likedIn_12 : decode cX0_likedIn 12 = .ok (.iload_n 2, 1) := by decide +kernel
theorem dX0_likedIn_13 : decode cX0_likedIn 13 = .ok (.aload_n 0, 1) := by decide +kernel
theorem dX0_likedIn_14 : decode cX0_likedIn 14 = .ok (.getfield 25, 3) := by decide +kernel
theorem dX0_likedIn_17 : decode cX0_likedIn 17 = .ok (.aload_n 1, 1) := by decide +kernel
theorem dX0_likedIn_18 : decode cX0_likedIn 18 = .ok (.iload_n 3, 1) := by decide +kernel
theorem dX0_likedIn_19 : decode cX0_likedIn 19 = .ok (.iconst 1, 1) := by decide +kernel
theorem dX0_likedIn_20 : decode cX0_likedIn 20 = .ok (.isub, 1) := by decide +kernel
theorem dX0_likedIn_21 : decode cX0_likedIn 21 = .ok (.iaload, 1) := by decide +kernel
theorem dX0_likedIn_22 : decode cX0_likedIn 22 = .ok (.iaload, 1) := by decide +kernel
theorem dX0_likedIn_23 : decode cX0_likedIn 23 = .ok (.aload_n 1, 1) := by decide +kernel
theorem dX0_likedIn_24 : decode cX0_likedIn 24 = .ok (.iload_n 3, 1) := by decide +kernel
theorem dX0_likedIn_25 : decode cX0_likedIn 25 = .ok (.iaload, 1) := by decide +kernel
theorem dX0_likedIn_26 : decode cX0_likedIn 26 = .ok (.ishr, 1) := by decide +kernel
theorem dX0_likedIn_27 : decode cX0_likedIn 27 = .ok (.iconst 1, 1) := by decide +kernel
theorem dX0_likedIn_28 : decode cX0_likedIn 28 = .ok (.iand, 1) := by decide +kernel
theorem dX0_likedIn_29 : decode cX0_likedIn 29 = .ok (.iadd, 1) := by decide +kernel
theorem dX0_likedIn_30 : decode cX0_likedIn 30 = .ok (.istore_n 2, 1) := by decide +kernel
theorem dX0_likedIn_31 : decode cX0_likedIn 31 = .ok (.iinc 3 1, 3) := by decide +kernel
theorem dX0_likedIn_34 : decode cX0_likedIn 34 = .ok (.goto (-30), 3) := by decide +kernel
theorem dX0_likedIn_37 : decode cX0_likedIn 37 = .ok (.iload_n 2, 1) := by decide +kernel
theorem dX0_likedIn_38 : decode cX0_likedIn 38 = .ok (.ireturn, 1) := by decide +kernel
theorem dX1_init_0 : decode cX1_init 0 = .ok (.aload_n 0, 1) := by decide +kernel
theorem dX1_init_1 : decode cX1_init 1 = .ok (.invokespecial 3, 3) := by decide +kernel
theorem dX1_init_4 : decode cX1_init 4 = .ok (.aload_n 0, 1) := by decide +kernel
theorem dX1_init_5 : decode cX1_init 5 = .ok (.bipush 16, 2) := by decide +kernel
theorem dX1_init_7 : decode cX1_init 7 = .ok (.newarray .int, 2) := by decide +kernel
theorem dX1_init_9 : decode cX1_init 9 = .ok (.putfield 9, 3) := by decide +kernel
theorem dX1_init_12 : decode cX1_init 12 = .ok (.aload_n 0, 1) := by decide +kernel
theorem dX1_init_13 : decode cX1_init 13 = .ok (.bipush 16, 2) := by decide +kernel
theorem dX1_init_15 : decode cX1_init 15 = .ok (.newarray .int, 2) := by decide +kernel
theorem dX1_init_17 : decode cX1_init 17 = .ok (.putfield 15, 3) := by decide +kernel
theorem dX1_init_20 : decode cX1_init 20 = .ok (.return_, 1) := by decide +kernel
set_option maxRecDepth 20000 in
theorem ggX1_layOut_X1_put : GoodIn wsX1_layOut wsX1_put := goodIn_r _ [5, 6, 7, 8, 9] (by decide +kernel) (by decide +kernel)
set_option maxRecDepth 20000 in
theorem gX1_layOut_X1_put : GoodIn wsX1_layOut (wsV RX1 18 RX1 yX1_put wsX1_put) := goodIn_app (goodIn_of _ (by decide +kernel)) ggX1_layOut_X1_put
theorem dX1_layOut_0 : decode cX1_layOut 0 = .ok (.iconst 0, 1) := by decide +kernel
theorem dX1_layOut_1 : decode cX1_layOut 1 = .ok (.istore_n 3, 1) := by decide +kernel
theorem dX1_layOut_2 : decode cX1_layOut 2 = .ok (.iconst 0, 1) := by decide +kernel
theorem dX1_layOut_3 : decode cX1_layOut 3 = .ok (.istore 4, 2) := by decide +kernel
theorem dX1_layOut_5 : decode cX1_layOut 5 = .ok (.iconst 0, 1) := by decide +kernel
theorem dX1_layOut_6 : decode cX1_layOut 6 = .ok (.istore 5, 2) := by decide +kernel
theorem dX1_layOut_8 : decode cX1_layOut 8 = .ok (.iload 5, 2) := by decide +kernel
theorem dX1_layOut_10 : decode cX1_layOut 10 = .ok (.iload_n 2, 1) := by decide +kernel
theorem dX1_layOut_11 : decode cX1_layOut 11 = .ok (.if_icmp .ge 44, 3) := by decide +kernel
theorem dX1_layOut_14 : decode cX1_layOut 14 = .ok (.iload 4, 2) := by decide +kernel
theorem dX1_layOut_16 : decode cX1_layOut 16 = .ok (.aload_n 1, 1) := by decide +kernel
theorem dX1_layOut_17 : decode cX1_layOut 17 = .ok (.iload 5, 2) := by decide +kernel
theorem dX1_layOut_19 : decode cX1_layOut 19 = .ok (.iaload, 1) := by decide +kernel
theorem dX1_layOut_20 : decode cX1_layOut 20 = .ok (.ishr, 1) := by decide +kernel
theorem dX1_layOut_21 : decode cX1_layOut 21 = .ok (.iconst 1, 1) := by decide +kernel
theorem dX1_layOut_22 : decode cX1_layOut 22 = .ok (.iand, 1) := by decide +kernel
theorem dX1_layOut_23 : decode cX1_layOut 23 = .ok (.ifCond .ne 26, 3) := by decide +kernel
theorem dX1_layOut_26 : decode cX1_layOut 26 = .ok (.iload 4, 2) := by decide +kernel
theorem dX1_layOut_28 : decode cX1_layOut 28 = .ok (.iconst 1, 1) := by decide +kernel
theorem dX1_layOut_29 : decode cX1_layOut 29 = .ok (.aload_n 1, 1) := by decide +kernel
theorem dX1_layOut_30 : decode cX1_layOut 30 = .ok (.iload 5, 2) := by decide +kernel
theorem dX1_layOut_32 : decode cX1_layOut 32 = .ok (.iaload, 1) := by decide +kernel
theorem dX1_layOut_33 : decode cX1_layOut 33 = .ok (.ishl, 1) := by decide +kernel
theorem dX1_layOut_34 : decode cX1_layOut 34 = .ok (.ior, 1) := by decide +kernel
theorem dX1_layOut_35 : decode cX1_layOut 35 = .ok (.istore 4, 2) := by decide +kernel
theorem dX1_layOut_37 : decode cX1_layOut 37 = .ok (.aload_n 0, 1) := by decide +kernel
theorem dX1_layOut_38 : decode cX1_layOut 38 = .ok (.aload_n 1, 1) := by decide +kernel
theorem dX1_layOut_39 : decode cX1_layOut 39 = .ok (.iload 5, 2) := by decide +kernel
theorem dX1_layOut_41 : decode cX1_layOut 41 = .ok (.iaload, 1) := by decide +kernel
theorem dX1_layOut_42 : decode cX1_layOut 42 = .ok (.iload_n 3, 1) := by decide +kernel
theorem dX1_layOut_43 : decode cX1_layOut 43 = .ok (.invokevirtual 18, 3) := by decide +kernel
theorem dX1_layOut_46 : decode cX1_layOut 46 = .ok (.iinc 3 1, 3) := by decide +kernel
theorem dX1_layOut_49 : decode cX1_layOut 49 = .ok (.iinc 5 1, 3) := by decide +kernel
theorem dX1_layOut_52 : decode cX1_layOut 52 = .ok (.goto (-44), 3) := by decide +kernel
theorem dX1_layOut_55 : decode cX1_layOut 55 = .ok (.iconst 0, 1) := by decide +kernel
theorem dX1_layOut_56 : decode cX1_layOut 56 = .ok (.istore 5, 2) := by decide +kernel
theorem dX1_layOut_58 : decode cX1_layOut 58 = .ok (.iload 5, 2) := by decide +kernel
theorem dX1_layOut_60 : decode cX1_layOut 60 = .ok (.bipush 16, 2) := by decide +kernel
theorem dX1_layOut_62 : decode cX1_layOut 62 = .ok (.if_icmp .ge 29, 3) := by decide +kernel
theorem dX1_layOut_65 : decode cX1_layOut 65 = .ok (.iload 4, 2) := by decide +kernel
theorem dX1_layOut_67 : decode cX1_layOut 67 = .ok (.iload 5, 2) := by decide +kernel
theorem dX1_layOut_69 : decode cX1_layOut 69 = .ok (.ishr, 1) := by decide +kernel
theorem dX1_layOut_70 : decode cX1_layOut 70 = .ok (.iconst 1, 1) := by decide +kernel
theorem dX1_layOut_71 : decode cX1_layOut 71 = .ok (.iand, 1) := by decide +kernel
theorem dX1_layOut_72 : decode cX1_layOut 72 = .ok (.ifCond .ne 13, 3) := by decide +kernel
theorem dX1_layOut_75 : decode cX1_layOut 75 = .ok (.aload_n 0, 1) := by decide +kernel
theorem dX1_layOut_76 : decode cX1_layOut 76 = .ok (.iload 5, 2) := by decide +kernel
theorem dX1_layOut_78 : decode cX1_layOut 78 = .ok (.iload_n 3, 1) := by decide +kernel
theorem dX1_layOut_79 : decode cX1_layOut 79 = .ok (.invokevirtual 18, 3) := by decide +kernel
theorem dX1_layOut_82 : decode cX1_layOut 82 = .ok (.iinc 3 1, 3) := by decide +kernel
theorem dX1_layOut_85 : decode cX1_layOut 85 = .ok (.iinc 5 1, 3) := by decide +kernel
theorem dX1_layOut_88 : decode cX1_layOut 88 = .ok (.goto (-30), 3) := by decide +kernel
theorem dX1_layOut_91 : decode cX1_layOut 91 = .ok (.return_, 1) := by decide +kernel
theorem dX1_put_0 : decode cX1_put 0 = .ok (.aload_n 0, 1) := by decide +kernel
theorem dX1_put_1 : decode cX1_put 1 = .ok (.getfield 9, 3) := by decide +kernel
theorem dX1_put_4 : decode cX1_put 4 = .ok (.iload_n 2, 1) := by decide +kernel
theorem dX1_put_5 : decode cX1_put 5 = .ok (.iload_n 1, 1) := by decide +kernel
theorem dX1_put_6 : decode cX1_put 6 = .ok (.iastore, 1) := by decide +kernel
theorem dX1_put_7 : decode cX1_put 7 = .ok (.aload_n 0, 1) := by decide +kernel
theorem dX1_put_8 : decode cX1_put 8 = .ok (.getfield 15, 3) := by decide +kernel
theorem dX1_put_11 : decode cX1_put 11 = .ok (.iload_n 1, 1) := by decide +kernel
theorem dX1_put_12 : decode cX1_put 12 = .ok (.iload_n 2, 1) := by decide +kernel
theorem dX1_put_13 : decode cX1_put 13 = .ok (.iastore, 1) := by decide +kernel
theorem dX1_put_14 : decode cX1_put 14 = .ok (.return_, 1) := by decide +kernel
set_option maxRecDepth 20000 in
theorem ggX1_exchange_X1_put : GoodIn wsX1_exchange wsX1_put := goodIn_r _ [6, 1, 7, 8, 9] (by decide +kernel) (by decide +kernel)
set_option maxRecDepth 20000 in
theorem gX1_exchange_X1_put : GoodIn wsX1_exchange (wsV RX1 18 RX1 yX1_put wsX1_put) := goodIn_app (goodIn_of _ (by decide +kernel)) ggX1_exchange_X1_put
theorem dX1_exchange_0 : decode cX1_exchange 0 = .ok (.aload_n 0, 1) := by decide +kernel
theorem dX1_exchange_1 : decode cX1_exchange 1 = .ok (.getfield 9, 3) := by decide +kernel
theorem dX1_exchange_4 : decode cX1_exchange 4 = .ok (.iload_n 1, 1) := by decide +kernel
theorem dX1_exchange_5 : decode cX1_exchange 5 = .ok (.iaload, 1) := by decide +kernel
theorem dX1_exchange_6 : decode cX1_exchange 6 = .ok (.istore_n 3, 1) := by decide +kernel
theorem dX1_exchange_7 : decode cX1_exchange 7 = .ok (.aload_n 0, 1) := by decide +kernel
theorem dX1_exchange_8 : decode cX1_exchange 8 = .ok (.aload_n 0, 1) := by decide +kernel
theorem dX1_exchange_9 : decode cX1_exchange 9 = .ok (.getfield 9, 3) := by decide +kernel
theorem dX1_exchange_12 : decode cX1_exchange 12 = .ok (.iload_n 2, 1) := by decide +kernel
theorem dX1_exchange_13 : decode cX1_exchange 13 = .ok (.iaload, 1) := by decide +kernel
theorem dX1_exchange_14 : decode cX1_exchange 14 = .ok (.iload_n 1, 1) := by decide +kernel
theorem dX1_exchange_15 : decode cX1_exchange 15 = .ok (.invokevirtual 18, 3) := by decide +kernel
theorem dX1_exchange_18 : decode cX1_exchange 18 = .ok (.aload_n 0, 1) := by decide +kernel
theorem dX1_exchange_19 : decode cX1_exchange 19 = .ok (.iload_n 3, 1) := by decide +kernel
theorem dX1_exchange_20 : decode cX1_exchange 20 = .ok (.iload_n 2, 1) := by decide +kernel
theorem dX1_exchange_21 : decode cX1_exchange 21 = .ok (.invokevirtual 18, 3) := by decide +kernel
theorem dX1_exchange_24 : decode cX1_exchange 24 = .ok (.return_, 1) := by decide +kernel
theorem dX1_rowOf_0 : decode cX1_rowOf 0 = .ok (.aload_n 0, 1) := by decide +kernel
theorem dX1_rowOf_1 : decode cX1_rowOf 1 = .ok (.getfield 15, 3) := by decide +kernel
theorem dX1_rowOf_4 : decode cX1_rowOf 4 = .ok (.iload_n 1, 1) := by decide +kernel
theorem dX1_rowOf_5 : decode cX1_rowOf 5 = .ok (.iaload, 1) := by decide +kernel
theorem dX1_rowOf_6 : decode cX1_rowOf 6 = .ok (.iconst 2, 1) := by decide +kernel
theorem dX1_rowOf_7 : decode cX1_rowOf 7 = .ok (.ishr, 1) := by decide +kernel
theorem dX1_rowOf_8 : decode cX1_rowOf 8 = .ok (.ireturn, 1) := by decide +kernel
theorem dX1_columnOf_0 : decode cX1_columnOf 0 = .ok (.aload_n 0, 1) := by decide +kernel
theorem dX1_columnOf_1 : decode cX1_columnOf 1 = .ok (.getfield 15, 3) := by decide +kernel
theorem dX1_columnOf_4 : decode cX1_columnOf 4 = .ok (.iload_n 1, 1) := by decide +kernel
theorem dX1_columnOf_5 : decode cX1_columnOf 5 = .ok (.iaload, 1) := by decide +kernel
theorem dX1_columnOf_6 : decode cX1_columnOf 6 = .ok (.iconst 3, 1) := by decide +kernel
theorem dX1_columnOf_7 : decode cX1_columnOf 7 = .ok (.iand, 1) := by decide +kernel
theorem dX1_columnOf_8 : decode cX1_columnOf 8 = .ok (.ireturn, 1) := by decide +kernel
theorem dX1_at_0 : decode cX1_at 0 = .ok (.aload_n 0, 1) := by decide +kernel
theorem dX1_at_1 : decode cX1_at 1 = .ok (.getfield 9, 3) := by decide +kernel
theorem dX1_at_4 : decode cX1_at 4 = .ok (.iconst 4, 1) := by decide +kernel
theorem dX1_at_5 : decode cX1_at 5 = .ok (.iload_n 1, 1) := by decide +kernel
theorem dX1_at_6 : decode cX1_at 6 = .ok (.iconst 3, 1) := by decide +kernel
theorem dX1_at_7 : decode cX1_at 7 = .ok (.iand, 1) := by decide +kernel
theorem dX1_at_8 : decode cX1_at 8 = .ok (.imul, 1) := by decide +kernel
theorem dX1_at_9 : decode cX1_at 9 = .ok (.iload_n 2, 1) := by decide +kernel
theorem dX1_at_10 : decode cX1_at 10 = .ok (.iconst 3, 1) := by decide +kernel
theorem dX1_at_11 : decode cX1_at 11 = .ok (.iand, 1) := by decide +kernel
theorem dX1_at_12 : decode cX1_at 12 = .ok (.iadd, 1) := by decide +kernel
theorem dX1_at_13 : decode cX1_at 13 = .ok (.iaload, 1) := by decide +kernel
theorem dX1_at_14 : decode cX1_at 14 = .ok (.ireturn, 1) := by decide +kernel
set_option maxRecDepth 20000 in
theorem ggX1_beside_X1_rowOf : GoodIn wsX1_beside wsX1_rowOf := goodIn_r _ [5, 6, 16, 17] (by decide +kernel) (by decide +kernel)
set_option maxRecDepth 20000 in
theorem gX1_beside_X1_rowOf : GoodIn wsX1_beside (wsV RX1 22 RX1 yX1_rowOf wsX1_rowOf) := goodIn_app (goodIn_of _ (by decide +kernel)) ggX1_beside_X1_rowOf
set_option maxRecDepth 20000 in
theorem ggX1_beside_X1_columnOf : GoodIn wsX1_beside wsX1_columnOf := goodIn_r _ [10, 6, 16, 17] (by decide +kernel) (by decide +kernel)
set_option maxRecDepth 20000 in
theorem gX1_beside_X1_columnOf : GoodIn wsX1_beside (wsV RX1 26 RX1 yX1_columnOf wsX1_columnOf) := goodIn_app (goodIn_of _ (by decide +kernel)) ggX1_beside_X1_columnOf
set_option maxRecDepth 20000 in
theorem ggX1_beside_X1_at : GoodIn wsX1_beside wsX1_at := goodIn_r _ [14, 15, 16, 17] (by decide +kernel) (by decide +kernel)
set_option maxRecDepth 20000 in
theorem gX1_beside_X1_at : GoodIn wsX1_beside (wsV RX1 29 RX1 yX1_at wsX1_at) := goodIn_app (goodIn_of _ (by decide +kernel)) ggX1_beside_X1_at
theorem dX1_beside_0 : decode cX1_beside 0 = .ok (.aload_n 0, 1) := by decide +kernel
theorem dX1_beside_1 : decode cX1_beside 1 = .ok (.iload_n 1, 1) := by decide +kernel
theorem dX1_beside_2 : decode cX1_beside 2 = .ok (.invokevirtual 22, 3) := by decide +kernel
theorem dX1_beside_5 : decode cX1_beside 5 = .ok (.istore 4, 2) := by decide +kernel
theorem dX1_beside_7 : decode cX1_beside 7 = .ok (.aload_n 0, 1) := by decide +kernel
theorem dX1_beside_8 : decode cX1_beside 8 = .ok (.iload_n 1, 1) := by decide +kernel
theorem dX1_beside_9 : decode cX1_beside 9 = .ok (.invokevirtual 26, 3) := by decide +kernel
theorem dX1_beside_12 : decode cX1_beside 12 = .ok (.istore 5, 2) := by decide +kernel
theorem dX1_beside_14 : decode cX1_beside 14 = .ok (.iload_n 1, 1) := by decide +kernel
theorem dX1_beside_15 : decode cX1_beside 15 = .ok (.iload_n 2, 1) := by decide +kernel
theorem dX1_beside_16 : decode cX1_beside 16 = .ok (.if_icmp .ne 16, 3) := by decide +kernel
theorem dX1_beside_19 : decode cX1_beside 19 = .ok (.aload_n 0, 1) := by decide +kernel
theorem dX1_beside_20 : decode cX1_beside 20 = .ok (.iload 4, 2) := by decide +kernel
theorem dX1_beside_22 : decode cX1_beside 22 = .ok (.iload_n 3, 1) := by decide +kernel
theorem dX1_beside_23 : decode cX1_beside 23 = .ok (.iadd, 1) := by decide +kernel
theorem dX1_beside_24 : decode cX1_beside 24 = .ok (.iload 5, 2) := by decide +kernel
theorem dX1_beside_26 : decode cX1_beside 26 = .ok (.iload_n 3, 1) := by decide +kernel
theorem dX1_beside_27 : decode cX1_beside 27 = .ok (.iadd, 1) := by decide +kernel
theorem dX1_beside_28 : decode cX1_beside 28 = .ok (.invokevirtual 29, 3) := by decide +kernel
theorem dX1_beside_31 : decode cX1_beside 31 = .ok (.ireturn, 1) := by decide +kernel
theorem dX1_beside_32 : decode cX1_beside 32 = .ok (.iload 4, 2) := by decide +kernel
theorem dX1_beside_34 : decode cX1_beside 34 = .ok (.aload_n 0, 1) := by decide +kernel
theorem dX1_beside_35 : decode cX1_beside 35 = .ok (.iload_n 2, 1) := by decide +kernel
theorem dX1_beside_36 : decode cX1_beside 36 = .ok (.invokevirtual 22, 3) := by decide +kernel
theorem dX1_beside_39 : decode cX1_beside 39 = .ok (.if_icmp .ne 14, 3) := by decide +kernel
theorem dX1_beside_42 : decode cX1_beside 42 = .ok (.aload_n 0, 1) := by decide +kernel
theorem dX1_beside_43 : decode cX1_beside 43 = .ok (.iload 4, 2) := by decide +kernel
theorem dX1_beside_45 : decode cX1_beside 45 = .ok (.iload 5, 2) := by decide +kernel
theorem dX1_beside_47 : decode cX1_beside 47 = .ok (.iload_n 3, 1) := by decide +kernel
theorem dX1_beside_48 : decode cX1_beside 48 = .ok (.iadd, 1) := by decide +kernel
theorem dX1_beside_49 : decode cX1_beside 49 = .ok (.invokevirtual 29, 3) := by decide +kernel
theorem dX1_beside_52 : decode cX1_beside 52 = .ok (.ireturn, 1) := by decide +kernel
theorem dX1_beside_53 : decode cX1_beside 53 = .ok (.iload 5, 2) := by decide +kernel
theorem dX1_beside_55 : decode cX1_beside 55 = .ok (.aload_n 0, 1) := by decide +kernel
theorem dX1_beside_56 : decode cX1_beside 56 = .ok (.iload_n 2, 1) := by decide +kernel
theorem dX1_beside_57 : decode cX1_beside 57 = .ok (.invokevirtual 26, 3) := by decide +kernel
theorem dX1_beside_60 : decode cX1_beside 60 = .ok (.if_icmp .ne 14, 3) := by decide +kernel
theorem dX1_beside_63 : decode cX1_beside 63 = .ok (.aload_n 0, 1) := by decide +kernel
theorem dX1_beside_64 : decode cX1_beside 64 = .ok (.iload 4, 2) := by decide +kernel
theorem dX1_beside_66 : decode cX1_beside 66 = .ok (.iload_n 3, 1) := by decide +kernel
theorem dX1_beside_67 : decode cX1_beside 67 = .ok (.iadd, 1) := by decide +kernel
theorem dX1_beside_68 : decode cX1_beside 68 = .ok (.iload 5, 2) := by decide +kernel
theorem dX1_beside_70 : decode cX1_beside 70 = .ok (.invokevirtual 29, 3) := by decide +kernel
theorem dX1_beside_73 : decode cX1_beside 73 = .ok (.ireturn, 1) := by decide +kernel
theorem dX1_beside_74 : decode cX1_beside 74 = .ok (.aload_n 0, 1) := by decide +kernel
theorem dX1_beside_75 : decode cX1_beside 75 = .ok (.iload 4, 2) := by decide +kernel
theorem dX1_beside_77 : decode cX1_beside 77 = .ok (.aload_n 0, 1) := by decide +kernel
theorem dX1_beside_78 : decode cX1_beside 78 = .ok (.iload_n 2, 1) := by decide +kernel
theorem dX1_beside_79 : decode cX1_beside 79 = .ok (.invokevirtual 26, 3) := by decide +kernel
theorem dX1_beside_82 : decode cX1_beside 82 = .ok (.invokevirtual 29, 3) := by decide +kernel
theorem dX1_beside_85 : decode cX1_beside 85 = .ok (.ireturn, 1) := by decide +kernel
set_option maxRecDepth 20000 in
theorem ggX2_init_X1_init : GoodIn wsX2_init wsX1_init := goodIn_r _ [14, 15, 2, 3, 4, 16, 17, 23, 24] (by decide +kernel) (by decide +kernel)
set_option maxRecDepth 20000 in
theorem gX2_init_X1_init_n17 : GoodIn wsX2_init (wsX1_init) := ggX2_init_X1_init
theorem dX2_init_0 : decode cX2_init 0 = .ok (.aload_n 0, 1) := by decide +kernel
theorem dX2_init_1 : decode cX2_init 1 = .ok (.invokespecial 3, 3) := by decide +kernel
theorem dX2_init_4 : decode cX2_init 4 = .ok (.aload_n 0, 1) := by decide +kernel
theorem dX2_init_5 : decode cX2_init 5 = .ok (.bipush 48, 2) := by decide +kernel
theorem dX2_init_7 : decode cX2_init 7 = .ok (.newarray .int, 2) := by decide +kernel
theorem dX2_init_9 : decode cX2_init 9 = .ok (.putfield 9, 3) := by decide +kernel
theorem dX2_init_12 : decode cX2_init 12 = .ok (.aload_n 0, 1) := by decide +kernel
theorem dX2_init_13 : decode cX2_init 13 = .ok (.new 15, 3) := by decide +kernel
theorem dX2_init_16 : decode cX2_init 16 = .ok (.dup, 1) := by decide +kernel
theorem dX2_init_17 : decode cX2_init 17 = .ok (.invokespecial 17, 3) := by decide +kernel
theorem dX2_init_20 : decode cX2_init 20 = .ok (.putfield 18, 3) := by decide +kernel
theorem dX2_init_23 : decode cX2_init 23 = .ok (.aload_n 0, 1) := by decide +kernel
theorem dX2_init_24 : decode cX2_init 24 = .ok (.bipush 6, 2) := by decide +kernel
theorem dX2_init_26 : decode cX2_init 26 = .ok (.newarray .int, 2) := by decide +kernel
theorem dX2_init_28 : decode cX2_init 28 = .ok (.putfield 22, 3) := by decide +kernel
theorem dX2_init_31 : decode cX2_init 31 = .ok (.aload_n 0, 1) := by decide +kernel
theorem dX2_init_32 : decode cX2_init 32 = .ok (.bipush 48, 2) := by decide +kernel
theorem dX2_init_34 : decode cX2_init 34 = .ok (.newarray .int, 2) := by decide +kernel
theorem dX2_init_36 : decode cX2_init 36 = .ok (.putfield 25, 3) := by decide +kernel
theorem dX2_init_39 : decode cX2_init 39 = .ok (.aload_n 0, 1) := by decide +kernel
theorem dX2_init_40 : decode cX2_init 40 = .ok (.bipush 96, 2) := by decide +kernel
theorem dX2_init_42 : decode cX2_init 42 = .ok (.newarray .int, 2) := by decide +kernel
theorem dX2_init_44 : decode cX2_init 44 = .ok (.putfield 28, 3) := by decide +kernel
theorem dX2_init_47 : decode cX2_init 47 = .ok (.return_, 1) := by decide +kernel
set_option maxRecDepth 20000 in
theorem ggX2_work_X2_addKey : GoodIn wsX2_work wsX2_addKey := goodIn_r _ [9, 4, 3, 10, 11, 75, 76, 77, 78, 79, 80, 81, 82, 83, 84, 85, 86, 87, 88] (by decide +kernel) (by decide +kernel)
set_option maxRecDepth 20000 in
theorem gX2_work_X2_addKey : GoodIn wsX2_work (wsV RX2 31 RX2 yX2_addKey wsX2_addKey) := goodIn_app (goodIn_of _ (by decide +kernel)) ggX2_work_X2_addKey
set_option maxRecDepth 20000 in
theorem ggX2_work_X1_layOut : GoodIn wsX2_work wsX1_layOut := goodIn_r _ [16, 17, 18, 19, 15, 20, 21, 22, 89, 90] (by decide +kernel) (by decide +kernel)
set_option maxRecDepth 20000 in
theorem gX2_work_X1_layOut : GoodIn wsX2_work (wsV RX2 44 RX1 yX1_layOut wsX1_layOut) := goodIn_app (goodIn_of _ (by decide +kernel)) ggX2_work_X1_layOut
set_option maxRecDepth 20000 in
theorem ggX2_work_X2_changePairs : GoodIn wsX2_work wsX2_changePairs := goodIn_r _ [26, 4, 11, 10, 2, 27, 28, 29, 15, 30, 31, 32, 33, 34, 22, 35, 36, 37, 38, 39, 40, 41, 42, 21, 75, 76, 77, 78, 79, 80, 81, 82, 83, 84, 85, 86, 87, 88, 89, 90] (by decide +kernel) (by decide +kernel)
set_option maxRecDepth 20000 in
theorem gX2_work_X2_changePairs : GoodIn wsX2_work (wsV RX2 48 RX2 yX2_changePairs wsX2_changePairs) := goodIn_app (goodIn_of _ (by decide +kernel)) ggX2_work_X2_changePairs
set_option maxRecDepth 20000 in
theorem ggX2_work_X2_orderByKey : GoodIn wsX2_work wsX2_orderByKey := goodIn_r _ [46, 1, 3, 47, 75, 76, 77, 78, 79, 80, 81, 82, 83, 84, 85, 86, 87, 88] (by decide +kernel) (by decide +kernel)
set_option maxRecDepth 20000 in
theorem gX2_work_X2_orderByKey : GoodIn wsX2_work (wsV RX2 52 RX2 yX2_orderByKey wsX2_orderByKey) := goodIn_app (goodIn_of _ (by decide +kernel)) ggX2_work_X2_orderByKey
set_option maxRecDepth 20000 in
theorem ggX2_work_X2_readColumns : GoodIn wsX2_work wsX2_readColumns := goodIn_r _ [51, 47, 52, 84, 85, 86, 87, 88] (by decide +kernel) (by decide +kernel)
set_option maxRecDepth 20000 in
theorem gX2_work_X2_readColumns : GoodIn wsX2_work (wsV RX2 59 RX2 yX2_readColumns wsX2_readColumns) := goodIn_app (goodIn_of _ (by decide +kernel)) ggX2_work_X2_readColumns
set_option maxRecDepth 20000 in
theorem ggX2_work_X2_putInPlace : GoodIn wsX2_work wsX2_putInPlace := goodIn_r _ [56, 4, 10, 11, 52, 75, 76, 77, 78, 79, 80, 81, 82, 83, 84, 85, 86, 87, 88] (by decide +kernel) (by decide +kernel)
set_option maxRecDepth 20000 in
theorem gX2_work_X2_putInPlace : GoodIn wsX2_work (wsV RX2 63 RX2 yX2_putInPlace wsX2_putInPlace) := goodIn_app (goodIn_of _ (by decide +kernel)) ggX2_work_X2_putInPlace
set_option maxRecDepth 20000 in
theorem ggX2_work_X2_readRails : GoodIn wsX2_work wsX2_readRails := goodIn_r _ [60, 52, 84, 85, 86, 87, 88] (by decide +kernel) (by decide +kernel)
set_option maxRecDepth 20000 in
theorem gX2_work_X2_readRails : GoodIn wsX2_work (wsV RX2 66 RX2 yX2_readRails wsX2_readRails) := goodIn_app (goodIn_of _ (by decide +kernel)) ggX2_work_X2_readRails
set_option maxRecDepth 20000 in
theorem ggX2_work_X2_takeApart : GoodIn wsX2_work wsX2_takeApart := goodIn_r _ [64, 4, 65, 2, 11, 10, 66, 67, 8, 68, 69, 32, 33, 15, 34, 22, 70, 71, 72, 73, 36, 37, 38, 74, 40, 41, 42, 21, 75, 76, 77, 78, 79, 80, 81, 82, 83, 84, 85, 86, 87, 88, 89, 90] (by decide +kernel) (by decide +kernel)
set_option maxRecDepth 20000 in
theorem gX2_work_X2_takeApart : GoodIn wsX2_work (wsV RX2 69 RX2 yX2_takeApart wsX2_takeApart) := goodIn_app (goodIn_of _ (by decide +kernel)) ggX2_work_X2_takeApart
theorem dX2_work_0 : decode cX2_work 0 = .ok (.iload_n 2, 1) := by decide +kernel
theorem dX2_work_1 : decode cX2_work 1 = .ok (.tableswitch 129 0 4 #[35, 45, 58, 82, 108], 35) := by decide +kernel
theorem dX2_work_36 : decode cX2_work 36 = .ok (.aload_n 0, 1) := by decide +kernel
theorem dX2_work_37 : decode cX2_work 37 = .ok (.aload_n 1, 1) := by decide +kernel
theorem dX2_work_38 : decode cX2_work 38 = .ok (.iconst 1, 1) := by decide +kernel
theorem dX2_work_39 : decode cX2_work 39 = .ok (.iload_n 3, 1) := by decide +kernel
theorem dX2_work_40 : decode cX2_work 40 = .ok (.invokevirtual 31, 3) := by decide +kernel
theorem dX2_work_43 : decode cX2_work 43 = .ok (.goto 108, 3) := by decide +kernel
theorem dX2_work_46 : decode cX2_work 46 = .ok (.aload_n 0, 1) := by decide +kernel
theorem dX2_work_47 : decode cX2_work 47 = .ok (.aload_n 1, 1) := by decide +kernel
theorem dX2_work_48 : decode cX2_work 48 = .ok (.aload_n 1, 1) := by decide +kernel
theorem dX2_work_49 : decode cX2_work 49 = .ok (.getfield 35, 3) := by decide +kernel
theorem dX2_work_52 : decode cX2_work 52 = .ok (.iload_n 3, 1) := by decide +kernel
theorem dX2_work_53 : decode cX2_work 53 = .ok (.invokevirtual 31, 3) := by decide +kernel
theorem dX2_work_56 : decode cX2_work 56 = .ok (.goto 95, 3) := by decide +kernel
theorem dX2_work_59 : decode cX2_work 59 = .ok (.aload_n 0, 1) := by decide +kernel
theorem dX2_work_60 : decode cX2_work 60 = .ok (.getfield 18, 3) := by decide +kernel
theorem dX2_work_63 : decode cX2_work 63 = .ok (.aload_n 1, 1) := by decide +kernel
theorem dX2_work_64 : decode cX2_work 64 = .ok (.getfield 41, 3) := by decide +kernel
theorem dX2_work_67 : decode cX2_work 67 = .ok (.aload_n 1, 1) := by decide +kernel
theorem dX2_work_68 : decode cX2_work 68 = .ok (.getfield 35, 3) := by decide +kernel
theorem dX2_work_71 : decode cX2_work 71 = .ok (.invokevirtual 44, 3) := by decide +kernel
theorem dX2_work_74 : decode cX2_work 74 = .ok (.aload_n 0, 1) := by decide +kernel
theorem dX2_work_75 : decode cX2_work 75 = .ok (.aload_n 1, 1) := by decide +kernel
theorem dX2_work_76 : decode cX2_work 76 = .ok (.iload_n 3, 1) := by decide +kernel
theorem dX2_work_77 : decode cX2_work 77 = .ok (.invokevirtual 48, 3) := by decide +kernel
theorem dX2_work_80 : decode cX2_work 80 = .ok (.goto 71, 3) := by decide +kernel
theorem dX2_work_83 : decode cX2_work 83 = .ok (.aload_n 0, 1) := by decide +kernel
theorem dX2_work_84 : decode cX2_work 84 = .ok (.aload_n 1, 1) := by decide +kernel
theorem dX2_work_85 : decode cX2_work 85 = .ok (.invokevirtual 52, 3) := by decide +kernel
theorem dX2_work_88 : decode cX2_work 88 = .ok (.aload_n 0, 1) := by decide +kernel
theorem dX2_work_89 : decode cX2_work 89 = .ok (.aload_n 1, 1) := by decide +kernel
theorem dX2_work_90 : decode cX2_work 90 = .ok (.getfield 56, 3) := by decide +kernel
theorem dX2_work_93 : decode cX2_work 93 = .ok (.aload_n 1, 1) := by decide +kernel
theorem dX2_work_94 : decode cX2_work 94 = .ok (.getfield 35, 3) := by decide +kernel
theorem dX2_work_97 : decode cX2_work 97 = .ok (.invokevirtual 59, 3) := by decide +kernel
theorem dX2_work_100 : decode cX2_work 100 = .ok (.aload_n 0, 1) := by decide +kernel
theorem dX2_work_101 : decode cX2_work 101 = .ok (.aload_n 1, 1) := by decide +kernel
theorem dX2_work_102 : decode cX2_work 102 = .ok (.iload_n 3, 1) := by decide +kernel
theorem dX2_work_103 : decode cX2_work 103 = .ok (.invokevirtual 63, 3) := by decide +kernel
theorem dX2_work_106 : decode cX2_work 106 = .ok (.goto 45, 3) := by decide +kernel
theorem dX2_work_109 : decode cX2_work 109 = .ok (.aload_n 0, 1) := by decide +kernel
theorem dX2_work_110 : decode cX2_work 110 = .ok (.aload_n 1, 1) := by decide +kernel
theorem dX2_work_111 : decode cX2_work 111 = .ok (.getfield 56, 3) := by decide +kernel
theorem dX2_work_114 : decode cX2_work 114 = .ok (.aload_n 1, 1) := by decide +kernel
theorem dX2_work_115 : decode cX2_work 115 = .ok (.getfield 35, 3) := by decide +kernel
theorem dX2_work_118 : decode cX2_work 118 = .ok (.invokevirtual 66, 3) := by decide +kernel
theorem dX2_work_121 : decode cX2_work 121 = .ok (.aload_n 0, 1) := by decide +kernel
theorem dX2_work_122 : decode cX2_work 122 = .ok (.aload_n 1, 1) := by decide +kernel
theorem dX2_work_123 : decode cX2_work 123 = .ok (.iload_n 3, 1) := by decide +kernel
theorem dX2_work_124 : decode cX2_work 124 = .ok (.invokevirtual 63, 3) := by decide +kernel
theorem dX2_work_127 : decode cX2_work 127 = .ok (.goto 24, 3) := by decide +kernel
theorem dX2_work_130 : decode cX2_work 130 = .ok (.aload_n 0, 1) := by decide +kernel
theorem dX2_work_131 : decode cX2_work 131 = .ok (.getfield 18, 3) := by decide +kernel
theorem dX2_work_134 : decode cX2_work 134 = .ok (.aload_n 1, 1) := by decide +kernel
theorem dX2_work_135 : decode cX2_work 135 = .ok (.getfield 41, 3) := by decide +kernel
theorem dX2_work_138 : decode cX2_work 138 = .ok (.aload_n 1, 1) := by decide +kernel
theorem dX2_work_139 : decode cX2_work 139 = .ok (.getfield 35, 3) := by decide +kernel
theorem dX2_work_142 : decode cX2_work 142 = .ok (.invokevirtual 44, 3) := by decide +kernel
theorem dX2_work_145 : decode cX2_work 145 = .ok (.aload_n 0, 1) := by decide +kernel
theorem dX2_work_146 : decode cX2_work 146 = .ok (.aload_n 1, 1) := by decide +kernel
theorem dX2_work_147 : decode cX2_work 147 = .ok (.iload_n 3, 1) := by decide +kernel
theorem dX2_work_148 : decode cX2_work 148 = .ok (.invokevirtual 69, 3) := by decide +kernel
theorem dX2_work_151 : decode cX2_work 151 = .ok (.return_, 1) := by decide +kernel
theorem dX2_addKey_0 : decode cX2_addKey 0 = .ok (.iconst 0, 1) := by decide +kernel
theorem dX2_addKey_1 : decode cX2_addKey 1 = .ok (.istore 4, 2) := by decide +kernel
theorem dX2_addKey_3 : decode cX2_addKey 3 = .ok (.iconst 0, 1) := by decide +kernel
theorem dX2_addKey_4 : decode cX2_addKey 4 = .ok (.istore 5, 2) := by decide +kernel
theorem dX2_addKey_6 : decode cX2_addKey 6 = .ok (.iload 5, 2) := by decide +kernel
theorem dX2_addKey_8 : decode cX2_addKey 8 = .ok (.aload_n 1, 1) := by decide +kernel
theorem dX2_addKey_9 : decode cX2_addKey 9 = .ok (.getfield 56, 3) := by decide +kernel
theorem dX2_addKey_12 : decode cX2_addKey 12 = .ok (.if_icmp .ge 71, 3) := by decide +kernel
theorem dX2_addKey_15 : decode cX2_addKey 15 = .ok (.iload_n 3, 1) := by decide +kernel
theorem dX2_addKey_16 : decode cX2_addKey 16 = .ok (.ifCond .eq 13, 3) := by decide +kernel
theorem dX2_addKey_19 : decode cX2_addKey 19 = .ok (.aload_n 1, 1) := by decide +kernel
theorem dX2_addKey_20 : decode cX2_addKey 20 = .ok (.getfield 41, 3) := by decide +kernel
theorem dX2_addKey_23 : decode cX2_addKey 23 = .ok (.iload 4, 2) := by decide +kernel
theorem dX2_addKey_25 : decode cX2_addKey 25 = .ok (.iaload, 1) := by decide +kernel
theorem dX2_addKey_26 : decode cX2_addKey 26 = .ok (.goto 11, 3) := by decide +kernel
theorem dX2_addKey_29 : decode cX2_addKey 29 = .ok (.aload_n 1, 1) := by decide +kernel
theorem dX2_addKey_30 : decode cX2_addKey 30 = .ok (.getfield 41, 3) := by decide +kernel
theorem dX2_addKey_33 : decode cX2_addKey 33 = .ok (.iload 4, 2) := by decide +kernel
theorem dX2_addKey_35 : decode cX2_addKey 35 = .ok (.iaload, 1) := by decide +kernel
theorem dX2_addKey_36 : decode cX2_addKey 36 = .ok (.ineg, 1) := by decide +kernel
theorem dX2_addKey_37 : decode cX2_addKey 37 = .ok (.istore 6, 2) := by decide +kernel
theorem dX2_addKey_39 : decode cX2_addKey 39 = .ok (.aload_n 0, 1) := by decide +kernel
theorem dX2_addKey_40 : decode cX2_addKey 40 = .ok (.getfield 9, 3) := by decide +kernel
theorem dX2_addKey_43 : decode cX2_addKey 43 = .ok (.iload 5, 2) := by decide +kernel
theorem dX2_addKey_45 : decode cX2_addKey 45 = .ok (.aload_n 1, 1) := by decide +kernel
theorem dX2_addKey_46 : decode cX2_addKey 46 = .ok (.getfield 72, 3) := by decide +kernel
theorem dX2_addKey_49 : decode cX2_addKey 49 = .ok (.iload 5, 2) := by decide +kernel
theorem dX2_addKey_51 : decode cX2_addKey 51 = .ok (.iaload, 1) := by decide +kernel
theorem dX2_addKey_52 : decode cX2_addKey 52 = .ok (.iload 6, 2) := by decide +kernel
theorem dX2_addKey_54 : decode cX2_addKey 54 = .ok (.iadd, 1) := by decide +kernel
theorem dX2_addKey_55 : decode cX2_addKey 55 = .ok (.bipush 15, 2) := by decide +kernel
theorem dX2_addKey_57 : decode cX2_addKey 57 = .ok (.iand, 1) := by decide +kernel
theorem dX2_addKey_58 : decode cX2_addKey 58 = .ok (.iastore, 1) := by decide +kernel
theorem dX2_addKey_59 : decode cX2_addKey 59 = .ok (.iload 4, 2) := by decide +kernel
theorem dX2_addKey_61 : decode cX2_addKey 61 = .ok (.iconst 1, 1) := by decide +kernel
theorem dX2_addKey_62 : decode cX2_addKey 62 = .ok (.iadd, 1) := by decide +kernel
theorem dX2_addKey_63 : decode cX2_addKey 63 = .ok (.iload_n 2, 1) := by decide +kernel
theorem dX2_addKey_64 : decode cX2_addKey 64 = .ok (.if_icmp .ge 10, 3) := by decide +kernel
theorem dX2_addKey_67 : decode cX2_addKey 67 = .ok (.iload 4, 2) := by decide +kernel
theorem dX2_addKey_69 : decode cX2_addKey 69 = .ok (.iconst 1, 1) := by decide +kernel
theorem dX2_addKey_70 : decode cX2_addKey 70 = .ok (.iadd, 1) := by decide +kernel
theorem dX2_addKey_71 : decode cX2_addKey 71 = .ok (.goto 4, 3) := by decide +kernel
theorem dX2_addKey_74 : decode cX2_addKey 74 = .ok (.iconst 0, 1) := by decide +kernel
theorem dX2_addKey_75 : decode cX2_addKey 75 = .ok (.istore 4, 2) := by decide +kernel
theorem dX2_addKey_77 : decode cX2_addKey 77 = .ok (.iinc 5 1, 3) := by decide +kernel
theorem dX2_addKey_80 : decode cX2_addKey 80 = .ok (.goto (-74), 3) := by decide +kernel
theorem dX2_addKey_83 : decode cX2_addKey 83 = .ok (.return_, 1) := by decide +kernel
set_option maxRecDepth 20000 in
theorem ggX2_changePairs_X1_beside : GoodIn wsX2_changePairs wsX1_beside := goodIn_r _ [9, 10, 11, 12, 8, 13, 14, 15, 16, 17, 18, 19, 20, 21, 22, 23, 38, 39] (by decide +kernel) (by decide +kernel)
set_option maxRecDepth 20000 in
theorem gX2_changePairs_X1_beside : GoodIn wsX2_changePairs (wsV RX2 75 RX1 yX1_beside wsX1_beside) := goodIn_app (goodIn_of _ (by decide +kernel)) ggX2_changePairs_X1_beside
theorem dX2_changePairs_0 : decode cX2_changePairs 0 = .ok (.iload_n 2, 1) := by decide +kernel
theorem dX2_changePairs_1 : decode cX2_changePairs 1 = .ok (.ifCond .eq 7, 3) := by decide +kernel
theorem dX2_changePairs_4 : decode cX2_changePairs 4 = .ok (.iconst 1, 1) := by decide +kernel
theorem dX2_changePairs_5 : decode cX2_changePairs 5 = .ok (.goto 4, 3) := by decide +kernel
theorem dX2_changePairs_8 : decode cX2_changePairs 8 = .ok (.iconst (-1), 1) := by decide +kernel
theorem dX2_changePairs_9 : decode cX2_changePairs 9 = .ok (.istore_n 3, 1) := by decide +kernel
theorem dX2_changePairs_10 : decode cX2_changePairs 10 = .ok (.iconst 1, 1) := by decide +kernel
theorem dX2_changePairs_11 : decode cX2_changePairs 11 = .ok (.istore 4, 2) := by decide +kernel
theorem dX2_changePairs_13 : decode cX2_changePairs 13 = .ok (.iload 4, 2) := by decide +kernel
theorem dX2_changePairs_15 : decode cX2_changePairs 15 = .ok (.aload_n 1, 1) := by decide +kernel
theorem dX2_changePairs_16 : decode cX2_changePairs 16 = .ok (.getfield 56, 3) := by decide +kernel
theorem dX2_changePairs_19 : decode cX2_changePairs 19 = .ok (.if_icmp .ge 69, 3) := by decide +kernel
theorem dX2_changePairs_22 : decode cX2_changePairs 22 = .ok (.aload_n 1, 1) := by decide +kernel
theorem dX2_changePairs_23 : decode cX2_changePairs 23 = .ok (.getfield 72, 3) := by decide +kernel
theorem dX2_changePairs_26 : decode cX2_changePairs 26 = .ok (.iload 4, 2) := by decide +kernel
theorem dX2_changePairs_28 : decode cX2_changePairs 28 = .ok (.iconst 1, 1) := by decide +kernel
theorem dX2_changePairs_29 : decode cX2_changePairs 29 = .ok (.isub, 1) := by decide +kernel
theorem dX2_changePairs_30 : decode cX2_changePairs 30 = .ok (.iaload, 1) := by decide +kernel
theorem dX2_changePairs_31 : decode cX2_changePairs 31 = .ok (.istore 5, 2) := by decide +kernel
theorem dX2_changePairs_33 : decode cX2_changePairs 33 = .ok (.aload_n 1, 1) := by decide +kernel
theorem dX2_changePairs_34 : decode cX2_changePairs 34 = .ok (.getfield 72, 3) := by decide +kernel
theorem dX2_changePairs_37 : decode cX2_changePairs 37 = .ok (.iload 4, 2) := by decide +kernel
theorem dX2_changePairs_39 : decode cX2_changePairs 39 = .ok (.iaload, 1) := by decide +kernel
theorem dX2_changePairs_40 : decode cX2_changePairs 40 = .ok (.istore 6, 2) := by decide +kernel
theorem dX2_changePairs_42 : decode cX2_changePairs 42 = .ok (.aload_n 0, 1) := by decide +kernel
theorem dX2_changePairs_43 : decode cX2_changePairs 43 = .ok (.getfield 9, 3) := by decide +kernel
theorem dX2_changePairs_46 : decode cX2_changePairs 46 = .ok (.iload 4, 2) := by decide +kernel
theorem dX2_changePairs_48 : decode cX2_changePairs 48 = .ok (.iconst 1, 1) := by decide +kernel
theorem dX2_changePairs_49 : decode cX2_changePairs 49 = .ok (.isub, 1) := by decide +kernel
theorem dX2_changePairs_50 : decode cX2_changePairs 50 = .ok (.aload_n 0, 1) := by decide +kernel
theorem dX2_changePairs_51 : decode cX2_changePairs 51 = .ok (.getfield 18, 3) := by decide +kernel
theorem dX2_changePairs_54 : decode cX2_changePairs 54 = .ok (.iload 5, 2) := by decide +kernel
theorem dX2_changePairs_56 : decode cX2_changePairs 56 = .ok (.iload 6, 2) := by decide +kernel
theorem dX2_changePairs_58 : decode cX2_changePairs 58 = .ok (.iload_n 3, 1) := by decide +kernel
theorem dX2_changePairs_59 : decode cX2_changePairs 59 = .ok (.invokevirtual 75, 3) := by decide +kernel
theorem dX2_changePairs_62 : decode cX2_changePairs 62 = .ok (.iastore, 1) := by decide +kernel
theorem dX2_changePairs_63 : decode cX2_changePairs 63 = .ok (.aload_n 0, 1) := by decide +kernel
theorem dX2_changePairs_64 : decode cX2_changePairs 64 = .ok (.getfield 9, 3) := by decide +kernel
theorem dX2_changePairs_67 : decode cX2_changePairs 67 = .ok (.iload 4, 2) := by decide +kernel
theorem dX2_changePairs_69 : decode cX2_changePairs 69 = .ok (.aload_n 0, 1) := by decide +kernel
theorem dX2_changePairs_70 : decode cX2_changePairs 70 = .ok (.getfield 18, 3) := by decide +kernel
theorem dX2_changePairs_73 : decode cX2_changePairs 73 = .ok (.iload 6, 2) := by decide +kernel
theorem dX2_changePairs_75 : decode cX2_changePairs 75 = .ok (.iload 5, 2) := by decide +kernel
theorem dX2_changePairs_77 : decode cX2_changePairs 77 = .ok (.iload_n 3, 1) := by decide +kernel
theorem dX2_changePairs_78 : decode cX2_changePairs 78 = .ok (.invokevirtual 75, 3) := by decide +kernel
theorem dX2_changePairs_81 : decode cX2_changePairs 81 = .ok (.iastore, 1) := by decide +kernel
theorem dX2_changePairs_82 : decode cX2_changePairs 82 = .ok (.iinc 4 2, 3) := by decide +kernel
theorem dX2_changePairs_85 : decode cX2_changePairs 85 = .ok (.goto (-72), 3) := by decide +kernel
theorem dX2_changePairs_88 : decode cX2_changePairs 88 = .ok (.return_, 1) := by decide +kernel
theorem dX2_orderByKey_0 : decode cX2_orderByKey 0 = .ok (.iconst 0, 1) := by decide +kernel
theorem dX2_orderByKey_1 : decode cX2_orderByKey 1 = .ok (.istore_n 2, 1) := by decide +kernel
theorem dX2_orderByKey_2 : decode cX2_orderByKey 2 = .ok (.iconst 0, 1) := by decide +kernel
theorem dX2_orderByKey_3 : decode cX2_orderByKey 3 = .ok (.istore_n 3, 1) := by decide +kernel
theorem dX2_orderByKey_4 : decode cX2_orderByKey 4 = .ok (.iload_n 3, 1) := by decide +kernel
theorem dX2_orderByKey_5 : decode cX2_orderByKey 5 = .ok (.bipush 16, 2) := by decide +kernel
theorem dX2_orderByKey_7 : decode cX2_orderByKey 7 = .ok (.if_icmp .ge 49, 3) := by decide +kernel
theorem dX2_orderByKey_10 : decode cX2_orderByKey 10 = .ok (.iconst 0, 1) := by decide +kernel
theorem dX2_orderByKey_11 : decode cX2_orderByKey 11 = .ok (.istore 4, 2) := by decide +kernel
theorem dX2_orderByKey_13 : decode cX2_orderByKey 13 = .ok (.iload 4, 2) := by decide +kernel
theorem dX2_orderByKey_15 : decode cX2_orderByKey 15 = .ok (.aload_n 1, 1) := by decide +kernel
theorem dX2_orderByKey_16 : decode cX2_orderByKey 16 = .ok (.getfield 35, 3) := by decide +kernel
theorem dX2_orderByKey_19 : decode cX2_orderByKey 19 = .ok (.if_icmp .ge 31, 3) := by decide +kernel
theorem dX2_orderByKey_22 : decode cX2_orderByKey 22 = .ok (.aload_n 1, 1) := by decide +kernel
theorem dX2_orderByKey_23 : decode cX2_orderByKey 23 = .ok (.getfield 41, 3) := by decide +kernel
theorem dX2_orderByKey_26 : decode cX2_orderByKey 26 = .ok (.iload 4, 2) := by decide +kernel
theorem dX2_orderByKey_28 : decode cX2_orderByKey 28 = .ok (.iaload, 1) := by decide +kernel
theorem dX2_orderByKey_29 : decode cX2_orderByKey 29 = .ok (.iload_n 3, 1) := by decide +kernel
theorem dX2_orderByKey_30 : decode cX2_orderByKey 30 = .ok (.if_icmp .ne 14, 3) := by decide +kernel
theorem dX2_orderByKey_33 : decode cX2_orderByKey 33 = .ok (.aload_n 0, 1) := by decide +kernel
theorem dX2_orderByKey_34 : decode cX2_orderByKey 34 = .ok (.getfield 22, 3) := by decide +kernel
theorem dX2_orderByKey_37 : decode cX2_orderByKey 37 = .ok (.iload_n 2, 1) := by decide +kernel
theorem dX2_orderByKey_38 : decode cX2_orderByKey 38 = .ok (.iload 4, 2) := by decide +kernel
theorem dX2_orderByKey_40 : decode cX2_orderByKey 40 = .ok (.iastore, 1) := by decide +kernel
theorem dX2_orderByKey_41 : decode cX2_orderByKey 41 = .ok (.iinc 2 1, 3) := by decide +kernel
theorem dX2_orderByKey_44 : decode cX2_orderByKey 44 = .ok (.iinc 4 1, 3) := by decide +kernel
theorem dX2_orderByKey_47 : decode cX2_orderByKey 47 = .ok (.goto (-34), 3) := by decide +kernel
theorem dX2_orderByKey_50 : decode cX2_orderByKey 50 = .ok (.iinc 3 1, 3) := by decide +kernel
theorem dX2_orderByKey_53 : decode cX2_orderByKey 53 = .ok (.goto (-49), 3) := by decide +kernel
theorem dX2_orderByKey_56 : decode cX2_orderByKey 56 = .ok (.return_, 1) := by decide +kernel
theorem dX2_startOrder_0 : decode cX2_startOrder 0 = .ok (.iconst 0, 1) := by decide +kernel
theorem dX2_startOrder_1 : decode cX2_startOrder 1 = .ok (.istore_n 2, 1) := by decide +kernel
theorem dX2_startOrder_2 : decode cX2_startOrder 2 = .ok (.iload_n 2, 1) := by decide +kernel
theorem dX2_startOrder_3 : decode cX2_startOrder 3 = .ok (.iload_n 1, 1) := by decide +kernel
theorem dX2_startOrder_4 : decode cX2_startOrder 4 = .ok (.if_icmp .ge 16, 3) := by decide +kernel
theorem dX2_startOrder_7 : decode cX2_startOrder 7 = .ok (.aload_n 0, 1) := by decide +kernel
theorem dX2_startOrder_8 : decode cX2_startOrder 8 = .ok (.getfield 22, 3) := by decide +kernel
theorem dX2_startOrder_11 : decode cX2_startOrder 11 = .ok (.iload_n 2, 1) := by decide +kernel
theorem dX2_startOrder_12 : decode cX2_startOrder 12 = .ok (.iload_n 2, 1) := by decide +kernel
theorem dX2_startOrder_13 : decode cX2_startOrder 13 = .ok (.iastore, 1) := by decide +kernel
theorem dX2_startOrder_14 : decode cX2_startOrder 14 = .ok (.iinc 2 1, 3) := by decide +kernel
theorem dX2_startOrder_17 : decode cX2_startOrder 17 = .ok (.goto (-15), 3) := by decide +kernel
theorem dX2_startOrder_20 : decode cX2_startOrder 20 = .ok (.return_, 1) := by decide +kernel
set_option maxRecDepth 20000 in
theorem ggX2_nextOrder_X2_swapInOrder : GoodIn wsX2_nextOrder wsX2_swapInOrder := goodIn_r _ [6, 1, 7, 8, 9, 10, 11] (by decide +kernel) (by decide +kernel)
set_option maxRecDepth 20000 in
theorem gX2_nextOrder_X2_swapInOrder : GoodIn wsX2_nextOrder (wsV RX2 79 RX2 yX2_swapInOrder wsX2_swapInOrder) := goodIn_app (goodIn_of _ (by decide +kernel)) ggX2_nextOrder_X2_swapInOrder
theorem dX2_nextOrder_0 : decode cX2_nextOrder 0 = .ok (.iload_n 1, 1) := by decide +kernel
theorem dX2_nextOrder_1 : decode cX2_nextOrder 1 = .ok (.iconst 2, 1) := by decide +kernel
theorem dX2_nextOrder_2 : decode cX2_nextOrder 2 = .ok (.isub, 1) := by decide +kernel
theorem dX2_nextOrder_3 : decode cX2_nextOrder 3 = .ok (.istore_n 2, 1) := by decide +kernel
theorem dX2_nextOrder_4 : decode cX2_nextOrder 4 = .ok (.iload_n 2, 1) := by decide +kernel
theorem dX2_nextOrder_5 : decode cX2_nextOrder 5 = .ok (.ifCond .lt 26, 3) := by decide +kernel
theorem dX2_nextOrder_8 : decode cX2_nextOrder 8 = .ok (.aload_n 0, 1) := by decide +kernel
theorem dX2_nextOrder_9 : decode cX2_nextOrder 9 = .ok (.getfield 22, 3) := by decide +kernel
theorem dX2_nextOrder_12 : decode cX2_nextOrder 12 = .ok (.iload_n 2, 1) := by decide +kernel
theorem dX2_nextOrder_13 : decode cX2_nextOrder 13 = .ok (.iaload, 1) := by decide +kernel
theorem dX2_nextOrder_14 : decode cX2_nextOrder 14 = .ok (.aload_n 0, 1) := by decide +kernel
theorem dX2_nextOrder_15 : decode cX2_nextOrder 15 = .ok (.getfield 22, 3) := by decide +kernel
theorem dX2_nextOrder_18 : decode cX2_nextOrder 18 = .ok (.iload_n 2, 1) := by decide +kernel
theorem dX2_nextOrder_19 : decode cX2_nextOrder 19 = .ok (.iconst 1, 1) := by decide +kernel
theorem dX2_nextOrder_20 : decode cX2_nextOrder 20 = .ok (.iadd, 1) := by decide +kernel
theorem dX2_nextOrder_21 : decode cX2_nextOrder 21 = .ok (.iaload, 1) := by decide +kernel
theorem dX2_nextOrder_22 : decode cX2_nextOrder 22 = .ok (.if_icmp .le 9, 3) := by decide +kernel
theorem dX2_nextOrder_25 : decode cX2_nextOrder 25 = .ok (.iinc 2 (-1), 3) := by decide +kernel
theorem dX2_nextOrder_28 : decode cX2_nextOrder 28 = .ok (.goto (-24), 3) := by decide +kernel
theorem dX2_nextOrder_31 : decode cX2_nextOrder 31 = .ok (.iload_n 2, 1) := by decide +kernel
theorem dX2_nextOrder_32 : decode cX2_nextOrder 32 = .ok (.ifCond .ge 5, 3) := by decide +kernel
theorem dX2_nextOrder_35 : decode cX2_nextOrder 35 = .ok (.iconst 0, 1) := by decide +kernel
theorem dX2_nextOrder_36 : decode cX2_nextOrder 36 = .ok (.ireturn, 1) := by decide +kernel
theorem dX2_nextOrder_37 : decode cX2_nextOrder 37 = .ok (.iload_n 1, 1) := by decide +kernel
theorem dX2_nextOrder_38 : decode cX2_nextOrder 38 = .ok (.iconst 1, 1) := by decide +kernel
theorem dX2_nextOrder_39 : decode cX2_nextOrder 39 = .ok (.isub, 1) := by decide +kernel
theorem dX2_nextOrder_40 : decode cX2_nextOrder 40 = .ok (.istore_n 3, 1) := by decide +kernel
theorem dX2_nextOrder_41 : decode cX2_nextOrder 41 = .ok (.iload_n 3, 1) := by decide +kernel
theorem dX2_nextOrder_42 : decode cX2_nextOrder 42 = .ok (.iload_n 2, 1) := by decide +kernel
theorem dX2_nextOrder_43 : decode cX2_nextOrder 43 = .ok (.if_icmp .le 24, 3) := by decide +kernel
theorem dX2_nextOrder_46 : decode cX2_nextOrder 46 = .ok (.aload_n 0, 1) := by decide +kernel
theorem dX2_nextOrder_47 : decode cX2_nextOrder 47 = .ok (.getfield 22, 3) := by decide +kernel
theorem dX2_nextOrder_50 : decode cX2_nextOrder 50 = .ok (.iload_n 3, 1) := by decide +kernel
theorem dX2_nextOrder_51 : decode cX2_nextOrder 51 = .ok (.iaload, 1) := by decide +kernel
theorem dX2_nextOrder_52 : decode cX2_nextOrder 52 = .ok (.aload_n 0, 1) := by decide +kernel
theorem dX2_nextOrder_53 : decode cX2_nextOrder 53 = .ok (.getfield 22, 3) := by decide +kernel
theorem dX2_nextOrder_56 : decode cX2_nextOrder 56 = .ok (.iload_n 2, 1) := by decide +kernel
theorem dX2_nextOrder_57 : decode cX2_nextOrder 57 = .ok (.iaload, 1) := by decide +kernel
theorem dX2_nextOrder_58 : decode cX2_nextOrder 58 = .ok (.if_icmp .ge 9, 3) := by decide +kernel
theorem dX2_nextOrder_61 : decode cX2_nextOrder 61 = .ok (.iinc 3 (-1), 3) := by decide +kernel
theorem dX2_nextOrder_64 : decode cX2_nextOrder 64 = .ok (.goto (-23), 3) := by decide +kernel
theorem dX2_nextOrder_67 : decode cX2_nextOrder 67 = .ok (.aload_n 0, 1) := by decide +kernel
theorem dX2_nextOrder_68 : decode cX2_nextOrder 68 = .ok (.iload_n 2, 1) := by decide +kernel
theorem dX2_nextOrder_69 : decode cX2_nextOrder 69 = .ok (.iload_n 3, 1) := by decide +kernel
theorem dX2_nextOrder_70 : decode cX2_nextOrder 70 = .ok (.invokevirtual 79, 3) := by decide +kernel
theorem dX2_nextOrder_73 : decode cX2_nextOrder 73 = .ok (.iload_n 1, 1) := by decide +kernel
theorem dX2_nextOrder_74 : decode cX2_nextOrder 74 = .ok (.iconst 1, 1) := by decide +kernel
theorem dX2_nextOrder_75 : decode cX2_nextOrder 75 = .ok (.isub, 1) := by decide +kernel
theorem dX2_nextOrder_76 : decode cX2_nextOrder 76 = .ok (.istore 4, 2) := by decide +kernel
theorem dX2_nextOrder_78 : decode cX2_nextOrder 78 = .ok (.iload_n 2, 1) := by decide +kernel
theorem dX2_nextOrder_79 : decode cX2_nextOrder 79 = .ok (.iconst 1, 1) := by decide +kernel
theorem dX2_nextOrder_80 : decode cX2_nextOrder 80 = .ok (.iadd, 1) := by decide +kernel
theorem dX2_nextOrder_81 : decode cX2_nextOrder 81 = .ok (.istore 5, 2) := by decide +kernel
theorem dX2_nextOrder_83 : decode cX2_nextOrder 83 = .ok (.iload 5, 2) := by decide +kernel
theorem dX2_nextOrder_85 : decode cX2_nextOrder 85 = .ok (.iload 4, 2) := by decide +kernel
theorem dX2_nextOrder_87 : decode cX2_nextOrder 87 = .ok (.if_icmp .ge 20, 3) := by decide +kernel
theorem dX2_nextOrder_90 : decode cX2_nextOrder 90 = .ok (.aload_n 0, 1) := by decide +kernel
theorem dX2_nextOrder_91 : decode cX2_nextOrder 91 = .ok (.iload 5, 2) := by decide +kernel
theorem dX2_nextOrder_93 : decode cX2_nextOrder 93 = .ok (.iload 4, 2) := by decide +kernel
theorem dX2_nextOrder_95 : decode cX2_nextOrder 95 = .ok (.invokevirtual 79, 3) := by decide +kernel
theorem dX2_nextOrder_98 : decode cX2_nextOrder 98 = .ok (.iinc 4 (-1), 3) := by decide +kernel
theorem dX2_nextOrder_101 : decode cX2_nextOrder 101 = .ok (.iinc 5 1, 3) := by decide +kernel
theorem dX2_nextOrder_104 : decode cX2_nextOrder 104 = .ok (.goto (-21), 3) := by decide +kernel
theorem dX2_nextOrder_107 : decode cX2_nextOrder 107 = .ok (.iconst 1, 1) := by decide +kernel
theorem dX2_nextOrder_108 : decode cX2_nextOrder 108 = .ok (.ireturn, 1) := by decide +kernel
theorem dX2_swapInOrder_0 : decode cX2_swapInOrder 0 = .ok (.aload_n 0, 1) := by decide +kernel
theorem dX2_swapInOrder_1 : decode cX2_swapInOrder 1 = .ok (.getfield 22, 3) := by decide +kernel
theorem dX2_swapInOrder_4 : decode cX2_swapInOrder 4 = .ok (.iload_n 1, 1) := by decide +kernel
theorem dX2_swapInOrder_5 : decode cX2_swapInOrder 5 = .ok (.iaload, 1) := by decide +kernel
theorem dX2_swapInOrder_6 : decode cX2_swapInOrder 6 = .ok (.istore_n 3, 1) := by decide +kernel
theorem dX2_swapInOrder_7 : decode cX2_swapInOrder 7 = .ok (.aload_n 0, 1) := by decide +kernel
theorem dX2_swapInOrder_8 : decode cX2_swapInOrder 8 = .ok (.getfield 22, 3) := by decide +kernel
theorem dX2_swapInOrder_11 : decode cX2_swapInOrder 11 = .ok (.iload_n 1, 1) := by decide +kernel
theorem dX2_swapInOrder_12 : decode cX2_swapInOrder 12 = .ok (.aload_n 0, 1) := by decide +kernel
theorem dX2_swapInOrder_13 : decode cX2_swapInOrder 13 = .ok (.getfield 22, 3) := by decide +kernel
theorem dX2_swapInOrder_16 : decode cX2_swapInOrder 16 = .ok (.iload_n 2, 1) := by decide +kernel
theorem dX2_swapInOrder_17 : decode cX2_swapInOrder 17 = .ok (.iaload, 1) := by decide +kernel
theorem dX2_swapInOrder_18 : decode cX2_swapInOrder 18 = .ok (.iastore, 1) := by decide +kernel
theorem dX2_swapInOrder_19 : decode cX2_swapInOrder 19 = .ok (.aload_n 0, 1) := by decide +kernel
theorem dX2_swapInOrder_20 : decode cX2_swapInOrder 20 = .ok (.getfield 22, 3) := by decide +kernel
theorem dX2_swapInOrder_23 : decode cX2_swapInOrder 23 = .ok (.iload_n 2, 1) := by decide +kernel
theorem dX2_swapInOrder_24 : decode cX2_swapInOrder 24 = .ok (.iload_n 3, 1) := by decide +kernel
theorem dX2_swapInOrder_25 : decode cX2_swapInOrder 25 = .ok (.iastore, 1) := by decide +kernel
theorem dX2_swapInOrder_26 : decode cX2_swapInOrder 26 = .ok (.return_, 1) := by decide +kernel
theorem dX2_readColumns_0 : decode cX2_readColumns 0 = .ok (.iconst 0, 1) := by decide +kernel
theorem dX2_readColumns_1 : decode cX2_readColumns 1 = .ok (.istore_n 3, 1) := by decide +kernel
theorem dX2_readColumns_2 : decode cX2_readColumns 2 = .ok (.iconst 0, 1) := by decide +kernel
theorem dX2_readColumns_3 : decode cX2_readColumns 3 = .ok (.istore 4, 2) := by decide +kernel
theorem dX2_readColumns_5 : decode cX2_readColumns 5 = .ok (.iload 4, 2) := by decide +kernel
theorem dX2_readColumns_7 : decode cX2_readColumns 7 = .ok (.iload_n 2, 1) := by decide +kernel
theorem dX2_readColumns_8 : decode cX2_readColumns 8 = .ok (.if_icmp .ge 44, 3) := by decide +kernel
theorem dX2_readColumns_11 : decode cX2_readColumns 11 = .ok (.aload_n 0, 1) := by decide +kernel
theorem dX2_readColumns_12 : decode cX2_readColumns 12 = .ok (.getfield 22, 3) := by decide +kernel
theorem dX2_readColumns_15 : decode cX2_readColumns 15 = .ok (.iload 4, 2) := by decide +kernel
theorem dX2_readColumns_17 : decode cX2_readColumns 17 = .ok (.iaload, 1) := by decide +kernel
theorem dX2_readColumns_18 : decode cX2_readColumns 18 = .ok (.istore 5, 2) := by decide +kernel
theorem dX2_readColumns_20 : decode cX2_readColumns 20 = .ok (.iload 5, 2) := by decide +kernel
theorem dX2_readColumns_22 : decode cX2_readColumns 22 = .ok (.iload_n 1, 1) := by decide +kernel
theorem dX2_readColumns_23 : decode cX2_readColumns 23 = .ok (.if_icmp .ge 23, 3) := by decide +kernel
theorem dX2_readColumns_26 : decode cX2_readColumns 26 = .ok (.aload_n 0, 1) := by decide +kernel
theorem dX2_readColumns_27 : decode cX2_readColumns 27 = .ok (.getfield 25, 3) := by decide +kernel
theorem dX2_readColumns_30 : decode cX2_readColumns 30 = .ok (.iload_n 3, 1) := by decide +kernel
theorem dX2_readColumns_31 : decode cX2_readColumns 31 = .ok (.iload 5, 2) := by decide +kernel
theorem dX2_readColumns_33 : decode cX2_readColumns 33 = .ok (.iastore, 1) := by decide +kernel
theorem dX2_readColumns_34 : decode cX2_readColumns 34 = .ok (.iinc 3 1, 3) := by decide +kernel
theorem dX2_readColumns_37 : decode cX2_readColumns 37 = .ok (.iload 5, 2) := by decide +kernel
theorem dX2_readColumns_39 : decode cX2_readColumns 39 = .ok (.iload_n 2, 1) := by decide +kernel
theorem dX2_readColumns_40 : decode cX2_readColumns 40 = .ok (.iadd, 1) := by decide +kernel
theorem dX2_readColumns_41 : decode cX2_readColumns 41 = .ok (.istore 5, 2) := by decide +kernel
theorem dX2_readColumns_43 : decode cX2_readColumns 43 = .ok (.goto (-23), 3) := by decide +kernel
theorem dX2_readColumns_46 : decode cX2_readColumns 46 = .ok (.iinc 4 1, 3) := by decide +kernel
theorem dX2_readColumns_49 : decode cX2_readColumns 49 = .ok (.goto (-44), 3) := by decide +kernel
theorem dX2_readColumns_52 : decode cX2_readColumns 52 = .ok (.return_, 1) := by decide +kernel
theorem dX2_readRails_0 : decode cX2_readRails 0 = .ok (.iconst 0, 1) := by decide +kernel
theorem dX2_readRails_1 : decode cX2_readRails 1 = .ok (.istore_n 3, 1) := by decide +kernel
theorem dX2_readRails_2 : decode cX2_readRails 2 = .ok (.iconst 0, 1) := by decide +kernel
theorem dX2_readRails_3 : decode cX2_readRails 3 = .ok (.istore 4, 2) := by decide +kernel
theorem dX2_readRails_5 : decode cX2_readRails 5 = .ok (.iload 4, 2) := by decide +kernel
theorem dX2_readRails_7 : decode cX2_readRails 7 = .ok (.iload_n 2, 1) := by decide +kernel
theorem dX2_readRails_8 : decode cX2_readRails 8 = .ok (.if_icmp .gt 71, 3) := by decide +kernel
theorem dX2_readRails_11 : decode cX2_readRails 11 = .ok (.iconst 0, 1) := by decide +kernel
theorem dX2_readRails_12 : decode cX2_readRails 12 = .ok (.istore 5, 2) := by decide +kernel
theorem dX2_readRails_14 : decode cX2_readRails 14 = .ok (.iconst 1, 1) := by decide +kernel
theorem dX2_readRails_15 : decode cX2_readRails 15 = .ok (.istore 6, 2) := by decide +kernel
theorem dX2_readRails_17 : decode cX2_readRails 17 = .ok (.iconst 0, 1) := by decide +kernel
theorem dX2_readRails_18 : decode cX2_readRails 18 = .ok (.istore 7, 2) := by decide +kernel
theorem dX2_readRails_20 : decode cX2_readRails 20 = .ok (.iload 7, 2) := by decide +kernel
theorem dX2_readRails_22 : decode cX2_readRails 22 = .ok (.iload_n 1, 1) := by decide +kernel
theorem dX2_readRails_23 : decode cX2_readRails 23 = .ok (.if_icmp .ge 50, 3) := by decide +kernel
theorem dX2_readRails_26 : decode cX2_readRails 26 = .ok (.iload 5, 2) := by decide +kernel
theorem dX2_readRails_28 : decode cX2_readRails 28 = .ok (.iload 4, 2) := by decide +kernel
theorem dX2_readRails_30 : decode cX2_readRails 30 = .ok (.if_icmp .ne 14, 3) := by decide +kernel
theorem dX2_readRails_33 : decode cX2_readRails 33 = .ok (.aload_n 0, 1) := by decide +kernel
theorem dX2_readRails_34 : decode cX2_readRails 34 = .ok (.getfield 25, 3) := by decide +kernel
theorem dX2_readRails_37 : decode cX2_readRails 37 = .ok (.iload_n 3, 1) := by decide +kernel
theorem dX2_readRails_38 : decode cX2_readRails 38 = .ok (.iload 7, 2) := by decide +kernel
theorem dX2_readRails_40 : decode cX2_readRails 40 = .ok (.iastore, 1) := by decide +kernel
theorem dX2_readRails_41 : decode cX2_readRails 41 = .ok (.iinc 3 1, 3) := by decide +kernel
theorem dX2_readRails_44 : decode cX2_readRails 44 = .ok (.iload 5, 2) := by decide +kernel
theorem dX2_readRails_46 : decode cX2_readRails 46 = .ok (.iload 6, 2) := by decide +kernel
theorem dX2_readRails_48 : decode cX2_readRails 48 = .ok (.iadd, 1) := by decide +kernel
theorem dX2_readRails_49 : decode cX2_readRails 49 = .ok (.istore 5, 2) := by decide +kernel
theorem dX2_readRails_51 : decode cX2_readRails 51 = .ok (.iload 5, 2) := by decide +kernel
theorem dX2_readRails_53 : decode cX2_readRails 53 = .ok (.ifCond .eq 9, 3) := by decide +kernel
theorem dX2_readRails_56 : decode cX2_readRails 56 = .ok (.iload 5, 2) := by decide +kernel
theorem dX2_readRails_58 : decode cX2_readRails 58 = .ok (.iload_n 2, 1) := by decide +kernel
theorem dX2_readRails_59 : decode cX2_readRails 59 = .ok (.if_icmp .ne 8, 3) := by decide +kernel
theorem dX2_readRails_62 : decode cX2_readRails 62 = .ok (.iload 6, 2) := by decide +kernel
theorem dX2_readRails_64 : decode cX2_readRails 64 = .ok (.ineg, 1) := by decide +kernel
theorem dX2_readRails_65 : decode cX2_readRails 65 = .ok (.istore 6, 2) := by decide +kernel
theorem dX2_readRails_67 : decode cX2_readRails 67 = .ok (.iinc 7 1, 3) := by decide +kernel
theorem dX2_readRails_70 : decode cX2_readRails 70 = .ok (.goto (-50), 3) := by decide +kernel
theorem dX2_readRails_73 : decode cX2_readRails 73 = .ok (.iinc 4 1, 3) := by decide +kernel
theorem dX2_readRails_76 : decode cX2_readRails 76 = .ok (.goto (-71), 3) := by decide +kernel
theorem dX2_readRails_79 : decode cX2_readRails 79 = .ok (.return_, 1) := by decide +kernel
theorem dX2_putInPlace_0 : decode cX2_putInPlace 0 = .ok (.iconst 0, 1) := by decide +kernel
theorem dX2_putInPlace_1 : decode cX2_putInPlace 1 = .ok (.istore_n 3, 1) := by decide +kernel
theorem dX2_putInPlace_2 : decode cX2_putInPlace 2 = .ok (.iload_n 3, 1) := by decide +kernel
theorem dX2_putInPlace_3 : decode cX2_putInPlace 3 = .ok (.aload_n 1, 1) := by decide +kernel
theorem dX2_putInPlace_4 : decode cX2_putInPlace 4 = .ok (.getfield 56, 3) := by decide +kernel
theorem dX2_putInPlace_7 : decode cX2_putInPlace 7 = .ok (.if_icmp .ge 50, 3) := by decide +kernel
theorem dX2_putInPlace_10 : decode cX2_putInPlace 10 = .ok (.iload_n 2, 1) := by decide +kernel
theorem dX2_putInPlace_11 : decode cX2_putInPlace 11 = .ok (.ifCond .eq 23, 3) := by decide +kernel
theorem dX2_putInPlace_14 : decode cX2_putInPlace 14 = .ok (.aload_n 0, 1) := by decide +kernel
theorem dX2_putInPlace_15 : decode cX2_putInPlace 15 = .ok (.getfield 9, 3) := by decide +kernel
theorem dX2_putInPlace_18 : decode cX2_putInPlace 18 = .ok (.iload_n 3, 1) := by decide +kernel
theorem dX2_putInPlace_19 : decode cX2_putInPlace 19 = .ok (.aload_n 1, 1) := by decide +kernel
theorem dX2_putInPlace_20 : decode cX2_putInPlace 20 = .ok (.getfield 72, 3) := by decide +kernel
theorem dX2_putInPlace_23 : decode cX2_putInPlace 23 = .ok (.aload_n 0, 1) := by decide +kernel
theorem dX2_putInPlace_24 : decode cX2_putInPlace 24 = .ok (.getfield 25, 3) := by decide +kernel
theorem dX2_putInPlace_27 : decode cX2_putInPlace 27 = .ok (.iload_n 3, 1) := by decide +kernel
theorem dX2_putInPlace_28 : decode cX2_putInPlace 28 = .ok (.iaload, 1) := by decide +kernel
theorem dX2_putInPlace_29 : decode cX2_putInPlace 29 = .ok (.iaload, 1) := by decide +kernel
theorem dX2_putInPlace_30 : decode cX2_putInPlace 30 = .ok (.iastore, 1) := by decide +kernel
theorem dX2_putInPlace_31 : decode cX2_putInPlace 31 = .ok (.goto 20, 3) := by decide +kernel
theorem dX2_putInPlace_34 : decode cX2_putInPlace 34 = .ok (.aload_n 0, 1) := by decide +kernel
theorem dX2_putInPlace_35 : decode cX2_putInPlace 35 = .ok (.getfield 9, 3) := by decide +kernel
theorem dX2_putInPlace_38 : decode cX2_putInPlace 38 = .ok (.aload_n 0, 1) := by decide +kernel
theorem dX2_putInPlace_39 : decode cX2_putInPlace 39 = .ok (.getfield 25, 3) := by decide +kernel
theorem dX2_putInPlace_42 : decode cX2_putInPlace 42 = .ok (.iload_n 3, 1) := by decide +kernel
theorem dX2_putInPlace_43 : decode cX2_putInPlace 43 = .ok (.iaload, 1) := by decide +kernel
theorem dX2_putInPlace_44 : decode cX2_putInPlace 44 = .ok (.aload_n 1, 1) := by decide +kernel
theorem dX2_putInPlace_45 : decode cX2_putInPlace 45 = .ok (.getfield 72, 3) := by decide +kernel
theorem dX2_putInPlace_48 : decode cX2_putInPlace 48 = .ok (.iload_n 3, 1) := by decide +kernel
theorem dX2_putInPlace_49 : decode cX2_putInPlace 49 = .ok (.iaload, 1) := by decide +kernel
theorem dX2_putInPlace_50 : decode cX2_putInPlace 50 = .ok (.iastore, 1) := by decide +kernel
theorem dX2_putInPlace_51 : decode cX2_putInPlace 51 = .ok (.iinc 3 1, 3) := by decide +kernel
theorem dX2_putInPlace_54 : decode cX2_putInPlace 54 = .ok (.goto (-52), 3) := by decide +kernel
theorem dX2_putInPlace_57 : decode cX2_putInPlace 57 = .ok (.return_, 1) := by decide +kernel
set_option maxRecDepth 20000 in
theorem ggX2_takeApart_X2_rowPlace : GoodIn wsX2_takeApart wsX2_rowPlace := goodIn_r _ [9] (by decide +kernel) (by decide +kernel)
set_option maxRecDepth 20000 in
theorem gX2_takeApart_X2_rowPlace : GoodIn wsX2_takeApart (va_wsS RX2 82 yX2_rowPlace wsX2_rowPlace) := goodIn_app (goodIn_of _ (by decide +kernel)) ggX2_takeApart_X2_rowPlace
set_option maxRecDepth 20000 in
theorem ggX2_takeApart_X1_rowOf : GoodIn wsX2_takeApart wsX1_rowOf := goodIn_r _ [14, 15, 42, 43] (by decide +kernel) (by decide +kernel)
set_option maxRecDepth 20000 in
theorem gX2_takeApart_X1_rowOf : GoodIn wsX2_takeApart (wsV RX2 86 RX1 yX1_rowOf wsX1_rowOf) := goodIn_app (goodIn_of _ (by decide +kernel)) ggX2_takeApart_X1_rowOf
set_option maxRecDepth 20000 in
theorem ggX2_takeApart_X2_columnPlace : GoodIn wsX2_takeApart wsX2_columnPlace := goodIn_r _ [18] (by decide +kernel) (by decide +kernel)
set_option maxRecDepth 20000 in
theorem gX2_takeApart_X2_columnPlace : GoodIn wsX2_takeApart (va_wsS RX2 90 yX2_columnPlace wsX2_columnPlace) := goodIn_app (goodIn_of _ (by decide +kernel)) ggX2_takeApart_X2_columnPlace
set_option maxRecDepth 20000 in
theorem ggX2_takeApart_X1_columnOf : GoodIn wsX2_takeApart wsX1_columnOf := goodIn_r _ [22, 15, 42, 43] (by decide +kernel) (by decide +kernel)
set_option maxRecDepth 20000 in
theorem gX2_takeApart_X1_columnOf : GoodIn wsX2_takeApart (wsV RX2 94 RX1 yX1_columnOf wsX1_columnOf) := goodIn_app (goodIn_of _ (by decide +kernel)) ggX2_takeApart_X1_columnOf
set_option maxRecDepth 20000 in
theorem ggX2_takeApart_X1_at : GoodIn wsX2_takeApart wsX1_at := goodIn_r _ [26, 27, 42, 43] (by decide +kernel) (by decide +kernel)
set_option maxRecDepth 20000 in
theorem gX2_takeApart_X1_at : GoodIn wsX2_takeApart (wsV RX2 97 RX1 yX1_at wsX1_at) := goodIn_app (goodIn_of _ (by decide +kernel)) ggX2_takeApart_X1_at
theorem dX2_takeApart_0 : decode cX2_takeApart 0 = .ok (.aload_n 1, 1) := by decide +kernel
theorem dX2_takeApart_1 : decode cX2_takeApart 1 = .ok (.getfield 56, 3) := by decide +kernel
theorem dX2_takeApart_4 : decode cX2_takeApart 4 = .ok (.istore_n 3, 1) := by decide +kernel
theorem dX2_takeApart_5 : decode cX2_takeApart 5 = .ok (.iconst 0, 1) := by decide +kernel
theorem dX2_takeApart_6 : decode cX2_takeApart 6 = .ok (.istore 4, 2) := by decide +kernel
theorem dX2_takeApart_8 : decode cX2_takeApart 8 = .ok (.iload 4, 2) := by decide +kernel
theorem dX2_takeApart_10 : decode cX2_takeApart 10 = .ok (.iload_n 3, 1) := by decide +kernel
theorem dX2_takeApart_11 : decode cX2_takeApart 11 = .ok (.if_icmp .ge 60, 3) := by decide +kernel
theorem dX2_takeApart_14 : decode cX2_takeApart 14 = .ok (.aload_n 0, 1) := by decide +kernel
theorem dX2_takeApart_15 : decode cX2_takeApart 15 = .ok (.getfield 28, 3) := by decide +kernel
theorem dX2_takeApart_18 : decode cX2_takeApart 18 = .ok (.iload 4, 2) := by decide +kernel
theorem dX2_takeApart_20 : decode cX2_takeApart 20 = .ok (.iload_n 2, 1) := by decide +kernel
theorem dX2_takeApart_21 : decode cX2_takeApart 21 = .ok (.invokestatic 82, 3) := by decide +kernel
theorem dX2_takeApart_24 : decode cX2_takeApart 24 = .ok (.aload_n 0, 1) := by decide +kernel
theorem dX2_takeApart_25 : decode cX2_takeApart 25 = .ok (.getfield 18, 3) := by decide +kernel
theorem dX2_takeApart_28 : decode cX2_takeApart 28 = .ok (.aload_n 1, 1) := by decide +kernel
theorem dX2_takeApart_29 : decode cX2_takeApart 29 = .ok (.getfield 72, 3) := by decide +kernel
theorem dX2_takeApart_32 : decode cX2_takeApart 32 = .ok (.iload 4, 2) := by decide +kernel
theorem dX2_takeApart_34 : decode cX2_takeApart 34 = .ok (.iaload, 1) := by decide +kernel
theorem dX2_takeApart_35 : decode cX2_takeApart 35 = .ok (.invokevirtual 86, 3) := by decide +kernel
theorem dX2_takeApart_38 : decode cX2_takeApart 38 = .ok (.iastore, 1) := by decide +kernel
theorem dX2_takeApart_39 : decode cX2_takeApart 39 = .ok (.aload_n 0, 1) := by decide +kernel
theorem dX2_takeApart_40 : decode cX2_takeApart 40 = .ok (.getfield 28, 3) := by decide +kernel
theorem dX2_takeApart_43 : decode cX2_takeApart 43 = .ok (.iload 4, 2) := by decide +kernel
theorem dX2_takeApart_45 : decode cX2_takeApart 45 = .ok (.iload_n 3, 1) := by decide +kernel
theorem dX2_takeApart_46 : decode cX2_takeApart 46 = .ok (.iload_n 2, 1) := by decide +kernel
theorem dX2_takeApart_47 : decode cX2_takeApart 47 = .ok (.invokestatic 90, 3) := by decide +kernel
theorem dX2_takeApart_50 : decode cX2_takeApart 50 = .ok (.aload_n 0, 1) := by decide +kernel
theorem dX2_takeApart_51 : decode cX2_takeApart 51 = .ok (.getfield 18, 3) := by decide +kernel
theorem dX2_takeApart_54 : decode cX2_takeApart 54 = .ok (.aload_n 1, 1) := by decide +kernel
theorem dX2_takeApart_55 : decode cX2_takeApart 55 = .ok (.getfield 72, 3) := by decide +kernel
theorem dX2_takeApart_58 : decode cX2_takeApart 58 = .ok (.iload 4, 2) := by decide +kernel
theorem dX2_takeApart_60 : decode cX2_takeApart 60 = .ok (.iaload, 1) := by decide +kernel
theorem dX2_takeApart_61 : decode cX2_takeApart 61 = .ok (.invokevirtual 94, 3) := by decide +kernel
theorem dX2_takeApart_64 : decode cX2_takeApart 64 = .ok (.iastore, 1) := by decide +kernel
theorem dX2_takeApart_65 : decode cX2_takeApart 65 = .ok (.iinc 4 1, 3) := by decide +kernel
theorem dX2_takeApart_68 : decode cX2_takeApart 68 = .ok (.goto (-60), 3) := by decide +kernel
theorem dX2_takeApart_71 : decode cX2_takeApart 71 = .ok (.iconst 0, 1) := by decide +kernel
theorem dX2_takeApart_72 : decode cX2_takeApart 72 = .ok (.istore 4, 2) := by decide +kernel
theorem dX2_takeApart_74 : decode cX2_takeApart 74 = .ok (.iload 4, 2) := by decide +kernel
theorem dX2_takeApart_76 : decode cX2_takeApart 76 = .ok (.iload_n 3, 1) := by decide +kernel
theorem dX2_takeApart_77 : decode cX2_takeApart 77 = .ok (.if_icmp .ge 62, 3) := by decide +kernel
theorem dX2_takeApart_80 : decode cX2_takeApart 80 = .ok (.aload_n 0, 1) := by decide +kernel
theorem dX2_takeApart_81 : decode cX2_takeApart 81 = .ok (.getfield 9, 3) := by decide +kernel
theorem dX2_takeApart_84 : decode cX2_takeApart 84 = .ok (.iload 4, 2) := by decide +kernel
theorem dX2_takeApart_86 : decode cX2_takeApart 86 = .ok (.aload_n 0, 1) := by decide +kernel
theorem dX2_takeApart_87 : decode cX2_takeApart 87 = .ok (.getfield 18, 3) := by decide +kernel
theorem dX2_takeApart_90 : decode cX2_takeApart 90 = .ok (.aload_n 0, 1) := by decide +kernel
theorem dX2_takeApart_91 : decode cX2_takeApart 91 = .ok (.getfield 28, 3) := by decide +kernel
theorem dX2_takeApart_94 : decode cX2_takeApart 94 = .ok (.iload 4, 2) := by decide +kernel
theorem dX2_takeApart_96 : decode cX2_takeApart 96 = .ok (.iload_n 2, 1) := by decide +kernel
theorem dX2_takeApart_97 : decode cX2_takeApart 97 = .ok (.ifCond .ne 7, 3) := by decide +kernel
theorem dX2_takeApart_100 : decode cX2_takeApart 100 = .ok (.iconst 1, 1) := by decide +kernel
theorem dX2_takeApart_101 : decode cX2_takeApart 101 = .ok (.goto 4, 3) := by decide +kernel
theorem dX2_takeApart_104 : decode cX2_takeApart 104 = .ok (.iconst 0, 1) := by decide +kernel
theorem dX2_takeApart_105 : decode cX2_takeApart 105 = .ok (.invokestatic 82, 3) := by decide +kernel
theorem dX2_takeApart_108 : decode cX2_takeApart 108 = .ok (.iaload, 1) := by decide +kernel
theorem dX2_takeApart_109 : decode cX2_takeApart 109 = .ok (.aload_n 0, 1) := by decide +kernel
theorem dX2_takeApart_110 : decode cX2_takeApart 110 = .ok (.getfield 28, 3) := by decide +kernel
theorem dX2_takeApart_113 : decode cX2_takeApart 113 = .ok (.iload 4, 2) := by decide +kernel
theorem dX2_takeApart_115 : decode cX2_takeApart 115 = .ok (.iload_n 3, 1) := by decide +kernel
theorem dX2_takeApart_116 : decode cX2_takeApart 116 = .ok (.iload_n 2, 1) := by decide +kernel
theorem dX2_takeApart_117 : decode cX2_takeApart 117 = .ok (.ifCond .ne 7, 3) := by decide +kernel
theorem dX2_takeApart_120 : decode cX2_takeApart 120 = .ok (.iconst 1, 1) := by decide +kernel
theorem dX2_takeApart_121 : decode cX2_takeApart 121 = .ok (.goto 4, 3) := by decide +kernel
theorem dX2_takeApart_124 : decode cX2_takeApart 124 = .ok (.iconst 0, 1) := by decide +kernel
theorem dX2_takeApart_125 : decode cX2_takeApart 125 = .ok (.invokestatic 90, 3) := by decide +kernel
theorem dX2_takeApart_128 : decode cX2_takeApart 128 = .ok (.iaload, 1) := by decide +kernel
theorem dX2_takeApart_129 : decode cX2_takeApart 129 = .ok (.invokevirtual 97, 3) := by decide +kernel
theorem dX2_takeApart_132 : decode cX2_takeApart 132 = .ok (.iastore, 1) := by decide +kernel
theorem dX2_takeApart_133 : decode cX2_takeApart 133 = .ok (.iinc 4 1, 3) := by decide +kernel
theorem dX2_takeApart_136 : decode cX2_takeApart 136 = .ok (.goto (-62), 3) := by decide +kernel
theorem dX2_takeApart_139 : decode cX2_takeApart 139 = .ok (.return_, 1) := by decide +kernel
theorem dX2_rowPlace_0 : decode cX2_rowPlace 0 = .ok (.iload_n 1, 1) := by decide +kernel
theorem dX2_rowPlace_1 : decode cX2_rowPlace 1 = .ok (.ifCond .eq 7, 3) := by decide +kernel
theorem dX2_rowPlace_4 : decode cX2_rowPlace 4 = .ok (.iload_n 0, 1) := by decide +kernel
theorem dX2_rowPlace_5 : decode cX2_rowPlace 5 = .ok (.goto 6, 3) := by decide +kernel
theorem dX2_rowPlace_8 : decode cX2_rowPlace 8 = .ok (.iconst 2, 1) := by decide +kernel
theorem dX2_rowPlace_9 : decode cX2_rowPlace 9 = .ok (.iload_n 0, 1) := by decide +kernel
theorem dX2_rowPlace_10 : decode cX2_rowPlace 10 = .ok (.imul, 1) := by decide +kernel
theorem dX2_rowPlace_11 : decode cX2_rowPlace 11 = .ok (.ireturn, 1) := by decide +kernel
theorem dX2_columnPlace_0 : decode cX2_columnPlace 0 = .ok (.iload_n 2, 1) := by decide +kernel
theorem dX2_columnPlace_1 : decode cX2_columnPlace 1 = .ok (.ifCond .eq 9, 3) := by decide +kernel
theorem dX2_columnPlace_4 : decode cX2_columnPlace 4 = .ok (.iload_n 1, 1) := by decide +kernel
theorem dX2_columnPlace_5 : decode cX2_columnPlace 5 = .ok (.iload_n 0, 1) := by decide +kernel
theorem dX2_columnPlace_6 : decode cX2_columnPlace 6 = .ok (.iadd, 1) := by decide +kernel
theorem dX2_columnPlace_7 : decode cX2_columnPlace 7 = .ok (.goto 8, 3) := by decide +kernel
theorem dX2_columnPlace_10 : decode cX2_columnPlace 10 = .ok (.iconst 2, 1) := by decide +kernel
theorem dX2_columnPlace_11 : decode cX2_columnPlace 11 = .ok (.iload_n 0, 1) := by decide +kernel
theorem dX2_columnPlace_12 : decode cX2_columnPlace 12 = .ok (.imul, 1) := by decide +kernel
theorem dX2_columnPlace_13 : decode cX2_columnPlace 13 = .ok (.iconst 1, 1) := by decide +kernel
theorem dX2_columnPlace_14 : decode cX2_columnPlace 14 = .ok (.iadd, 1) := by decide +kernel
theorem dX2_columnPlace_15 : decode cX2_columnPlace 15 = .ok (.ireturn, 1) := by decide +kernel
set_option maxRecDepth 20000 in
theorem ggX3_init_X0_init : GoodIn wsX3_init wsX0_init := goodIn_r _ [18, 19, 2, 3, 4, 20, 21, 22, 23, 24, 25, 26, 51, 52, 53, 54, 55, 56, 57, 58, 59] (by decide +kernel) (by decide +kernel)
set_option maxRecDepth 20000 in
theorem gX3_init_X0_init_n15 : GoodIn wsX3_init (wsX0_init) := ggX3_init_X0_init
set_option maxRecDepth 20000 in
theorem ggX3_init_X2_init : GoodIn wsX3_init wsX2_init := goodIn_r _ [28, 29, 2, 3, 4, 30, 31, 32, 33, 34, 35, 36, 37, 38, 39, 40, 41, 42, 60, 61, 62, 63, 64, 65, 66] (by decide +kernel) (by decide +kernel)
set_option maxRecDepth 20000 in
theorem gX3_init_X2_init_n26 : GoodIn wsX3_init (wsX2_init) := ggX3_init_X2_init
theorem dX3_init_0 : decode cX3_init 0 = .ok (.aload_n 0, 1) := by decide +kernel
theorem dX3_init_1 : decode cX3_init 1 = .ok (.invokespecial 1, 3) := by decide +kernel
theorem dX3_init_4 : decode cX3_init 4 = .ok (.aload_n 0, 1) := by decide +kernel
theorem dX3_init_5 : decode cX3_init 5 = .ok (.bipush 48, 2) := by decide +kernel
theorem dX3_init_7 : decode cX3_init 7 = .ok (.newarray .int, 2) := by decide +kernel
theorem dX3_init_9 : decode cX3_init 9 = .ok (.putfield 9, 3) := by decide +kernel
theorem dX3_init_12 : decode cX3_init 12 = .ok (.aload_n 0, 1) := by decide +kernel
theorem dX3_init_13 : decode cX3_init 13 = .ok (.new 13, 3) := by decide +kernel
theorem dX3_init_16 : decode cX3_init 16 = .ok (.dup, 1) := by decide +kernel
theorem dX3_init_17 : decode cX3_init 17 = .ok (.invokespecial 15, 3) := by decide +kernel
theorem dX3_init_20 : decode cX3_init 20 = .ok (.putfield 16, 3) := by decide +kernel
theorem dX3_init_23 : decode cX3_init 23 = .ok (.aload_n 0, 1) := by decide +kernel
theorem dX3_init_24 : decode cX3_init 24 = .ok (.iconst 2, 1) := by decide +kernel
theorem dX3_init_25 : decode cX3_init 25 = .ok (.anewarray 13, 3) := by decide +kernel
theorem dX3_init_28 : decode cX3_init 28 = .ok (.putfield 20, 3) := by decide +kernel
theorem dX3_init_31 : decode cX3_init 31 = .ok (.iconst 0, 1) := by decide +kernel
theorem dX3_init_32 : decode cX3_init 32 = .ok (.istore_n 1, 1) := by decide +kernel
theorem dX3_init_33 : decode cX3_init 33 = .ok (.iload_n 1, 1) := by decide +kernel
theorem dX3_init_34 : decode cX3_init 34 = .ok (.iconst 2, 1) := by decide +kernel
theorem dX3_init_35 : decode cX3_init 35 = .ok (.if_icmp .ge 22, 3) := by decide +kernel
theorem dX3_init_38 : decode cX3_init 38 = .ok (.aload_n 0, 1) := by decide +kernel
theorem dX3_init_39 : decode cX3_init 39 = .ok (.getfield 20, 3) := by decide +kernel
theorem dX3_init_42 : decode cX3_init 42 = .ok (.iload_n 1, 1) := by decide +kernel
theorem dX3_init_43 : decode cX3_init 43 = .ok (.new 13, 3) := by decide +kernel
theorem dX3_init_46 : decode cX3_init 46 = .ok (.dup, 1) := by decide +kernel
theorem dX3_init_47 : decode cX3_init 47 = .ok (.invokespecial 15, 3) := by decide +kernel
theorem dX3_init_50 : decode cX3_init 50 = .ok (.aastore, 1) := by decide +kernel
theorem dX3_init_51 : decode cX3_init 51 = .ok (.iinc 1 1, 3) := by decide +kernel
theorem dX3_init_54 : decode cX3_init 54 = .ok (.goto (-21), 3) := by decide +kernel
theorem dX3_init_57 : decode cX3_init 57 = .ok (.aload_n 0, 1) := by decide +kernel
theorem dX3_init_58 : decode cX3_init 58 = .ok (.new 24, 3) := by decide +kernel
theorem dX3_init_61 : decode cX3_init 61 = .ok (.dup, 1) := by decide +kernel
theorem dX3_init_62 : decode cX3_init 62 = .ok (.invokespecial 26, 3) := by decide +kernel
theorem dX3_init_65 : decode cX3_init 65 = .ok (.putfield 27, 3) := by decide +kernel
theorem dX3_init_68 : decode cX3_init 68 = .ok (.aload_n 0, 1) := by decide +kernel
theorem dX3_init_69 : decode cX3_init 69 = .ok (.bipush 16, 2) := by decide +kernel
theorem dX3_init_71 : decode cX3_init 71 = .ok (.newarray .int, 2) := by decide +kernel
theorem dX3_init_73 : decode cX3_init 73 = .ok (.putfield 31, 3) := by decide +kernel
theorem dX3_init_76 : decode cX3_init 76 = .ok (.aload_n 0, 1) := by decide +kernel
theorem dX3_init_77 : decode cX3_init 77 = .ok (.bipush 6, 2) := by decide +kernel
theorem dX3_init_79 : decode cX3_init 79 = .ok (.newarray .int, 2) := by decide +kernel
theorem dX3_init_81 : decode cX3_init 81 = .ok (.putfield 34, 3) := by decide +kernel
theorem dX3_init_84 : decode cX3_init 84 = .ok (.return_, 1) := by decide +kernel
set_option maxRecDepth 20000 in
theorem ggX3_say_X3_isOutside : GoodIn wsX3_say wsX3_isOutside := goodIn_r _ [6] (by decide +kernel) (by decide +kernel)
set_option maxRecDepth 20000 in
theorem gX3_say_X3_isOutside : GoodIn wsX3_say (va_wsS RX3 37 yX3_isOutside wsX3_isOutside) := goodIn_app (goodIn_of _ (by decide +kernel)) ggX3_say_X3_isOutside
theorem dX3_say_0 : decode cX3_say 0 = .ok (.iload_n 1, 1) := by decide +kernel
theorem dX3_say_1 : decode cX3_say 1 = .ok (.bipush 33, 2) := by decide +kernel
theorem dX3_say_3 : decode cX3_say 3 = .ok (.bipush 126, 2) := by decide +kernel
theorem dX3_say_5 : decode cX3_say 5 = .ok (.invokestatic 37, 3) := by decide +kernel
theorem dX3_say_8 : decode cX3_say 8 = .ok (.ifCond .eq 6, 3) := by decide +kernel
theorem dX3_say_11 : decode cX3_say 11 = .ok (.bipush (-2), 2) := by decide +kernel
theorem dX3_say_13 : decode cX3_say 13 = .ok (.ireturn, 1) := by decide +kernel
theorem dX3_say_14 : decode cX3_say 14 = .ok (.aload_n 0, 1) := by decide +kernel
theorem dX3_say_15 : decode cX3_say 15 = .ok (.getfield 41, 3) := by decide +kernel
theorem dX3_say_18 : decode cX3_say 18 = .ok (.bipush 48, 2) := by decide +kernel
theorem dX3_say_20 : decode cX3_say 20 = .ok (.if_icmp .lt 6, 3) := by decide +kernel
theorem dX3_say_23 : decode cX3_say 23 = .ok (.bipush (-4), 2) := by decide +kernel
theorem dX3_say_25 : decode cX3_say 25 = .ok (.ireturn, 1) := by decide +kernel
theorem dX3_say_26 : decode cX3_say 26 = .ok (.aload_n 0, 1) := by decide +kernel
theorem dX3_say_27 : decode cX3_say 27 = .ok (.getfield 9, 3) := by decide +kernel
theorem dX3_say_30 : decode cX3_say 30 = .ok (.aload_n 0, 1) := by decide +kernel
theorem dX3_say_31 : decode cX3_say 31 = .ok (.getfield 41, 3) := by decide +kernel
theorem dX3_say_34 : decode cX3_say 34 = .ok (.iload_n 1, 1) := by decide +kernel
theorem dX3_say_35 : decode cX3_say 35 = .ok (.iastore, 1) := by decide +kernel
theorem dX3_say_36 : decode cX3_say 36 = .ok (.aload_n 0, 1) := by decide +kernel
theorem dX3_say_37 : decode cX3_say 37 = .ok (.dup, 1) := by decide +kernel
theorem dX3_say_38 : decode cX3_say 38 = .ok (.getfield 41, 3) := by decide +kernel
theorem dX3_say_41 : decode cX3_say 41 = .ok (.iconst 1, 1) := by decide +kernel
theorem dX3_say_42 : decode cX3_say 42 = .ok (.iadd, 1) := by decide +kernel
theorem dX3_say_43 : decode cX3_say 43 = .ok (.putfield 41, 3) := by decide +kernel
theorem dX3_say_46 : decode cX3_say 46 = .ok (.aload_n 0, 1) := by decide +kernel
theorem dX3_say_47 : decode cX3_say 47 = .ok (.getfield 41, 3) := by decide +kernel
theorem dX3_say_50 : decode cX3_say 50 = .ok (.ireturn, 1) := by decide +kernel
theorem dX3_wipe_0 : decode cX3_wipe 0 = .ok (.aload_n 0, 1) := by decide +kernel
theorem dX3_wipe_1 : decode cX3_wipe 1 = .ok (.getfield 41, 3) := by decide +kernel
theorem dX3_wipe_4 : decode cX3_wipe 4 = .ok (.istore_n 1, 1) := by decide +kernel
theorem dX3_wipe_5 : decode cX3_wipe 5 = .ok (.aload_n 0, 1) := by decide +kernel
theorem dX3_wipe_6 : decode cX3_wipe 6 = .ok (.iconst 0, 1) := by decide +kernel
theorem dX3_wipe_7 : decode cX3_wipe 7 = .ok (.putfield 41, 3) := by decide +kernel
theorem dX3_wipe_10 : decode cX3_wipe 10 = .ok (.iload_n 1, 1) := by decide +kernel
theorem dX3_wipe_11 : decode cX3_wipe 11 = .ok (.ireturn, 1) := by decide +kernel
set_option maxRecDepth 20000 in
theorem ggX3_take_X3_isOutside : GoodIn wsX3_take wsX3_isOutside := goodIn_r _ [10] (by decide +kernel) (by decide +kernel)
set_option maxRecDepth 20000 in
theorem gX3_take_X3_isOutside : GoodIn wsX3_take (va_wsS RX3 37 yX3_isOutside wsX3_isOutside) := goodIn_app (goodIn_of _ (by decide +kernel)) ggX3_take_X3_isOutside
set_option maxRecDepth 20000 in
theorem ggX3_take_X3_padHasOnlyLetters : GoodIn wsX3_take wsX3_padHasOnlyLetters := goodIn_r _ [14, 1, 15, 16, 17, 9, 18, 7, 8, 10, 27, 28, 29, 30, 31, 32, 33, 34] (by decide +kernel) (by decide +kernel)
set_option maxRecDepth 20000 in
theorem gX3_take_X3_padHasOnlyLetters : GoodIn wsX3_take (wsV RX3 45 RX3 yX3_padHasOnlyLetters wsX3_padHasOnlyLetters) := goodIn_app (goodIn_of _ (by decide +kernel)) ggX3_take_X3_padHasOnlyLetters
set_option maxRecDepth 20000 in
theorem ggX3_take_X3_readPadInto : GoodIn wsX3_take wsX3_readPadInto := goodIn_r _ [22, 1, 15, 27, 28, 29, 30, 31, 32, 33, 34] (by decide +kernel) (by decide +kernel)
set_option maxRecDepth 20000 in
theorem gX3_take_X3_readPadInto : GoodIn wsX3_take (wsV RX3 52 RX3 yX3_readPadInto wsX3_readPadInto) := goodIn_app (goodIn_of _ (by decide +kernel)) ggX3_take_X3_readPadInto
set_option maxRecDepth 20000 in
theorem ggX3_take_X3_wipe : GoodIn wsX3_take wsX3_wipe := goodIn_r _ [26, 1, 27, 28, 29, 30, 31, 32, 33, 34] (by decide +kernel) (by decide +kernel)
set_option maxRecDepth 20000 in
theorem gX3_take_X3_wipe : GoodIn wsX3_take (wsV RX3 65 RX3 yX3_wipe wsX3_wipe) := goodIn_app (goodIn_of _ (by decide +kernel)) ggX3_take_X3_wipe
theorem dX3_take_0 : decode cX3_take 0 = .ok (.iload_n 1, 1) := by decide +kernel
theorem dX3_take_1 : decode cX3_take 1 = .ok (.iconst 0, 1) := by decide +kernel
theorem dX3_take_2 : decode cX3_take 2 = .ok (.iconst 1, 1) := by decide +kernel
theorem dX3_take_3 : decode cX3_take 3 = .ok (.invokestatic 37, 3) := by decide +kernel
theorem dX3_take_6 : decode cX3_take 6 = .ok (.ifCond .eq 6, 3) := by decide +kernel
theorem dX3_take_9 : decode cX3_take 9 = .ok (.bipush (-2), 2) := by decide +kernel
theorem dX3_take_11 : decode cX3_take 11 = .ok (.ireturn, 1) := by decide +kernel
theorem dX3_take_12 : decode cX3_take 12 = .ok (.aload_n 0, 1) := by decide +kernel
theorem dX3_take_13 : decode cX3_take 13 = .ok (.invokevirtual 45, 3) := by decide +kernel
theorem dX3_take_16 : decode cX3_take 16 = .ok (.ifCond .eq 21, 3) := by decide +kernel
theorem dX3_take_19 : decode cX3_take 19 = .ok (.iload_n 1, 1) := by decide +kernel
theorem dX3_take_20 : decode cX3_take 20 = .ok (.iconst 1, 1) := by decide +kernel
theorem dX3_take_21 : decode cX3_take 21 = .ok (.if_icmp .ne 19, 3) := by decide +kernel
theorem dX3_take_24 : decode cX3_take 24 = .ok (.aload_n 0, 1) := by decide +kernel
theorem dX3_take_25 : decode cX3_take 25 = .ok (.getfield 41, 3) := by decide +kernel
theorem dX3_take_28 : decode cX3_take 28 = .ok (.iconst 1, 1) := by decide +kernel
theorem dX3_take_29 : decode cX3_take 29 = .ok (.bipush 6, 2) := by decide +kernel
theorem dX3_take_31 : decode cX3_take 31 = .ok (.invokestatic 37, 3) := by decide +kernel
theorem dX3_take_34 : decode cX3_take 34 = .ok (.ifCond .eq 6, 3) := by decide +kernel
theorem dX3_take_37 : decode cX3_take 37 = .ok (.bipush (-7), 2) := by decide +kernel
theorem dX3_take_39 : decode cX3_take 39 = .ok (.ireturn, 1) := by decide +kernel
theorem dX3_take_40 : decode cX3_take 40 = .ok (.iload_n 1, 1) := by decide +kernel
theorem dX3_take_41 : decode cX3_take 41 = .ok (.ifCond .ne 28, 3) := by decide +kernel
theorem dX3_take_44 : decode cX3_take 44 = .ok (.aload_n 0, 1) := by decide +kernel
theorem dX3_take_45 : decode cX3_take 45 = .ok (.aload_n 0, 1) := by decide +kernel
theorem dX3_take_46 : decode cX3_take 46 = .ok (.getfield 16, 3) := by decide +kernel
theorem dX3_take_49 : decode cX3_take 49 = .ok (.getfield 49, 3) := by decide +kernel
theorem dX3_take_52 : decode cX3_take 52 = .ok (.invokevirtual 52, 3) := by decide +kernel
theorem dX3_take_55 : decode cX3_take 55 = .ok (.aload_n 0, 1) := by decide +kernel
theorem dX3_take_56 : decode cX3_take 56 = .ok (.getfield 16, 3) := by decide +kernel
theorem dX3_take_59 : decode cX3_take 59 = .ok (.aload_n 0, 1) := by decide +kernel
theorem dX3_take_60 : decode cX3_take 60 = .ok (.getfield 41, 3) := by decide +kernel
theorem dX3_take_63 : decode cX3_take 63 = .ok (.putfield 56, 3) := by decide +kernel
theorem dX3_take_66 : decode cX3_take 66 = .ok (.goto 25, 3) := by decide +kernel
theorem dX3_take_69 : decode cX3_take 69 = .ok (.aload_n 0, 1) := by decide +kernel
theorem dX3_take_70 : decode cX3_take 70 = .ok (.aload_n 0, 1) := by decide +kernel
theorem dX3_take_71 : decode cX3_take 71 = .ok (.getfield 16, 3) := by decide +kernel
theorem dX3_take_74 : decode cX3_take 74 = .ok (.getfield 59, 3) := by decide +kernel
theorem dX3_take_77 : decode cX3_take 77 = .ok (.invokevirtual 52, 3) := by decide +kernel
theorem dX3_take_80 : decode cX3_take 80 = .ok (.aload_n 0, 1) := by decide +kernel
theorem dX3_take_81 : decode cX3_take 81 = .ok (.getfield 16, 3) := by decide +kernel
theorem dX3_take_84 : decode cX3_take 84 = .ok (.aload_n 0, 1) := by decide +kernel
theorem dX3_take_85 : decode cX3_take 85 = .ok (.getfield 41, 3) := by decide +kernel
theorem dX3_take_88 : decode cX3_take 88 = .ok (.putfield 62, 3) := by decide +kernel
theorem dX3_take_91 : decode cX3_take 91 = .ok (.aload_n 0, 1) := by decide +kernel
theorem dX3_take_92 : decode cX3_take 92 = .ok (.invokevirtual 65, 3) := by decide +kernel
theorem dX3_take_95 : decode cX3_take 95 = .ok (.ireturn, 1) := by decide +kernel
set_option maxRecDepth 20000 in
theorem ggX3_worth_X3_isNoLetter : GoodIn wsX3_worth wsX3_isNoLetter := goodIn_r _ [6, 7, 8, 5, 9] (by decide +kernel) (by decide +kernel)
set_option maxRecDepth 20000 in
theorem gX3_worth_X3_isNoLetter : GoodIn wsX3_worth (va_wsS RX3 69 yX3_isNoLetter wsX3_isNoLetter) := goodIn_app (goodIn_of _ (by decide +kernel)) ggX3_worth_X3_isNoLetter
set_option maxRecDepth 20000 in
theorem ggX3_worth_X3_isOutside : GoodIn wsX3_worth wsX3_isOutside := goodIn_r _ [9] (by decide +kernel) (by decide +kernel)
set_option maxRecDepth 20000 in
theorem gX3_worth_X3_isOutside : GoodIn wsX3_worth (va_wsS RX3 37 yX3_isOutside wsX3_isOutside) := goodIn_app (goodIn_of _ (by decide +kernel)) ggX3_worth_X3_isOutside
theorem dX3_worth_0 : decode cX3_worth 0 = .ok (.iload_n 1, 1) := by decide +kernel
theorem dX3_worth_1 : decode cX3_worth 1 = .ok (.invokestatic 69, 3) := by decide +kernel
theorem dX3_worth_4 : decode cX3_worth 4 = .ok (.ifCond .ne 13, 3) := by decide +kernel
theorem dX3_worth_7 : decode cX3_worth 7 = .ok (.iload_n 2, 1) := by decide +kernel
theorem dX3_worth_8 : decode cX3_worth 8 = .ok (.iconst 0, 1) := by decide +kernel
theorem dX3_worth_9 : decode cX3_worth 9 = .ok (.bipush 99, 2) := by decide +kernel
theorem dX3_worth_11 : decode cX3_worth 11 = .ok (.invokestatic 37, 3) := by decide +kernel
theorem dX3_worth_14 : decode cX3_worth 14 = .ok (.ifCond .eq 6, 3) := by decide +kernel
theorem dX3_worth_17 : decode cX3_worth 17 = .ok (.bipush (-2), 2) := by decide +kernel
theorem dX3_worth_19 : decode cX3_worth 19 = .ok (.ireturn, 1) := by decide +kernel
theorem dX3_worth_20 : decode cX3_worth 20 = .ok (.aload_n 0, 1) := by decide +kernel
theorem dX3_worth_21 : decode cX3_worth 21 = .ok (.getfield 16, 3) := by decide +kernel
theorem dX3_worth_24 : decode cX3_worth 24 = .ok (.getfield 73, 3) := by decide +kernel
theorem dX3_worth_27 : decode cX3_worth 27 = .ok (.iload_n 1, 1) := by decide +kernel
theorem dX3_worth_28 : decode cX3_worth 28 = .ok (.iaload, 1) := by decide +kernel
theorem dX3_worth_29 : decode cX3_worth 29 = .ok (.istore_n 3, 1) := by decide +kernel
theorem dX3_worth_30 : decode cX3_worth 30 = .ok (.aload_n 0, 1) := by decide +kernel
theorem dX3_worth_31 : decode cX3_worth 31 = .ok (.getfield 16, 3) := by decide +kernel
theorem dX3_worth_34 : decode cX3_worth 34 = .ok (.getfield 73, 3) := by decide +kernel
theorem dX3_worth_37 : decode cX3_worth 37 = .ok (.iload_n 1, 1) := by decide +kernel
theorem dX3_worth_38 : decode cX3_worth 38 = .ok (.iload_n 2, 1) := by decide +kernel
theorem dX3_worth_39 : decode cX3_worth 39 = .ok (.iastore, 1) := by decide +kernel
theorem dX3_worth_40 : decode cX3_worth 40 = .ok (.iload_n 3, 1) := by decide +kernel
theorem dX3_worth_41 : decode cX3_worth 41 = .ok (.ireturn, 1) := by decide +kernel
set_option maxRecDepth 20000 in
theorem ggX3_like_X3_isNoLetter : GoodIn wsX3_like wsX3_isNoLetter := goodIn_r _ [6, 7, 8, 5, 9] (by decide +kernel) (by decide +kernel)
set_option maxRecDepth 20000 in
theorem gX3_like_X3_isNoLetter : GoodIn wsX3_like (va_wsS RX3 69 yX3_isNoLetter wsX3_isNoLetter) := goodIn_app (goodIn_of _ (by decide +kernel)) ggX3_like_X3_isNoLetter
set_option maxRecDepth 20000 in
theorem ggX3_like_X3_isOutside : GoodIn wsX3_like wsX3_isOutside := goodIn_r _ [9] (by decide +kernel) (by decide +kernel)
set_option maxRecDepth 20000 in
theorem gX3_like_X3_isOutside : GoodIn wsX3_like (va_wsS RX3 37 yX3_isOutside wsX3_isOutside) := goodIn_app (goodIn_of _ (by decide +kernel)) ggX3_like_X3_isOutside
set_option maxRecDepth 20000 in
theorem ggX3_like_X0_likedPairs : GoodIn wsX3_like wsX0_likedPairs := goodIn_r _ [14, 15, 16, 17, 18, 19, 20, 21, 22, 31, 32, 33, 34, 35, 36, 37, 38, 39] (by decide +kernel) (by decide +kernel)
set_option maxRecDepth 20000 in
theorem gX3_like_X0_likedPairs : GoodIn wsX3_like (wsV RX3 79 RX0 yX0_likedPairs wsX0_likedPairs) := goodIn_app (goodIn_of _ (by decide +kernel)) ggX3_like_X0_likedPairs
theorem dX3_like_0 : decode cX3_like 0 = .ok (.iload_n 1, 1) := by decide +kernel
theorem dX3_like_1 : decode cX3_like 1 = .ok (.invokestatic 69, 3) := by decide +kernel
theorem dX3_like_4 : decode cX3_like 4 = .ok (.ifCond .ne 19, 3) := by decide +kernel
theorem dX3_like_7 : decode cX3_like 7 = .ok (.iload_n 2, 1) := by decide +kernel
theorem dX3_like_8 : decode cX3_like 8 = .ok (.invokestatic 69, 3) := by decide +kernel
theorem dX3_like_11 : decode cX3_like 11 = .ok (.ifCond .ne 12, 3) := by decide +kernel
theorem dX3_like_14 : decode cX3_like 14 = .ok (.iload_n 3, 1) := by decide +kernel
theorem dX3_like_15 : decode cX3_like 15 = .ok (.iconst 0, 1) := by decide +kernel
theorem dX3_like_16 : decode cX3_like 16 = .ok (.iconst 1, 1) := by decide +kernel
theorem dX3_like_17 : decode cX3_like 17 = .ok (.invokestatic 37, 3) := by decide +kernel
theorem dX3_like_20 : decode cX3_like 20 = .ok (.ifCond .eq 6, 3) := by decide +kernel
theorem dX3_like_23 : decode cX3_like 23 = .ok (.bipush (-2), 2) := by decide +kernel
theorem dX3_like_25 : decode cX3_like 25 = .ok (.ireturn, 1) := by decide +kernel
theorem dX3_like_26 : decode cX3_like 26 = .ok (.iconst 1, 1) := by decide +kernel
theorem dX3_like_27 : decode cX3_like 27 = .ok (.iload_n 2, 1) := by decide +kernel
theorem dX3_like_28 : decode cX3_like 28 = .ok (.ishl, 1) := by decide +kernel
theorem dX3_like_29 : decode cX3_like 29 = .ok (.istore 4, 2) := by decide +kernel
theorem dX3_like_31 : decode cX3_like 31 = .ok (.aload_n 0, 1) := by decide +kernel
theorem dX3_like_32 : decode cX3_like 32 = .ok (.getfield 16, 3) := by decide +kernel
theorem dX3_like_35 : decode cX3_like 35 = .ok (.getfield 76, 3) := by decide +kernel
theorem dX3_like_38 : decode cX3_like 38 = .ok (.iload_n 1, 1) := by decide +kernel
theorem dX3_like_39 : decode cX3_like 39 = .ok (.iload_n 3, 1) := by decide +kernel
theorem dX3_like_40 : decode cX3_like 40 = .ok (.iconst 1, 1) := by decide +kernel
theorem dX3_like_41 : decode cX3_like 41 = .ok (.if_icmp .ne 18, 3) := by decide +kernel
theorem dX3_like_44 : decode cX3_like 44 = .ok (.aload_n 0, 1) := by decide +kernel
theorem dX3_like_45 : decode cX3_like 45 = .ok (.getfield 16, 3) := by decide +kernel
theorem dX3_like_48 : decode cX3_like 48 = .ok (.getfield 76, 3) := by decide +kernel
theorem dX3_like_51 : decode cX3_like 51 = .ok (.iload_n 1, 1) := by decide +kernel
theorem dX3_like_52 : decode cX3_like 52 = .ok (.iaload, 1) := by decide +kernel
theorem dX3_like_53 : decode cX3_like 53 = .ok (.iload 4, 2) := by decide +kernel
theorem dX3_like_55 : decode cX3_like 55 = .ok (.ior, 1) := by decide +kernel
theorem dX3_like_56 : decode cX3_like 56 = .ok (.goto 17, 3) := by decide +kernel
theorem dX3_like_59 : decode cX3_like 59 = .ok (.aload_n 0, 1) := by decide +kernel
theorem dX3_like_60 : decode cX3_like 60 = .ok (.getfield 16, 3) := by decide +kernel
theorem dX3_like_63 : decode cX3_like 63 = .ok (.getfield 76, 3) := by decide +kernel
theorem dX3_like_66 : decode cX3_like 66 = .ok (.iload_n 1, 1) := by decide +kernel
theorem dX3_like_67 : decode cX3_like 67 = .ok (.iaload, 1) := by decide +kernel
theorem dX3_like_68 : decode cX3_like 68 = .ok (.iload 4, 2) := by decide +kernel
theorem dX3_like_70 : decode cX3_like 70 = .ok (.iconst (-1), 1) := by decide +kernel
theorem dX3_like_71 : decode cX3_like 71 = .ok (.ixor, 1) := by decide +kernel
theorem dX3_like_72 : decode cX3_like 72 = .ok (.iand, 1) := by decide +kernel
theorem dX3_like_73 : decode cX3_like 73 = .ok (.iastore, 1) := by decide +kernel
theorem dX3_like_74 : decode cX3_like 74 = .ok (.aload_n 0, 1) := by decide +kernel
theorem dX3_like_75 : decode cX3_like 75 = .ok (.getfield 16, 3) := by decide +kernel
theorem dX3_like_78 : decode cX3_like 78 = .ok (.invokevirtual 79, 3) := by decide +kernel
theorem dX3_like_81 : decode cX3_like 81 = .ok (.ireturn, 1) := by decide +kernel
set_option maxRecDepth 20000 in
theorem ggX3_letter_X3_letterAt : GoodIn wsX3_letter wsX3_letterAt := goodIn_r _ [12, 13, 14, 11, 15] (by decide +kernel) (by decide +kernel)
set_option maxRecDepth 20000 in
theorem gX3_letter_X3_letterAt : GoodIn wsX3_letter (va_wsS RX3 82 yX3_letterAt wsX3_letterAt) := goodIn_app (goodIn_of _ (by decide +kernel)) ggX3_letter_X3_letterAt
set_option maxRecDepth 20000 in
theorem ggX3_letter_X1_layOut : GoodIn wsX3_letter wsX1_layOut := goodIn_r _ [20, 21, 22, 23, 19, 24, 25, 26, 49, 50] (by decide +kernel) (by decide +kernel)
set_option maxRecDepth 20000 in
theorem gX3_letter_X1_layOut : GoodIn wsX3_letter (wsV RX3 90 RX1 yX1_layOut wsX1_layOut) := goodIn_app (goodIn_of _ (by decide +kernel)) ggX3_letter_X1_layOut
theorem dX3_letter_0 : decode cX3_letter 0 = .ok (.iload_n 1, 1) := by decide +kernel
theorem dX3_letter_1 : decode cX3_letter 1 = .ok (.tableswitch 106 0 2 #[27, 46, 65], 27) := by decide +kernel
theorem dX3_letter_28 : decode cX3_letter 28 = .ok (.aload_n 0, 1) := by decide +kernel
theorem dX3_letter_29 : decode cX3_letter 29 = .ok (.getfield 16, 3) := by decide +kernel
theorem dX3_letter_32 : decode cX3_letter 32 = .ok (.getfield 49, 3) := by decide +kernel
theorem dX3_letter_35 : decode cX3_letter 35 = .ok (.aload_n 0, 1) := by decide +kernel
theorem dX3_letter_36 : decode cX3_letter 36 = .ok (.getfield 16, 3) := by decide +kernel
theorem dX3_letter_39 : decode cX3_letter 39 = .ok (.getfield 56, 3) := by decide +kernel
theorem dX3_letter_42 : decode cX3_letter 42 = .ok (.iload_n 2, 1) := by decide +kernel
theorem dX3_letter_43 : decode cX3_letter 43 = .ok (.invokestatic 82, 3) := by decide +kernel
theorem dX3_letter_46 : decode cX3_letter 46 = .ok (.ireturn, 1) := by decide +kernel
theorem dX3_letter_47 : decode cX3_letter 47 = .ok (.aload_n 0, 1) := by decide +kernel
theorem dX3_letter_48 : decode cX3_letter 48 = .ok (.getfield 16, 3) := by decide +kernel
theorem dX3_letter_51 : decode cX3_letter 51 = .ok (.getfield 59, 3) := by decide +kernel
theorem dX3_letter_54 : decode cX3_letter 54 = .ok (.aload_n 0, 1) := by decide +kernel
theorem dX3_letter_55 : decode cX3_letter 55 = .ok (.getfield 16, 3) := by decide +kernel
theorem dX3_letter_58 : decode cX3_letter 58 = .ok (.getfield 62, 3) := by decide +kernel
theorem dX3_letter_61 : decode cX3_letter 61 = .ok (.iload_n 2, 1) := by decide +kernel
theorem dX3_letter_62 : decode cX3_letter 62 = .ok (.invokestatic 82, 3) := by decide +kernel
theorem dX3_letter_65 : decode cX3_letter 65 = .ok (.ireturn, 1) := by decide +kernel
theorem dX3_letter_66 : decode cX3_letter 66 = .ok (.aload_n 0, 1) := by decide +kernel
theorem dX3_letter_67 : decode cX3_letter 67 = .ok (.getfield 27, 3) := by decide +kernel
theorem dX3_letter_70 : decode cX3_letter 70 = .ok (.getfield 86, 3) := by decide +kernel
theorem dX3_letter_73 : decode cX3_letter 73 = .ok (.aload_n 0, 1) := by decide +kernel
theorem dX3_letter_74 : decode cX3_letter 74 = .ok (.getfield 16, 3) := by decide +kernel
theorem dX3_letter_77 : decode cX3_letter 77 = .ok (.getfield 59, 3) := by decide +kernel
theorem dX3_letter_80 : decode cX3_letter 80 = .ok (.aload_n 0, 1) := by decide +kernel
theorem dX3_letter_81 : decode cX3_letter 81 = .ok (.getfield 16, 3) := by decide +kernel
theorem dX3_letter_84 : decode cX3_letter 84 = .ok (.getfield 62, 3) := by decide +kernel
theorem dX3_letter_87 : decode cX3_letter 87 = .ok (.invokevirtual 90, 3) := by decide +kernel
theorem dX3_letter_90 : decode cX3_letter 90 = .ok (.aload_n 0, 1) := by decide +kernel
theorem dX3_letter_91 : decode cX3_letter 91 = .ok (.getfield 27, 3) := by decide +kernel
theorem dX3_letter_94 : decode cX3_letter 94 = .ok (.getfield 86, 3) := by decide +kernel
theorem dX3_letter_97 : decode cX3_letter 97 = .ok (.getfield 96, 3) := by decide +kernel
theorem dX3_letter_100 : decode cX3_letter 100 = .ok (.bipush 16, 2) := by decide +kernel
theorem dX3_letter_102 : decode cX3_letter 102 = .ok (.iload_n 2, 1) := by decide +kernel
theorem dX3_letter_103 : decode cX3_letter 103 = .ok (.invokestatic 82, 3) := by decide +kernel
theorem dX3_letter_106 : decode cX3_letter 106 = .ok (.ireturn, 1) := by decide +kernel
theorem dX3_letter_107 : decode cX3_letter 107 = .ok (.bipush (-2), 2) := by decide +kernel
theorem dX3_letter_109 : decode cX3_letter 109 = .ok (.ireturn, 1) := by decide +kernel
set_option maxRecDepth 20000 in
theorem ggX3_hide_X3_step : GoodIn wsX3_hide wsX3_step := goodIn_r _ [5, 6, 7, 8, 9, 10, 11, 12, 4, 13, 14, 15, 16, 17, 18, 19, 20, 21, 22, 23, 24, 25, 26, 27, 28, 29, 30, 31, 32, 33, 34, 35, 36, 37, 38, 39, 40, 41, 42, 43, 44, 45, 46, 47, 48, 49, 50, 51, 52, 53, 54, 55, 56, 57, 58, 59, 60, 61, 62, 63, 64, 65, 66, 67, 68, 69, 70, 71, 72, 73, 74, 75, 76, 77, 78, 79, 80, 81, 82, 83, 84, 85, 86, 87, 88, 89, 90, 91, 92, 93, 94, 95, 96, 97, 98, 99, 100, 101, 102, 103, 104, 105, 106, 107, 108, 109, 110, 111, 112, 113, 114, 115, 116, 117, 118, 119, 120, 121, 122, 123, 124, 125, 126, 127, 128, 129, 130, 131, 132, 133, 134, 135, 136, 137] (by decide +kernel) (by decide +kernel)
set_option maxRecDepth 20000 in
theorem gX3_hide_X3_step : GoodIn wsX3_hide (wsV RX3 99 RX3 yX3_step wsX3_step) := goodIn_app (goodIn_of _ (by decide +kernel)) ggX3_hide_X3_step
theorem dX3_hide_0 : decode cX3_hide 0 = .ok (.aload_n 0, 1) := by decide +kernel
theorem dX3_hide_1 : decode cX3_hide 1 = .ok (.iload_n 1, 1) := by decide +kernel
theorem dX3_hide_2 : decode cX3_hide 2 = .ok (.iconst 1, 1) := by decide +kernel
theorem dX3_hide_3 : decode cX3_hide 3 = .ok (.invokevirtual 99, 3) := by decide +kernel
theorem dX3_hide_6 : decode cX3_hide 6 = .ok (.ireturn, 1) := by decide +kernel
set_option maxRecDepth 20000 in
theorem ggX3_find_X3_step : GoodIn wsX3_find wsX3_step := goodIn_r _ [5, 6, 7, 8, 9, 10, 11, 12, 4, 13, 14, 15, 16, 17, 18, 19, 20, 21, 22, 23, 24, 25, 26, 27, 28, 29, 30, 31, 32, 33, 34, 35, 36, 37, 38, 39, 40, 41, 42, 43, 44, 45, 46, 47, 48, 49, 50, 51, 52, 53, 54, 55, 56, 57, 58, 59, 60, 61, 62, 63, 64, 65, 66, 67, 68, 69, 70, 71, 72, 73, 74, 75, 76, 77, 78, 79, 80, 81, 82, 83, 84, 85, 86, 87, 88, 89, 90, 91, 92, 93, 94, 95, 96, 97, 98, 99, 100, 101, 102, 103, 104, 105, 106, 107, 108, 109, 110, 111, 112, 113, 114, 115, 116, 117, 118, 119, 120, 121, 122, 123, 124, 125, 126, 127, 128, 129, 130, 131, 132, 133, 134, 135, 136, 137] (by decide +kernel) (by decide +kernel)
set_option maxRecDepth 20000 in
theorem gX3_find_X3_step : GoodIn wsX3_find (wsV RX3 99 RX3 yX3_step wsX3_step) := goodIn_app (goodIn_of _ (by decide +kernel)) ggX3_find_X3_step
theorem dX3_find_0 : decode cX3_find 0 = .ok (.aload_n 0, 1) := by decide +kernel
theorem dX3_find_1 : decode cX3_find 1 = .ok (.iload_n 1, 1) := by decide +kernel
theorem dX3_find_2 : decode cX3_find 2 = .ok (.iconst 0, 1) := by decide +kernel
theorem dX3_find_3 : decode cX3_find 3 = .ok (.invokevirtual 99, 3) := by decide +kernel
theorem dX3_find_6 : decode cX3_find 6 = .ok (.ireturn, 1) := by decide +kernel
set_option maxRecDepth 20000 in
theorem ggX3_undo_X0_takeStepBack : GoodIn wsX3_undo wsX0_takeStepBack := goodIn_r _ [7, 8, 9, 10, 11, 12, 13, 14, 15, 16, 25, 26, 27, 28, 29, 30, 31, 32, 33] (by decide +kernel) (by decide +kernel)
set_option maxRecDepth 20000 in
theorem gX3_undo_X0_takeStepBack : GoodIn wsX3_undo (wsV RX3 106 RX0 yX0_takeStepBack wsX0_takeStepBack) := goodIn_app (goodIn_of _ (by decide +kernel)) ggX3_undo_X0_takeStepBack
theorem dX3_undo_0 : decode cX3_undo 0 = .ok (.aload_n 0, 1) := by decide +kernel
theorem dX3_undo_1 : decode cX3_undo 1 = .ok (.getfield 16, 3) := by decide +kernel
theorem dX3_undo_4 : decode cX3_undo 4 = .ok (.getfield 103, 3) := by decide +kernel
theorem dX3_undo_7 : decode cX3_undo 7 = .ok (.ifCond .ne 6, 3) := by decide +kernel
theorem dX3_undo_10 : decode cX3_undo 10 = .ok (.bipush (-3), 2) := by decide +kernel
theorem dX3_undo_12 : decode cX3_undo 12 = .ok (.ireturn, 1) := by decide +kernel
theorem dX3_undo_13 : decode cX3_undo 13 = .ok (.aload_n 0, 1) := by decide +kernel
theorem dX3_undo_14 : decode cX3_undo 14 = .ok (.getfield 16, 3) := by decide +kernel
theorem dX3_undo_17 : decode cX3_undo 17 = .ok (.invokevirtual 106, 3) := by decide +kernel
theorem dX3_undo_20 : decode cX3_undo 20 = .ok (.aload_n 0, 1) := by decide +kernel
theorem dX3_undo_21 : decode cX3_undo 21 = .ok (.getfield 16, 3) := by decide +kernel
theorem dX3_undo_24 : decode cX3_undo 24 = .ok (.getfield 103, 3) := by decide +kernel
theorem dX3_undo_27 : decode cX3_undo 27 = .ok (.ireturn, 1) := by decide +kernel
set_option maxRecDepth 20000 in
theorem ggX3_times_X3_isNoLetter : GoodIn wsX3_times wsX3_isNoLetter := goodIn_r _ [7, 8, 9, 6, 10] (by decide +kernel) (by decide +kernel)
set_option maxRecDepth 20000 in
theorem gX3_times_X3_isNoLetter : GoodIn wsX3_times (va_wsS RX3 69 yX3_isNoLetter wsX3_isNoLetter) := goodIn_app (goodIn_of _ (by decide +kernel)) ggX3_times_X3_isNoLetter
theorem dX3_times_0 : decode cX3_times 0 = .ok (.iload_n 1, 1) := by decide +kernel
theorem dX3_times_1 : decode cX3_times 1 = .ok (.invokestatic 69, 3) := by decide +kernel
theorem dX3_times_4 : decode cX3_times 4 = .ok (.ifCond .eq 6, 3) := by decide +kernel
theorem dX3_times_7 : decode cX3_times 7 = .ok (.bipush (-2), 2) := by decide +kernel
theorem dX3_times_9 : decode cX3_times 9 = .ok (.ireturn, 1) := by decide +kernel
theorem dX3_times_10 : decode cX3_times 10 = .ok (.iconst 0, 1) := by decide +kernel
theorem dX3_times_11 : decode cX3_times 11 = .ok (.istore_n 2, 1) := by decide +kernel
theorem dX3_times_12 : decode cX3_times 12 = .ok (.iconst 0, 1) := by decide +kernel
theorem dX3_times_13 : decode cX3_times 13 = .ok (.istore_n 3, 1) := by decide +kernel
theorem dX3_times_14 : decode cX3_times 14 = .ok (.iload_n 3, 1) := by decide +kernel
theorem dX3_times_15 : decode cX3_times 15 = .ok (.aload_n 0, 1) := by decide +kernel
theorem dX3_times_16 : decode cX3_times 16 = .ok (.getfield 16, 3) := by decide +kernel
theorem dX3_times_19 : decode cX3_times 19 = .ok (.getfield 56, 3) := by decide +kernel
theorem dX3_times_22 : decode cX3_times 22 = .ok (.if_icmp .ge 25, 3) := by decide +kernel
theorem dX3_times_25 : decode cX3_times 25 = .ok (.aload_n 0, 1) := by decide +kernel
theorem dX3_times_26 : decode cX3_times 26 = .ok (.getfield 16, 3) := by decide +kernel
theorem dX3_times_29 : decode cX3_times 29 = .ok (.getfield 49, 3) := by decide +kernel
theorem dX3_times_32 : decode cX3_times 32 = .ok (.iload_n 3, 1) := by decide +kernel
theorem dX3_times_33 : decode cX3_times 33 = .ok (.iaload, 1) := by decide +kernel
theorem dX3_times_34 : decode cX3_times 34 = .ok (.iload_n 1, 1) := by decide +kernel
theorem dX3_times_35 : decode cX3_times 35 = .ok (.if_icmp .ne 6, 3) := by decide +kernel
theorem dX3_times_38 : decode cX3_times 38 = .ok (.iinc 2 1, 3) := by decide +kernel
theorem dX3_times_41 : decode cX3_times 41 = .ok (.iinc 3 1, 3) := by decide +kernel
theorem dX3_times_44 : decode cX3_times 44 = .ok (.goto (-30), 3) := by decide +kernel
theorem dX3_times_47 : decode cX3_times 47 = .ok (.iload_n 2, 1) := by decide +kernel
theorem dX3_times_48 : decode cX3_times 48 = .ok (.ireturn, 1) := by decide +kernel
set_option maxRecDepth 20000 in
theorem ggX3_same_X3_isOutside : GoodIn wsX3_same wsX3_isOutside := goodIn_r _ [4] (by decide +kernel) (by decide +kernel)
set_option maxRecDepth 20000 in
theorem gX3_same_X3_isOutside : GoodIn wsX3_same (va_wsS RX3 37 yX3_isOutside wsX3_isOutside) := goodIn_app (goodIn_of _ (by decide +kernel)) ggX3_same_X3_isOutside
set_option maxRecDepth 20000 in
theorem ggX3_same_X3_sameAt : GoodIn wsX3_same wsX3_sameAt := goodIn_r _ [8, 9, 10, 11, 12, 13, 14, 15, 16, 17, 18, 19, 20, 21, 22, 23, 24, 25, 26, 27, 28] (by decide +kernel) (by decide +kernel)
set_option maxRecDepth 20000 in
theorem gX3_same_X3_sameAt : GoodIn wsX3_same (wsV RX3 109 RX3 yX3_sameAt wsX3_sameAt) := goodIn_app (goodIn_of _ (by decide +kernel)) ggX3_same_X3_sameAt
theorem dX3_same_0 : decode cX3_same 0 = .ok (.iload_n 1, 1) := by decide +kernel
theorem dX3_same_1 : decode cX3_same 1 = .ok (.iconst 1, 1) := by decide +kernel
theorem dX3_same_2 : decode cX3_same 2 = .ok (.bipush 47, 2) := by decide +kernel
theorem dX3_same_4 : decode cX3_same 4 = .ok (.invokestatic 37, 3) := by decide +kernel
theorem dX3_same_7 : decode cX3_same 7 = .ok (.ifCond .eq 6, 3) := by decide +kernel
theorem dX3_same_10 : decode cX3_same 10 = .ok (.bipush (-2), 2) := by decide +kernel
theorem dX3_same_12 : decode cX3_same 12 = .ok (.ireturn, 1) := by decide +kernel
theorem dX3_same_13 : decode cX3_same 13 = .ok (.aload_n 0, 1) := by decide +kernel
theorem dX3_same_14 : decode cX3_same 14 = .ok (.iload_n 1, 1) := by decide +kernel
theorem dX3_same_15 : decode cX3_same 15 = .ok (.invokevirtual 109, 3) := by decide +kernel
theorem dX3_same_18 : decode cX3_same 18 = .ok (.ireturn, 1) := by decide +kernel
set_option maxRecDepth 20000 in
theorem ggX3_length_X3_isOutside : GoodIn wsX3_length wsX3_isOutside := goodIn_r _ [6] (by decide +kernel) (by decide +kernel)
set_option maxRecDepth 20000 in
theorem gX3_length_X3_isOutside : GoodIn wsX3_length (va_wsS RX3 37 yX3_isOutside wsX3_isOutside) := goodIn_app (goodIn_of _ (by decide +kernel)) ggX3_length_X3_isOutside
set_option maxRecDepth 20000 in
theorem ggX3_length_X3_sameAt : GoodIn wsX3_length wsX3_sameAt := goodIn_r _ [10, 1, 2, 11, 12, 13, 14, 15, 16, 17, 18, 19, 20, 21, 22, 23, 24, 25, 26, 27, 28] (by decide +kernel) (by decide +kernel)
set_option maxRecDepth 20000 in
theorem gX3_length_X3_sameAt : GoodIn wsX3_length (wsV RX3 109 RX3 yX3_sameAt wsX3_sameAt) := goodIn_app (goodIn_of _ (by decide +kernel)) ggX3_length_X3_sameAt
theorem dX3_length_0 : decode cX3_length 0 = .ok (.iload_n 1, 1) := by decide +kernel
theorem dX3_length_1 : decode cX3_length 1 = .ok (.iconst 1, 1) := by decide +kernel
theorem dX3_length_2 : decode cX3_length 2 = .ok (.bipush 20, 2) := by decide +kernel
theorem dX3_length_4 : decode cX3_length 4 = .ok (.invokestatic 37, 3) := by decide +kernel
theorem dX3_length_7 : decode cX3_length 7 = .ok (.ifCond .eq 6, 3) := by decide +kernel
theorem dX3_length_10 : decode cX3_length 10 = .ok (.bipush (-2), 2) := by decide +kernel
theorem dX3_length_12 : decode cX3_length 12 = .ok (.ireturn, 1) := by decide +kernel
theorem dX3_length_13 : decode cX3_length 13 = .ok (.aload_n 0, 1) := by decide +kernel
theorem dX3_length_14 : decode cX3_length 14 = .ok (.getfield 16, 3) := by decide +kernel
theorem dX3_length_17 : decode cX3_length 17 = .ok (.getfield 56, 3) := by decide +kernel
theorem dX3_length_20 : decode cX3_length 20 = .ok (.iconst 2, 1) := by decide +kernel
theorem dX3_length_21 : decode cX3_length 21 = .ok (.if_icmp .ge 6, 3) := by decide +kernel
theorem dX3_length_24 : decode cX3_length 24 = .ok (.bipush (-6), 2) := by decide +kernel
theorem dX3_length_26 : decode cX3_length 26 = .ok (.ireturn, 1) := by decide +kernel
theorem dX3_length_27 : decode cX3_length 27 = .ok (.iconst 1, 1) := by decide +kernel
theorem dX3_length_28 : decode cX3_length 28 = .ok (.istore_n 2, 1) := by decide +kernel
theorem dX3_length_29 : decode cX3_length 29 = .ok (.aload_n 0, 1) := by decide +kernel
theorem dX3_length_30 : decode cX3_length 30 = .ok (.iconst 1, 1) := by decide +kernel
theorem dX3_length_31 : decode cX3_length 31 = .ok (.invokevirtual 109, 3) := by decide +kernel
theorem dX3_length_34 : decode cX3_length 34 = .ok (.istore_n 3, 1) := by decide +kernel
theorem dX3_length_35 : decode cX3_length 35 = .ok (.iconst 2, 1) := by decide +kernel
theorem dX3_length_36 : decode cX3_length 36 = .ok (.istore 4, 2) := by decide +kernel
theorem dX3_length_38 : decode cX3_length 38 = .ok (.iload 4, 2) := by decide +kernel
theorem dX3_length_40 : decode cX3_length 40 = .ok (.iload_n 1, 1) := by decide +kernel
theorem dX3_length_41 : decode cX3_length 41 = .ok (.if_icmp .gt 62, 3) := by decide +kernel
theorem dX3_length_44 : decode cX3_length 44 = .ok (.iload 4, 2) := by decide +kernel
theorem dX3_length_46 : decode cX3_length 46 = .ok (.aload_n 0, 1) := by decide +kernel
theorem dX3_length_47 : decode cX3_length 47 = .ok (.getfield 16, 3) := by decide +kernel
theorem dX3_length_50 : decode cX3_length 50 = .ok (.getfield 56, 3) := by decide +kernel
theorem dX3_length_53 : decode cX3_length 53 = .ok (.if_icmp .ge 50, 3) := by decide +kernel
theorem dX3_length_56 : decode cX3_length 56 = .ok (.aload_n 0, 1) := by decide +kernel
theorem dX3_length_57 : decode cX3_length 57 = .ok (.iload 4, 2) := by decide +kernel
theorem dX3_length_59 : decode cX3_length 59 = .ok (.invokevirtual 109, 3) := by decide +kernel
theorem dX3_length_62 : decode cX3_length 62 = .ok (.istore 5, 2) := by decide +kernel
theorem dX3_length_64 : decode cX3_length 64 = .ok (.iload 5, 2) := by decide +kernel
theorem dX3_length_66 : decode cX3_length 66 = .ok (.aload_n 0, 1) := by decide +kernel
theorem dX3_length_67 : decode cX3_length 67 = .ok (.getfield 16, 3) := by decide +kernel
theorem dX3_length_70 : decode cX3_length 70 = .ok (.getfield 56, 3) := by decide +kernel
theorem dX3_length_73 : decode cX3_length 73 = .ok (.iload_n 2, 1) := by decide +kernel
theorem dX3_length_74 : decode cX3_length 74 = .ok (.isub, 1) := by decide +kernel
theorem dX3_length_75 : decode cX3_length 75 = .ok (.imul, 1) := by decide +kernel
theorem dX3_length_76 : decode cX3_length 76 = .ok (.iload_n 3, 1) := by decide +kernel
theorem dX3_length_77 : decode cX3_length 77 = .ok (.aload_n 0, 1) := by decide +kernel
theorem dX3_length_78 : decode cX3_length 78 = .ok (.getfield 16, 3) := by decide +kernel
theorem dX3_length_81 : decode cX3_length 81 = .ok (.getfield 56, 3) := by decide +kernel
theorem dX3_length_84 : decode cX3_length 84 = .ok (.iload 4, 2) := by decide +kernel
theorem dX3_length_86 : decode cX3_length 86 = .ok (.isub, 1) := by decide +kernel
theorem dX3_length_87 : decode cX3_length 87 = .ok (.imul, 1) := by decide +kernel
theorem dX3_length_88 : decode cX3_length 88 = .ok (.if_icmp .le 9, 3) := by decide +kernel
theorem dX3_length_91 : decode cX3_length 91 = .ok (.iload 4, 2) := by decide +kernel
theorem dX3_length_93 : decode cX3_length 93 = .ok (.istore_n 2, 1) := by decide +kernel
theorem dX3_length_94 : decode cX3_length 94 = .ok (.iload 5, 2) := by decide +kernel
theorem dX3_length_96 : decode cX3_length 96 = .ok (.istore_n 3, 1) := by decide +kernel
theorem dX3_length_97 : decode cX3_length 97 = .ok (.iinc 4 1, 3) := by decide +kernel
theorem dX3_length_100 : decode cX3_length 100 = .ok (.goto (-62), 3) := by decide +kernel
theorem dX3_length_103 : decode cX3_length 103 = .ok (.iload_n 2, 1) := by decide +kernel
theorem dX3_length_104 : decode cX3_length 104 = .ok (.ireturn, 1) := by decide +kernel
set_option maxRecDepth 20000 in
theorem ggX3_shift_X3_isOutside : GoodIn wsX3_shift wsX3_isOutside := goodIn_r _ [5] (by decide +kernel) (by decide +kernel)
set_option maxRecDepth 20000 in
theorem gX3_shift_X3_isOutside : GoodIn wsX3_shift (va_wsS RX3 37 yX3_isOutside wsX3_isOutside) := goodIn_app (goodIn_of _ (by decide +kernel)) ggX3_shift_X3_isOutside
set_option maxRecDepth 20000 in
theorem ggX3_shift_X3_scoreOf : GoodIn wsX3_shift wsX3_scoreOf := goodIn_r _ [9, 10, 11, 12, 13, 22, 23, 24, 25, 26, 27, 28, 29, 30, 31, 32, 33, 34, 35, 36, 37, 38] (by decide +kernel) (by decide +kernel)
set_option maxRecDepth 20000 in
theorem gX3_shift_X3_scoreOf : GoodIn wsX3_shift (wsV RX3 113 RX3 yX3_scoreOf wsX3_scoreOf) := goodIn_app (goodIn_of _ (by decide +kernel)) ggX3_shift_X3_scoreOf
set_option maxRecDepth 20000 in
theorem ggX3_shift_X3_shiftRanked : GoodIn wsX3_shift wsX3_shiftRanked := goodIn_r _ [17, 18, 19, 20, 4, 21, 1, 22, 23, 24, 25, 26, 27, 28, 29] (by decide +kernel) (by decide +kernel)
set_option maxRecDepth 20000 in
theorem gX3_shift_X3_shiftRanked : GoodIn wsX3_shift (wsV RX3 117 RX3 yX3_shiftRanked wsX3_shiftRanked) := goodIn_app (goodIn_of _ (by decide +kernel)) ggX3_shift_X3_shiftRanked
theorem dX3_shift_0 : decode cX3_shift 0 = .ok (.iload_n 1, 1) := by decide +kernel
theorem dX3_shift_1 : decode cX3_shift 1 = .ok (.iconst 1, 1) := by decide +kernel
theorem dX3_shift_2 : decode cX3_shift 2 = .ok (.bipush 8, 2) := by decide +kernel
theorem dX3_shift_4 : decode cX3_shift 4 = .ok (.invokestatic 37, 3) := by decide +kernel
theorem dX3_shift_7 : decode cX3_shift 7 = .ok (.ifCond .ne 34, 3) := by decide +kernel
theorem dX3_shift_10 : decode cX3_shift 10 = .ok (.iload_n 2, 1) := by decide +kernel
theorem dX3_shift_11 : decode cX3_shift 11 = .ok (.iconst 0, 1) := by decide +kernel
theorem dX3_shift_12 : decode cX3_shift 12 = .ok (.iload_n 1, 1) := by decide +kernel
theorem dX3_shift_13 : decode cX3_shift 13 = .ok (.iconst 1, 1) := by decide +kernel
theorem dX3_shift_14 : decode cX3_shift 14 = .ok (.isub, 1) := by decide +kernel
theorem dX3_shift_15 : decode cX3_shift 15 = .ok (.invokestatic 37, 3) := by decide +kernel
theorem dX3_shift_18 : decode cX3_shift 18 = .ok (.ifCond .ne 23, 3) := by decide +kernel
theorem dX3_shift_21 : decode cX3_shift 21 = .ok (.iload_n 3, 1) := by decide +kernel
theorem dX3_shift_22 : decode cX3_shift 22 = .ok (.iconst 0, 1) := by decide +kernel
theorem dX3_shift_23 : decode cX3_shift 23 = .ok (.bipush 15, 2) := by decide +kernel
theorem dX3_shift_25 : decode cX3_shift 25 = .ok (.invokestatic 37, 3) := by decide +kernel
theorem dX3_shift_28 : decode cX3_shift 28 = .ok (.ifCond .ne 13, 3) := by decide +kernel
theorem dX3_shift_31 : decode cX3_shift 31 = .ok (.iload 4, 2) := by decide +kernel
theorem dX3_shift_33 : decode cX3_shift 33 = .ok (.iconst 0, 1) := by decide +kernel
theorem dX3_shift_34 : decode cX3_shift 34 = .ok (.iconst 1, 1) := by decide +kernel
theorem dX3_shift_35 : decode cX3_shift 35 = .ok (.invokestatic 37, 3) := by decide +kernel
theorem dX3_shift_38 : decode cX3_shift 38 = .ok (.ifCond .eq 6, 3) := by decide +kernel
theorem dX3_shift_41 : decode cX3_shift 41 = .ok (.bipush (-2), 2) := by decide +kernel
theorem dX3_shift_43 : decode cX3_shift 43 = .ok (.ireturn, 1) := by decide +kernel
theorem dX3_shift_44 : decode cX3_shift 44 = .ok (.iconst 0, 1) := by decide +kernel
theorem dX3_shift_45 : decode cX3_shift 45 = .ok (.istore 5, 2) := by decide +kernel
theorem dX3_shift_47 : decode cX3_shift 47 = .ok (.iload 5, 2) := by decide +kernel
theorem dX3_shift_49 : decode cX3_shift 49 = .ok (.bipush 16, 2) := by decide +kernel
theorem dX3_shift_51 : decode cX3_shift 51 = .ok (.if_icmp .ge 24, 3) := by decide +kernel
theorem dX3_shift_54 : decode cX3_shift 54 = .ok (.aload_n 0, 1) := by decide +kernel
theorem dX3_shift_55 : decode cX3_shift 55 = .ok (.getfield 31, 3) := by decide +kernel
theorem dX3_shift_58 : decode cX3_shift 58 = .ok (.iload 5, 2) := by decide +kernel
theorem dX3_shift_60 : decode cX3_shift 60 = .ok (.aload_n 0, 1) := by decide +kernel
theorem dX3_shift_61 : decode cX3_shift 61 = .ok (.iload 5, 2) := by decide +kernel
theorem dX3_shift_63 : decode cX3_shift 63 = .ok (.iload_n 1, 1) := by decide +kernel
theorem dX3_shift_64 : decode cX3_shift 64 = .ok (.iload_n 2, 1) := by decide +kernel
theorem dX3_shift_65 : decode cX3_shift 65 = .ok (.invokevirtual 113, 3) := by decide +kernel
theorem dX3_shift_68 : decode cX3_shift 68 = .ok (.iastore, 1) := by decide +kernel
theorem dX3_shift_69 : decode cX3_shift 69 = .ok (.iinc 5 1, 3) := by decide +kernel
theorem dX3_shift_72 : decode cX3_shift 72 = .ok (.goto (-25), 3) := by decide +kernel
theorem dX3_shift_75 : decode cX3_shift 75 = .ok (.aload_n 0, 1) := by decide +kernel
theorem dX3_shift_76 : decode cX3_shift 76 = .ok (.iload_n 3, 1) := by decide +kernel
theorem dX3_shift_77 : decode cX3_shift 77 = .ok (.invokevirtual 117, 3) := by decide +kernel
theorem dX3_shift_80 : decode cX3_shift 80 = .ok (.istore 5, 2) := by decide +kernel
theorem dX3_shift_82 : decode cX3_shift 82 = .ok (.iload 4, 2) := by decide +kernel
theorem dX3_shift_84 : decode cX3_shift 84 = .ok (.ifCond .ne 8, 3) := by decide +kernel
theorem dX3_shift_87 : decode cX3_shift 87 = .ok (.iload 5, 2) := by decide +kernel
theorem dX3_shift_89 : decode cX3_shift 89 = .ok (.goto 10, 3) := by decide +kernel
theorem dX3_shift_92 : decode cX3_shift 92 = .ok (.aload_n 0, 1) := by decide +kernel
theorem dX3_shift_93 : decode cX3_shift 93 = .ok (.getfield 31, 3) := by decide +kernel
theorem dX3_shift_96 : decode cX3_shift 96 = .ok (.iload 5, 2) := by decide +kernel
theorem dX3_shift_98 : decode cX3_shift 98 = .ok (.iaload, 1) := by decide +kernel
theorem dX3_shift_99 : decode cX3_shift 99 = .ok (.ireturn, 1) := by decide +kernel
set_option maxRecDepth 20000 in
theorem ggX3_good_X0_likedIn : GoodIn wsX3_good wsX0_likedIn := goodIn_r _ [7, 8, 9, 18, 19, 20, 21, 22, 23, 24, 25, 26] (by decide +kernel) (by decide +kernel)
set_option maxRecDepth 20000 in
theorem gX3_good_X0_likedIn : GoodIn wsX3_good (wsV RX3 120 RX0 yX0_likedIn wsX0_likedIn) := goodIn_app (goodIn_of _ (by decide +kernel)) ggX3_good_X0_likedIn
theorem dX3_good_0 : decode cX3_good 0 = .ok (.aload_n 0, 1) := by decide +kernel
theorem dX3_good_1 : decode cX3_good 1 = .ok (.getfield 16, 3) := by decide +kernel
theorem dX3_good_4 : decode cX3_good 4 = .ok (.aload_n 0, 1) := by decide +kernel
theorem dX3_good_5 : decode cX3_good 5 = .ok (.getfield 16, 3) := by decide +kernel
theorem dX3_good_8 : decode cX3_good 8 = .ok (.getfield 49, 3) := by decide +kernel
theorem dX3_good_11 : decode cX3_good 11 = .ok (.invokevirtual 120, 3) := by decide +kernel
theorem dX3_good_14 : decode cX3_good 14 = .ok (.ireturn, 1) := by decide +kernel
set_option maxRecDepth 20000 in
theorem ggX3_order_X3_isOutside : GoodIn wsX3_order wsX3_isOutside := goodIn_r _ [11] (by decide +kernel) (by decide +kernel)
set_option maxRecDepth 20000 in
theorem gX3_order_X3_isOutside : GoodIn wsX3_order (va_wsS RX3 37 yX3_isOutside wsX3_isOutside) := goodIn_app (goodIn_of _ (by decide +kernel)) ggX3_order_X3_isOutside
set_option maxRecDepth 20000 in
theorem ggX3_order_X2_startOrder : GoodIn wsX3_order wsX2_startOrder := goodIn_r _ [16, 17, 60, 61, 62, 63, 64] (by decide +kernel) (by decide +kernel)
set_option maxRecDepth 20000 in
theorem gX3_order_X2_startOrder : GoodIn wsX3_order (wsV RX3 124 RX2 yX2_startOrder wsX2_startOrder) := goodIn_app (goodIn_of _ (by decide +kernel)) ggX3_order_X2_startOrder
set_option maxRecDepth 20000 in
theorem ggX3_order_X3_goodByOrder : GoodIn wsX3_order wsX3_goodByOrder := goodIn_r _ [21, 1, 22, 23, 24, 25, 26, 27, 15, 28, 17, 29, 30, 31, 32, 33, 34, 35, 36, 37, 38, 39, 40, 41, 42, 43, 52, 53, 54, 55, 56, 57, 58, 59, 65, 66, 67, 68, 69, 70, 71, 72, 73, 60, 61, 62, 63, 64] (by decide +kernel) (by decide +kernel)
set_option maxRecDepth 20000 in
theorem gX3_order_X3_goodByOrder : GoodIn wsX3_order (wsV RX3 128 RX3 yX3_goodByOrder wsX3_goodByOrder) := goodIn_app (goodIn_of _ (by decide +kernel)) ggX3_order_X3_goodByOrder
set_option maxRecDepth 20000 in
theorem ggX3_order_X2_nextOrder : GoodIn wsX3_order wsX2_nextOrder := goodIn_r _ [47, 17, 48, 49, 50, 15, 51, 60, 61, 62, 63, 64] (by decide +kernel) (by decide +kernel)
set_option maxRecDepth 20000 in
theorem gX3_order_X2_nextOrder : GoodIn wsX3_order (wsV RX3 140 RX2 yX2_nextOrder wsX2_nextOrder) := goodIn_app (goodIn_of _ (by decide +kernel)) ggX3_order_X2_nextOrder
theorem dX3_order_0 : decode cX3_order 0 = .ok (.iload_n 1, 1) := by decide +kernel
theorem dX3_order_1 : decode cX3_order 1 = .ok (.iconst 2, 1) := by decide +kernel
theorem dX3_order_2 : decode cX3_order 2 = .ok (.bipush 6, 2) := by decide +kernel
theorem dX3_order_4 : decode cX3_order 4 = .ok (.invokestatic 37, 3) := by decide +kernel
theorem dX3_order_7 : decode cX3_order 7 = .ok (.ifCond .ne 15, 3) := by decide +kernel
theorem dX3_order_10 : decode cX3_order 10 = .ok (.iload_n 2, 1) := by decide +kernel
theorem dX3_order_11 : decode cX3_order 11 = .ok (.bipush (-2), 2) := by decide +kernel
theorem dX3_order_13 : decode cX3_order 13 = .ok (.iload_n 1, 1) := by decide +kernel
theorem dX3_order_14 : decode cX3_order 14 = .ok (.iconst 1, 1) := by decide +kernel
theorem dX3_order_15 : decode cX3_order 15 = .ok (.isub, 1) := by decide +kernel
theorem dX3_order_16 : decode cX3_order 16 = .ok (.invokestatic 37, 3) := by decide +kernel
theorem dX3_order_19 : decode cX3_order 19 = .ok (.ifCond .eq 6, 3) := by decide +kernel
theorem dX3_order_22 : decode cX3_order 22 = .ok (.bipush (-2), 2) := by decide +kernel
theorem dX3_order_24 : decode cX3_order 24 = .ok (.ireturn, 1) := by decide +kernel
theorem dX3_order_25 : decode cX3_order 25 = .ok (.aload_n 0, 1) := by decide +kernel
theorem dX3_order_26 : decode cX3_order 26 = .ok (.getfield 27, 3) := by decide +kernel
theorem dX3_order_29 : decode cX3_order 29 = .ok (.iload_n 1, 1) := by decide +kernel
theorem dX3_order_30 : decode cX3_order 30 = .ok (.invokevirtual 124, 3) := by decide +kernel
theorem dX3_order_33 : decode cX3_order 33 = .ok (.iconst (-1), 1) := by decide +kernel
theorem dX3_order_34 : decode cX3_order 34 = .ok (.istore_n 3, 1) := by decide +kernel
theorem dX3_order_35 : decode cX3_order 35 = .ok (.iconst 0, 1) := by decide +kernel
theorem dX3_order_36 : decode cX3_order 36 = .ok (.istore 4, 2) := by decide +kernel
theorem dX3_order_38 : decode cX3_order 38 = .ok (.iconst 1, 1) := by decide +kernel
theorem dX3_order_39 : decode cX3_order 39 = .ok (.istore 5, 2) := by decide +kernel
theorem dX3_order_41 : decode cX3_order 41 = .ok (.iconst 0, 1) := by decide +kernel
theorem dX3_order_42 : decode cX3_order 42 = .ok (.istore 6, 2) := by decide +kernel
theorem dX3_order_44 : decode cX3_order 44 = .ok (.iload 5, 2) := by decide +kernel
theorem dX3_order_46 : decode cX3_order 46 = .ok (.ifCond .eq 72, 3) := by decide +kernel
theorem dX3_order_49 : decode cX3_order 49 = .ok (.iload 6, 2) := by decide +kernel
theorem dX3_order_51 : decode cX3_order 51 = .ok (.sipush 720, 3) := by decide +kernel
theorem dX3_order_54 : decode cX3_order 54 = .ok (.if_icmp .ge 64, 3) := by decide +kernel
theorem dX3_order_57 : decode cX3_order 57 = .ok (.aload_n 0, 1) := by decide +kernel
theorem dX3_order_58 : decode cX3_order 58 = .ok (.iload_n 1, 1) := by decide +kernel
theorem dX3_order_59 : decode cX3_order 59 = .ok (.invokevirtual 128, 3) := by decide +kernel
theorem dX3_order_62 : decode cX3_order 62 = .ok (.istore 7, 2) := by decide +kernel
theorem dX3_order_64 : decode cX3_order 64 = .ok (.iload 7, 2) := by decide +kernel
theorem dX3_order_66 : decode cX3_order 66 = .ok (.iload_n 3, 1) := by decide +kernel
theorem dX3_order_67 : decode cX3_order 67 = .ok (.if_icmp .le 26, 3) := by decide +kernel
theorem dX3_order_70 : decode cX3_order 70 = .ok (.iload 7, 2) := by decide +kernel
theorem dX3_order_72 : decode cX3_order 72 = .ok (.istore_n 3, 1) := by decide +kernel
theorem dX3_order_73 : decode cX3_order 73 = .ok (.iconst 0, 1) := by decide +kernel
theorem dX3_order_74 : decode cX3_order 74 = .ok (.istore 4, 2) := by decide +kernel
theorem dX3_order_76 : decode cX3_order 76 = .ok (.aload_n 0, 1) := by decide +kernel
theorem dX3_order_77 : decode cX3_order 77 = .ok (.getfield 27, 3) := by decide +kernel
theorem dX3_order_80 : decode cX3_order 80 = .ok (.getfield 131, 3) := by decide +kernel
theorem dX3_order_83 : decode cX3_order 83 = .ok (.iconst 0, 1) := by decide +kernel
theorem dX3_order_84 : decode cX3_order 84 = .ok (.aload_n 0, 1) := by decide +kernel
theorem dX3_order_85 : decode cX3_order 85 = .ok (.getfield 34, 3) := by decide +kernel
theorem dX3_order_88 : decode cX3_order 88 = .ok (.iconst 0, 1) := by decide +kernel
theorem dX3_order_89 : decode cX3_order 89 = .ok (.iload_n 1, 1) := by decide +kernel
theorem dX3_order_90 : decode cX3_order 90 = .ok (.invokestatic 134, 3) := by decide +kernel
theorem dX3_order_93 : decode cX3_order 93 = .ok (.iload 7, 2) := by decide +kernel
theorem dX3_order_95 : decode cX3_order 95 = .ok (.iload_n 3, 1) := by decide +kernel
theorem dX3_order_96 : decode cX3_order 96 = .ok (.if_icmp .ne 6, 3) := by decide +kernel
theorem dX3_order_99 : decode cX3_order 99 = .ok (.iinc 4 1, 3) := by decide +kernel
theorem dX3_order_102 : decode cX3_order 102 = .ok (.aload_n 0, 1) := by decide +kernel
theorem dX3_order_103 : decode cX3_order 103 = .ok (.getfield 27, 3) := by decide +kernel
theorem dX3_order_106 : decode cX3_order 106 = .ok (.iload_n 1, 1) := by decide +kernel
theorem dX3_order_107 : decode cX3_order 107 = .ok (.invokevirtual 140, 3) := by decide +kernel
theorem dX3_order_110 : decode cX3_order 110 = .ok (.istore 5, 2) := by decide +kernel
theorem dX3_order_112 : decode cX3_order 112 = .ok (.iinc 6 1, 3) := by decide +kernel
theorem dX3_order_115 : decode cX3_order 115 = .ok (.goto (-71), 3) := by decide +kernel
theorem dX3_order_118 : decode cX3_order 118 = .ok (.iload_n 2, 1) := by decide +kernel
theorem dX3_order_119 : decode cX3_order 119 = .ok (.iconst (-1), 1) := by decide +kernel
theorem dX3_order_120 : decode cX3_order 120 = .ok (.if_icmp .ne 5, 3) := by decide +kernel
theorem dX3_order_123 : decode cX3_order 123 = .ok (.iload_n 3, 1) := by decide +kernel
theorem dX3_order_124 : decode cX3_order 124 = .ok (.ireturn, 1) := by decide +kernel
theorem dX3_order_125 : decode cX3_order 125 = .ok (.iload_n 2, 1) := by decide +kernel
theorem dX3_order_126 : decode cX3_order 126 = .ok (.bipush (-2), 2) := by decide +kernel
theorem dX3_order_128 : decode cX3_order 128 = .ok (.if_icmp .ne 8, 3) := by decide +kernel
theorem dX3_order_131 : decode cX3_order 131 = .ok (.iload 4, 2) := by decide +kernel
theorem dX3_order_133 : decode cX3_order 133 = .ok (.goto 9, 3) := by decide +kernel
theorem dX3_order_136 : decode cX3_order 136 = .ok (.aload_n 0, 1) := by decide +kernel
theorem dX3_order_137 : decode cX3_order 137 = .ok (.getfield 34, 3) := by decide +kernel
theorem dX3_order_140 : decode cX3_order 140 = .ok (.iload_n 2, 1) := by decide +kernel
theorem dX3_order_141 : decode cX3_order 141 = .ok (.iaload, 1) := by decide +kernel
theorem dX3_order_142 : decode cX3_order 142 = .ok (.ireturn, 1) := by decide +kernel
set_option maxRecDepth 20000 in
theorem ggX3_climb_X3_isOutside : GoodIn wsX3_climb wsX3_isOutside := goodIn_r _ [11] (by decide +kernel) (by decide +kernel)
set_option maxRecDepth 20000 in
theorem gX3_climb_X3_isOutside : GoodIn wsX3_climb (va_wsS RX3 37 yX3_isOutside wsX3_isOutside) := goodIn_app (goodIn_of _ (by decide +kernel)) ggX3_climb_X3_isOutside
set_option maxRecDepth 20000 in
theorem ggX3_climb_X3_hasOddText : GoodIn wsX3_climb wsX3_hasOddText := goodIn_r _ [15, 3, 16, 69, 70, 71, 72, 73, 74, 75, 76, 82, 83, 84, 85, 86, 87, 88, 89, 90] (by decide +kernel) (by decide +kernel)
set_option maxRecDepth 20000 in
theorem gX3_climb_X3_hasOddText : GoodIn wsX3_climb (wsV RX3 143 RX3 yX3_hasOddText wsX3_hasOddText) := goodIn_app (goodIn_of _ (by decide +kernel)) ggX3_climb_X3_hasOddText
set_option maxRecDepth 20000 in
theorem ggX3_climb_X1_layOut : GoodIn wsX3_climb wsX1_layOut := goodIn_r _ [21, 22, 23, 24, 20, 25, 26, 27, 91, 92] (by decide +kernel) (by decide +kernel)
set_option maxRecDepth 20000 in
theorem gX3_climb_X1_layOut : GoodIn wsX3_climb (wsV RX3 90 RX1 yX1_layOut wsX1_layOut) := goodIn_app (goodIn_of _ (by decide +kernel)) ggX3_climb_X1_layOut
set_option maxRecDepth 20000 in
theorem ggX3_climb_X3_goodByPairs : GoodIn wsX3_climb wsX3_goodByPairs := goodIn_r _ [31, 1, 3, 32, 33, 34, 35, 36, 37, 38, 39, 40, 41, 42, 43, 44, 20, 45, 46, 47, 48, 49, 27, 50, 51, 52, 53, 54, 55, 56, 57, 26, 58, 59, 60, 61, 62, 63, 64, 69, 70, 71, 72, 73, 74, 75, 76, 77, 78, 79, 80, 81, 82, 83, 84, 85, 86, 87, 88, 89, 90, 91, 92] (by decide +kernel) (by decide +kernel)
set_option maxRecDepth 20000 in
theorem gX3_climb_X3_goodByPairs : GoodIn wsX3_climb (wsV RX3 146 RX3 yX3_goodByPairs wsX3_goodByPairs) := goodIn_app (goodIn_of _ (by decide +kernel)) ggX3_climb_X3_goodByPairs
set_option maxRecDepth 20000 in
theorem ggX3_climb_X1_exchange : GoodIn wsX3_climb wsX1_exchange := goodIn_r _ [68, 26, 22, 23, 24, 20, 25, 27, 91, 92] (by decide +kernel) (by decide +kernel)
set_option maxRecDepth 20000 in
theorem gX3_climb_X1_exchange : GoodIn wsX3_climb (wsV RX3 150 RX1 yX1_exchange wsX1_exchange) := goodIn_app (goodIn_of _ (by decide +kernel)) ggX3_climb_X1_exchange
theorem dX3_climb_0 : decode cX3_climb 0 = .ok (.iload_n 1, 1) := by decide +kernel
theorem dX3_climb_1 : decode cX3_climb 1 = .ok (.iconst 0, 1) := by decide +kernel
theorem dX3_climb_2 : decode cX3_climb 2 = .ok (.sipush 9999, 3) := by decide +kernel
theorem dX3_climb_5 : decode cX3_climb 5 = .ok (.invokestatic 37, 3) := by decide +kernel
theorem dX3_climb_8 : decode cX3_climb 8 = .ok (.ifCond .ne 24, 3) := by decide +kernel
theorem dX3_climb_11 : decode cX3_climb 11 = .ok (.iload_n 2, 1) := by decide +kernel
theorem dX3_climb_12 : decode cX3_climb 12 = .ok (.iconst 0, 1) := by decide +kernel
theorem dX3_climb_13 : decode cX3_climb 13 = .ok (.bipush 60, 2) := by decide +kernel
theorem dX3_climb_15 : decode cX3_climb 15 = .ok (.invokestatic 37, 3) := by decide +kernel
theorem dX3_climb_18 : decode cX3_climb 18 = .ok (.ifCond .ne 14, 3) := by decide +kernel
theorem dX3_climb_21 : decode cX3_climb 21 = .ok (.iload_n 3, 1) := by decide +kernel
theorem dX3_climb_22 : decode cX3_climb 22 = .ok (.bipush (-2), 2) := by decide +kernel
theorem dX3_climb_24 : decode cX3_climb 24 = .ok (.bipush 15, 2) := by decide +kernel
theorem dX3_climb_26 : decode cX3_climb 26 = .ok (.invokestatic 37, 3) := by decide +kernel
theorem dX3_climb_29 : decode cX3_climb 29 = .ok (.ifCond .eq 6, 3) := by decide +kernel
theorem dX3_climb_32 : decode cX3_climb 32 = .ok (.bipush (-2), 2) := by decide +kernel
theorem dX3_climb_34 : decode cX3_climb 34 = .ok (.ireturn, 1) := by decide +kernel
theorem dX3_climb_35 : decode cX3_climb 35 = .ok (.aload_n 0, 1) := by decide +kernel
theorem dX3_climb_36 : decode cX3_climb 36 = .ok (.invokevirtual 143, 3) := by decide +kernel
theorem dX3_climb_39 : decode cX3_climb 39 = .ok (.ifCond .eq 6, 3) := by decide +kernel
theorem dX3_climb_42 : decode cX3_climb 42 = .ok (.bipush (-3), 2) := by decide +kernel
theorem dX3_climb_44 : decode cX3_climb 44 = .ok (.ireturn, 1) := by decide +kernel
theorem dX3_climb_45 : decode cX3_climb 45 = .ok (.aload_n 0, 1) := by decide +kernel
theorem dX3_climb_46 : decode cX3_climb 46 = .ok (.getfield 27, 3) := by decide +kernel
theorem dX3_climb_49 : decode cX3_climb 49 = .ok (.getfield 86, 3) := by decide +kernel
theorem dX3_climb_52 : decode cX3_climb 52 = .ok (.astore 4, 2) := by decide +kernel
theorem dX3_climb_54 : decode cX3_climb 54 = .ok (.aload 4, 2) := by decide +kernel
theorem dX3_climb_56 : decode cX3_climb 56 = .ok (.aload_n 0, 1) := by decide +kernel
theorem dX3_climb_57 : decode cX3_climb 57 = .ok (.getfield 16, 3) := by decide +kernel
theorem dX3_climb_60 : decode cX3_climb 60 = .ok (.getfield 59, 3) := by decide +kernel
theorem dX3_climb_63 : decode cX3_climb 63 = .ok (.aload_n 0, 1) := by decide +kernel
theorem dX3_climb_64 : decode cX3_climb 64 = .ok (.getfield 16, 3) := by decide +kernel
theorem dX3_climb_67 : decode cX3_climb 67 = .ok (.getfield 62, 3) := by decide +kernel
theorem dX3_climb_70 : decode cX3_climb 70 = .ok (.invokevirtual 90, 3) := by decide +kernel
theorem dX3_climb_73 : decode cX3_climb 73 = .ok (.aload_n 0, 1) := by decide +kernel
theorem dX3_climb_74 : decode cX3_climb 74 = .ok (.invokevirtual 146, 3) := by decide +kernel
theorem dX3_climb_77 : decode cX3_climb 77 = .ok (.istore 5, 2) := by decide +kernel
theorem dX3_climb_79 : decode cX3_climb 79 = .ok (.iconst 0, 1) := by decide +kernel
theorem dX3_climb_80 : decode cX3_climb 80 = .ok (.istore 6, 2) := by decide +kernel
theorem dX3_climb_82 : decode cX3_climb 82 = .ok (.iload_n 1, 1) := by decide +kernel
theorem dX3_climb_83 : decode cX3_climb 83 = .ok (.istore 7, 2) := by decide +kernel
theorem dX3_climb_85 : decode cX3_climb 85 = .ok (.iconst 0, 1) := by decide +kernel
theorem dX3_climb_86 : decode cX3_climb 86 = .ok (.istore 8, 2) := by decide +kernel
theorem dX3_climb_88 : decode cX3_climb 88 = .ok (.iload 8, 2) := by decide +kernel
theorem dX3_climb_90 : decode cX3_climb 90 = .ok (.iload_n 2, 1) := by decide +kernel
theorem dX3_climb_91 : decode cX3_climb 91 = .ok (.if_icmp .ge 80, 3) := by decide +kernel
theorem dX3_climb_94 : decode cX3_climb 94 = .ok (.bipush 75, 2) := by decide +kernel
theorem dX3_climb_96 : decode cX3_climb 96 = .ok (.iload 7, 2) := by decide +kernel
theorem dX3_climb_98 : decode cX3_climb 98 = .ok (.imul, 1) := by decide +kernel
theorem dX3_climb_99 : decode cX3_climb 99 = .ok (.bipush 74, 2) := by decide +kernel
theorem dX3_climb_101 : decode cX3_climb 101 = .ok (.iadd, 1) := by decide +kernel
theorem dX3_climb_102 : decode cX3_climb 102 = .ok (.ldc 149, 2) := by decide +kernel
theorem dX3_climb_104 : decode cX3_climb 104 = .ok (.irem, 1) := by decide +kernel
theorem dX3_climb_105 : decode cX3_climb 105 = .ok (.istore 7, 2) := by decide +kernel
theorem dX3_climb_107 : decode cX3_climb 107 = .ok (.iload 7, 2) := by decide +kernel
theorem dX3_climb_109 : decode cX3_climb 109 = .ok (.bipush 16, 2) := by decide +kernel
theorem dX3_climb_111 : decode cX3_climb 111 = .ok (.irem, 1) := by decide +kernel
theorem dX3_climb_112 : decode cX3_climb 112 = .ok (.istore 9, 2) := by decide +kernel
theorem dX3_climb_114 : decode cX3_climb 114 = .ok (.iload 7, 2) := by decide +kernel
theorem dX3_climb_116 : decode cX3_climb 116 = .ok (.bipush 16, 2) := by decide +kernel
theorem dX3_climb_118 : decode cX3_climb 118 = .ok (.idiv, 1) := by decide +kernel
theorem dX3_climb_119 : decode cX3_climb 119 = .ok (.bipush 16, 2) := by decide +kernel
theorem dX3_climb_121 : decode cX3_climb 121 = .ok (.irem, 1) := by decide +kernel
theorem dX3_climb_122 : decode cX3_climb 122 = .ok (.istore 10, 2) := by decide +kernel
theorem dX3_climb_124 : decode cX3_climb 124 = .ok (.aload 4, 2) := by decide +kernel
theorem dX3_climb_126 : decode cX3_climb 126 = .ok (.iload 9, 2) := by decide +kernel
theorem dX3_climb_128 : decode cX3_climb 128 = .ok (.iload 10, 2) := by decide +kernel
theorem dX3_climb_130 : decode cX3_climb 130 = .ok (.invokevirtual 150, 3) := by decide +kernel
theorem dX3_climb_133 : decode cX3_climb 133 = .ok (.aload_n 0, 1) := by decide +kernel
theorem dX3_climb_134 : decode cX3_climb 134 = .ok (.invokevirtual 146, 3) := by decide +kernel
theorem dX3_climb_137 : decode cX3_climb 137 = .ok (.istore 11, 2) := by decide +kernel
theorem dX3_climb_139 : decode cX3_climb 139 = .ok (.iload 11, 2) := by decide +kernel
theorem dX3_climb_141 : decode cX3_climb 141 = .ok (.iload 5, 2) := by decide +kernel
theorem dX3_climb_143 : decode cX3_climb 143 = .ok (.if_icmp .ge 15, 3) := by decide +kernel
theorem dX3_climb_146 : decode cX3_climb 146 = .ok (.aload 4, 2) := by decide +kernel
theorem dX3_climb_148 : decode cX3_climb 148 = .ok (.iload 9, 2) := by decide +kernel
theorem dX3_climb_150 : decode cX3_climb 150 = .ok (.iload 10, 2) := by decide +kernel
theorem dX3_climb_152 : decode cX3_climb 152 = .ok (.invokevirtual 150, 3) := by decide +kernel
theorem dX3_climb_155 : decode cX3_climb 155 = .ok (.goto 10, 3) := by decide +kernel
theorem dX3_climb_158 : decode cX3_climb 158 = .ok (.iload 11, 2) := by decide +kernel
theorem dX3_climb_160 : decode cX3_climb 160 = .ok (.istore 5, 2) := by decide +kernel
theorem dX3_climb_162 : decode cX3_climb 162 = .ok (.iinc 6 1, 3) := by decide +kernel
theorem dX3_climb_165 : decode cX3_climb 165 = .ok (.iinc 8 1, 3) := by decide +kernel
theorem dX3_climb_168 : decode cX3_climb 168 = .ok (.goto (-80), 3) := by decide +kernel
theorem dX3_climb_171 : decode cX3_climb 171 = .ok (.iload_n 3, 1) := by decide +kernel
theorem dX3_climb_172 : decode cX3_climb 172 = .ok (.iconst (-1), 1) := by decide +kernel
theorem dX3_climb_173 : decode cX3_climb 173 = .ok (.if_icmp .ne 6, 3) := by decide +kernel
theorem dX3_climb_176 : decode cX3_climb 176 = .ok (.iload 5, 2) := by decide +kernel
theorem dX3_climb_178 : decode cX3_climb 178 = .ok (.ireturn, 1) := by decide +kernel
theorem dX3_climb_179 : decode cX3_climb 179 = .ok (.iload_n 3, 1) := by decide +kernel
theorem dX3_climb_180 : decode cX3_climb 180 = .ok (.bipush (-2), 2) := by decide +kernel
theorem dX3_climb_182 : decode cX3_climb 182 = .ok (.if_icmp .ne 8, 3) := by decide +kernel
theorem dX3_climb_185 : decode cX3_climb 185 = .ok (.iload 6, 2) := by decide +kernel
theorem dX3_climb_187 : decode cX3_climb 187 = .ok (.goto 10, 3) := by decide +kernel
theorem dX3_climb_190 : decode cX3_climb 190 = .ok (.aload 4, 2) := by decide +kernel
theorem dX3_climb_192 : decode cX3_climb 192 = .ok (.getfield 96, 3) := by decide +kernel
theorem dX3_climb_195 : decode cX3_climb 195 = .ok (.iload_n 3, 1) := by decide +kernel
theorem dX3_climb_196 : decode cX3_climb 196 = .ok (.iaload, 1) := by decide +kernel
theorem dX3_climb_197 : decode cX3_climb 197 = .ok (.ireturn, 1) := by decide +kernel
set_option maxRecDepth 20000 in
theorem ggX3_image_X3_isOutside : GoodIn wsX3_image wsX3_isOutside := goodIn_r _ [7] (by decide +kernel) (by decide +kernel)
set_option maxRecDepth 20000 in
theorem gX3_image_X3_isOutside : GoodIn wsX3_image (va_wsS RX3 37 yX3_isOutside wsX3_isOutside) := goodIn_app (goodIn_of _ (by decide +kernel)) ggX3_image_X3_isOutside
set_option maxRecDepth 20000 in
theorem ggX3_image_X0_copyFrom : GoodIn wsX3_image wsX0_copyFrom := goodIn_r _ [12, 13, 14, 15, 16, 17, 18, 19, 20, 21, 22, 23, 24, 25, 34, 35, 36, 37, 38, 39, 40, 41, 42] (by decide +kernel) (by decide +kernel)
set_option maxRecDepth 20000 in
theorem gX3_image_X0_copyFrom : GoodIn wsX3_image (wsV RX3 154 RX0 yX0_copyFrom wsX0_copyFrom) := goodIn_app (goodIn_of _ (by decide +kernel)) ggX3_image_X0_copyFrom
theorem dX3_image_0 : decode cX3_image 0 = .ok (.iload_n 1, 1) := by decide +kernel
theorem dX3_image_1 : decode cX3_image 1 = .ok (.iconst 0, 1) := by decide +kernel
theorem dX3_image_2 : decode cX3_image 2 = .ok (.iconst 1, 1) := by decide +kernel
theorem dX3_image_3 : decode cX3_image 3 = .ok (.invokestatic 37, 3) := by decide +kernel
theorem dX3_image_6 : decode cX3_image 6 = .ok (.ifCond .eq 6, 3) := by decide +kernel
theorem dX3_image_9 : decode cX3_image 9 = .ok (.bipush (-2), 2) := by decide +kernel
theorem dX3_image_11 : decode cX3_image 11 = .ok (.ireturn, 1) := by decide +kernel
theorem dX3_image_12 : decode cX3_image 12 = .ok (.aload_n 0, 1) := by decide +kernel
theorem dX3_image_13 : decode cX3_image 13 = .ok (.getfield 20, 3) := by decide +kernel
theorem dX3_image_16 : decode cX3_image 16 = .ok (.iload_n 1, 1) := by decide +kernel
theorem dX3_image_17 : decode cX3_image 17 = .ok (.aaload, 1) := by decide +kernel
theorem dX3_image_18 : decode cX3_image 18 = .ok (.aload_n 0, 1) := by decide +kernel
theorem dX3_image_19 : decode cX3_image 19 = .ok (.getfield 16, 3) := by decide +kernel
theorem dX3_image_22 : decode cX3_image 22 = .ok (.invokevirtual 154, 3) := by decide +kernel
theorem dX3_image_25 : decode cX3_image 25 = .ok (.aload_n 0, 1) := by decide +kernel
theorem dX3_image_26 : decode cX3_image 26 = .ok (.dup, 1) := by decide +kernel
theorem dX3_image_27 : decode cX3_image 27 = .ok (.getfield 158, 3) := by decide +kernel
theorem dX3_image_30 : decode cX3_image 30 = .ok (.iconst 1, 1) := by decide +kernel
theorem dX3_image_31 : decode cX3_image 31 = .ok (.iload_n 1, 1) := by decide +kernel
theorem dX3_image_32 : decode cX3_image 32 = .ok (.ishl, 1) := by decide +kernel
theorem dX3_image_33 : decode cX3_image 33 = .ok (.ior, 1) := by decide +kernel
theorem dX3_image_34 : decode cX3_image 34 = .ok (.putfield 158, 3) := by decide +kernel
theorem dX3_image_37 : decode cX3_image 37 = .ok (.iconst 1, 1) := by decide +kernel
theorem dX3_image_38 : decode cX3_image 38 = .ok (.ireturn, 1) := by decide +kernel
set_option maxRecDepth 20000 in
theorem ggX3_restore_X3_isOutside : GoodIn wsX3_restore wsX3_isOutside := goodIn_r _ [7] (by decide +kernel) (by decide +kernel)
set_option maxRecDepth 20000 in
theorem gX3_restore_X3_isOutside : GoodIn wsX3_restore (va_wsS RX3 37 yX3_isOutside wsX3_isOutside) := goodIn_app (goodIn_of _ (by decide +kernel)) ggX3_restore_X3_isOutside
set_option maxRecDepth 20000 in
theorem ggX3_restore_X0_copyFrom : GoodIn wsX3_restore wsX0_copyFrom := goodIn_r _ [12, 13, 14, 15, 16, 17, 18, 19, 20, 21, 22, 23, 24, 25, 34, 35, 36, 37, 38, 39, 40, 41, 42] (by decide +kernel) (by decide +kernel)
set_option maxRecDepth 20000 in
theorem gX3_restore_X0_copyFrom : GoodIn wsX3_restore (wsV RX3 154 RX0 yX0_copyFrom wsX0_copyFrom) := goodIn_app (goodIn_of _ (by decide +kernel)) ggX3_restore_X0_copyFrom
theorem dX3_restore_0 : decode cX3_restore 0 = .ok (.iload_n 1, 1) := by decide +kernel
theorem dX3_restore_1 : decode cX3_restore 1 = .ok (.iconst 0, 1) := by decide +kernel
theorem dX3_restore_2 : decode cX3_restore 2 = .ok (.iconst 1, 1) := by decide +kernel
theorem dX3_restore_3 : decode cX3_restore 3 = .ok (.invokestatic 37, 3) := by decide +kernel
theorem dX3_restore_6 : decode cX3_restore 6 = .ok (.ifCond .eq 6, 3) := by decide +kernel
theorem dX3_restore_9 : decode cX3_restore 9 = .ok (.bipush (-2), 2) := by decide +kernel
theorem dX3_restore_11 : decode cX3_restore 11 = .ok (.ireturn, 1) := by decide +kernel
theorem dX3_restore_12 : decode cX3_restore 12 = .ok (.aload_n 0, 1) := by decide +kernel
theorem dX3_restore_13 : decode cX3_restore 13 = .ok (.getfield 158, 3) := by decide +kernel
theorem dX3_restore_16 : decode cX3_restore 16 = .ok (.iload_n 1, 1) := by decide +kernel
theorem dX3_restore_17 : decode cX3_restore 17 = .ok (.ishr, 1) := by decide +kernel
theorem dX3_restore_18 : decode cX3_restore 18 = .ok (.iconst 1, 1) := by decide +kernel
theorem dX3_restore_19 : decode cX3_restore 19 = .ok (.iand, 1) := by decide +kernel
theorem dX3_restore_20 : decode cX3_restore 20 = .ok (.ifCond .ne 6, 3) := by decide +kernel
theorem dX3_restore_23 : decode cX3_restore 23 = .ok (.bipush (-3), 2) := by decide +kernel
theorem dX3_restore_25 : decode cX3_restore 25 = .ok (.ireturn, 1) := by decide +kernel
theorem dX3_restore_26 : decode cX3_restore 26 = .ok (.aload_n 0, 1) := by decide +kernel
theorem dX3_restore_27 : decode cX3_restore 27 = .ok (.getfield 16, 3) := by decide +kernel
theorem dX3_restore_30 : decode cX3_restore 30 = .ok (.aload_n 0, 1) := by decide +kernel
theorem dX3_restore_31 : decode cX3_restore 31 = .ok (.getfield 20, 3) := by decide +kernel
theorem dX3_restore_34 : decode cX3_restore 34 = .ok (.iload_n 1, 1) := by decide +kernel
theorem dX3_restore_35 : decode cX3_restore 35 = .ok (.aaload, 1) := by decide +kernel
theorem dX3_restore_36 : decode cX3_restore 36 = .ok (.invokevirtual 154, 3) := by decide +kernel
theorem dX3_restore_39 : decode cX3_restore 39 = .ok (.iconst 1, 1) := by decide +kernel
theorem dX3_restore_40 : decode cX3_restore 40 = .ok (.ireturn, 1) := by decide +kernel
set_option maxRecDepth 20000 in
theorem ggX3_count_X0_likedPairs : GoodIn wsX3_count wsX0_likedPairs := goodIn_r _ [12, 13, 14, 15, 16, 17, 18, 19, 20, 33, 34, 35, 36, 37, 38, 39, 40, 41] (by decide +kernel) (by decide +kernel)
set_option maxRecDepth 20000 in
theorem gX3_count_X0_likedPairs : GoodIn wsX3_count (wsV RX3 79 RX0 yX0_likedPairs wsX0_likedPairs) := goodIn_app (goodIn_of _ (by decide +kernel)) ggX3_count_X0_likedPairs
set_option maxRecDepth 20000 in
theorem ggX3_count_X3_isOutside : GoodIn wsX3_count wsX3_isOutside := goodIn_r _ [24] (by decide +kernel) (by decide +kernel)
set_option maxRecDepth 20000 in
theorem gX3_count_X3_isOutside : GoodIn wsX3_count (va_wsS RX3 37 yX3_isOutside wsX3_isOutside) := goodIn_app (goodIn_of _ (by decide +kernel)) ggX3_count_X3_isOutside
theorem dX3_count_0 : decode cX3_count 0 = .ok (.iload_n 1, 1) := by decide +kernel
theorem dX3_count_1 : decode cX3_count 1 = .ok (.tableswitch 81 0 5 #[39, 47, 55, 60, 68, 76], 39) := by decide +kernel
theorem dX3_count_40 : decode cX3_count 40 = .ok (.aload_n 0, 1) := by decide +kernel
theorem dX3_count_41 : decode cX3_count 41 = .ok (.getfield 16, 3) := by decide +kernel
theorem dX3_count_44 : decode cX3_count 44 = .ok (.getfield 56, 3) := by decide +kernel
theorem dX3_count_47 : decode cX3_count 47 = .ok (.ireturn, 1) := by decide +kernel
theorem dX3_count_48 : decode cX3_count 48 = .ok (.aload_n 0, 1) := by decide +kernel
theorem dX3_count_49 : decode cX3_count 49 = .ok (.getfield 16, 3) := by decide +kernel
theorem dX3_count_52 : decode cX3_count 52 = .ok (.getfield 62, 3) := by decide +kernel
theorem dX3_count_55 : decode cX3_count 55 = .ok (.ireturn, 1) := by decide +kernel
theorem dX3_count_56 : decode cX3_count 56 = .ok (.aload_n 0, 1) := by decide +kernel
theorem dX3_count_57 : decode cX3_count 57 = .ok (.getfield 41, 3) := by decide +kernel
theorem dX3_count_60 : decode cX3_count 60 = .ok (.ireturn, 1) := by decide +kernel
theorem dX3_count_61 : decode cX3_count 61 = .ok (.aload_n 0, 1) := by decide +kernel
theorem dX3_count_62 : decode cX3_count 62 = .ok (.getfield 16, 3) := by decide +kernel
theorem dX3_count_65 : decode cX3_count 65 = .ok (.getfield 103, 3) := by decide +kernel
theorem dX3_count_68 : decode cX3_count 68 = .ok (.ireturn, 1) := by decide +kernel
theorem dX3_count_69 : decode cX3_count 69 = .ok (.aload_n 0, 1) := by decide +kernel
theorem dX3_count_70 : decode cX3_count 70 = .ok (.getfield 16, 3) := by decide +kernel
theorem dX3_count_73 : decode cX3_count 73 = .ok (.invokevirtual 79, 3) := by decide +kernel
theorem dX3_count_76 : decode cX3_count 76 = .ok (.ireturn, 1) := by decide +kernel
theorem dX3_count_77 : decode cX3_count 77 = .ok (.aload_n 0, 1) := by decide +kernel
theorem dX3_count_78 : decode cX3_count 78 = .ok (.getfield 158, 3) := by decide +kernel
theorem dX3_count_81 : decode cX3_count 81 = .ok (.ireturn, 1) := by decide +kernel
theorem dX3_count_82 : decode cX3_count 82 = .ok (.iload_n 1, 1) := by decide +kernel
theorem dX3_count_83 : decode cX3_count 83 = .ok (.bipush 10, 2) := by decide +kernel
theorem dX3_count_85 : decode cX3_count 85 = .ok (.bipush 25, 2) := by decide +kernel
theorem dX3_count_87 : decode cX3_count 87 = .ok (.invokestatic 37, 3) := by decide +kernel
theorem dX3_count_90 : decode cX3_count 90 = .ok (.ifCond .eq 8, 3) := by decide +kernel
theorem dX3_count_93 : decode cX3_count 93 = .ok (.bipush (-2), 2) := by decide +kernel
theorem dX3_count_95 : decode cX3_count 95 = .ok (.goto 15, 3) := by decide +kernel
theorem dX3_count_98 : decode cX3_count 98 = .ok (.aload_n 0, 1) := by decide +kernel
theorem dX3_count_99 : decode cX3_count 99 = .ok (.getfield 16, 3) := by decide +kernel
theorem dX3_count_102 : decode cX3_count 102 = .ok (.getfield 73, 3) := by decide +kernel
theorem dX3_count_105 : decode cX3_count 105 = .ok (.iload_n 1, 1) := by decide +kernel
theorem dX3_count_106 : decode cX3_count 106 = .ok (.bipush 10, 2) := by decide +kernel
theorem dX3_count_108 : decode cX3_count 108 = .ok (.isub, 1) := by decide +kernel
theorem dX3_count_109 : decode cX3_count 109 = .ok (.iaload, 1) := by decide +kernel
theorem dX3_count_110 : decode cX3_count 110 = .ok (.ireturn, 1) := by decide +kernel
theorem dX3_isOutside_0 : decode cX3_isOutside 0 = .ok (.iload_n 0, 1) := by decide +kernel
theorem dX3_isOutside_1 : decode cX3_isOutside 1 = .ok (.iload_n 1, 1) := by decide +kernel
theorem dX3_isOutside_2 : decode cX3_isOutside 2 = .ok (.if_icmp .lt 8, 3) := by decide +kernel
theorem dX3_isOutside_5 : decode cX3_isOutside 5 = .ok (.iload_n 0, 1) := by decide +kernel
theorem dX3_isOutside_6 : decode cX3_isOutside 6 = .ok (.iload_n 2, 1) := by decide +kernel
theorem dX3_isOutside_7 : decode cX3_isOutside 7 = .ok (.if_icmp .le 7, 3) := by decide +kernel
theorem dX3_isOutside_10 : decode cX3_isOutside 10 = .ok (.iconst 1, 1) := by decide +kernel
theorem dX3_isOutside_11 : decode cX3_isOutside 11 = .ok (.goto 4, 3) := by decide +kernel
theorem dX3_isOutside_14 : decode cX3_isOutside 14 = .ok (.iconst 0, 1) := by decide +kernel
theorem dX3_isOutside_15 : decode cX3_isOutside 15 = .ok (.ireturn, 1) := by decide +kernel
set_option maxRecDepth 20000 in
theorem ggX3_isNoLetter_X3_isOutside : GoodIn wsX3_isNoLetter wsX3_isOutside := goodIn_r _ [4] (by decide +kernel) (by decide +kernel)
set_option maxRecDepth 20000 in
theorem gX3_isNoLetter_X3_isOutside : GoodIn wsX3_isNoLetter (va_wsS RX3 37 yX3_isOutside wsX3_isOutside) := goodIn_app (goodIn_of _ (by decide +kernel)) ggX3_isNoLetter_X3_isOutside
theorem dX3_isNoLetter_0 : decode cX3_isNoLetter 0 = .ok (.iload_n 0, 1) := by decide +kernel
theorem dX3_isNoLetter_1 : decode cX3_isNoLetter 1 = .ok (.iconst 0, 1) := by decide +kernel
theorem dX3_isNoLetter_2 : decode cX3_isNoLetter 2 = .ok (.bipush 15, 2) := by decide +kernel
theorem dX3_isNoLetter_4 : decode cX3_isNoLetter 4 = .ok (.invokestatic 37, 3) := by decide +kernel
theorem dX3_isNoLetter_7 : decode cX3_isNoLetter 7 = .ok (.ireturn, 1) := by decide +kernel
set_option maxRecDepth 20000 in
theorem ggX3_padHasOnlyLetters_X3_isNoLetter : GoodIn wsX3_padHasOnlyLetters wsX3_isNoLetter := goodIn_r _ [6, 7, 8, 5, 9] (by decide +kernel) (by decide +kernel)
set_option maxRecDepth 20000 in
theorem gX3_padHasOnlyLetters_X3_isNoLetter : GoodIn wsX3_padHasOnlyLetters (va_wsS RX3 69 yX3_isNoLetter wsX3_isNoLetter) := goodIn_app (goodIn_of _ (by decide +kernel)) ggX3_padHasOnlyLetters_X3_isNoLetter
theorem dX3_padHasOnlyLetters_0 : decode cX3_padHasOnlyLetters 0 = .ok (.iconst 0, 1) := by decide +kernel
theorem dX3_padHasOnlyLetters_1 : decode cX3_padHasOnlyLetters 1 = .ok (.istore_n 1, 1) := by decide +kernel
theorem dX3_padHasOnlyLetters_2 : decode cX3_padHasOnlyLetters 2 = .ok (.iload_n 1, 1) := by decide +kernel
theorem dX3_padHasOnlyLetters_3 : decode cX3_padHasOnlyLetters 3 = .ok (.aload_n 0, 1) := by decide +kernel
theorem dX3_padHasOnlyLetters_4 : decode cX3_padHasOnlyLetters 4 = .ok (.getfield 41, 3) := by decide +kernel
theorem dX3_padHasOnlyLetters_7 : decode cX3_padHasOnlyLetters 7 = .ok (.if_icmp .ge 26, 3) := by decide +kernel
theorem dX3_padHasOnlyLetters_10 : decode cX3_padHasOnlyLetters 10 = .ok (.aload_n 0, 1) := by decide +kernel
theorem dX3_padHasOnlyLetters_11 : decode cX3_padHasOnlyLetters 11 = .ok (.getfield 9, 3) := by decide +kernel
theorem dX3_padHasOnlyLetters_14 : decode cX3_padHasOnlyLetters 14 = .ok (.iload_n 1, 1) := by decide +kernel
theorem dX3_padHasOnlyLetters_15 : decode cX3_padHasOnlyLetters 15 = .ok (.iaload, 1) := by decide +kernel
theorem dX3_padHasOnlyLetters_16 : decode cX3_padHasOnlyLetters 16 = .ok (.bipush 97, 2) := by decide +kernel
theorem dX3_padHasOnlyLetters_18 : decode cX3_padHasOnlyLetters 18 = .ok (.isub, 1) := by decide +kernel
theorem dX3_padHasOnlyLetters_19 : decode cX3_padHasOnlyLetters 19 = .ok (.invokestatic 69, 3) := by decide +kernel
theorem dX3_padHasOnlyLetters_22 : decode cX3_padHasOnlyLetters 22 = .ok (.ifCond .eq 5, 3) := by decide +kernel
theorem dX3_padHasOnlyLetters_25 : decode cX3_padHasOnlyLetters 25 = .ok (.iconst 0, 1) := by decide +kernel
theorem dX3_padHasOnlyLetters_26 : decode cX3_padHasOnlyLetters 26 = .ok (.ireturn, 1) := by decide +kernel
theorem dX3_padHasOnlyLetters_27 : decode cX3_padHasOnlyLetters 27 = .ok (.iinc 1 1, 3) := by decide +kernel
theorem dX3_padHasOnlyLetters_30 : decode cX3_padHasOnlyLetters 30 = .ok (.goto (-28), 3) := by decide +kernel
theorem dX3_padHasOnlyLetters_33 : decode cX3_padHasOnlyLetters 33 = .ok (.iconst 1, 1) := by decide +kernel
theorem dX3_padHasOnlyLetters_34 : decode cX3_padHasOnlyLetters 34 = .ok (.ireturn, 1) := by decide +kernel
theorem dX3_readPadInto_0 : decode cX3_readPadInto 0 = .ok (.iconst 0, 1) := by decide +kernel
theorem dX3_readPadInto_1 : decode cX3_readPadInto 1 = .ok (.istore_n 2, 1) := by decide +kernel
theorem dX3_readPadInto_2 : decode cX3_readPadInto 2 = .ok (.iload_n 2, 1) := by decide +kernel
theorem dX3_readPadInto_3 : decode cX3_readPadInto 3 = .ok (.aload_n 0, 1) := by decide +kernel
theorem dX3_readPadInto_4 : decode cX3_readPadInto 4 = .ok (.getfield 41, 3) := by decide +kernel
theorem dX3_readPadInto_7 : decode cX3_readPadInto 7 = .ok (.if_icmp .ge 27, 3) := by decide +kernel
theorem dX3_readPadInto_10 : decode cX3_readPadInto 10 = .ok (.iload_n 2, 1) := by decide +kernel
theorem dX3_readPadInto_11 : decode cX3_readPadInto 11 = .ok (.aload_n 1, 1) := by decide +kernel
theorem dX3_readPadInto_12 : decode cX3_readPadInto 12 = .ok (.arraylength, 1) := by decide +kernel
theorem dX3_readPadInto_13 : decode cX3_readPadInto 13 = .ok (.if_icmp .ge 21, 3) := by decide +kernel
theorem dX3_readPadInto_16 : decode cX3_readPadInto 16 = .ok (.aload_n 1, 1) := by decide +kernel
theorem dX3_readPadInto_17 : decode cX3_readPadInto 17 = .ok (.iload_n 2, 1) := by decide +kernel
theorem dX3_readPadInto_18 : decode cX3_readPadInto 18 = .ok (.aload_n 0, 1) := by decide +kernel
theorem dX3_readPadInto_19 : decode cX3_readPadInto 19 = .ok (.getfield 9, 3) := by decide +kernel
theorem dX3_readPadInto_22 : decode cX3_readPadInto 22 = .ok (.iload_n 2, 1) := by decide +kernel
theorem dX3_readPadInto_23 : decode cX3_readPadInto 23 = .ok (.iaload, 1) := by decide +kernel
theorem dX3_readPadInto_24 : decode cX3_readPadInto 24 = .ok (.bipush 97, 2) := by decide +kernel
theorem dX3_readPadInto_26 : decode cX3_readPadInto 26 = .ok (.isub, 1) := by decide +kernel
theorem dX3_readPadInto_27 : decode cX3_readPadInto 27 = .ok (.iastore, 1) := by decide +kernel
theorem dX3_readPadInto_28 : decode cX3_readPadInto 28 = .ok (.iinc 2 1, 3) := by decide +kernel
theorem dX3_readPadInto_31 : decode cX3_readPadInto 31 = .ok (.goto (-29), 3) := by decide +kernel
theorem dX3_readPadInto_34 : decode cX3_readPadInto 34 = .ok (.return_, 1) := by decide +kernel
set_option maxRecDepth 20000 in
theorem ggX3_letterAt_X3_isOutside : GoodIn wsX3_letterAt wsX3_isOutside := goodIn_r _ [4] (by decide +kernel) (by decide +kernel)
set_option maxRecDepth 20000 in
theorem gX3_letterAt_X3_isOutside : GoodIn wsX3_letterAt (va_wsS RX3 37 yX3_isOutside wsX3_isOutside) := goodIn_app (goodIn_of _ (by decide +kernel)) ggX3_letterAt_X3_isOutside
theorem dX3_letterAt_0 : decode cX3_letterAt 0 = .ok (.iload_n 2, 1) := by decide +kernel
theorem dX3_letterAt_1 : decode cX3_letterAt 1 = .ok (.iconst (-1), 1) := by decide +kernel
theorem dX3_letterAt_2 : decode cX3_letterAt 2 = .ok (.if_icmp .ne 5, 3) := by decide +kernel
theorem dX3_letterAt_5 : decode cX3_letterAt 5 = .ok (.iload_n 1, 1) := by decide +kernel
theorem dX3_letterAt_6 : decode cX3_letterAt 6 = .ok (.ireturn, 1) := by decide +kernel
theorem dX3_letterAt_7 : decode cX3_letterAt 7 = .ok (.iload_n 2, 1) := by decide +kernel
theorem dX3_letterAt_8 : decode cX3_letterAt 8 = .ok (.iconst 0, 1) := by decide +kernel
theorem dX3_letterAt_9 : decode cX3_letterAt 9 = .ok (.iload_n 1, 1) := by decide +kernel
theorem dX3_letterAt_10 : decode cX3_letterAt 10 = .ok (.iconst 1, 1) := by decide +kernel
theorem dX3_letterAt_11 : decode cX3_letterAt 11 = .ok (.isub, 1) := by decide +kernel
theorem dX3_letterAt_12 : decode cX3_letterAt 12 = .ok (.invokestatic 37, 3) := by decide +kernel
theorem dX3_letterAt_15 : decode cX3_letterAt 15 = .ok (.ifCond .eq 8, 3) := by decide +kernel
theorem dX3_letterAt_18 : decode cX3_letterAt 18 = .ok (.bipush (-6), 2) := by decide +kernel
theorem dX3_letterAt_20 : decode cX3_letterAt 20 = .ok (.goto 6, 3) := by decide +kernel
theorem dX3_letterAt_23 : decode cX3_letterAt 23 = .ok (.aload_n 0, 1) := by decide +kernel
theorem dX3_letterAt_24 : decode cX3_letterAt 24 = .ok (.iload_n 2, 1) := by decide +kernel
theorem dX3_letterAt_25 : decode cX3_letterAt 25 = .ok (.iaload, 1) := by decide +kernel
theorem dX3_letterAt_26 : decode cX3_letterAt 26 = .ok (.ireturn, 1) := by decide +kernel
theorem dX3_hasOddText_0 : decode cX3_hasOddText 0 = .ok (.aload_n 0, 1) := by decide +kernel
theorem dX3_hasOddText_1 : decode cX3_hasOddText 1 = .ok (.getfield 16, 3) := by decide +kernel
theorem dX3_hasOddText_4 : decode cX3_hasOddText 4 = .ok (.getfield 56, 3) := by decide +kernel
theorem dX3_hasOddText_7 : decode cX3_hasOddText 7 = .ok (.iconst 1, 1) := by decide +kernel
theorem dX3_hasOddText_8 : decode cX3_hasOddText 8 = .ok (.iand, 1) := by decide +kernel
theorem dX3_hasOddText_9 : decode cX3_hasOddText 9 = .ok (.iconst 1, 1) := by decide +kernel
theorem dX3_hasOddText_10 : decode cX3_hasOddText 10 = .ok (.if_icmp .ne 7, 3) := by decide +kernel
theorem dX3_hasOddText_13 : decode cX3_hasOddText 13 = .ok (.iconst 1, 1) := by decide +kernel
theorem dX3_hasOddText_14 : decode cX3_hasOddText 14 = .ok (.goto 4, 3) := by decide +kernel
theorem dX3_hasOddText_17 : decode cX3_hasOddText 17 = .ok (.iconst 0, 1) := by decide +kernel
theorem dX3_hasOddText_18 : decode cX3_hasOddText 18 = .ok (.ireturn, 1) := by decide +kernel
set_option maxRecDepth 20000 in
theorem ggX3_step_X3_isOutside : GoodIn wsX3_step wsX3_isOutside := goodIn_r _ [9] (by decide +kernel) (by decide +kernel)
set_option maxRecDepth 20000 in
theorem gX3_step_X3_isOutside : GoodIn wsX3_step (va_wsS RX3 37 yX3_isOutside wsX3_isOutside) := goodIn_app (goodIn_of _ (by decide +kernel)) ggX3_step_X3_isOutside
set_option maxRecDepth 20000 in
theorem ggX3_step_X3_hasOddText : GoodIn wsX3_step wsX3_hasOddText := goodIn_r _ [13, 2, 3, 110, 111, 112, 113, 114, 115, 116, 117, 118, 119, 120, 121, 122, 123, 124, 125, 126] (by decide +kernel) (by decide +kernel)
set_option maxRecDepth 20000 in
theorem gX3_step_X3_hasOddText : GoodIn wsX3_step (wsV RX3 143 RX3 yX3_hasOddText wsX3_hasOddText) := goodIn_app (goodIn_of _ (by decide +kernel)) ggX3_step_X3_hasOddText
set_option maxRecDepth 20000 in
theorem ggX3_step_X2_work : GoodIn wsX3_step wsX2_work := goodIn_r _ [18, 19, 20, 21, 22, 23, 24, 25, 17, 26, 27, 28, 29, 30, 31, 32, 33, 34, 35, 36, 37, 38, 39, 40, 41, 42, 43, 44, 45, 46, 47, 48, 49, 50, 51, 52, 53, 54, 55, 56, 57, 58, 59, 60, 61, 62, 63, 64, 65, 66, 67, 68, 69, 70, 71, 72, 73, 74, 75, 76, 77, 78, 79, 80, 81, 82, 83, 84, 85, 86, 87, 88, 89, 90, 91, 118, 119, 120, 121, 122, 123, 124, 125, 126, 127, 128, 129, 130, 131, 132, 133] (by decide +kernel) (by decide +kernel)
set_option maxRecDepth 20000 in
theorem gX3_step_X2_work : GoodIn wsX3_step (wsV RX3 161 RX2 yX2_work wsX2_work) := goodIn_app (goodIn_of _ (by decide +kernel)) ggX3_step_X2_work
set_option maxRecDepth 20000 in
theorem ggX3_step_X0_keepStep : GoodIn wsX3_step wsX0_keepStep := goodIn_r _ [96, 97, 98, 99, 100, 101, 102, 103, 104, 105, 106, 107, 108, 95, 109, 118, 119, 120, 121, 122, 123, 124, 125, 126] (by decide +kernel) (by decide +kernel)
set_option maxRecDepth 20000 in
theorem gX3_step_X0_keepStep : GoodIn wsX3_step (wsV RX3 165 RX0 yX0_keepStep wsX0_keepStep) := goodIn_app (goodIn_of _ (by decide +kernel)) ggX3_step_X0_keepStep
theorem dX3_step_0 : decode cX3_step 0 = .ok (.iload_n 1, 1) := by decide +kernel
theorem dX3_step_1 : decode cX3_step 1 = .ok (.iconst 0, 1) := by decide +kernel
theorem dX3_step_2 : decode cX3_step 2 = .ok (.iconst 5, 1) := by decide +kernel
theorem dX3_step_3 : decode cX3_step 3 = .ok (.invokestatic 37, 3) := by decide +kernel
theorem dX3_step_6 : decode cX3_step 6 = .ok (.ifCond .eq 6, 3) := by decide +kernel
theorem dX3_step_9 : decode cX3_step 9 = .ok (.bipush (-2), 2) := by decide +kernel
theorem dX3_step_11 : decode cX3_step 11 = .ok (.ireturn, 1) := by decide +kernel
theorem dX3_step_12 : decode cX3_step 12 = .ok (.iload_n 1, 1) := by decide +kernel
theorem dX3_step_13 : decode cX3_step 13 = .ok (.iconst 2, 1) := by decide +kernel
theorem dX3_step_14 : decode cX3_step 14 = .ok (.if_icmp .ne 13, 3) := by decide +kernel
theorem dX3_step_17 : decode cX3_step 17 = .ok (.aload_n 0, 1) := by decide +kernel
theorem dX3_step_18 : decode cX3_step 18 = .ok (.invokevirtual 143, 3) := by decide +kernel
theorem dX3_step_21 : decode cX3_step 21 = .ok (.ifCond .eq 6, 3) := by decide +kernel
theorem dX3_step_24 : decode cX3_step 24 = .ok (.bipush (-3), 2) := by decide +kernel
theorem dX3_step_26 : decode cX3_step 26 = .ok (.ireturn, 1) := by decide +kernel
theorem dX3_step_27 : decode cX3_step 27 = .ok (.aload_n 0, 1) := by decide +kernel
theorem dX3_step_28 : decode cX3_step 28 = .ok (.getfield 27, 3) := by decide +kernel
theorem dX3_step_31 : decode cX3_step 31 = .ok (.aload_n 0, 1) := by decide +kernel
theorem dX3_step_32 : decode cX3_step 32 = .ok (.getfield 16, 3) := by decide +kernel
theorem dX3_step_35 : decode cX3_step 35 = .ok (.iload_n 1, 1) := by decide +kernel
theorem dX3_step_36 : decode cX3_step 36 = .ok (.iload_n 2, 1) := by decide +kernel
theorem dX3_step_37 : decode cX3_step 37 = .ok (.invokevirtual 161, 3) := by decide +kernel
theorem dX3_step_40 : decode cX3_step 40 = .ok (.aload_n 0, 1) := by decide +kernel
theorem dX3_step_41 : decode cX3_step 41 = .ok (.getfield 16, 3) := by decide +kernel
theorem dX3_step_44 : decode cX3_step 44 = .ok (.invokevirtual 165, 3) := by decide +kernel
theorem dX3_step_47 : decode cX3_step 47 = .ok (.iconst 0, 1) := by decide +kernel
theorem dX3_step_48 : decode cX3_step 48 = .ok (.istore_n 3, 1) := by decide +kernel
theorem dX3_step_49 : decode cX3_step 49 = .ok (.iconst 0, 1) := by decide +kernel
theorem dX3_step_50 : decode cX3_step 50 = .ok (.istore 4, 2) := by decide +kernel
theorem dX3_step_52 : decode cX3_step 52 = .ok (.iload 4, 2) := by decide +kernel
theorem dX3_step_54 : decode cX3_step 54 = .ok (.aload_n 0, 1) := by decide +kernel
theorem dX3_step_55 : decode cX3_step 55 = .ok (.getfield 16, 3) := by decide +kernel
theorem dX3_step_58 : decode cX3_step 58 = .ok (.getfield 56, 3) := by decide +kernel
theorem dX3_step_61 : decode cX3_step 61 = .ok (.if_icmp .ge 55, 3) := by decide +kernel
theorem dX3_step_64 : decode cX3_step 64 = .ok (.aload_n 0, 1) := by decide +kernel
theorem dX3_step_65 : decode cX3_step 65 = .ok (.getfield 16, 3) := by decide +kernel
theorem dX3_step_68 : decode cX3_step 68 = .ok (.getfield 49, 3) := by decide +kernel
theorem dX3_step_71 : decode cX3_step 71 = .ok (.iload 4, 2) := by decide +kernel
theorem dX3_step_73 : decode cX3_step 73 = .ok (.iaload, 1) := by decide +kernel
theorem dX3_step_74 : decode cX3_step 74 = .ok (.aload_n 0, 1) := by decide +kernel
theorem dX3_step_75 : decode cX3_step 75 = .ok (.getfield 27, 3) := by decide +kernel
theorem dX3_step_78 : decode cX3_step 78 = .ok (.getfield 168, 3) := by decide +kernel
theorem dX3_step_81 : decode cX3_step 81 = .ok (.iload 4, 2) := by decide +kernel
theorem dX3_step_83 : decode cX3_step 83 = .ok (.iaload, 1) := by decide +kernel
theorem dX3_step_84 : decode cX3_step 84 = .ok (.if_icmp .eq 6, 3) := by decide +kernel
theorem dX3_step_87 : decode cX3_step 87 = .ok (.iinc 3 1, 3) := by decide +kernel
theorem dX3_step_90 : decode cX3_step 90 = .ok (.aload_n 0, 1) := by decide +kernel
theorem dX3_step_91 : decode cX3_step 91 = .ok (.getfield 16, 3) := by decide +kernel
theorem dX3_step_94 : decode cX3_step 94 = .ok (.getfield 49, 3) := by decide +kernel
theorem dX3_step_97 : decode cX3_step 97 = .ok (.iload 4, 2) := by decide +kernel
theorem dX3_step_99 : decode cX3_step 99 = .ok (.aload_n 0, 1) := by decide +kernel
theorem dX3_step_100 : decode cX3_step 100 = .ok (.getfield 27, 3) := by decide +kernel
theorem dX3_step_103 : decode cX3_step 103 = .ok (.getfield 168, 3) := by decide +kernel
theorem dX3_step_106 : decode cX3_step 106 = .ok (.iload 4, 2) := by decide +kernel
theorem dX3_step_108 : decode cX3_step 108 = .ok (.iaload, 1) := by decide +kernel
theorem dX3_step_109 : decode cX3_step 109 = .ok (.iastore, 1) := by decide +kernel
theorem dX3_step_110 : decode cX3_step 110 = .ok (.iinc 4 1, 3) := by decide +kernel
theorem dX3_step_113 : decode cX3_step 113 = .ok (.goto (-61), 3) := by decide +kernel
theorem dX3_step_116 : decode cX3_step 116 = .ok (.iload_n 3, 1) := by decide +kernel
theorem dX3_step_117 : decode cX3_step 117 = .ok (.ireturn, 1) := by decide +kernel
theorem dX3_sameAt_0 : decode cX3_sameAt 0 = .ok (.iconst 0, 1) := by decide +kernel
theorem dX3_sameAt_1 : decode cX3_sameAt 1 = .ok (.istore_n 2, 1) := by decide +kernel
theorem dX3_sameAt_2 : decode cX3_sameAt 2 = .ok (.iload_n 1, 1) := by decide +kernel
theorem dX3_sameAt_3 : decode cX3_sameAt 3 = .ok (.istore_n 3, 1) := by decide +kernel
theorem dX3_sameAt_4 : decode cX3_sameAt 4 = .ok (.iload_n 3, 1) := by decide +kernel
theorem dX3_sameAt_5 : decode cX3_sameAt 5 = .ok (.aload_n 0, 1) := by decide +kernel
theorem dX3_sameAt_6 : decode cX3_sameAt 6 = .ok (.getfield 16, 3) := by decide +kernel
theorem dX3_sameAt_9 : decode cX3_sameAt 9 = .ok (.getfield 56, 3) := by decide +kernel
theorem dX3_sameAt_12 : decode cX3_sameAt 12 = .ok (.if_icmp .ge 35, 3) := by decide +kernel
theorem dX3_sameAt_15 : decode cX3_sameAt 15 = .ok (.aload_n 0, 1) := by decide +kernel
theorem dX3_sameAt_16 : decode cX3_sameAt 16 = .ok (.getfield 16, 3) := by decide +kernel
theorem dX3_sameAt_19 : decode cX3_sameAt 19 = .ok (.getfield 49, 3) := by decide +kernel
theorem dX3_sameAt_22 : decode cX3_sameAt 22 = .ok (.iload_n 3, 1) := by decide +kernel
theorem dX3_sameAt_23 : decode cX3_sameAt 23 = .ok (.iload_n 1, 1) := by decide +kernel
theorem dX3_sameAt_24 : decode cX3_sameAt 24 = .ok (.isub, 1) := by decide +kernel
theorem dX3_sameAt_25 : decode cX3_sameAt 25 = .ok (.iaload, 1) := by decide +kernel
theorem dX3_sameAt_26 : decode cX3_sameAt 26 = .ok (.aload_n 0, 1) := by decide +kernel
theorem dX3_sameAt_27 : decode cX3_sameAt 27 = .ok (.getfield 16, 3) := by decide +kernel
theorem dX3_sameAt_30 : decode cX3_sameAt 30 = .ok (.getfield 49, 3) := by decide +kernel
theorem dX3_sameAt_33 : decode cX3_sameAt 33 = .ok (.iload_n 3, 1) := by decide +kernel
theorem dX3_sameAt_34 : decode cX3_sameAt 34 = .ok (.iaload, 1) := by decide +kernel
theorem dX3_sameAt_35 : decode cX3_sameAt 35 = .ok (.if_icmp .ne 6, 3) := by decide +kernel
theorem dX3_sameAt_38 : decode cX3_sameAt 38 = .ok (.iinc 2 1, 3) := by decide +kernel
theorem dX3_sameAt_41 : decode cX3_sameAt 41 = .ok (.iinc 3 1, 3) := by decide +kernel
theorem dX3_sameAt_44 : decode cX3_sameAt 44 = .ok (.goto (-40), 3) := by decide +kernel
theorem dX3_sameAt_47 : decode cX3_sameAt 47 = .ok (.iload_n 2, 1) := by decide +kernel
theorem dX3_sameAt_48 : decode cX3_sameAt 48 = .ok (.ireturn, 1) := by decide +kernel
theorem dX3_scoreOf_0 : decode cX3_scoreOf 0 = .ok (.iconst 0, 1) := by decide +kernel
theorem dX3_scoreOf_1 : decode cX3_scoreOf 1 = .ok (.istore 4, 2) := by decide +kernel
theorem dX3_scoreOf_3 : decode cX3_scoreOf 3 = .ok (.iload_n 3, 1) := by decide +kernel
theorem dX3_scoreOf_4 : decode cX3_scoreOf 4 = .ok (.istore 5, 2) := by decide +kernel
theorem dX3_scoreOf_6 : decode cX3_scoreOf 6 = .ok (.iload 5, 2) := by decide +kernel
theorem dX3_scoreOf_8 : decode cX3_scoreOf 8 = .ok (.aload_n 0, 1) := by decide +kernel
theorem dX3_scoreOf_9 : decode cX3_scoreOf 9 = .ok (.getfield 16, 3) := by decide +kernel
theorem dX3_scoreOf_12 : decode cX3_scoreOf 12 = .ok (.getfield 56, 3) := by decide +kernel
theorem dX3_scoreOf_15 : decode cX3_scoreOf 15 = .ok (.if_icmp .ge 40, 3) := by decide +kernel
theorem dX3_scoreOf_18 : decode cX3_scoreOf 18 = .ok (.iload 4, 2) := by decide +kernel
theorem dX3_scoreOf_20 : decode cX3_scoreOf 20 = .ok (.aload_n 0, 1) := by decide +kernel
theorem dX3_scoreOf_21 : decode cX3_scoreOf 21 = .ok (.getfield 16, 3) := by decide +kernel
theorem dX3_scoreOf_24 : decode cX3_scoreOf 24 = .ok (.getfield 73, 3) := by decide +kernel
theorem dX3_scoreOf_27 : decode cX3_scoreOf 27 = .ok (.aload_n 0, 1) := by decide +kernel
theorem dX3_scoreOf_28 : decode cX3_scoreOf 28 = .ok (.getfield 16, 3) := by decide +kernel
theorem dX3_scoreOf_31 : decode cX3_scoreOf 31 = .ok (.getfield 49, 3) := by decide +kernel
theorem dX3_scoreOf_34 : decode cX3_scoreOf 34 = .ok (.iload 5, 2) := by decide +kernel
theorem dX3_scoreOf_36 : decode cX3_scoreOf 36 = .ok (.iaload, 1) := by decide +kernel
theorem dX3_scoreOf_37 : decode cX3_scoreOf 37 = .ok (.iload_n 1, 1) := by decide +kernel
theorem dX3_scoreOf_38 : decode cX3_scoreOf 38 = .ok (.isub, 1) := by decide +kernel
theorem dX3_scoreOf_39 : decode cX3_scoreOf 39 = .ok (.bipush 15, 2) := by decide +kernel
theorem dX3_scoreOf_41 : decode cX3_scoreOf 41 = .ok (.iand, 1) := by decide +kernel
theorem dX3_scoreOf_42 : decode cX3_scoreOf 42 = .ok (.iaload, 1) := by decide +kernel
theorem dX3_scoreOf_43 : decode cX3_scoreOf 43 = .ok (.iadd, 1) := by decide +kernel
theorem dX3_scoreOf_44 : decode cX3_scoreOf 44 = .ok (.istore 4, 2) := by decide +kernel
theorem dX3_scoreOf_46 : decode cX3_scoreOf 46 = .ok (.iload 5, 2) := by decide +kernel
theorem dX3_scoreOf_48 : decode cX3_scoreOf 48 = .ok (.iload_n 2, 1) := by decide +kernel
theorem dX3_scoreOf_49 : decode cX3_scoreOf 49 = .ok (.iadd, 1) := by decide +kernel
theorem dX3_scoreOf_50 : decode cX3_scoreOf 50 = .ok (.istore 5, 2) := by decide +kernel
theorem dX3_scoreOf_52 : decode cX3_scoreOf 52 = .ok (.goto (-46), 3) := by decide +kernel
theorem dX3_scoreOf_55 : decode cX3_scoreOf 55 = .ok (.iload 4, 2) := by decide +kernel
theorem dX3_scoreOf_57 : decode cX3_scoreOf 57 = .ok (.ireturn, 1) := by decide +kernel
set_option maxRecDepth 20000 in
theorem ggX3_shiftRanked_X3_shiftsAheadOf : GoodIn wsX3_shiftRanked wsX3_shiftsAheadOf := goodIn_r _ [5, 6, 7, 8, 9, 10, 11, 12, 13, 14] (by decide +kernel) (by decide +kernel)
set_option maxRecDepth 20000 in
theorem gX3_shiftRanked_X3_shiftsAheadOf : GoodIn wsX3_shiftRanked (wsV RX3 171 RX3 yX3_shiftsAheadOf wsX3_shiftsAheadOf) := goodIn_app (goodIn_of _ (by decide +kernel)) ggX3_shiftRanked_X3_shiftsAheadOf
theorem dX3_shiftRanked_0 : decode cX3_shiftRanked 0 = .ok (.iconst 0, 1) := by decide +kernel
theorem dX3_shiftRanked_1 : decode cX3_shiftRanked 1 = .ok (.istore_n 2, 1) := by decide +kernel
theorem dX3_shiftRanked_2 : decode cX3_shiftRanked 2 = .ok (.iload_n 2, 1) := by decide +kernel
theorem dX3_shiftRanked_3 : decode cX3_shiftRanked 3 = .ok (.bipush 16, 2) := by decide +kernel
theorem dX3_shiftRanked_5 : decode cX3_shiftRanked 5 = .ok (.if_icmp .ge 20, 3) := by decide +kernel
theorem dX3_shiftRanked_8 : decode cX3_shiftRanked 8 = .ok (.aload_n 0, 1) := by decide +kernel
theorem dX3_shiftRanked_9 : decode cX3_shiftRanked 9 = .ok (.iload_n 2, 1) := by decide +kernel
theorem dX3_shiftRanked_10 : decode cX3_shiftRanked 10 = .ok (.invokevirtual 171, 3) := by decide +kernel
theorem dX3_shiftRanked_13 : decode cX3_shiftRanked 13 = .ok (.iload_n 1, 1) := by decide +kernel
theorem dX3_shiftRanked_14 : decode cX3_shiftRanked 14 = .ok (.if_icmp .ne 5, 3) := by decide +kernel
theorem dX3_shiftRanked_17 : decode cX3_shiftRanked 17 = .ok (.iload_n 2, 1) := by decide +kernel
theorem dX3_shiftRanked_18 : decode cX3_shiftRanked 18 = .ok (.ireturn, 1) := by decide +kernel
theorem dX3_shiftRanked_19 : decode cX3_shiftRanked 19 = .ok (.iinc 2 1, 3) := by decide +kernel
theorem dX3_shiftRanked_22 : decode cX3_shiftRanked 22 = .ok (.goto (-20), 3) := by decide +kernel
theorem dX3_shiftRanked_25 : decode cX3_shiftRanked 25 = .ok (.iconst 0, 1) := by decide +kernel
theorem dX3_shiftRanked_26 : decode cX3_shiftRanked 26 = .ok (.ireturn, 1) := by decide +kernel
theorem dX3_shiftsAheadOf_0 : decode cX3_shiftsAheadOf 0 = .ok (.iconst 0, 1) := by decide +kernel
theorem dX3_shiftsAheadOf_1 : decode cX3_shiftsAheadOf 1 = .ok (.istore_n 2, 1) := by decide +kernel
theorem dX3_shiftsAheadOf_2 : decode cX3_shiftsAheadOf 2 = .ok (.iconst 0, 1) := by decide +kernel
theorem dX3_shiftsAheadOf_3 : decode cX3_shiftsAheadOf 3 = .ok (.istore_n 3, 1) := by decide +kernel
theorem dX3_shiftsAheadOf_4 : decode cX3_shiftsAheadOf 4 = .ok (.iload_n 3, 1) := by decide +kernel
theorem dX3_shiftsAheadOf_5 : decode cX3_shiftsAheadOf 5 = .ok (.bipush 16, 2) := by decide +kernel
theorem dX3_shiftsAheadOf_7 : decode cX3_shiftsAheadOf 7 = .ok (.if_icmp .ge 47, 3) := by decide +kernel
theorem dX3_shiftsAheadOf_10 : decode cX3_shiftsAheadOf 10 = .ok (.aload_n 0, 1) := by decide +kernel
theorem dX3_shiftsAheadOf_11 : decode cX3_shiftsAheadOf 11 = .ok (.getfield 31, 3) := by decide +kernel
theorem dX3_shiftsAheadOf_14 : decode cX3_shiftsAheadOf 14 = .ok (.iload_n 3, 1) := by decide +kernel
theorem dX3_shiftsAheadOf_15 : decode cX3_shiftsAheadOf 15 = .ok (.iaload, 1) := by decide +kernel
theorem dX3_shiftsAheadOf_16 : decode cX3_shiftsAheadOf 16 = .ok (.aload_n 0, 1) := by decide +kernel
theorem dX3_shiftsAheadOf_17 : decode cX3_shiftsAheadOf 17 = .ok (.getfield 31, 3) := by decide +kernel
theorem dX3_shiftsAheadOf_20 : decode cX3_shiftsAheadOf 20 = .ok (.iload_n 1, 1) := by decide +kernel
theorem dX3_shiftsAheadOf_21 : decode cX3_shiftsAheadOf 21 = .ok (.iaload, 1) := by decide +kernel
theorem dX3_shiftsAheadOf_22 : decode cX3_shiftsAheadOf 22 = .ok (.if_icmp .gt 23, 3) := by decide +kernel
theorem dX3_shiftsAheadOf_25 : decode cX3_shiftsAheadOf 25 = .ok (.aload_n 0, 1) := by decide +kernel
theorem dX3_shiftsAheadOf_26 : decode cX3_shiftsAheadOf 26 = .ok (.getfield 31, 3) := by decide +kernel
theorem dX3_shiftsAheadOf_29 : decode cX3_shiftsAheadOf 29 = .ok (.iload_n 3, 1) := by decide +kernel
theorem dX3_shiftsAheadOf_30 : decode cX3_shiftsAheadOf 30 = .ok (.iaload, 1) := by decide +kernel
theorem dX3_shiftsAheadOf_31 : decode cX3_shiftsAheadOf 31 = .ok (.aload_n 0, 1) := by decide +kernel
theorem dX3_shiftsAheadOf_32 : decode cX3_shiftsAheadOf 32 = .ok (.getfield 31, 3) := by decide +kernel
theorem dX3_shiftsAheadOf_35 : decode cX3_shiftsAheadOf 35 = .ok (.iload_n 1, 1) := by decide +kernel
theorem dX3_shiftsAheadOf_36 : decode cX3_shiftsAheadOf 36 = .ok (.iaload, 1) := by decide +kernel
theorem dX3_shiftsAheadOf_37 : decode cX3_shiftsAheadOf 37 = .ok (.if_icmp .ne 11, 3) := by decide +kernel
theorem dX3_shiftsAheadOf_40 : decode cX3_shiftsAheadOf 40 = .ok (.iload_n 3, 1) := by decide +kernel
theorem dX3_shiftsAheadOf_41 : decode cX3_shiftsAheadOf 41 = .ok (.iload_n 1, 1) := by decide +kernel
theorem dX3_shiftsAheadOf_42 : decode cX3_shiftsAheadOf 42 = .ok (.if_icmp .ge 6, 3) := by decide +kernel
theorem dX3_shiftsAheadOf_45 : decode cX3_shiftsAheadOf 45 = .ok (.iinc 2 1, 3) := by decide +kernel
theorem dX3_shiftsAheadOf_48 : decode cX3_shiftsAheadOf 48 = .ok (.iinc 3 1, 3) := by decide +kernel
theorem dX3_shiftsAheadOf_51 : decode cX3_shiftsAheadOf 51 = .ok (.goto (-47), 3) := by decide +kernel
theorem dX3_shiftsAheadOf_54 : decode cX3_shiftsAheadOf 54 = .ok (.iload_n 2, 1) := by decide +kernel
theorem dX3_shiftsAheadOf_55 : decode cX3_shiftsAheadOf 55 = .ok (.ireturn, 1) := by decide +kernel
set_option maxRecDepth 20000 in
theorem ggX3_goodByOrder_X2_readColumns : GoodIn wsX3_goodByOrder wsX2_readColumns := goodIn_r _ [9, 10, 11, 43, 44, 45, 46, 47] (by decide +kernel) (by decide +kernel)
set_option maxRecDepth 20000 in
theorem gX3_goodByOrder_X2_readColumns : GoodIn wsX3_goodByOrder (wsV RX3 174 RX2 yX2_readColumns wsX2_readColumns) := goodIn_app (goodIn_of _ (by decide +kernel)) ggX3_goodByOrder_X2_readColumns
set_option maxRecDepth 20000 in
theorem ggX3_goodByOrder_X2_putInPlace : GoodIn wsX3_goodByOrder wsX2_putInPlace := goodIn_r _ [15, 16, 17, 18, 11, 34, 35, 36, 37, 38, 39, 40, 41, 42, 43, 44, 45, 46, 47] (by decide +kernel) (by decide +kernel)
set_option maxRecDepth 20000 in
theorem gX3_goodByOrder_X2_putInPlace : GoodIn wsX3_goodByOrder (wsV RX3 177 RX2 yX2_putInPlace wsX2_putInPlace) := goodIn_app (goodIn_of _ (by decide +kernel)) ggX3_goodByOrder_X2_putInPlace
set_option maxRecDepth 20000 in
theorem ggX3_goodByOrder_X0_likedIn : GoodIn wsX3_goodByOrder wsX0_likedIn := goodIn_r _ [23, 24, 25, 34, 35, 36, 37, 38, 39, 40, 41, 42] (by decide +kernel) (by decide +kernel)
set_option maxRecDepth 20000 in
theorem gX3_goodByOrder_X0_likedIn : GoodIn wsX3_goodByOrder (wsV RX3 120 RX0 yX0_likedIn wsX0_likedIn) := goodIn_app (goodIn_of _ (by decide +kernel)) ggX3_goodByOrder_X0_likedIn
theorem dX3_goodByOrder_0 : decode cX3_goodByOrder 0 = .ok (.aload_n 0, 1) := by decide +kernel
theorem dX3_goodByOrder_1 : decode cX3_goodByOrder 1 = .ok (.getfield 27, 3) := by decide +kernel
theorem dX3_goodByOrder_4 : decode cX3_goodByOrder 4 = .ok (.aload_n 0, 1) := by decide +kernel
theorem dX3_goodByOrder_5 : decode cX3_goodByOrder 5 = .ok (.getfield 16, 3) := by decide +kernel
theorem dX3_goodByOrder_8 : decode cX3_goodByOrder 8 = .ok (.getfield 56, 3) := by decide +kernel
theorem dX3_goodByOrder_11 : decode cX3_goodByOrder 11 = .ok (.iload_n 1, 1) := by decide +kernel
theorem dX3_goodByOrder_12 : decode cX3_goodByOrder 12 = .ok (.invokevirtual 174, 3) := by decide +kernel
theorem dX3_goodByOrder_15 : decode cX3_goodByOrder 15 = .ok (.aload_n 0, 1) := by decide +kernel
theorem dX3_goodByOrder_16 : decode cX3_goodByOrder 16 = .ok (.getfield 27, 3) := by decide +kernel
theorem dX3_goodByOrder_19 : decode cX3_goodByOrder 19 = .ok (.aload_n 0, 1) := by decide +kernel
theorem dX3_goodByOrder_20 : decode cX3_goodByOrder 20 = .ok (.getfield 16, 3) := by decide +kernel
theorem dX3_goodByOrder_23 : decode cX3_goodByOrder 23 = .ok (.iconst 0, 1) := by decide +kernel
theorem dX3_goodByOrder_24 : decode cX3_goodByOrder 24 = .ok (.invokevirtual 177, 3) := by decide +kernel
theorem dX3_goodByOrder_27 : decode cX3_goodByOrder 27 = .ok (.aload_n 0, 1) := by decide +kernel
theorem dX3_goodByOrder_28 : decode cX3_goodByOrder 28 = .ok (.getfield 16, 3) := by decide +kernel
theorem dX3_goodByOrder_31 : decode cX3_goodByOrder 31 = .ok (.aload_n 0, 1) := by decide +kernel
theorem dX3_goodByOrder_32 : decode cX3_goodByOrder 32 = .ok (.getfield 27, 3) := by decide +kernel
theorem dX3_goodByOrder_35 : decode cX3_goodByOrder 35 = .ok (.getfield 168, 3) := by decide +kernel
theorem dX3_goodByOrder_38 : decode cX3_goodByOrder 38 = .ok (.invokevirtual 120, 3) := by decide +kernel
theorem dX3_goodByOrder_41 : decode cX3_goodByOrder 41 = .ok (.ireturn, 1) := by decide +kernel
set_option maxRecDepth 20000 in
theorem ggX3_goodByPairs_X2_changePairs : GoodIn wsX3_goodByPairs wsX2_changePairs := goodIn_r _ [8, 9, 10, 11, 12, 13, 14, 15, 16, 17, 18, 19, 20, 21, 22, 23, 24, 25, 26, 27, 28, 29, 30, 31, 52, 53, 54, 55, 56, 57, 58, 59, 60, 47, 48, 49, 50, 51, 61, 62] (by decide +kernel) (by decide +kernel)
set_option maxRecDepth 20000 in
theorem gX3_goodByPairs_X2_changePairs : GoodIn wsX3_goodByPairs (wsV RX3 181 RX2 yX2_changePairs wsX2_changePairs) := goodIn_app (goodIn_of _ (by decide +kernel)) ggX3_goodByPairs_X2_changePairs
set_option maxRecDepth 20000 in
theorem ggX3_goodByPairs_X0_likedIn : GoodIn wsX3_goodByPairs wsX0_likedIn := goodIn_r _ [36, 37, 38, 52, 53, 54, 55, 56, 57, 58, 59, 60] (by decide +kernel) (by decide +kernel)
set_option maxRecDepth 20000 in
theorem gX3_goodByPairs_X0_likedIn : GoodIn wsX3_goodByPairs (wsV RX3 120 RX0 yX0_likedIn wsX0_likedIn) := goodIn_app (goodIn_of _ (by decide +kernel)) ggX3_goodByPairs_X0_likedIn
theorem dX3_goodByPairs_0 : decode cX3_goodByPairs 0 = .ok (.aload_n 0, 1) := by decide +kernel
theorem dX3_goodByPairs_1 : decode cX3_goodByPairs 1 = .ok (.getfield 27, 3) := by decide +kernel
theorem dX3_goodByPairs_4 : decode cX3_goodByPairs 4 = .ok (.aload_n 0, 1) := by decide +kernel
theorem dX3_goodByPairs_5 : decode cX3_goodByPairs 5 = .ok (.getfield 16, 3) := by decide +kernel
theorem dX3_goodByPairs_8 : decode cX3_goodByPairs 8 = .ok (.iconst 0, 1) := by decide +kernel
theorem dX3_goodByPairs_9 : decode cX3_goodByPairs 9 = .ok (.invokevirtual 181, 3) := by decide +kernel
theorem dX3_goodByPairs_12 : decode cX3_goodByPairs 12 = .ok (.aload_n 0, 1) := by decide +kernel
theorem dX3_goodByPairs_13 : decode cX3_goodByPairs 13 = .ok (.getfield 16, 3) := by decide +kernel
theorem dX3_goodByPairs_16 : decode cX3_goodByPairs 16 = .ok (.aload_n 0, 1) := by decide +kernel
theorem dX3_goodByPairs_17 : decode cX3_goodByPairs 17 = .ok (.getfield 27, 3) := by decide +kernel
theorem dX3_goodByPairs_20 : decode cX3_goodByPairs 20 = .ok (.getfield 168, 3) := by decide +kernel
theorem dX3_goodByPairs_23 : decode cX3_goodByPairs 23 = .ok (.invokevirtual 120, 3) := by decide +kernel
theorem dX3_goodByPairs_26 : decode cX3_goodByPairs 26 = .ok (.ireturn, 1) := by decide +kernel
theorem dX4_init_0 : decode cX4_init 0 = .ok (.aload_n 0, 1) := by decide +kernel
theorem dX4_init_1 : decode cX4_init 1 = .ok (.invokespecial 1, 3) := by decide +kernel
theorem dX4_init_4 : decode cX4_init 4 = .ok (.aload_n 0, 1) := by decide +kernel
theorem dX4_init_5 : decode cX4_init 5 = .ok (.sipush 819, 3) := by decide +kernel
theorem dX4_init_8 : decode cX4_init 8 = .ok (.newarray .int, 2) := by decide +kernel
theorem dX4_init_10 : decode cX4_init 10 = .ok (.putfield 7, 3) := by decide +kernel
theorem dX4_init_13 : decode cX4_init 13 = .ok (.aload_n 0, 1) := by decide +kernel
theorem dX4_init_14 : decode cX4_init 14 = .ok (.sipush 1638, 3) := by decide +kernel
theorem dX4_init_17 : decode cX4_init 17 = .ok (.newarray .int, 2) := by decide +kernel
theorem dX4_init_19 : decode cX4_init 19 = .ok (.putfield 13, 3) := by decide +kernel
theorem dX4_init_22 : decode cX4_init 22 = .ok (.aload_n 0, 1) := by decide +kernel
theorem dX4_init_23 : decode cX4_init 23 = .ok (.iconst 2, 1) := by decide +kernel
theorem dX4_init_24 : decode cX4_init 24 = .ok (.newarray .boolean, 2) := by decide +kernel
theorem dX4_init_26 : decode cX4_init 26 = .ok (.putfield 16, 3) := by decide +kernel
theorem dX4_init_29 : decode cX4_init 29 = .ok (.aload_n 0, 1) := by decide +kernel
theorem dX4_init_30 : decode cX4_init 30 = .ok (.bipush 48, 2) := by decide +kernel
theorem dX4_init_32 : decode cX4_init 32 = .ok (.newarray .int, 2) := by decide +kernel
theorem dX4_init_34 : decode cX4_init 34 = .ok (.putfield 20, 3) := by decide +kernel
theorem dX4_init_37 : decode cX4_init 37 = .ok (.aload_n 0, 1) := by decide +kernel
theorem dX4_init_38 : decode cX4_init 38 = .ok (.bipush 48, 2) := by decide +kernel
theorem dX4_init_40 : decode cX4_init 40 = .ok (.newarray .int, 2) := by decide +kernel
theorem dX4_init_42 : decode cX4_init 42 = .ok (.putfield 23, 3) := by decide +kernel
theorem dX4_init_45 : decode cX4_init 45 = .ok (.aload_n 0, 1) := by decide +kernel
theorem dX4_init_46 : decode cX4_init 46 = .ok (.bipush 48, 2) := by decide +kernel
theorem dX4_init_48 : decode cX4_init 48 = .ok (.newarray .int, 2) := by decide +kernel
theorem dX4_init_50 : decode cX4_init 50 = .ok (.putfield 26, 3) := by decide +kernel
theorem dX4_init_53 : decode cX4_init 53 = .ok (.aload_n 0, 1) := by decide +kernel
theorem dX4_init_54 : decode cX4_init 54 = .ok (.bipush 16, 2) := by decide +kernel
theorem dX4_init_56 : decode cX4_init 56 = .ok (.newarray .int, 2) := by decide +kernel
theorem dX4_init_58 : decode cX4_init 58 = .ok (.putfield 29, 3) := by decide +kernel
theorem dX4_init_61 : decode cX4_init 61 = .ok (.aload_n 0, 1) := by decide +kernel
theorem dX4_init_62 : decode cX4_init 62 = .ok (.bipush 6, 2) := by decide +kernel
theorem dX4_init_64 : decode cX4_init 64 = .ok (.newarray .int, 2) := by decide +kernel
theorem dX4_init_66 : decode cX4_init 66 = .ok (.putfield 32, 3) := by decide +kernel
theorem dX4_init_69 : decode cX4_init 69 = .ok (.aload_n 0, 1) := by decide +kernel
theorem dX4_init_70 : decode cX4_init 70 = .ok (.bipush 48, 2) := by decide +kernel
theorem dX4_init_72 : decode cX4_init 72 = .ok (.newarray .int, 2) := by decide +kernel
theorem dX4_init_74 : decode cX4_init 74 = .ok (.putfield 35, 3) := by decide +kernel
theorem dX4_init_77 : decode cX4_init 77 = .ok (.aload_n 0, 1) := by decide +kernel
theorem dX4_init_78 : decode cX4_init 78 = .ok (.bipush 96, 2) := by decide +kernel
theorem dX4_init_80 : decode cX4_init 80 = .ok (.newarray .int, 2) := by decide +kernel
theorem dX4_init_82 : decode cX4_init 82 = .ok (.putfield 38, 3) := by decide +kernel
theorem dX4_init_85 : decode cX4_init 85 = .ok (.aload_n 0, 1) := by decide +kernel
theorem dX4_init_86 : decode cX4_init 86 = .ok (.getfield 7, 3) := by decide +kernel
theorem dX4_init_89 : decode cX4_init 89 = .ok (.bipush 55, 2) := by decide +kernel
theorem dX4_init_91 : decode cX4_init 91 = .ok (.iconst 1, 1) := by decide +kernel
theorem dX4_init_92 : decode cX4_init 92 = .ok (.iastore, 1) := by decide +kernel
theorem dX4_init_93 : decode cX4_init 93 = .ok (.return_, 1) := by decide +kernel
theorem dX4_in_0 : decode cX4_in 0 = .ok (.iload_n 0, 1) := by decide +kernel
theorem dX4_in_1 : decode cX4_in 1 = .ok (.iload_n 1, 1) := by decide +kernel
theorem dX4_in_2 : decode cX4_in 2 = .ok (.if_icmp .lt 12, 3) := by decide +kernel
theorem dX4_in_5 : decode cX4_in 5 = .ok (.iload_n 0, 1) := by decide +kernel
theorem dX4_in_6 : decode cX4_in 6 = .ok (.iload_n 2, 1) := by decide +kernel
theorem dX4_in_7 : decode cX4_in 7 = .ok (.if_icmp .gt 7, 3) := by decide +kernel
theorem dX4_in_10 : decode cX4_in 10 = .ok (.iconst 1, 1) := by decide +kernel
theorem dX4_in_11 : decode cX4_in 11 = .ok (.goto 4, 3) := by decide +kernel
theorem dX4_in_14 : decode cX4_in 14 = .ok (.iconst 0, 1) := by decide +kernel
theorem dX4_in_15 : decode cX4_in 15 = .ok (.ireturn, 1) := by decide +kernel
set_option maxRecDepth 20000 in
theorem ggX4_isLetter_X4_in : GoodIn wsX4_isLetter wsX4_in := goodIn_r _ [4] (by decide +kernel) (by decide +kernel)
set_option maxRecDepth 20000 in
theorem gX4_isLetter_X4_in : GoodIn wsX4_isLetter (va_wsS RX4 41 yX4_in wsX4_in) := goodIn_app (goodIn_of _ (by decide +kernel)) ggX4_isLetter_X4_in
theorem dX4_isLetter_0 : decode cX4_isLetter 0 = .ok (.iload_n 0, 1) := by decide +kernel
theorem dX4_isLetter_1 : decode cX4_isLetter 1 = .ok (.iconst 0, 1) := by decide +kernel
theorem dX4_isLetter_2 : decode cX4_isLetter 2 = .ok (.bipush 15, 2) := by decide +kernel
theorem dX4_isLetter_4 : decode cX4_isLetter 4 = .ok (.invokestatic 41, 3) := by decide +kernel
theorem dX4_isLetter_7 : decode cX4_isLetter 7 = .ok (.ireturn, 1) := by decide +kernel
theorem dX4_many_0 : decode cX4_many 0 = .ok (.aload_n 0, 1) := by decide +kernel
theorem dX4_many_1 : decode cX4_many 1 = .ok (.getfield 7, 3) := by decide +kernel
theorem dX4_many_4 : decode cX4_many 4 = .ok (.bipush 48, 2) := by decide +kernel
theorem dX4_many_6 : decode cX4_many 6 = .ok (.iaload, 1) := by decide +kernel
theorem dX4_many_7 : decode cX4_many 7 = .ok (.ireturn, 1) := by decide +kernel
set_option maxRecDepth 20000 in
theorem ggX4_say_X4_in : GoodIn wsX4_say wsX4_in := goodIn_r _ [6] (by decide +kernel) (by decide +kernel)
set_option maxRecDepth 20000 in
theorem gX4_say_X4_in : GoodIn wsX4_say (va_wsS RX4 41 yX4_in wsX4_in) := goodIn_app (goodIn_of _ (by decide +kernel)) ggX4_say_X4_in
theorem dX4_say_0 : decode cX4_say 0 = .ok (.iload_n 1, 1) := by decide +kernel
theorem dX4_say_1 : decode cX4_say 1 = .ok (.bipush 33, 2) := by decide +kernel
theorem dX4_say_3 : decode cX4_say 3 = .ok (.bipush 126, 2) := by decide +kernel
theorem dX4_say_5 : decode cX4_say 5 = .ok (.invokestatic 41, 3) := by decide +kernel
theorem dX4_say_8 : decode cX4_say 8 = .ok (.ifCond .ne 6, 3) := by decide +kernel
theorem dX4_say_11 : decode cX4_say 11 = .ok (.bipush (-2), 2) := by decide +kernel
theorem dX4_say_13 : decode cX4_say 13 = .ok (.ireturn, 1) := by decide +kernel
theorem dX4_say_14 : decode cX4_say 14 = .ok (.aload_n 0, 1) := by decide +kernel
theorem dX4_say_15 : decode cX4_say 15 = .ok (.getfield 45, 3) := by decide +kernel
theorem dX4_say_18 : decode cX4_say 18 = .ok (.bipush 48, 2) := by decide +kernel
theorem dX4_say_20 : decode cX4_say 20 = .ok (.if_icmp .ne 6, 3) := by decide +kernel
theorem dX4_say_23 : decode cX4_say 23 = .ok (.bipush (-4), 2) := by decide +kernel
theorem dX4_say_25 : decode cX4_say 25 = .ok (.ireturn, 1) := by decide +kernel
theorem dX4_say_26 : decode cX4_say 26 = .ok (.aload_n 0, 1) := by decide +kernel
theorem dX4_say_27 : decode cX4_say 27 = .ok (.getfield 20, 3) := by decide +kernel
theorem dX4_say_30 : decode cX4_say 30 = .ok (.aload_n 0, 1) := by decide +kernel
theorem dX4_say_31 : decode cX4_say 31 = .ok (.getfield 45, 3) := by decide +kernel
theorem dX4_say_34 : decode cX4_say 34 = .ok (.iload_n 1, 1) := by decide +kernel
theorem dX4_say_35 : decode cX4_say 35 = .ok (.iastore, 1) := by decide +kernel
theorem dX4_say_36 : decode cX4_say 36 = .ok (.aload_n 0, 1) := by decide +kernel
theorem dX4_say_37 : decode cX4_say 37 = .ok (.dup, 1) := by decide +kernel
theorem dX4_say_38 : decode cX4_say 38 = .ok (.getfield 45, 3) := by decide +kernel
theorem dX4_say_41 : decode cX4_say 41 = .ok (.iconst 1, 1) := by decide +kernel
theorem dX4_say_42 : decode cX4_say 42 = .ok (.iadd, 1) := by decide +kernel
theorem dX4_say_43 : decode cX4_say 43 = .ok (.putfield 45, 3) := by decide +kernel
theorem dX4_say_46 : decode cX4_say 46 = .ok (.aload_n 0, 1) := by decide +kernel
theorem dX4_say_47 : decode cX4_say 47 = .ok (.getfield 45, 3) := by decide +kernel
theorem dX4_say_50 : decode cX4_say 50 = .ok (.ireturn, 1) := by decide +kernel
theorem dX4_wipe_0 : decode cX4_wipe 0 = .ok (.aload_n 0, 1) := by decide +kernel
theorem dX4_wipe_1 : decode cX4_wipe 1 = .ok (.getfield 45, 3) := by decide +kernel
theorem dX4_wipe_4 : decode cX4_wipe 4 = .ok (.istore_n 1, 1) := by decide +kernel
theorem dX4_wipe_5 : decode cX4_wipe 5 = .ok (.aload_n 0, 1) := by decide +kernel
theorem dX4_wipe_6 : decode cX4_wipe 6 = .ok (.iconst 0, 1) := by decide +kernel
theorem dX4_wipe_7 : decode cX4_wipe 7 = .ok (.putfield 45, 3) := by decide +kernel
theorem dX4_wipe_10 : decode cX4_wipe 10 = .ok (.iload_n 1, 1) := by decide +kernel
theorem dX4_wipe_11 : decode cX4_wipe 11 = .ok (.ireturn, 1) := by decide +kernel
set_option maxRecDepth 20000 in
theorem ggX4_take_X4_in : GoodIn wsX4_take wsX4_in := goodIn_r _ [7] (by decide +kernel) (by decide +kernel)
set_option maxRecDepth 20000 in
theorem gX4_take_X4_in : GoodIn wsX4_take (va_wsS RX4 41 yX4_in wsX4_in) := goodIn_app (goodIn_of _ (by decide +kernel)) ggX4_take_X4_in
theorem dX4_take_0 : decode cX4_take 0 = .ok (.iload_n 1, 1) := by decide +kernel
theorem dX4_take_1 : decode cX4_take 1 = .ok (.iconst 0, 1) := by decide +kernel
theorem dX4_take_2 : decode cX4_take 2 = .ok (.iconst 1, 1) := by decide +kernel
theorem dX4_take_3 : decode cX4_take 3 = .ok (.invokestatic 41, 3) := by decide +kernel
theorem dX4_take_6 : decode cX4_take 6 = .ok (.ifCond .ne 6, 3) := by decide +kernel
theorem dX4_take_9 : decode cX4_take 9 = .ok (.bipush (-2), 2) := by decide +kernel
theorem dX4_take_11 : decode cX4_take 11 = .ok (.ireturn, 1) := by decide +kernel
theorem dX4_take_12 : decode cX4_take 12 = .ok (.iload_n 1, 1) := by decide +kernel
theorem dX4_take_13 : decode cX4_take 13 = .ok (.ifCond .eq 16, 3) := by decide +kernel
theorem dX4_take_16 : decode cX4_take 16 = .ok (.aload_n 0, 1) := by decide +kernel
theorem dX4_take_17 : decode cX4_take 17 = .ok (.getfield 45, 3) := by decide +kernel
theorem dX4_take_20 : decode cX4_take 20 = .ok (.iconst 1, 1) := by decide +kernel
theorem dX4_take_21 : decode cX4_take 21 = .ok (.bipush 6, 2) := by decide +kernel
theorem dX4_take_23 : decode cX4_take 23 = .ok (.invokestatic 41, 3) := by decide +kernel
theorem dX4_take_26 : decode cX4_take 26 = .ok (.ifCond .eq 7, 3) := by decide +kernel
theorem dX4_take_29 : decode cX4_take 29 = .ok (.iconst 1, 1) := by decide +kernel
theorem dX4_take_30 : decode cX4_take 30 = .ok (.goto 4, 3) := by decide +kernel
theorem dX4_take_33 : decode cX4_take 33 = .ok (.iconst 0, 1) := by decide +kernel
theorem dX4_take_34 : decode cX4_take 34 = .ok (.istore_n 2, 1) := by decide +kernel
theorem dX4_take_35 : decode cX4_take 35 = .ok (.iconst 0, 1) := by decide +kernel
theorem dX4_take_36 : decode cX4_take 36 = .ok (.istore_n 3, 1) := by decide +kernel
theorem dX4_take_37 : decode cX4_take 37 = .ok (.iload_n 3, 1) := by decide +kernel
theorem dX4_take_38 : decode cX4_take 38 = .ok (.aload_n 0, 1) := by decide +kernel
theorem dX4_take_39 : decode cX4_take 39 = .ok (.getfield 45, 3) := by decide +kernel
theorem dX4_take_42 : decode cX4_take 42 = .ok (.if_icmp .ge 35, 3) := by decide +kernel
theorem dX4_take_45 : decode cX4_take 45 = .ok (.iload_n 2, 1) := by decide +kernel
theorem dX4_take_46 : decode cX4_take 46 = .ok (.ifCond .eq 23, 3) := by decide +kernel
theorem dX4_take_49 : decode cX4_take 49 = .ok (.aload_n 0, 1) := by decide +kernel
theorem dX4_take_50 : decode cX4_take 50 = .ok (.getfield 20, 3) := by decide +kernel
theorem dX4_take_53 : decode cX4_take 53 = .ok (.iload_n 3, 1) := by decide +kernel
theorem dX4_take_54 : decode cX4_take 54 = .ok (.iaload, 1) := by decide +kernel
theorem dX4_take_55 : decode cX4_take 55 = .ok (.bipush 97, 2) := by decide +kernel
theorem dX4_take_57 : decode cX4_take 57 = .ok (.bipush 112, 2) := by decide +kernel
theorem dX4_take_59 : decode cX4_take 59 = .ok (.invokestatic 41, 3) := by decide +kernel
theorem dX4_take_62 : decode cX4_take 62 = .ok (.ifCond .eq 7, 3) := by decide +kernel
theorem dX4_take_65 : decode cX4_take 65 = .ok (.iconst 1, 1) := by decide +kernel
theorem dX4_take_66 : decode cX4_take 66 = .ok (.goto 4, 3) := by decide +kernel
theorem dX4_take_69 : decode cX4_take 69 = .ok (.iconst 0, 1) := by decide +kernel
theorem dX4_take_70 : decode cX4_take 70 = .ok (.istore_n 2, 1) := by decide +kernel
theorem dX4_take_71 : decode cX4_take 71 = .ok (.iinc 3 1, 3) := by decide +kernel
theorem dX4_take_74 : decode cX4_take 74 = .ok (.goto (-37), 3) := by decide +kernel
theorem dX4_take_77 : decode cX4_take 77 = .ok (.iload_n 2, 1) := by decide +kernel
theorem dX4_take_78 : decode cX4_take 78 = .ok (.ifCond .ne 6, 3) := by decide +kernel
theorem dX4_take_81 : decode cX4_take 81 = .ok (.bipush (-7), 2) := by decide +kernel
theorem dX4_take_83 : decode cX4_take 83 = .ok (.ireturn, 1) := by decide +kernel
theorem dX4_take_84 : decode cX4_take 84 = .ok (.iconst 0, 1) := by decide +kernel
theorem dX4_take_85 : decode cX4_take 85 = .ok (.istore_n 3, 1) := by decide +kernel
theorem dX4_take_86 : decode cX4_take 86 = .ok (.iload_n 3, 1) := by decide +kernel
theorem dX4_take_87 : decode cX4_take 87 = .ok (.aload_n 0, 1) := by decide +kernel
theorem dX4_take_88 : decode cX4_take 88 = .ok (.getfield 45, 3) := by decide +kernel
theorem dX4_take_91 : decode cX4_take 91 = .ok (.if_icmp .ge 35, 3) := by decide +kernel
theorem dX4_take_94 : decode cX4_take 94 = .ok (.aload_n 0, 1) := by decide +kernel
theorem dX4_take_95 : decode cX4_take 95 = .ok (.getfield 7, 3) := by decide +kernel
theorem dX4_take_98 : decode cX4_take 98 = .ok (.iload_n 1, 1) := by decide +kernel
theorem dX4_take_99 : decode cX4_take 99 = .ok (.ifCond .ne 7, 3) := by decide +kernel
theorem dX4_take_102 : decode cX4_take 102 = .ok (.iconst 0, 1) := by decide +kernel
theorem dX4_take_103 : decode cX4_take 103 = .ok (.goto 5, 3) := by decide +kernel
theorem dX4_take_106 : decode cX4_take 106 = .ok (.bipush 49, 2) := by decide +kernel
theorem dX4_take_108 : decode cX4_take 108 = .ok (.iload_n 3, 1) := by decide +kernel
theorem dX4_take_109 : decode cX4_take 109 = .ok (.iadd, 1) := by decide +kernel
theorem dX4_take_110 : decode cX4_take 110 = .ok (.aload_n 0, 1) := by decide +kernel
theorem dX4_take_111 : decode cX4_take 111 = .ok (.getfield 20, 3) := by decide +kernel
theorem dX4_take_114 : decode cX4_take 114 = .ok (.iload_n 3, 1) := by decide +kernel
theorem dX4_take_115 : decode cX4_take 115 = .ok (.iaload, 1) := by decide +kernel
theorem dX4_take_116 : decode cX4_take 116 = .ok (.bipush 97, 2) := by decide +kernel
theorem dX4_take_118 : decode cX4_take 118 = .ok (.isub, 1) := by decide +kernel
theorem dX4_take_119 : decode cX4_take 119 = .ok (.iastore, 1) := by decide +kernel
theorem dX4_take_120 : decode cX4_take 120 = .ok (.iinc 3 1, 3) := by decide +kernel
theorem dX4_take_123 : decode cX4_take 123 = .ok (.goto (-37), 3) := by decide +kernel
theorem dX4_take_126 : decode cX4_take 126 = .ok (.aload_n 0, 1) := by decide +kernel
theorem dX4_take_127 : decode cX4_take 127 = .ok (.getfield 7, 3) := by decide +kernel
theorem dX4_take_130 : decode cX4_take 130 = .ok (.iload_n 1, 1) := by decide +kernel
theorem dX4_take_131 : decode cX4_take 131 = .ok (.ifCond .ne 8, 3) := by decide +kernel
theorem dX4_take_134 : decode cX4_take 134 = .ok (.bipush 48, 2) := by decide +kernel
theorem dX4_take_136 : decode cX4_take 136 = .ok (.goto 5, 3) := by decide +kernel
theorem dX4_take_139 : decode cX4_take 139 = .ok (.bipush 55, 2) := by decide +kernel
theorem dX4_take_141 : decode cX4_take 141 = .ok (.aload_n 0, 1) := by decide +kernel
theorem dX4_take_142 : decode cX4_take 142 = .ok (.getfield 45, 3) := by decide +kernel
theorem dX4_take_145 : decode cX4_take 145 = .ok (.iastore, 1) := by decide +kernel
theorem dX4_take_146 : decode cX4_take 146 = .ok (.aload_n 0, 1) := by decide +kernel
theorem dX4_take_147 : decode cX4_take 147 = .ok (.getfield 45, 3) := by decide +kernel
theorem dX4_take_150 : decode cX4_take 150 = .ok (.istore_n 3, 1) := by decide +kernel
theorem dX4_take_151 : decode cX4_take 151 = .ok (.aload_n 0, 1) := by decide +kernel
theorem dX4_take_152 : decode cX4_take 152 = .ok (.iconst 0, 1) := by decide +kernel
theorem dX4_take_153 : decode cX4_take 153 = .ok (.putfield 45, 3) := by decide +kernel
theorem dX4_take_156 : decode cX4_take 156 = .ok (.iload_n 3, 1) := by decide +kernel
theorem dX4_take_157 : decode cX4_take 157 = .ok (.ireturn, 1) := by decide +kernel
set_option maxRecDepth 20000 in
theorem ggX4_worth_X4_isLetter : GoodIn wsX4_worth wsX4_isLetter := goodIn_r _ [5, 6, 7, 4, 8] (by decide +kernel) (by decide +kernel)
set_option maxRecDepth 20000 in
theorem gX4_worth_X4_isLetter : GoodIn wsX4_worth (va_wsS RX4 49 yX4_isLetter wsX4_isLetter) := goodIn_app (goodIn_of _ (by decide +kernel)) ggX4_worth_X4_isLetter
set_option maxRecDepth 20000 in
theorem ggX4_worth_X4_in : GoodIn wsX4_worth wsX4_in := goodIn_r _ [8] (by decide +kernel) (by decide +kernel)
set_option maxRecDepth 20000 in
theorem gX4_worth_X4_in : GoodIn wsX4_worth (va_wsS RX4 41 yX4_in wsX4_in) := goodIn_app (goodIn_of _ (by decide +kernel)) ggX4_worth_X4_in
theorem dX4_worth_0 : decode cX4_worth 0 = .ok (.iload_n 1, 1) := by decide +kernel
theorem dX4_worth_1 : decode cX4_worth 1 = .ok (.invokestatic 49, 3) := by decide +kernel
theorem dX4_worth_4 : decode cX4_worth 4 = .ok (.ifCond .eq 13, 3) := by decide +kernel
theorem dX4_worth_7 : decode cX4_worth 7 = .ok (.iload_n 2, 1) := by decide +kernel
theorem dX4_worth_8 : decode cX4_worth 8 = .ok (.iconst 0, 1) := by decide +kernel
theorem dX4_worth_9 : decode cX4_worth 9 = .ok (.bipush 99, 2) := by decide +kernel
theorem dX4_worth_11 : decode cX4_worth 11 = .ok (.invokestatic 41, 3) := by decide +kernel
theorem dX4_worth_14 : decode cX4_worth 14 = .ok (.ifCond .ne 6, 3) := by decide +kernel
theorem dX4_worth_17 : decode cX4_worth 17 = .ok (.bipush (-2), 2) := by decide +kernel
theorem dX4_worth_19 : decode cX4_worth 19 = .ok (.ireturn, 1) := by decide +kernel
theorem dX4_worth_20 : decode cX4_worth 20 = .ok (.aload_n 0, 1) := by decide +kernel
theorem dX4_worth_21 : decode cX4_worth 21 = .ok (.getfield 7, 3) := by decide +kernel
theorem dX4_worth_24 : decode cX4_worth 24 = .ok (.bipush 56, 2) := by decide +kernel
theorem dX4_worth_26 : decode cX4_worth 26 = .ok (.iload_n 1, 1) := by decide +kernel
theorem dX4_worth_27 : decode cX4_worth 27 = .ok (.iadd, 1) := by decide +kernel
theorem dX4_worth_28 : decode cX4_worth 28 = .ok (.iaload, 1) := by decide +kernel
theorem dX4_worth_29 : decode cX4_worth 29 = .ok (.istore_n 3, 1) := by decide +kernel
theorem dX4_worth_30 : decode cX4_worth 30 = .ok (.aload_n 0, 1) := by decide +kernel
theorem dX4_worth_31 : decode cX4_worth 31 = .ok (.getfield 7, 3) := by decide +kernel
theorem dX4_worth_34 : decode cX4_worth 34 = .ok (.bipush 56, 2) := by decide +kernel
theorem dX4_worth_36 : decode cX4_worth 36 = .ok (.iload_n 1, 1) := by decide +kernel
theorem dX4_worth_37 : decode cX4_worth 37 = .ok (.iadd, 1) := by decide +kernel
theorem dX4_worth_38 : decode cX4_worth 38 = .ok (.iload_n 2, 1) := by decide +kernel
theorem dX4_worth_39 : decode cX4_worth 39 = .ok (.iastore, 1) := by decide +kernel
theorem dX4_worth_40 : decode cX4_worth 40 = .ok (.iload_n 3, 1) := by decide +kernel
theorem dX4_worth_41 : decode cX4_worth 41 = .ok (.ireturn, 1) := by decide +kernel
theorem dX4_liked_0 : decode cX4_liked 0 = .ok (.iconst 0, 1) := by decide +kernel
theorem dX4_liked_1 : decode cX4_liked 1 = .ok (.istore_n 1, 1) := by decide +kernel
theorem dX4_liked_2 : decode cX4_liked 2 = .ok (.iconst 0, 1) := by decide +kernel
theorem dX4_liked_3 : decode cX4_liked 3 = .ok (.istore_n 2, 1) := by decide +kernel
theorem dX4_liked_4 : decode cX4_liked 4 = .ok (.iload_n 2, 1) := by decide +kernel
theorem dX4_liked_5 : decode cX4_liked 5 = .ok (.sipush 256, 3) := by decide +kernel
theorem dX4_liked_8 : decode cX4_liked 8 = .ok (.if_icmp .ge 21, 3) := by decide +kernel
theorem dX4_liked_11 : decode cX4_liked 11 = .ok (.iload_n 1, 1) := by decide +kernel
theorem dX4_liked_12 : decode cX4_liked 12 = .ok (.aload_n 0, 1) := by decide +kernel
theorem dX4_liked_13 : decode cX4_liked 13 = .ok (.getfield 7, 3) := by decide +kernel
theorem dX4_liked_16 : decode cX4_liked 16 = .ok (.bipush 72, 2) := by decide +kernel
theorem dX4_liked_18 : decode cX4_liked 18 = .ok (.iload_n 2, 1) := by decide +kernel
theorem dX4_liked_19 : decode cX4_liked 19 = .ok (.iadd, 1) := by decide +kernel
theorem dX4_liked_20 : decode cX4_liked 20 = .ok (.iaload, 1) := by decide +kernel
theorem dX4_liked_21 : decode cX4_liked 21 = .ok (.iadd, 1) := by decide +kernel
theorem dX4_liked_22 : decode cX4_liked 22 = .ok (.istore_n 1, 1) := by decide +kernel
theorem dX4_liked_23 : decode cX4_liked 23 = .ok (.iinc 2 1, 3) := by decide +kernel
theorem dX4_liked_26 : decode cX4_liked 26 = .ok (.goto (-22), 3) := by decide +kernel
theorem dX4_liked_29 : decode cX4_liked 29 = .ok (.iload_n 1, 1) := by decide +kernel
theorem dX4_liked_30 : decode cX4_liked 30 = .ok (.ireturn, 1) := by decide +kernel
set_option maxRecDepth 20000 in
theorem ggX4_like_X4_isLetter : GoodIn wsX4_like wsX4_isLetter := goodIn_r _ [5, 6, 7, 4, 8] (by decide +kernel) (by decide +kernel)
set_option maxRecDepth 20000 in
theorem gX4_like_X4_isLetter : GoodIn wsX4_like (va_wsS RX4 49 yX4_isLetter wsX4_isLetter) := goodIn_app (goodIn_of _ (by decide +kernel)) ggX4_like_X4_isLetter
set_option maxRecDepth 20000 in
theorem ggX4_like_X4_in : GoodIn wsX4_like wsX4_in := goodIn_r _ [8] (by decide +kernel) (by decide +kernel)
set_option maxRecDepth 20000 in
theorem gX4_like_X4_in : GoodIn wsX4_like (va_wsS RX4 41 yX4_in wsX4_in) := goodIn_app (goodIn_of _ (by decide +kernel)) ggX4_like_X4_in
set_option maxRecDepth 20000 in
theorem ggX4_like_X4_liked : GoodIn wsX4_like wsX4_liked := goodIn_r _ [12, 1, 13, 14, 15, 16, 17, 18, 19, 20, 21, 22, 23, 24] (by decide +kernel) (by decide +kernel)
set_option maxRecDepth 20000 in
theorem gX4_like_X4_liked : GoodIn wsX4_like (wsV RX4 53 RX4 yX4_liked wsX4_liked) := goodIn_app (goodIn_of _ (by decide +kernel)) ggX4_like_X4_liked
theorem dX4_like_0 : decode cX4_like 0 = .ok (.iload_n 1, 1) := by decide +kernel
theorem dX4_like_1 : decode cX4_like 1 = .ok (.invokestatic 49, 3) := by decide +kernel
theorem dX4_like_4 : decode cX4_like 4 = .ok (.ifCond .eq 19, 3) := by decide +kernel
theorem dX4_like_7 : decode cX4_like 7 = .ok (.iload_n 2, 1) := by decide +kernel
theorem dX4_like_8 : decode cX4_like 8 = .ok (.invokestatic 49, 3) := by decide +kernel
theorem dX4_like_11 : decode cX4_like 11 = .ok (.ifCond .eq 12, 3) := by decide +kernel
theorem dX4_like_14 : decode cX4_like 14 = .ok (.iload_n 3, 1) := by decide +kernel
theorem dX4_like_15 : decode cX4_like 15 = .ok (.iconst 0, 1) := by decide +kernel
theorem dX4_like_16 : decode cX4_like 16 = .ok (.iconst 1, 1) := by decide +kernel
theorem dX4_like_17 : decode cX4_like 17 = .ok (.invokestatic 41, 3) := by decide +kernel
theorem dX4_like_20 : decode cX4_like 20 = .ok (.ifCond .ne 6, 3) := by decide +kernel
theorem dX4_like_23 : decode cX4_like 23 = .ok (.bipush (-2), 2) := by decide +kernel
theorem dX4_like_25 : decode cX4_like 25 = .ok (.ireturn, 1) := by decide +kernel
theorem dX4_like_26 : decode cX4_like 26 = .ok (.aload_n 0, 1) := by decide +kernel
theorem dX4_like_27 : decode cX4_like 27 = .ok (.getfield 7, 3) := by decide +kernel
theorem dX4_like_30 : decode cX4_like 30 = .ok (.bipush 72, 2) := by decide +kernel
theorem dX4_like_32 : decode cX4_like 32 = .ok (.bipush 16, 2) := by decide +kernel
theorem dX4_like_34 : decode cX4_like 34 = .ok (.iload_n 1, 1) := by decide +kernel
theorem dX4_like_35 : decode cX4_like 35 = .ok (.imul, 1) := by decide +kernel
theorem dX4_like_36 : decode cX4_like 36 = .ok (.iadd, 1) := by decide +kernel
theorem dX4_like_37 : decode cX4_like 37 = .ok (.iload_n 2, 1) := by decide +kernel
theorem dX4_like_38 : decode cX4_like 38 = .ok (.iadd, 1) := by decide +kernel
theorem dX4_like_39 : decode cX4_like 39 = .ok (.iload_n 3, 1) := by decide +kernel
theorem dX4_like_40 : decode cX4_like 40 = .ok (.iastore, 1) := by decide +kernel
theorem dX4_like_41 : decode cX4_like 41 = .ok (.aload_n 0, 1) := by decide +kernel
theorem dX4_like_42 : decode cX4_like 42 = .ok (.invokevirtual 53, 3) := by decide +kernel
theorem dX4_like_45 : decode cX4_like 45 = .ok (.ireturn, 1) := by decide +kernel
theorem dX4_laySquare_0 : decode cX4_laySquare 0 = .ok (.iconst 0, 1) := by decide +kernel
theorem dX4_laySquare_1 : decode cX4_laySquare 1 = .ok (.istore_n 1, 1) := by decide +kernel
theorem dX4_laySquare_2 : decode cX4_laySquare 2 = .ok (.iconst 0, 1) := by decide +kernel
theorem dX4_laySquare_3 : decode cX4_laySquare 3 = .ok (.istore_n 2, 1) := by decide +kernel
theorem dX4_laySquare_4 : decode cX4_laySquare 4 = .ok (.iconst 0, 1) := by decide +kernel
theorem dX4_laySquare_5 : decode cX4_laySquare 5 = .ok (.istore_n 3, 1) := by decide +kernel
theorem dX4_laySquare_6 : decode cX4_laySquare 6 = .ok (.iload_n 3, 1) := by decide +kernel
theorem dX4_laySquare_7 : decode cX4_laySquare 7 = .ok (.aload_n 0, 1) := by decide +kernel
theorem dX4_laySquare_8 : decode cX4_laySquare 8 = .ok (.getfield 7, 3) := by decide +kernel
theorem dX4_laySquare_11 : decode cX4_laySquare 11 = .ok (.bipush 55, 2) := by decide +kernel
theorem dX4_laySquare_13 : decode cX4_laySquare 13 = .ok (.iaload, 1) := by decide +kernel
theorem dX4_laySquare_14 : decode cX4_laySquare 14 = .ok (.bipush 16, 2) := by decide +kernel
theorem dX4_laySquare_16 : decode cX4_laySquare 16 = .ok (.iadd, 1) := by decide +kernel
theorem dX4_laySquare_17 : decode cX4_laySquare 17 = .ok (.if_icmp .ge 70, 3) := by decide +kernel
theorem dX4_laySquare_20 : decode cX4_laySquare 20 = .ok (.iload_n 3, 1) := by decide +kernel
theorem dX4_laySquare_21 : decode cX4_laySquare 21 = .ok (.aload_n 0, 1) := by decide +kernel
theorem dX4_laySquare_22 : decode cX4_laySquare 22 = .ok (.getfield 7, 3) := by decide +kernel
theorem dX4_laySquare_25 : decode cX4_laySquare 25 = .ok (.bipush 55, 2) := by decide +kernel
theorem dX4_laySquare_27 : decode cX4_laySquare 27 = .ok (.iaload, 1) := by decide +kernel
theorem dX4_laySquare_28 : decode cX4_laySquare 28 = .ok (.if_icmp .ge 15, 3) := by decide +kernel
theorem dX4_laySquare_31 : decode cX4_laySquare 31 = .ok (.aload_n 0, 1) := by decide +kernel
theorem dX4_laySquare_32 : decode cX4_laySquare 32 = .ok (.getfield 7, 3) := by decide +kernel
theorem dX4_laySquare_35 : decode cX4_laySquare 35 = .ok (.bipush 49, 2) := by decide +kernel
theorem dX4_laySquare_37 : decode cX4_laySquare 37 = .ok (.iload_n 3, 1) := by decide +kernel
theorem dX4_laySquare_38 : decode cX4_laySquare 38 = .ok (.iadd, 1) := by decide +kernel
theorem dX4_laySquare_39 : decode cX4_laySquare 39 = .ok (.iaload, 1) := by decide +kernel
theorem dX4_laySquare_40 : decode cX4_laySquare 40 = .ok (.goto 12, 3) := by decide +kernel
theorem dX4_laySquare_43 : decode cX4_laySquare 43 = .ok (.iload_n 3, 1) := by decide +kernel
theorem dX4_laySquare_44 : decode cX4_laySquare 44 = .ok (.aload_n 0, 1) := by decide +kernel
theorem dX4_laySquare_45 : decode cX4_laySquare 45 = .ok (.getfield 7, 3) := by decide +kernel
theorem dX4_laySquare_48 : decode cX4_laySquare 48 = .ok (.bipush 55, 2) := by decide +kernel
theorem dX4_laySquare_50 : decode cX4_laySquare 50 = .ok (.iaload, 1) := by decide +kernel
theorem dX4_laySquare_51 : decode cX4_laySquare 51 = .ok (.isub, 1) := by decide +kernel
theorem dX4_laySquare_52 : decode cX4_laySquare 52 = .ok (.istore 4, 2) := by decide +kernel
theorem dX4_laySquare_54 : decode cX4_laySquare 54 = .ok (.iload_n 2, 1) := by decide +kernel
theorem dX4_laySquare_55 : decode cX4_laySquare 55 = .ok (.iload 4, 2) := by decide +kernel
theorem dX4_laySquare_57 : decode cX4_laySquare 57 = .ok (.ishr, 1) := by decide +kernel
theorem dX4_laySquare_58 : decode cX4_laySquare 58 = .ok (.iconst 1, 1) := by decide +kernel
theorem dX4_laySquare_59 : decode cX4_laySquare 59 = .ok (.iand, 1) := by decide +kernel
theorem dX4_laySquare_60 : decode cX4_laySquare 60 = .ok (.ifCond .ne 21, 3) := by decide +kernel
theorem dX4_laySquare_63 : decode cX4_laySquare 63 = .ok (.aload_n 0, 1) := by decide +kernel
theorem dX4_laySquare_64 : decode cX4_laySquare 64 = .ok (.getfield 29, 3) := by decide +kernel
theorem dX4_laySquare_67 : decode cX4_laySquare 67 = .ok (.iload_n 1, 1) := by decide +kernel
theorem dX4_laySquare_68 : decode cX4_laySquare 68 = .ok (.iload 4, 2) := by decide +kernel
theorem dX4_laySquare_70 : decode cX4_laySquare 70 = .ok (.iastore, 1) := by decide +kernel
theorem dX4_laySquare_71 : decode cX4_laySquare 71 = .ok (.iinc 1 1, 3) := by decide +kernel
theorem dX4_laySquare_74 : decode cX4_laySquare 74 = .ok (.iload_n 2, 1) := by decide +kernel
theorem dX4_laySquare_75 : decode cX4_laySquare 75 = .ok (.iconst 1, 1) := by decide +kernel
theorem dX4_laySquare_76 : decode cX4_laySquare 76 = .ok (.iload 4, 2) := by decide +kernel
theorem dX4_laySquare_78 : decode cX4_laySquare 78 = .ok (.ishl, 1) := by decide +kernel
theorem dX4_laySquare_79 : decode cX4_laySquare 79 = .ok (.ior, 1) := by decide +kernel
theorem dX4_laySquare_80 : decode cX4_laySquare 80 = .ok (.istore_n 2, 1) := by decide +kernel
theorem dX4_laySquare_81 : decode cX4_laySquare 81 = .ok (.iinc 3 1, 3) := by decide +kernel
theorem dX4_laySquare_84 : decode cX4_laySquare 84 = .ok (.goto (-78), 3) := by decide +kernel
theorem dX4_laySquare_87 : decode cX4_laySquare 87 = .ok (.return_, 1) := by decide +kernel
theorem dX4_placeOf_0 : decode cX4_placeOf 0 = .ok (.iconst 0, 1) := by decide +kernel
theorem dX4_placeOf_1 : decode cX4_placeOf 1 = .ok (.istore_n 2, 1) := by decide +kernel
theorem dX4_placeOf_2 : decode cX4_placeOf 2 = .ok (.aload_n 0, 1) := by decide +kernel
theorem dX4_placeOf_3 : decode cX4_placeOf 3 = .ok (.getfield 29, 3) := by decide +kernel
theorem dX4_placeOf_6 : decode cX4_placeOf 6 = .ok (.iload_n 2, 1) := by decide +kernel
theorem dX4_placeOf_7 : decode cX4_placeOf 7 = .ok (.iaload, 1) := by decide +kernel
theorem dX4_placeOf_8 : decode cX4_placeOf 8 = .ok (.iload_n 1, 1) := by decide +kernel
theorem dX4_placeOf_9 : decode cX4_placeOf 9 = .ok (.if_icmp .eq 9, 3) := by decide +kernel
theorem dX4_placeOf_12 : decode cX4_placeOf 12 = .ok (.iinc 2 1, 3) := by decide +kernel
theorem dX4_placeOf_15 : decode cX4_placeOf 15 = .ok (.goto (-13), 3) := by decide +kernel
theorem dX4_placeOf_18 : decode cX4_placeOf 18 = .ok (.iload_n 2, 1) := by decide +kernel
theorem dX4_placeOf_19 : decode cX4_placeOf 19 = .ok (.ireturn, 1) := by decide +kernel
set_option maxRecDepth 20000 in
theorem ggX4_letter_X4_in : GoodIn wsX4_letter wsX4_in := goodIn_r _ [6] (by decide +kernel) (by decide +kernel)
set_option maxRecDepth 20000 in
theorem gX4_letter_X4_in : GoodIn wsX4_letter (va_wsS RX4 41 yX4_in wsX4_in) := goodIn_app (goodIn_of _ (by decide +kernel)) ggX4_letter_X4_in
set_option maxRecDepth 20000 in
theorem ggX4_letter_X4_many : GoodIn wsX4_letter wsX4_many := goodIn_r _ [10, 1, 15, 16, 17, 18, 19, 20, 21, 22, 23, 24, 25, 26] (by decide +kernel) (by decide +kernel)
set_option maxRecDepth 20000 in
theorem gX4_letter_X4_many : GoodIn wsX4_letter (wsV RX4 57 RX4 yX4_many wsX4_many) := goodIn_app (goodIn_of _ (by decide +kernel)) ggX4_letter_X4_many
set_option maxRecDepth 20000 in
theorem ggX4_letter_X4_laySquare : GoodIn wsX4_letter wsX4_laySquare := goodIn_r _ [14, 1, 2, 15, 16, 17, 18, 19, 20, 21, 22, 23, 24, 25, 26] (by decide +kernel) (by decide +kernel)
set_option maxRecDepth 20000 in
theorem gX4_letter_X4_laySquare : GoodIn wsX4_letter (wsV RX4 60 RX4 yX4_laySquare wsX4_laySquare) := goodIn_app (goodIn_of _ (by decide +kernel)) ggX4_letter_X4_laySquare
theorem dX4_letter_0 : decode cX4_letter 0 = .ok (.iload_n 1, 1) := by decide +kernel
theorem dX4_letter_1 : decode cX4_letter 1 = .ok (.iconst 0, 1) := by decide +kernel
theorem dX4_letter_2 : decode cX4_letter 2 = .ok (.iconst 2, 1) := by decide +kernel
theorem dX4_letter_3 : decode cX4_letter 3 = .ok (.invokestatic 41, 3) := by decide +kernel
theorem dX4_letter_6 : decode cX4_letter 6 = .ok (.ifCond .ne 6, 3) := by decide +kernel
theorem dX4_letter_9 : decode cX4_letter 9 = .ok (.bipush (-2), 2) := by decide +kernel
theorem dX4_letter_11 : decode cX4_letter 11 = .ok (.ireturn, 1) := by decide +kernel
theorem dX4_letter_12 : decode cX4_letter 12 = .ok (.iload_n 1, 1) := by decide +kernel
theorem dX4_letter_13 : decode cX4_letter 13 = .ok (.ifCond .ne 10, 3) := by decide +kernel
theorem dX4_letter_16 : decode cX4_letter 16 = .ok (.aload_n 0, 1) := by decide +kernel
theorem dX4_letter_17 : decode cX4_letter 17 = .ok (.invokevirtual 57, 3) := by decide +kernel
theorem dX4_letter_20 : decode cX4_letter 20 = .ok (.goto 20, 3) := by decide +kernel
theorem dX4_letter_23 : decode cX4_letter 23 = .ok (.iload_n 1, 1) := by decide +kernel
theorem dX4_letter_24 : decode cX4_letter 24 = .ok (.iconst 1, 1) := by decide +kernel
theorem dX4_letter_25 : decode cX4_letter 25 = .ok (.if_icmp .ne 13, 3) := by decide +kernel
theorem dX4_letter_28 : decode cX4_letter 28 = .ok (.aload_n 0, 1) := by decide +kernel
theorem dX4_letter_29 : decode cX4_letter 29 = .ok (.getfield 7, 3) := by decide +kernel
theorem dX4_letter_32 : decode cX4_letter 32 = .ok (.bipush 55, 2) := by decide +kernel
theorem dX4_letter_34 : decode cX4_letter 34 = .ok (.iaload, 1) := by decide +kernel
theorem dX4_letter_35 : decode cX4_letter 35 = .ok (.goto 5, 3) := by decide +kernel
theorem dX4_letter_38 : decode cX4_letter 38 = .ok (.bipush 16, 2) := by decide +kernel
theorem dX4_letter_40 : decode cX4_letter 40 = .ok (.istore_n 3, 1) := by decide +kernel
theorem dX4_letter_41 : decode cX4_letter 41 = .ok (.iload_n 2, 1) := by decide +kernel
theorem dX4_letter_42 : decode cX4_letter 42 = .ok (.iconst (-1), 1) := by decide +kernel
theorem dX4_letter_43 : decode cX4_letter 43 = .ok (.if_icmp .ne 5, 3) := by decide +kernel
theorem dX4_letter_46 : decode cX4_letter 46 = .ok (.iload_n 3, 1) := by decide +kernel
theorem dX4_letter_47 : decode cX4_letter 47 = .ok (.ireturn, 1) := by decide +kernel
theorem dX4_letter_48 : decode cX4_letter 48 = .ok (.iload_n 2, 1) := by decide +kernel
theorem dX4_letter_49 : decode cX4_letter 49 = .ok (.iconst 0, 1) := by decide +kernel
theorem dX4_letter_50 : decode cX4_letter 50 = .ok (.iload_n 3, 1) := by decide +kernel
theorem dX4_letter_51 : decode cX4_letter 51 = .ok (.iconst 1, 1) := by decide +kernel
theorem dX4_letter_52 : decode cX4_letter 52 = .ok (.isub, 1) := by decide +kernel
theorem dX4_letter_53 : decode cX4_letter 53 = .ok (.invokestatic 41, 3) := by decide +kernel
theorem dX4_letter_56 : decode cX4_letter 56 = .ok (.ifCond .ne 6, 3) := by decide +kernel
theorem dX4_letter_59 : decode cX4_letter 59 = .ok (.bipush (-6), 2) := by decide +kernel
theorem dX4_letter_61 : decode cX4_letter 61 = .ok (.ireturn, 1) := by decide +kernel
theorem dX4_letter_62 : decode cX4_letter 62 = .ok (.aload_n 0, 1) := by decide +kernel
theorem dX4_letter_63 : decode cX4_letter 63 = .ok (.invokevirtual 60, 3) := by decide +kernel
theorem dX4_letter_66 : decode cX4_letter 66 = .ok (.iload_n 1, 1) := by decide +kernel
theorem dX4_letter_67 : decode cX4_letter 67 = .ok (.ifCond .ne 14, 3) := by decide +kernel
theorem dX4_letter_70 : decode cX4_letter 70 = .ok (.aload_n 0, 1) := by decide +kernel
theorem dX4_letter_71 : decode cX4_letter 71 = .ok (.getfield 7, 3) := by decide +kernel
theorem dX4_letter_74 : decode cX4_letter 74 = .ok (.iconst 0, 1) := by decide +kernel
theorem dX4_letter_75 : decode cX4_letter 75 = .ok (.iload_n 2, 1) := by decide +kernel
theorem dX4_letter_76 : decode cX4_letter 76 = .ok (.iadd, 1) := by decide +kernel
theorem dX4_letter_77 : decode cX4_letter 77 = .ok (.iaload, 1) := by decide +kernel
theorem dX4_letter_78 : decode cX4_letter 78 = .ok (.goto 26, 3) := by decide +kernel
theorem dX4_letter_81 : decode cX4_letter 81 = .ok (.iload_n 1, 1) := by decide +kernel
theorem dX4_letter_82 : decode cX4_letter 82 = .ok (.iconst 1, 1) := by decide +kernel
theorem dX4_letter_83 : decode cX4_letter 83 = .ok (.if_icmp .ne 15, 3) := by decide +kernel
theorem dX4_letter_86 : decode cX4_letter 86 = .ok (.aload_n 0, 1) := by decide +kernel
theorem dX4_letter_87 : decode cX4_letter 87 = .ok (.getfield 7, 3) := by decide +kernel
theorem dX4_letter_90 : decode cX4_letter 90 = .ok (.bipush 49, 2) := by decide +kernel
theorem dX4_letter_92 : decode cX4_letter 92 = .ok (.iload_n 2, 1) := by decide +kernel
theorem dX4_letter_93 : decode cX4_letter 93 = .ok (.iadd, 1) := by decide +kernel
theorem dX4_letter_94 : decode cX4_letter 94 = .ok (.iaload, 1) := by decide +kernel
theorem dX4_letter_95 : decode cX4_letter 95 = .ok (.goto 9, 3) := by decide +kernel
theorem dX4_letter_98 : decode cX4_letter 98 = .ok (.aload_n 0, 1) := by decide +kernel
theorem dX4_letter_99 : decode cX4_letter 99 = .ok (.getfield 29, 3) := by decide +kernel
theorem dX4_letter_102 : decode cX4_letter 102 = .ok (.iload_n 2, 1) := by decide +kernel
theorem dX4_letter_103 : decode cX4_letter 103 = .ok (.iaload, 1) := by decide +kernel
theorem dX4_letter_104 : decode cX4_letter 104 = .ok (.ireturn, 1) := by decide +kernel
set_option maxRecDepth 20000 in
theorem ggX4_shiftAll_X4_many : GoodIn wsX4_shiftAll wsX4_many := goodIn_r _ [8, 1, 9, 10, 11, 12, 13, 14, 15, 16, 17, 18, 19, 20] (by decide +kernel) (by decide +kernel)
set_option maxRecDepth 20000 in
theorem gX4_shiftAll_X4_many : GoodIn wsX4_shiftAll (wsV RX4 57 RX4 yX4_many wsX4_many) := goodIn_app (goodIn_of _ (by decide +kernel)) ggX4_shiftAll_X4_many
theorem dX4_shiftAll_0 : decode cX4_shiftAll 0 = .ok (.iconst 0, 1) := by decide +kernel
theorem dX4_shiftAll_1 : decode cX4_shiftAll 1 = .ok (.istore_n 3, 1) := by decide +kernel
theorem dX4_shiftAll_2 : decode cX4_shiftAll 2 = .ok (.iload_n 3, 1) := by decide +kernel
theorem dX4_shiftAll_3 : decode cX4_shiftAll 3 = .ok (.aload_n 0, 1) := by decide +kernel
theorem dX4_shiftAll_4 : decode cX4_shiftAll 4 = .ok (.invokevirtual 57, 3) := by decide +kernel
theorem dX4_shiftAll_7 : decode cX4_shiftAll 7 = .ok (.if_icmp .ge 59, 3) := by decide +kernel
theorem dX4_shiftAll_10 : decode cX4_shiftAll 10 = .ok (.aload_n 0, 1) := by decide +kernel
theorem dX4_shiftAll_11 : decode cX4_shiftAll 11 = .ok (.getfield 7, 3) := by decide +kernel
theorem dX4_shiftAll_14 : decode cX4_shiftAll 14 = .ok (.bipush 49, 2) := by decide +kernel
theorem dX4_shiftAll_16 : decode cX4_shiftAll 16 = .ok (.iload_n 2, 1) := by decide +kernel
theorem dX4_shiftAll_17 : decode cX4_shiftAll 17 = .ok (.ifCond .eq 15, 3) := by decide +kernel
theorem dX4_shiftAll_20 : decode cX4_shiftAll 20 = .ok (.iload_n 3, 1) := by decide +kernel
theorem dX4_shiftAll_21 : decode cX4_shiftAll 21 = .ok (.aload_n 0, 1) := by decide +kernel
theorem dX4_shiftAll_22 : decode cX4_shiftAll 22 = .ok (.getfield 7, 3) := by decide +kernel
theorem dX4_shiftAll_25 : decode cX4_shiftAll 25 = .ok (.bipush 55, 2) := by decide +kernel
theorem dX4_shiftAll_27 : decode cX4_shiftAll 27 = .ok (.iaload, 1) := by decide +kernel
theorem dX4_shiftAll_28 : decode cX4_shiftAll 28 = .ok (.irem, 1) := by decide +kernel
theorem dX4_shiftAll_29 : decode cX4_shiftAll 29 = .ok (.goto 4, 3) := by decide +kernel
theorem dX4_shiftAll_32 : decode cX4_shiftAll 32 = .ok (.iconst 0, 1) := by decide +kernel
theorem dX4_shiftAll_33 : decode cX4_shiftAll 33 = .ok (.iadd, 1) := by decide +kernel
theorem dX4_shiftAll_34 : decode cX4_shiftAll 34 = .ok (.iaload, 1) := by decide +kernel
theorem dX4_shiftAll_35 : decode cX4_shiftAll 35 = .ok (.istore 4, 2) := by decide +kernel
theorem dX4_shiftAll_37 : decode cX4_shiftAll 37 = .ok (.aload_n 0, 1) := by decide +kernel
theorem dX4_shiftAll_38 : decode cX4_shiftAll 38 = .ok (.getfield 26, 3) := by decide +kernel
theorem dX4_shiftAll_41 : decode cX4_shiftAll 41 = .ok (.iload_n 3, 1) := by decide +kernel
theorem dX4_shiftAll_42 : decode cX4_shiftAll 42 = .ok (.aload_n 0, 1) := by decide +kernel
theorem dX4_shiftAll_43 : decode cX4_shiftAll 43 = .ok (.getfield 23, 3) := by decide +kernel
theorem dX4_shiftAll_46 : decode cX4_shiftAll 46 = .ok (.iload_n 3, 1) := by decide +kernel
theorem dX4_shiftAll_47 : decode cX4_shiftAll 47 = .ok (.iaload, 1) := by decide +kernel
theorem dX4_shiftAll_48 : decode cX4_shiftAll 48 = .ok (.iload_n 1, 1) := by decide +kernel
theorem dX4_shiftAll_49 : decode cX4_shiftAll 49 = .ok (.iload 4, 2) := by decide +kernel
theorem dX4_shiftAll_51 : decode cX4_shiftAll 51 = .ok (.imul, 1) := by decide +kernel
theorem dX4_shiftAll_52 : decode cX4_shiftAll 52 = .ok (.iadd, 1) := by decide +kernel
theorem dX4_shiftAll_53 : decode cX4_shiftAll 53 = .ok (.bipush 16, 2) := by decide +kernel
theorem dX4_shiftAll_55 : decode cX4_shiftAll 55 = .ok (.iadd, 1) := by decide +kernel
theorem dX4_shiftAll_56 : decode cX4_shiftAll 56 = .ok (.bipush 16, 2) := by decide +kernel
theorem dX4_shiftAll_58 : decode cX4_shiftAll 58 = .ok (.irem, 1) := by decide +kernel
theorem dX4_shiftAll_59 : decode cX4_shiftAll 59 = .ok (.iastore, 1) := by decide +kernel
theorem dX4_shiftAll_60 : decode cX4_shiftAll 60 = .ok (.iinc 3 1, 3) := by decide +kernel
theorem dX4_shiftAll_63 : decode cX4_shiftAll 63 = .ok (.goto (-61), 3) := by decide +kernel
theorem dX4_shiftAll_66 : decode cX4_shiftAll 66 = .ok (.return_, 1) := by decide +kernel
theorem dX4_round_0 : decode cX4_round 0 = .ok (.iload_n 0, 1) := by decide +kernel
theorem dX4_round_1 : decode cX4_round 1 = .ok (.iconst 4, 1) := by decide +kernel
theorem dX4_round_2 : decode cX4_round 2 = .ok (.iadd, 1) := by decide +kernel
theorem dX4_round_3 : decode cX4_round 3 = .ok (.iconst 4, 1) := by decide +kernel
theorem dX4_round_4 : decode cX4_round 4 = .ok (.irem, 1) := by decide +kernel
theorem dX4_round_5 : decode cX4_round 5 = .ok (.ireturn, 1) := by decide +kernel
set_option maxRecDepth 20000 in
theorem ggX4_atSquare_X4_round : GoodIn wsX4_atSquare wsX4_round := goodIn_r _ [5] (by decide +kernel) (by decide +kernel)
set_option maxRecDepth 20000 in
theorem gX4_atSquare_X4_round : GoodIn wsX4_atSquare (va_wsS RX4 63 yX4_round wsX4_round) := goodIn_app (goodIn_of _ (by decide +kernel)) ggX4_atSquare_X4_round
theorem dX4_atSquare_0 : decode cX4_atSquare 0 = .ok (.aload_n 0, 1) := by decide +kernel
theorem dX4_atSquare_1 : decode cX4_atSquare 1 = .ok (.getfield 29, 3) := by decide +kernel
theorem dX4_atSquare_4 : decode cX4_atSquare 4 = .ok (.iconst 4, 1) := by decide +kernel
theorem dX4_atSquare_5 : decode cX4_atSquare 5 = .ok (.iload_n 1, 1) := by decide +kernel
theorem dX4_atSquare_6 : decode cX4_atSquare 6 = .ok (.invokestatic 63, 3) := by decide +kernel
theorem dX4_atSquare_9 : decode cX4_atSquare 9 = .ok (.imul, 1) := by decide +kernel
theorem dX4_atSquare_10 : decode cX4_atSquare 10 = .ok (.iload_n 2, 1) := by decide +kernel
theorem dX4_atSquare_11 : decode cX4_atSquare 11 = .ok (.invokestatic 63, 3) := by decide +kernel
theorem dX4_atSquare_14 : decode cX4_atSquare 14 = .ok (.iadd, 1) := by decide +kernel
theorem dX4_atSquare_15 : decode cX4_atSquare 15 = .ok (.iaload, 1) := by decide +kernel
theorem dX4_atSquare_16 : decode cX4_atSquare 16 = .ok (.ireturn, 1) := by decide +kernel
set_option maxRecDepth 20000 in
theorem ggX4_pair_X4_placeOf : GoodIn wsX4_pair wsX4_placeOf := goodIn_r _ [7, 8, 16, 17, 18, 19, 20, 21, 22, 23, 24, 25, 26, 27] (by decide +kernel) (by decide +kernel)
set_option maxRecDepth 20000 in
theorem gX4_pair_X4_placeOf : GoodIn wsX4_pair (wsV RX4 67 RX4 yX4_placeOf wsX4_placeOf) := goodIn_app (goodIn_of _ (by decide +kernel)) ggX4_pair_X4_placeOf
set_option maxRecDepth 20000 in
theorem ggX4_pair_X4_atSquare : GoodIn wsX4_pair wsX4_atSquare := goodIn_r _ [12, 8, 13, 14, 6, 15, 16, 17, 18, 19, 20, 21, 22, 23, 24, 25, 26, 27] (by decide +kernel) (by decide +kernel)
set_option maxRecDepth 20000 in
theorem gX4_pair_X4_atSquare : GoodIn wsX4_pair (wsV RX4 70 RX4 yX4_atSquare wsX4_atSquare) := goodIn_app (goodIn_of _ (by decide +kernel)) ggX4_pair_X4_atSquare
theorem dX4_pair_0 : decode cX4_pair 0 = .ok (.aload_n 0, 1) := by decide +kernel
theorem dX4_pair_1 : decode cX4_pair 1 = .ok (.aload_n 0, 1) := by decide +kernel
theorem dX4_pair_2 : decode cX4_pair 2 = .ok (.getfield 23, 3) := by decide +kernel
theorem dX4_pair_5 : decode cX4_pair 5 = .ok (.iload_n 1, 1) := by decide +kernel
theorem dX4_pair_6 : decode cX4_pair 6 = .ok (.iaload, 1) := by decide +kernel
theorem dX4_pair_7 : decode cX4_pair 7 = .ok (.invokevirtual 67, 3) := by decide +kernel
theorem dX4_pair_10 : decode cX4_pair 10 = .ok (.istore_n 3, 1) := by decide +kernel
theorem dX4_pair_11 : decode cX4_pair 11 = .ok (.aload_n 0, 1) := by decide +kernel
theorem dX4_pair_12 : decode cX4_pair 12 = .ok (.aload_n 0, 1) := by decide +kernel
theorem dX4_pair_13 : decode cX4_pair 13 = .ok (.getfield 23, 3) := by decide +kernel
theorem dX4_pair_16 : decode cX4_pair 16 = .ok (.iload_n 1, 1) := by decide +kernel
theorem dX4_pair_17 : decode cX4_pair 17 = .ok (.iconst 1, 1) := by decide +kernel
theorem dX4_pair_18 : decode cX4_pair 18 = .ok (.iadd, 1) := by decide +kernel
theorem dX4_pair_19 : decode cX4_pair 19 = .ok (.iaload, 1) := by decide +kernel
theorem dX4_pair_20 : decode cX4_pair 20 = .ok (.invokevirtual 67, 3) := by decide +kernel
theorem dX4_pair_23 : decode cX4_pair 23 = .ok (.istore 4, 2) := by decide +kernel
theorem dX4_pair_25 : decode cX4_pair 25 = .ok (.iload_n 3, 1) := by decide +kernel
theorem dX4_pair_26 : decode cX4_pair 26 = .ok (.iload 4, 2) := by decide +kernel
theorem dX4_pair_28 : decode cX4_pair 28 = .ok (.if_icmp .eq 23, 3) := by decide +kernel
theorem dX4_pair_31 : decode cX4_pair 31 = .ok (.iload_n 3, 1) := by decide +kernel
theorem dX4_pair_32 : decode cX4_pair 32 = .ok (.iconst 4, 1) := by decide +kernel
theorem dX4_pair_33 : decode cX4_pair 33 = .ok (.idiv, 1) := by decide +kernel
theorem dX4_pair_34 : decode cX4_pair 34 = .ok (.iload 4, 2) := by decide +kernel
theorem dX4_pair_36 : decode cX4_pair 36 = .ok (.iconst 4, 1) := by decide +kernel
theorem dX4_pair_37 : decode cX4_pair 37 = .ok (.idiv, 1) := by decide +kernel
theorem dX4_pair_38 : decode cX4_pair 38 = .ok (.if_icmp .eq 17, 3) := by decide +kernel
theorem dX4_pair_41 : decode cX4_pair 41 = .ok (.iload_n 3, 1) := by decide +kernel
theorem dX4_pair_42 : decode cX4_pair 42 = .ok (.iconst 4, 1) := by decide +kernel
theorem dX4_pair_43 : decode cX4_pair 43 = .ok (.irem, 1) := by decide +kernel
theorem dX4_pair_44 : decode cX4_pair 44 = .ok (.iload 4, 2) := by decide +kernel
theorem dX4_pair_46 : decode cX4_pair 46 = .ok (.iconst 4, 1) := by decide +kernel
theorem dX4_pair_47 : decode cX4_pair 47 = .ok (.irem, 1) := by decide +kernel
theorem dX4_pair_48 : decode cX4_pair 48 = .ok (.if_icmp .ne 7, 3) := by decide +kernel
theorem dX4_pair_51 : decode cX4_pair 51 = .ok (.iload_n 2, 1) := by decide +kernel
theorem dX4_pair_52 : decode cX4_pair 52 = .ok (.goto 4, 3) := by decide +kernel
theorem dX4_pair_55 : decode cX4_pair 55 = .ok (.iconst 0, 1) := by decide +kernel
theorem dX4_pair_56 : decode cX4_pair 56 = .ok (.istore 5, 2) := by decide +kernel
theorem dX4_pair_58 : decode cX4_pair 58 = .ok (.iload_n 3, 1) := by decide +kernel
theorem dX4_pair_59 : decode cX4_pair 59 = .ok (.iconst 4, 1) := by decide +kernel
theorem dX4_pair_60 : decode cX4_pair 60 = .ok (.idiv, 1) := by decide +kernel
theorem dX4_pair_61 : decode cX4_pair 61 = .ok (.iload 4, 2) := by decide +kernel
theorem dX4_pair_63 : decode cX4_pair 63 = .ok (.iconst 4, 1) := by decide +kernel
theorem dX4_pair_64 : decode cX4_pair 64 = .ok (.idiv, 1) := by decide +kernel
theorem dX4_pair_65 : decode cX4_pair 65 = .ok (.if_icmp .ne 7, 3) := by decide +kernel
theorem dX4_pair_68 : decode cX4_pair 68 = .ok (.iload_n 2, 1) := by decide +kernel
theorem dX4_pair_69 : decode cX4_pair 69 = .ok (.goto 4, 3) := by decide +kernel
theorem dX4_pair_72 : decode cX4_pair 72 = .ok (.iconst 0, 1) := by decide +kernel
theorem dX4_pair_73 : decode cX4_pair 73 = .ok (.istore 6, 2) := by decide +kernel
theorem dX4_pair_75 : decode cX4_pair 75 = .ok (.iload 5, 2) := by decide +kernel
theorem dX4_pair_77 : decode cX4_pair 77 = .ok (.ifCond .ne 47, 3) := by decide +kernel
theorem dX4_pair_80 : decode cX4_pair 80 = .ok (.iload 6, 2) := by decide +kernel
theorem dX4_pair_82 : decode cX4_pair 82 = .ok (.ifCond .ne 42, 3) := by decide +kernel
theorem dX4_pair_85 : decode cX4_pair 85 = .ok (.aload_n 0, 1) := by decide +kernel
theorem dX4_pair_86 : decode cX4_pair 86 = .ok (.getfield 26, 3) := by decide +kernel
theorem dX4_pair_89 : decode cX4_pair 89 = .ok (.iload_n 1, 1) := by decide +kernel
theorem dX4_pair_90 : decode cX4_pair 90 = .ok (.aload_n 0, 1) := by decide +kernel
theorem dX4_pair_91 : decode cX4_pair 91 = .ok (.iload_n 3, 1) := by decide +kernel
theorem dX4_pair_92 : decode cX4_pair 92 = .ok (.iconst 4, 1) := by decide +kernel
theorem dX4_pair_93 : decode cX4_pair 93 = .ok (.idiv, 1) := by decide +kernel
theorem dX4_pair_94 : decode cX4_pair 94 = .ok (.iload 4, 2) := by decide +kernel
theorem dX4_pair_96 : decode cX4_pair 96 = .ok (.iconst 4, 1) := by decide +kernel
theorem dX4_pair_97 : decode cX4_pair 97 = .ok (.irem, 1) := by decide +kernel
theorem dX4_pair_98 : decode cX4_pair 98 = .ok (.invokevirtual 70, 3) := by decide +kernel
theorem dX4_pair_101 : decode cX4_pair 101 = .ok (.iastore, 1) := by decide +kernel
theorem dX4_pair_102 : decode cX4_pair 102 = .ok (.aload_n 0, 1) := by decide +kernel
theorem dX4_pair_103 : decode cX4_pair 103 = .ok (.getfield 26, 3) := by decide +kernel
theorem dX4_pair_106 : decode cX4_pair 106 = .ok (.iload_n 1, 1) := by decide +kernel
theorem dX4_pair_107 : decode cX4_pair 107 = .ok (.iconst 1, 1) := by decide +kernel
theorem dX4_pair_108 : decode cX4_pair 108 = .ok (.iadd, 1) := by decide +kernel
theorem dX4_pair_109 : decode cX4_pair 109 = .ok (.aload_n 0, 1) := by decide +kernel
theorem dX4_pair_110 : decode cX4_pair 110 = .ok (.iload 4, 2) := by decide +kernel
theorem dX4_pair_112 : decode cX4_pair 112 = .ok (.iconst 4, 1) := by decide +kernel
theorem dX4_pair_113 : decode cX4_pair 113 = .ok (.idiv, 1) := by decide +kernel
theorem dX4_pair_114 : decode cX4_pair 114 = .ok (.iload_n 3, 1) := by decide +kernel
theorem dX4_pair_115 : decode cX4_pair 115 = .ok (.iconst 4, 1) := by decide +kernel
theorem dX4_pair_116 : decode cX4_pair 116 = .ok (.irem, 1) := by decide +kernel
theorem dX4_pair_117 : decode cX4_pair 117 = .ok (.invokevirtual 70, 3) := by decide +kernel
theorem dX4_pair_120 : decode cX4_pair 120 = .ok (.iastore, 1) := by decide +kernel
theorem dX4_pair_121 : decode cX4_pair 121 = .ok (.goto 51, 3) := by decide +kernel
theorem dX4_pair_124 : decode cX4_pair 124 = .ok (.aload_n 0, 1) := by decide +kernel
theorem dX4_pair_125 : decode cX4_pair 125 = .ok (.getfield 26, 3) := by decide +kernel
theorem dX4_pair_128 : decode cX4_pair 128 = .ok (.iload_n 1, 1) := by decide +kernel
theorem dX4_pair_129 : decode cX4_pair 129 = .ok (.aload_n 0, 1) := by decide +kernel
theorem dX4_pair_130 : decode cX4_pair 130 = .ok (.iload_n 3, 1) := by decide +kernel
theorem dX4_pair_131 : decode cX4_pair 131 = .ok (.iconst 4, 1) := by decide +kernel
theorem dX4_pair_132 : decode cX4_pair 132 = .ok (.idiv, 1) := by decide +kernel
theorem dX4_pair_133 : decode cX4_pair 133 = .ok (.iload 5, 2) := by decide +kernel
theorem dX4_pair_135 : decode cX4_pair 135 = .ok (.iadd, 1) := by decide +kernel
theorem dX4_pair_136 : decode cX4_pair 136 = .ok (.iload_n 3, 1) := by decide +kernel
theorem dX4_pair_137 : decode cX4_pair 137 = .ok (.iconst 4, 1) := by decide +kernel
theorem dX4_pair_138 : decode cX4_pair 138 = .ok (.irem, 1) := by decide +kernel
theorem dX4_pair_139 : decode cX4_pair 139 = .ok (.iload 6, 2) := by decide +kernel
theorem dX4_pair_141 : decode cX4_pair 141 = .ok (.iadd, 1) := by decide +kernel
theorem dX4_pair_142 : decode cX4_pair 142 = .ok (.invokevirtual 70, 3) := by decide +kernel
theorem dX4_pair_145 : decode cX4_pair 145 = .ok (.iastore, 1) := by decide +kernel
theorem dX4_pair_146 : decode cX4_pair 146 = .ok (.aload_n 0, 1) := by decide +kernel
theorem dX4_pair_147 : decode cX4_pair 147 = .ok (.getfield 26, 3) := by decide +kernel
theorem dX4_pair_150 : decode cX4_pair 150 = .ok (.iload_n 1, 1) := by decide +kernel
theorem dX4_pair_151 : decode cX4_pair 151 = .ok (.iconst 1, 1) := by decide +kernel
theorem dX4_pair_152 : decode cX4_pair 152 = .ok (.iadd, 1) := by decide +kernel
theorem dX4_pair_153 : decode cX4_pair 153 = .ok (.aload_n 0, 1) := by decide +kernel
theorem dX4_pair_154 : decode cX4_pair 154 = .ok (.iload 4, 2) := by decide +kernel
theorem dX4_pair_156 : decode cX4_pair 156 = .ok (.iconst 4, 1) := by decide +kernel
theorem dX4_pair_157 : decode cX4_pair 157 = .ok (.idiv, 1) := by decide +kernel
theorem dX4_pair_158 : decode cX4_pair 158 = .ok (.iload 5, 2) := by decide +kernel
theorem dX4_pair_160 : decode cX4_pair 160 = .ok (.iadd, 1) := by decide +kernel
theorem dX4_pair_161 : decode cX4_pair 161 = .ok (.iload 4, 2) := by decide +kernel
theorem dX4_pair_163 : decode cX4_pair 163 = .ok (.iconst 4, 1) := by decide +kernel
theorem dX4_pair_164 : decode cX4_pair 164 = .ok (.irem, 1) := by decide +kernel
theorem dX4_pair_165 : decode cX4_pair 165 = .ok (.iload 6, 2) := by decide +kernel
theorem dX4_pair_167 : decode cX4_pair 167 = .ok (.iadd, 1) := by decide +kernel
theorem dX4_pair_168 : decode cX4_pair 168 = .ok (.invokevirtual 70, 3) := by decide +kernel
theorem dX4_pair_171 : decode cX4_pair 171 = .ok (.iastore, 1) := by decide +kernel
theorem dX4_pair_172 : decode cX4_pair 172 = .ok (.return_, 1) := by decide +kernel
set_option maxRecDepth 20000 in
theorem ggX4_pairs_X4_many : GoodIn wsX4_pairs wsX4_many := goodIn_r _ [5, 6, 25, 26, 27, 28, 29, 30, 31, 32, 33, 34, 35, 36] (by decide +kernel) (by decide +kernel)
set_option maxRecDepth 20000 in
theorem gX4_pairs_X4_many : GoodIn wsX4_pairs (wsV RX4 57 RX4 yX4_many wsX4_many) := goodIn_app (goodIn_of _ (by decide +kernel)) ggX4_pairs_X4_many
set_option maxRecDepth 20000 in
theorem ggX4_pairs_X4_pair : GoodIn wsX4_pairs wsX4_pair := goodIn_r _ [10, 11, 12, 13, 14, 15, 4, 16, 17, 18, 19, 20, 21, 22, 23, 24, 25, 26, 27, 28, 29, 30, 31, 32, 33, 34, 35, 36] (by decide +kernel) (by decide +kernel)
set_option maxRecDepth 20000 in
theorem gX4_pairs_X4_pair : GoodIn wsX4_pairs (wsV RX4 74 RX4 yX4_pair wsX4_pair) := goodIn_app (goodIn_of _ (by decide +kernel)) ggX4_pairs_X4_pair
theorem dX4_pairs_0 : decode cX4_pairs 0 = .ok (.iconst 0, 1) := by decide +kernel
theorem dX4_pairs_1 : decode cX4_pairs 1 = .ok (.istore_n 2, 1) := by decide +kernel
theorem dX4_pairs_2 : decode cX4_pairs 2 = .ok (.iload_n 2, 1) := by decide +kernel
theorem dX4_pairs_3 : decode cX4_pairs 3 = .ok (.iconst 1, 1) := by decide +kernel
theorem dX4_pairs_4 : decode cX4_pairs 4 = .ok (.iadd, 1) := by decide +kernel
theorem dX4_pairs_5 : decode cX4_pairs 5 = .ok (.aload_n 0, 1) := by decide +kernel
theorem dX4_pairs_6 : decode cX4_pairs 6 = .ok (.invokevirtual 57, 3) := by decide +kernel
theorem dX4_pairs_9 : decode cX4_pairs 9 = .ok (.if_icmp .ge 15, 3) := by decide +kernel
theorem dX4_pairs_12 : decode cX4_pairs 12 = .ok (.aload_n 0, 1) := by decide +kernel
theorem dX4_pairs_13 : decode cX4_pairs 13 = .ok (.iload_n 2, 1) := by decide +kernel
theorem dX4_pairs_14 : decode cX4_pairs 14 = .ok (.iload_n 1, 1) := by decide +kernel
theorem dX4_pairs_15 : decode cX4_pairs 15 = .ok (.invokevirtual 74, 3) := by decide +kernel
theorem dX4_pairs_18 : decode cX4_pairs 18 = .ok (.iinc 2 2, 3) := by decide +kernel
theorem dX4_pairs_21 : decode cX4_pairs 21 = .ok (.goto (-19), 3) := by decide +kernel
theorem dX4_pairs_24 : decode cX4_pairs 24 = .ok (.return_, 1) := by decide +kernel
theorem dX4_layKeyOrder_0 : decode cX4_layKeyOrder 0 = .ok (.iconst 0, 1) := by decide +kernel
theorem dX4_layKeyOrder_1 : decode cX4_layKeyOrder 1 = .ok (.istore_n 1, 1) := by decide +kernel
theorem dX4_layKeyOrder_2 : decode cX4_layKeyOrder 2 = .ok (.iload_n 1, 1) := by decide +kernel
theorem dX4_layKeyOrder_3 : decode cX4_layKeyOrder 3 = .ok (.aload_n 0, 1) := by decide +kernel
theorem dX4_layKeyOrder_4 : decode cX4_layKeyOrder 4 = .ok (.getfield 7, 3) := by decide +kernel
theorem dX4_layKeyOrder_7 : decode cX4_layKeyOrder 7 = .ok (.bipush 55, 2) := by decide +kernel
theorem dX4_layKeyOrder_9 : decode cX4_layKeyOrder 9 = .ok (.iaload, 1) := by decide +kernel
theorem dX4_layKeyOrder_10 : decode cX4_layKeyOrder 10 = .ok (.if_icmp .ge 92, 3) := by decide +kernel
theorem dX4_layKeyOrder_13 : decode cX4_layKeyOrder 13 = .ok (.iconst 0, 1) := by decide +kernel
theorem dX4_layKeyOrder_14 : decode cX4_layKeyOrder 14 = .ok (.istore_n 2, 1) := by decide +kernel
theorem dX4_layKeyOrder_15 : decode cX4_layKeyOrder 15 = .ok (.iconst 0, 1) := by decide +kernel
theorem dX4_layKeyOrder_16 : decode cX4_layKeyOrder 16 = .ok (.istore_n 3, 1) := by decide +kernel
theorem dX4_layKeyOrder_17 : decode cX4_layKeyOrder 17 = .ok (.iload_n 3, 1) := by decide +kernel
theorem dX4_layKeyOrder_18 : decode cX4_layKeyOrder 18 = .ok (.aload_n 0, 1) := by decide +kernel
theorem dX4_layKeyOrder_19 : decode cX4_layKeyOrder 19 = .ok (.getfield 7, 3) := by decide +kernel
theorem dX4_layKeyOrder_22 : decode cX4_layKeyOrder 22 = .ok (.bipush 55, 2) := by decide +kernel
theorem dX4_layKeyOrder_24 : decode cX4_layKeyOrder 24 = .ok (.iaload, 1) := by decide +kernel
theorem dX4_layKeyOrder_25 : decode cX4_layKeyOrder 25 = .ok (.if_icmp .ge 64, 3) := by decide +kernel
theorem dX4_layKeyOrder_28 : decode cX4_layKeyOrder 28 = .ok (.iload_n 2, 1) := by decide +kernel
theorem dX4_layKeyOrder_29 : decode cX4_layKeyOrder 29 = .ok (.aload_n 0, 1) := by decide +kernel
theorem dX4_layKeyOrder_30 : decode cX4_layKeyOrder 30 = .ok (.getfield 7, 3) := by decide +kernel
theorem dX4_layKeyOrder_33 : decode cX4_layKeyOrder 33 = .ok (.bipush 49, 2) := by decide +kernel
theorem dX4_layKeyOrder_35 : decode cX4_layKeyOrder 35 = .ok (.iload_n 3, 1) := by decide +kernel
theorem dX4_layKeyOrder_36 : decode cX4_layKeyOrder 36 = .ok (.iadd, 1) := by decide +kernel
theorem dX4_layKeyOrder_37 : decode cX4_layKeyOrder 37 = .ok (.iaload, 1) := by decide +kernel
theorem dX4_layKeyOrder_38 : decode cX4_layKeyOrder 38 = .ok (.aload_n 0, 1) := by decide +kernel
theorem dX4_layKeyOrder_39 : decode cX4_layKeyOrder 39 = .ok (.getfield 7, 3) := by decide +kernel
theorem dX4_layKeyOrder_42 : decode cX4_layKeyOrder 42 = .ok (.bipush 49, 2) := by decide +kernel
theorem dX4_layKeyOrder_44 : decode cX4_layKeyOrder 44 = .ok (.iload_n 1, 1) := by decide +kernel
theorem dX4_layKeyOrder_45 : decode cX4_layKeyOrder 45 = .ok (.iadd, 1) := by decide +kernel
theorem dX4_layKeyOrder_46 : decode cX4_layKeyOrder 46 = .ok (.iaload, 1) := by decide +kernel
theorem dX4_layKeyOrder_47 : decode cX4_layKeyOrder 47 = .ok (.if_icmp .lt 29, 3) := by decide +kernel
theorem dX4_layKeyOrder_50 : decode cX4_layKeyOrder 50 = .ok (.aload_n 0, 1) := by decide +kernel
theorem dX4_layKeyOrder_51 : decode cX4_layKeyOrder 51 = .ok (.getfield 7, 3) := by decide +kernel
theorem dX4_layKeyOrder_54 : decode cX4_layKeyOrder 54 = .ok (.bipush 49, 2) := by decide +kernel
theorem dX4_layKeyOrder_56 : decode cX4_layKeyOrder 56 = .ok (.iload_n 3, 1) := by decide +kernel
theorem dX4_layKeyOrder_57 : decode cX4_layKeyOrder 57 = .ok (.iadd, 1) := by decide +kernel
theorem dX4_layKeyOrder_58 : decode cX4_layKeyOrder 58 = .ok (.iaload, 1) := by decide +kernel
theorem dX4_layKeyOrder_59 : decode cX4_layKeyOrder 59 = .ok (.aload_n 0, 1) := by decide +kernel
theorem dX4_layKeyOrder_60 : decode cX4_layKeyOrder 60 = .ok (.getfield 7, 3) := by decide +kernel
theorem dX4_layKeyOrder_63 : decode cX4_layKeyOrder 63 = .ok (.bipush 49, 2) := by decide +kernel
theorem dX4_layKeyOrder_65 : decode cX4_layKeyOrder 65 = .ok (.iload_n 1, 1) := by decide +kernel
theorem dX4_layKeyOrder_66 : decode cX4_layKeyOrder 66 = .ok (.iadd, 1) := by decide +kernel
theorem dX4_layKeyOrder_67 : decode cX4_layKeyOrder 67 = .ok (.iaload, 1) := by decide +kernel
theorem dX4_layKeyOrder_68 : decode cX4_layKeyOrder 68 = .ok (.if_icmp .ne 12, 3) := by decide +kernel
theorem dX4_layKeyOrder_71 : decode cX4_layKeyOrder 71 = .ok (.iload_n 3, 1) := by decide +kernel
theorem dX4_layKeyOrder_72 : decode cX4_layKeyOrder 72 = .ok (.iload_n 1, 1) := by decide +kernel
theorem dX4_layKeyOrder_73 : decode cX4_layKeyOrder 73 = .ok (.if_icmp .ge 7, 3) := by decide +kernel
theorem dX4_layKeyOrder_76 : decode cX4_layKeyOrder 76 = .ok (.iconst 1, 1) := by decide +kernel
theorem dX4_layKeyOrder_77 : decode cX4_layKeyOrder 77 = .ok (.goto 4, 3) := by decide +kernel
theorem dX4_layKeyOrder_80 : decode cX4_layKeyOrder 80 = .ok (.iconst 0, 1) := by decide +kernel
theorem dX4_layKeyOrder_81 : decode cX4_layKeyOrder 81 = .ok (.iadd, 1) := by decide +kernel
theorem dX4_layKeyOrder_82 : decode cX4_layKeyOrder 82 = .ok (.istore_n 2, 1) := by decide +kernel
theorem dX4_layKeyOrder_83 : decode cX4_layKeyOrder 83 = .ok (.iinc 3 1, 3) := by decide +kernel
theorem dX4_layKeyOrder_86 : decode cX4_layKeyOrder 86 = .ok (.goto (-69), 3) := by decide +kernel
theorem dX4_layKeyOrder_89 : decode cX4_layKeyOrder 89 = .ok (.aload_n 0, 1) := by decide +kernel
theorem dX4_layKeyOrder_90 : decode cX4_layKeyOrder 90 = .ok (.getfield 32, 3) := by decide +kernel
theorem dX4_layKeyOrder_93 : decode cX4_layKeyOrder 93 = .ok (.iload_n 2, 1) := by decide +kernel
theorem dX4_layKeyOrder_94 : decode cX4_layKeyOrder 94 = .ok (.iload_n 1, 1) := by decide +kernel
theorem dX4_layKeyOrder_95 : decode cX4_layKeyOrder 95 = .ok (.iastore, 1) := by decide +kernel
theorem dX4_layKeyOrder_96 : decode cX4_layKeyOrder 96 = .ok (.iinc 1 1, 3) := by decide +kernel
theorem dX4_layKeyOrder_99 : decode cX4_layKeyOrder 99 = .ok (.goto (-97), 3) := by decide +kernel
theorem dX4_layKeyOrder_102 : decode cX4_layKeyOrder 102 = .ok (.return_, 1) := by decide +kernel
set_option maxRecDepth 20000 in
theorem ggX4_layColumns_X4_many : GoodIn wsX4_layColumns wsX4_many := goodIn_r _ [7, 8, 9, 10, 11, 12, 13, 14, 15, 16, 17, 18, 19, 20] (by decide +kernel) (by decide +kernel)
set_option maxRecDepth 20000 in
theorem gX4_layColumns_X4_many : GoodIn wsX4_layColumns (wsV RX4 57 RX4 yX4_many wsX4_many) := goodIn_app (goodIn_of _ (by decide +kernel)) ggX4_layColumns_X4_many
theorem dX4_layColumns_0 : decode cX4_layColumns 0 = .ok (.iconst 0, 1) := by decide +kernel
theorem dX4_layColumns_1 : decode cX4_layColumns 1 = .ok (.istore_n 2, 1) := by decide +kernel
theorem dX4_layColumns_2 : decode cX4_layColumns 2 = .ok (.iconst 0, 1) := by decide +kernel
theorem dX4_layColumns_3 : decode cX4_layColumns 3 = .ok (.istore_n 3, 1) := by decide +kernel
theorem dX4_layColumns_4 : decode cX4_layColumns 4 = .ok (.iload_n 3, 1) := by decide +kernel
theorem dX4_layColumns_5 : decode cX4_layColumns 5 = .ok (.iload_n 1, 1) := by decide +kernel
theorem dX4_layColumns_6 : decode cX4_layColumns 6 = .ok (.if_icmp .ge 46, 3) := by decide +kernel
theorem dX4_layColumns_9 : decode cX4_layColumns 9 = .ok (.aload_n 0, 1) := by decide +kernel
theorem dX4_layColumns_10 : decode cX4_layColumns 10 = .ok (.getfield 32, 3) := by decide +kernel
theorem dX4_layColumns_13 : decode cX4_layColumns 13 = .ok (.iload_n 3, 1) := by decide +kernel
theorem dX4_layColumns_14 : decode cX4_layColumns 14 = .ok (.iaload, 1) := by decide +kernel
theorem dX4_layColumns_15 : decode cX4_layColumns 15 = .ok (.istore 4, 2) := by decide +kernel
theorem dX4_layColumns_17 : decode cX4_layColumns 17 = .ok (.iload 4, 2) := by decide +kernel
theorem dX4_layColumns_19 : decode cX4_layColumns 19 = .ok (.aload_n 0, 1) := by decide +kernel
theorem dX4_layColumns_20 : decode cX4_layColumns 20 = .ok (.invokevirtual 57, 3) := by decide +kernel
theorem dX4_layColumns_23 : decode cX4_layColumns 23 = .ok (.if_icmp .ge 23, 3) := by decide +kernel
theorem dX4_layColumns_26 : decode cX4_layColumns 26 = .ok (.aload_n 0, 1) := by decide +kernel
theorem dX4_layColumns_27 : decode cX4_layColumns 27 = .ok (.getfield 35, 3) := by decide +kernel
theorem dX4_layColumns_30 : decode cX4_layColumns 30 = .ok (.iload_n 2, 1) := by decide +kernel
theorem dX4_layColumns_31 : decode cX4_layColumns 31 = .ok (.iload 4, 2) := by decide +kernel
theorem dX4_layColumns_33 : decode cX4_layColumns 33 = .ok (.iastore, 1) := by decide +kernel
theorem dX4_layColumns_34 : decode cX4_layColumns 34 = .ok (.iinc 2 1, 3) := by decide +kernel
theorem dX4_layColumns_37 : decode cX4_layColumns 37 = .ok (.iload 4, 2) := by decide +kernel
theorem dX4_layColumns_39 : decode cX4_layColumns 39 = .ok (.iload_n 1, 1) := by decide +kernel
theorem dX4_layColumns_40 : decode cX4_layColumns 40 = .ok (.iadd, 1) := by decide +kernel
theorem dX4_layColumns_41 : decode cX4_layColumns 41 = .ok (.istore 4, 2) := by decide +kernel
theorem dX4_layColumns_43 : decode cX4_layColumns 43 = .ok (.goto (-26), 3) := by decide +kernel
theorem dX4_layColumns_46 : decode cX4_layColumns 46 = .ok (.iinc 3 1, 3) := by decide +kernel
theorem dX4_layColumns_49 : decode cX4_layColumns 49 = .ok (.goto (-45), 3) := by decide +kernel
theorem dX4_layColumns_52 : decode cX4_layColumns 52 = .ok (.return_, 1) := by decide +kernel
set_option maxRecDepth 20000 in
theorem ggX4_layRails_X4_many : GoodIn wsX4_layRails wsX4_many := goodIn_r _ [6, 7, 8, 9, 10, 11, 12, 13, 14, 15, 16, 17, 18, 19] (by decide +kernel) (by decide +kernel)
set_option maxRecDepth 20000 in
theorem gX4_layRails_X4_many : GoodIn wsX4_layRails (wsV RX4 57 RX4 yX4_many wsX4_many) := goodIn_app (goodIn_of _ (by decide +kernel)) ggX4_layRails_X4_many
theorem dX4_layRails_0 : decode cX4_layRails 0 = .ok (.iconst 0, 1) := by decide +kernel
theorem dX4_layRails_1 : decode cX4_layRails 1 = .ok (.istore_n 2, 1) := by decide +kernel
theorem dX4_layRails_2 : decode cX4_layRails 2 = .ok (.iconst 2, 1) := by decide +kernel
theorem dX4_layRails_3 : decode cX4_layRails 3 = .ok (.iload_n 1, 1) := by decide +kernel
theorem dX4_layRails_4 : decode cX4_layRails 4 = .ok (.iconst 1, 1) := by decide +kernel
theorem dX4_layRails_5 : decode cX4_layRails 5 = .ok (.isub, 1) := by decide +kernel
theorem dX4_layRails_6 : decode cX4_layRails 6 = .ok (.imul, 1) := by decide +kernel
theorem dX4_layRails_7 : decode cX4_layRails 7 = .ok (.istore_n 3, 1) := by decide +kernel
theorem dX4_layRails_8 : decode cX4_layRails 8 = .ok (.iconst 0, 1) := by decide +kernel
theorem dX4_layRails_9 : decode cX4_layRails 9 = .ok (.istore 4, 2) := by decide +kernel
theorem dX4_layRails_11 : decode cX4_layRails 11 = .ok (.iload 4, 2) := by decide +kernel
theorem dX4_layRails_13 : decode cX4_layRails 13 = .ok (.iload_n 1, 1) := by decide +kernel
theorem dX4_layRails_14 : decode cX4_layRails 14 = .ok (.if_icmp .ge 64, 3) := by decide +kernel
theorem dX4_layRails_17 : decode cX4_layRails 17 = .ok (.iconst 0, 1) := by decide +kernel
theorem dX4_layRails_18 : decode cX4_layRails 18 = .ok (.istore 5, 2) := by decide +kernel
theorem dX4_layRails_20 : decode cX4_layRails 20 = .ok (.iload 5, 2) := by decide +kernel
theorem dX4_layRails_22 : decode cX4_layRails 22 = .ok (.aload_n 0, 1) := by decide +kernel
theorem dX4_layRails_23 : decode cX4_layRails 23 = .ok (.invokevirtual 57, 3) := by decide +kernel
theorem dX4_layRails_26 : decode cX4_layRails 26 = .ok (.if_icmp .ge 46, 3) := by decide +kernel
theorem dX4_layRails_29 : decode cX4_layRails 29 = .ok (.iload 5, 2) := by decide +kernel
theorem dX4_layRails_31 : decode cX4_layRails 31 = .ok (.iload_n 3, 1) := by decide +kernel
theorem dX4_layRails_32 : decode cX4_layRails 32 = .ok (.irem, 1) := by decide +kernel
theorem dX4_layRails_33 : decode cX4_layRails 33 = .ok (.istore 6, 2) := by decide +kernel
theorem dX4_layRails_35 : decode cX4_layRails 35 = .ok (.iload 6, 2) := by decide +kernel
theorem dX4_layRails_37 : decode cX4_layRails 37 = .ok (.iload_n 1, 1) := by decide +kernel
theorem dX4_layRails_38 : decode cX4_layRails 38 = .ok (.if_icmp .ge 8, 3) := by decide +kernel
theorem dX4_layRails_41 : decode cX4_layRails 41 = .ok (.iload 6, 2) := by decide +kernel
theorem dX4_layRails_43 : decode cX4_layRails 43 = .ok (.goto 7, 3) := by decide +kernel
theorem dX4_layRails_46 : decode cX4_layRails 46 = .ok (.iload_n 3, 1) := by decide +kernel
theorem dX4_layRails_47 : decode cX4_layRails 47 = .ok (.iload 6, 2) := by decide +kernel
theorem dX4_layRails_49 : decode cX4_layRails 49 = .ok (.isub, 1) := by decide +kernel
theorem dX4_layRails_50 : decode cX4_layRails 50 = .ok (.iload 4, 2) := by decide +kernel
theorem dX4_layRails_52 : decode cX4_layRails 52 = .ok (.if_icmp .ne 14, 3) := by decide +kernel
theorem dX4_layRails_55 : decode cX4_layRails 55 = .ok (.aload_n 0, 1) := by decide +kernel
theorem dX4_layRails_56 : decode cX4_layRails 56 = .ok (.getfield 35, 3) := by decide +kernel
theorem dX4_layRails_59 : decode cX4_layRails 59 = .ok (.iload_n 2, 1) := by decide +kernel
theorem dX4_layRails_60 : decode cX4_layRails 60 = .ok (.iload 5, 2) := by decide +kernel
theorem dX4_layRails_62 : decode cX4_layRails 62 = .ok (.iastore, 1) := by decide +kernel
theorem dX4_layRails_63 : decode cX4_layRails 63 = .ok (.iinc 2 1, 3) := by decide +kernel
theorem dX4_layRails_66 : decode cX4_layRails 66 = .ok (.iinc 5 1, 3) := by decide +kernel
theorem dX4_layRails_69 : decode cX4_layRails 69 = .ok (.goto (-49), 3) := by decide +kernel
theorem dX4_layRails_72 : decode cX4_layRails 72 = .ok (.iinc 4 1, 3) := by decide +kernel
theorem dX4_layRails_75 : decode cX4_layRails 75 = .ok (.goto (-64), 3) := by decide +kernel
theorem dX4_layRails_78 : decode cX4_layRails 78 = .ok (.return_, 1) := by decide +kernel
set_option maxRecDepth 20000 in
theorem ggX4_readBy_X4_many : GoodIn wsX4_readBy wsX4_many := goodIn_r _ [8, 9, 10, 11, 12, 13, 14, 15, 16, 17, 18, 19, 20, 21] (by decide +kernel) (by decide +kernel)
set_option maxRecDepth 20000 in
theorem gX4_readBy_X4_many : GoodIn wsX4_readBy (wsV RX4 57 RX4 yX4_many wsX4_many) := goodIn_app (goodIn_of _ (by decide +kernel)) ggX4_readBy_X4_many
theorem dX4_readBy_0 : decode cX4_readBy 0 = .ok (.iconst 0, 1) := by decide +kernel
theorem dX4_readBy_1 : decode cX4_readBy 1 = .ok (.istore_n 2, 1) := by decide +kernel
theorem dX4_readBy_2 : decode cX4_readBy 2 = .ok (.iload_n 2, 1) := by decide +kernel
theorem dX4_readBy_3 : decode cX4_readBy 3 = .ok (.aload_n 0, 1) := by decide +kernel
theorem dX4_readBy_4 : decode cX4_readBy 4 = .ok (.invokevirtual 57, 3) := by decide +kernel
theorem dX4_readBy_7 : decode cX4_readBy 7 = .ok (.if_icmp .ge 50, 3) := by decide +kernel
theorem dX4_readBy_10 : decode cX4_readBy 10 = .ok (.iload_n 1, 1) := by decide +kernel
theorem dX4_readBy_11 : decode cX4_readBy 11 = .ok (.ifCond .le 23, 3) := by decide +kernel
theorem dX4_readBy_14 : decode cX4_readBy 14 = .ok (.aload_n 0, 1) := by decide +kernel
theorem dX4_readBy_15 : decode cX4_readBy 15 = .ok (.getfield 26, 3) := by decide +kernel
theorem dX4_readBy_18 : decode cX4_readBy 18 = .ok (.iload_n 2, 1) := by decide +kernel
theorem dX4_readBy_19 : decode cX4_readBy 19 = .ok (.aload_n 0, 1) := by decide +kernel
theorem dX4_readBy_20 : decode cX4_readBy 20 = .ok (.getfield 23, 3) := by decide +kernel
theorem dX4_readBy_23 : decode cX4_readBy 23 = .ok (.aload_n 0, 1) := by decide +kernel
theorem dX4_readBy_24 : decode cX4_readBy 24 = .ok (.getfield 35, 3) := by decide +kernel
theorem dX4_readBy_27 : decode cX4_readBy 27 = .ok (.iload_n 2, 1) := by decide +kernel
theorem dX4_readBy_28 : decode cX4_readBy 28 = .ok (.iaload, 1) := by decide +kernel
theorem dX4_readBy_29 : decode cX4_readBy 29 = .ok (.iaload, 1) := by decide +kernel
theorem dX4_readBy_30 : decode cX4_readBy 30 = .ok (.iastore, 1) := by decide +kernel
theorem dX4_readBy_31 : decode cX4_readBy 31 = .ok (.goto 20, 3) := by decide +kernel
theorem dX4_readBy_34 : decode cX4_readBy 34 = .ok (.aload_n 0, 1) := by decide +kernel
theorem dX4_readBy_35 : decode cX4_readBy 35 = .ok (.getfield 26, 3) := by decide +kernel
theorem dX4_readBy_38 : decode cX4_readBy 38 = .ok (.aload_n 0, 1) := by decide +kernel
theorem dX4_readBy_39 : decode cX4_readBy 39 = .ok (.getfield 35, 3) := by decide +kernel
theorem dX4_readBy_42 : decode cX4_readBy 42 = .ok (.iload_n 2, 1) := by decide +kernel
theorem dX4_readBy_43 : decode cX4_readBy 43 = .ok (.iaload, 1) := by decide +kernel
theorem dX4_readBy_44 : decode cX4_readBy 44 = .ok (.aload_n 0, 1) := by decide +kernel
theorem dX4_readBy_45 : decode cX4_readBy 45 = .ok (.getfield 23, 3) := by decide +kernel
theorem dX4_readBy_48 : decode cX4_readBy 48 = .ok (.iload_n 2, 1) := by decide +kernel
theorem dX4_readBy_49 : decode cX4_readBy 49 = .ok (.iaload, 1) := by decide +kernel
theorem dX4_readBy_50 : decode cX4_readBy 50 = .ok (.iastore, 1) := by decide +kernel
theorem dX4_readBy_51 : decode cX4_readBy 51 = .ok (.iinc 2 1, 3) := by decide +kernel
theorem dX4_readBy_54 : decode cX4_readBy 54 = .ok (.goto (-52), 3) := by decide +kernel
theorem dX4_readBy_57 : decode cX4_readBy 57 = .ok (.return_, 1) := by decide +kernel
set_option maxRecDepth 20000 in
theorem ggX4_apart_X4_many : GoodIn wsX4_apart wsX4_many := goodIn_r _ [9, 10, 15, 16, 17, 18, 19, 20, 21, 22, 23, 24, 25, 26] (by decide +kernel) (by decide +kernel)
set_option maxRecDepth 20000 in
theorem gX4_apart_X4_many : GoodIn wsX4_apart (wsV RX4 57 RX4 yX4_many wsX4_many) := goodIn_app (goodIn_of _ (by decide +kernel)) ggX4_apart_X4_many
set_option maxRecDepth 20000 in
theorem ggX4_apart_X4_placeOf : GoodIn wsX4_apart wsX4_placeOf := goodIn_r _ [14, 4, 15, 16, 17, 18, 19, 20, 21, 22, 23, 24, 25, 26] (by decide +kernel) (by decide +kernel)
set_option maxRecDepth 20000 in
theorem gX4_apart_X4_placeOf : GoodIn wsX4_apart (wsV RX4 67 RX4 yX4_placeOf wsX4_placeOf) := goodIn_app (goodIn_of _ (by decide +kernel)) ggX4_apart_X4_placeOf
theorem dX4_apart_0 : decode cX4_apart 0 = .ok (.aload_n 0, 1) := by decide +kernel
theorem dX4_apart_1 : decode cX4_apart 1 = .ok (.invokevirtual 57, 3) := by decide +kernel
theorem dX4_apart_4 : decode cX4_apart 4 = .ok (.istore_n 2, 1) := by decide +kernel
theorem dX4_apart_5 : decode cX4_apart 5 = .ok (.iconst 0, 1) := by decide +kernel
theorem dX4_apart_6 : decode cX4_apart 6 = .ok (.istore_n 3, 1) := by decide +kernel
theorem dX4_apart_7 : decode cX4_apart 7 = .ok (.iload_n 3, 1) := by decide +kernel
theorem dX4_apart_8 : decode cX4_apart 8 = .ok (.iload_n 2, 1) := by decide +kernel
theorem dX4_apart_9 : decode cX4_apart 9 = .ok (.if_icmp .ge 65, 3) := by decide +kernel
theorem dX4_apart_12 : decode cX4_apart 12 = .ok (.aload_n 0, 1) := by decide +kernel
theorem dX4_apart_13 : decode cX4_apart 13 = .ok (.aload_n 0, 1) := by decide +kernel
theorem dX4_apart_14 : decode cX4_apart 14 = .ok (.getfield 23, 3) := by decide +kernel
theorem dX4_apart_17 : decode cX4_apart 17 = .ok (.iload_n 3, 1) := by decide +kernel
theorem dX4_apart_18 : decode cX4_apart 18 = .ok (.iaload, 1) := by decide +kernel
theorem dX4_apart_19 : decode cX4_apart 19 = .ok (.invokevirtual 67, 3) := by decide +kernel
theorem dX4_apart_22 : decode cX4_apart 22 = .ok (.istore 4, 2) := by decide +kernel
theorem dX4_apart_24 : decode cX4_apart 24 = .ok (.aload_n 0, 1) := by decide +kernel
theorem dX4_apart_25 : decode cX4_apart 25 = .ok (.getfield 38, 3) := by decide +kernel
theorem dX4_apart_28 : decode cX4_apart 28 = .ok (.iload_n 1, 1) := by decide +kernel
theorem dX4_apart_29 : decode cX4_apart 29 = .ok (.ifCond .le 7, 3) := by decide +kernel
theorem dX4_apart_32 : decode cX4_apart 32 = .ok (.iload_n 3, 1) := by decide +kernel
theorem dX4_apart_33 : decode cX4_apart 33 = .ok (.goto 6, 3) := by decide +kernel
theorem dX4_apart_36 : decode cX4_apart 36 = .ok (.iconst 2, 1) := by decide +kernel
theorem dX4_apart_37 : decode cX4_apart 37 = .ok (.iload_n 3, 1) := by decide +kernel
theorem dX4_apart_38 : decode cX4_apart 38 = .ok (.imul, 1) := by decide +kernel
theorem dX4_apart_39 : decode cX4_apart 39 = .ok (.iload 4, 2) := by decide +kernel
theorem dX4_apart_41 : decode cX4_apart 41 = .ok (.iconst 4, 1) := by decide +kernel
theorem dX4_apart_42 : decode cX4_apart 42 = .ok (.idiv, 1) := by decide +kernel
theorem dX4_apart_43 : decode cX4_apart 43 = .ok (.iastore, 1) := by decide +kernel
theorem dX4_apart_44 : decode cX4_apart 44 = .ok (.aload_n 0, 1) := by decide +kernel
theorem dX4_apart_45 : decode cX4_apart 45 = .ok (.getfield 38, 3) := by decide +kernel
theorem dX4_apart_48 : decode cX4_apart 48 = .ok (.iload_n 1, 1) := by decide +kernel
theorem dX4_apart_49 : decode cX4_apart 49 = .ok (.ifCond .le 9, 3) := by decide +kernel
theorem dX4_apart_52 : decode cX4_apart 52 = .ok (.iload_n 2, 1) := by decide +kernel
theorem dX4_apart_53 : decode cX4_apart 53 = .ok (.iload_n 3, 1) := by decide +kernel
theorem dX4_apart_54 : decode cX4_apart 54 = .ok (.iadd, 1) := by decide +kernel
theorem dX4_apart_55 : decode cX4_apart 55 = .ok (.goto 8, 3) := by decide +kernel
theorem dX4_apart_58 : decode cX4_apart 58 = .ok (.iconst 2, 1) := by decide +kernel
theorem dX4_apart_59 : decode cX4_apart 59 = .ok (.iload_n 3, 1) := by decide +kernel
theorem dX4_apart_60 : decode cX4_apart 60 = .ok (.imul, 1) := by decide +kernel
theorem dX4_apart_61 : decode cX4_apart 61 = .ok (.iconst 1, 1) := by decide +kernel
theorem dX4_apart_62 : decode cX4_apart 62 = .ok (.iadd, 1) := by decide +kernel
theorem dX4_apart_63 : decode cX4_apart 63 = .ok (.iload 4, 2) := by decide +kernel
theorem dX4_apart_65 : decode cX4_apart 65 = .ok (.iconst 4, 1) := by decide +kernel
theorem dX4_apart_66 : decode cX4_apart 66 = .ok (.irem, 1) := by decide +kernel
theorem dX4_apart_67 : decode cX4_apart 67 = .ok (.iastore, 1) := by decide +kernel
theorem dX4_apart_68 : decode cX4_apart 68 = .ok (.iinc 3 1, 3) := by decide +kernel
theorem dX4_apart_71 : decode cX4_apart 71 = .ok (.goto (-64), 3) := by decide +kernel
theorem dX4_apart_74 : decode cX4_apart 74 = .ok (.iconst 0, 1) := by decide +kernel
theorem dX4_apart_75 : decode cX4_apart 75 = .ok (.istore_n 3, 1) := by decide +kernel
theorem dX4_apart_76 : decode cX4_apart 76 = .ok (.iload_n 3, 1) := by decide +kernel
theorem dX4_apart_77 : decode cX4_apart 77 = .ok (.iload_n 2, 1) := by decide +kernel
theorem dX4_apart_78 : decode cX4_apart 78 = .ok (.if_icmp .ge 70, 3) := by decide +kernel
theorem dX4_apart_81 : decode cX4_apart 81 = .ok (.aload_n 0, 1) := by decide +kernel
theorem dX4_apart_82 : decode cX4_apart 82 = .ok (.getfield 26, 3) := by decide +kernel
theorem dX4_apart_85 : decode cX4_apart 85 = .ok (.iload_n 3, 1) := by decide +kernel
theorem dX4_apart_86 : decode cX4_apart 86 = .ok (.iload_n 1, 1) := by decide +kernel
theorem dX4_apart_87 : decode cX4_apart 87 = .ok (.ifCond .le 32, 3) := by decide +kernel
theorem dX4_apart_90 : decode cX4_apart 90 = .ok (.aload_n 0, 1) := by decide +kernel
theorem dX4_apart_91 : decode cX4_apart 91 = .ok (.getfield 29, 3) := by decide +kernel
theorem dX4_apart_94 : decode cX4_apart 94 = .ok (.iconst 4, 1) := by decide +kernel
theorem dX4_apart_95 : decode cX4_apart 95 = .ok (.aload_n 0, 1) := by decide +kernel
theorem dX4_apart_96 : decode cX4_apart 96 = .ok (.getfield 38, 3) := by decide +kernel
theorem dX4_apart_99 : decode cX4_apart 99 = .ok (.iconst 2, 1) := by decide +kernel
theorem dX4_apart_100 : decode cX4_apart 100 = .ok (.iload_n 3, 1) := by decide +kernel
theorem dX4_apart_101 : decode cX4_apart 101 = .ok (.imul, 1) := by decide +kernel
theorem dX4_apart_102 : decode cX4_apart 102 = .ok (.iaload, 1) := by decide +kernel
theorem dX4_apart_103 : decode cX4_apart 103 = .ok (.imul, 1) := by decide +kernel
theorem dX4_apart_104 : decode cX4_apart 104 = .ok (.aload_n 0, 1) := by decide +kernel
theorem dX4_apart_105 : decode cX4_apart 105 = .ok (.getfield 38, 3) := by decide +kernel
theorem dX4_apart_108 : decode cX4_apart 108 = .ok (.iconst 2, 1) := by decide +kernel
theorem dX4_apart_109 : decode cX4_apart 109 = .ok (.iload_n 3, 1) := by decide +kernel
theorem dX4_apart_110 : decode cX4_apart 110 = .ok (.imul, 1) := by decide +kernel
theorem dX4_apart_111 : decode cX4_apart 111 = .ok (.iconst 1, 1) := by decide +kernel
theorem dX4_apart_112 : decode cX4_apart 112 = .ok (.iadd, 1) := by decide +kernel
theorem dX4_apart_113 : decode cX4_apart 113 = .ok (.iaload, 1) := by decide +kernel
theorem dX4_apart_114 : decode cX4_apart 114 = .ok (.iadd, 1) := by decide +kernel
theorem dX4_apart_115 : decode cX4_apart 115 = .ok (.iaload, 1) := by decide +kernel
theorem dX4_apart_116 : decode cX4_apart 116 = .ok (.goto 25, 3) := by decide +kernel
theorem dX4_apart_119 : decode cX4_apart 119 = .ok (.aload_n 0, 1) := by decide +kernel
theorem dX4_apart_120 : decode cX4_apart 120 = .ok (.getfield 29, 3) := by decide +kernel
theorem dX4_apart_123 : decode cX4_apart 123 = .ok (.iconst 4, 1) := by decide +kernel
theorem dX4_apart_124 : decode cX4_apart 124 = .ok (.aload_n 0, 1) := by decide +kernel
theorem dX4_apart_125 : decode cX4_apart 125 = .ok (.getfield 38, 3) := by decide +kernel
theorem dX4_apart_128 : decode cX4_apart 128 = .ok (.iload_n 3, 1) := by decide +kernel
theorem dX4_apart_129 : decode cX4_apart 129 = .ok (.iaload, 1) := by decide +kernel
theorem dX4_apart_130 : decode cX4_apart 130 = .ok (.imul, 1) := by decide +kernel
theorem dX4_apart_131 : decode cX4_apart 131 = .ok (.aload_n 0, 1) := by decide +kernel
theorem dX4_apart_132 : decode cX4_apart 132 = .ok (.getfield 38, 3) := by decide +kernel
theorem dX4_apart_135 : decode cX4_apart 135 = .ok (.iload_n 2, 1) := by decide +kernel
theorem dX4_apart_136 : decode cX4_apart 136 = .ok (.iload_n 3, 1) := by decide +kernel
theorem dX4_apart_137 : decode cX4_apart 137 = .ok (.iadd, 1) := by decide +kernel
theorem dX4_apart_138 : decode cX4_apart 138 = .ok (.iaload, 1) := by decide +kernel
theorem dX4_apart_139 : decode cX4_apart 139 = .ok (.iadd, 1) := by decide +kernel
theorem dX4_apart_140 : decode cX4_apart 140 = .ok (.iaload, 1) := by decide +kernel
theorem dX4_apart_141 : decode cX4_apart 141 = .ok (.iastore, 1) := by decide +kernel
theorem dX4_apart_142 : decode cX4_apart 142 = .ok (.iinc 3 1, 3) := by decide +kernel
theorem dX4_apart_145 : decode cX4_apart 145 = .ok (.goto (-69), 3) := by decide +kernel
theorem dX4_apart_148 : decode cX4_apart 148 = .ok (.return_, 1) := by decide +kernel
set_option maxRecDepth 20000 in
theorem ggX4_goWay_X4_laySquare : GoodIn wsX4_goWay wsX4_laySquare := goodIn_r _ [7, 2, 8, 60, 61, 62, 63, 64, 65, 66, 67, 68, 69, 70, 71] (by decide +kernel) (by decide +kernel)
set_option maxRecDepth 20000 in
theorem gX4_goWay_X4_laySquare : GoodIn wsX4_goWay (wsV RX4 60 RX4 yX4_laySquare wsX4_laySquare) := goodIn_app (goodIn_of _ (by decide +kernel)) ggX4_goWay_X4_laySquare
set_option maxRecDepth 20000 in
theorem ggX4_goWay_X4_many : GoodIn wsX4_goWay wsX4_many := goodIn_r _ [12, 2, 60, 61, 62, 63, 64, 65, 66, 67, 68, 69, 70, 71] (by decide +kernel) (by decide +kernel)
set_option maxRecDepth 20000 in
theorem gX4_goWay_X4_many : GoodIn wsX4_goWay (wsV RX4 57 RX4 yX4_many wsX4_many) := goodIn_app (goodIn_of _ (by decide +kernel)) ggX4_goWay_X4_many
set_option maxRecDepth 20000 in
theorem ggX4_goWay_X4_shiftAll : GoodIn wsX4_goWay wsX4_shiftAll := goodIn_r _ [16, 2, 17, 1, 9, 10, 11, 6, 12, 60, 61, 62, 63, 64, 65, 66, 67, 68, 69, 70, 71] (by decide +kernel) (by decide +kernel)
set_option maxRecDepth 20000 in
theorem gX4_goWay_X4_shiftAll : GoodIn wsX4_goWay (wsV RX4 78 RX4 yX4_shiftAll wsX4_shiftAll) := goodIn_app (goodIn_of _ (by decide +kernel)) ggX4_goWay_X4_shiftAll
set_option maxRecDepth 20000 in
theorem ggX4_goWay_X4_pairs : GoodIn wsX4_goWay wsX4_pairs := goodIn_r _ [21, 9, 10, 11, 6, 12, 2, 22, 23, 24, 25, 1, 17, 26, 27, 28, 29, 8, 30, 31, 32, 33, 34, 35, 36, 60, 61, 62, 63, 64, 65, 66, 67, 68, 69, 70, 71] (by decide +kernel) (by decide +kernel)
set_option maxRecDepth 20000 in
theorem gX4_goWay_X4_pairs : GoodIn wsX4_goWay (wsV RX4 82 RX4 yX4_pairs wsX4_pairs) := goodIn_app (goodIn_of _ (by decide +kernel)) ggX4_goWay_X4_pairs
set_option maxRecDepth 20000 in
theorem ggX4_goWay_X4_layKeyOrder : GoodIn wsX4_goWay wsX4_layKeyOrder := goodIn_r _ [40, 2, 41, 60, 61, 62, 63, 64, 65, 66, 67, 68, 69, 70, 71] (by decide +kernel) (by decide +kernel)
set_option maxRecDepth 20000 in
theorem gX4_goWay_X4_layKeyOrder : GoodIn wsX4_goWay (wsV RX4 86 RX4 yX4_layKeyOrder wsX4_layKeyOrder) := goodIn_app (goodIn_of _ (by decide +kernel)) ggX4_goWay_X4_layKeyOrder
set_option maxRecDepth 20000 in
theorem ggX4_goWay_X4_layColumns : GoodIn wsX4_goWay wsX4_layColumns := goodIn_r _ [45, 41, 46, 9, 10, 11, 6, 12, 2, 60, 61, 62, 63, 64, 65, 66, 67, 68, 69, 70, 71] (by decide +kernel) (by decide +kernel)
set_option maxRecDepth 20000 in
theorem gX4_goWay_X4_layColumns : GoodIn wsX4_goWay (wsV RX4 89 RX4 yX4_layColumns wsX4_layColumns) := goodIn_app (goodIn_of _ (by decide +kernel)) ggX4_goWay_X4_layColumns
set_option maxRecDepth 20000 in
theorem ggX4_goWay_X4_readBy : GoodIn wsX4_goWay wsX4_readBy := goodIn_r _ [50, 17, 1, 46, 9, 10, 11, 6, 12, 2, 60, 61, 62, 63, 64, 65, 66, 67, 68, 69, 70, 71] (by decide +kernel) (by decide +kernel)
set_option maxRecDepth 20000 in
theorem gX4_goWay_X4_readBy : GoodIn wsX4_goWay (wsV RX4 92 RX4 yX4_readBy wsX4_readBy) := goodIn_app (goodIn_of _ (by decide +kernel)) ggX4_goWay_X4_readBy
set_option maxRecDepth 20000 in
theorem ggX4_goWay_X4_layRails : GoodIn wsX4_goWay wsX4_layRails := goodIn_r _ [54, 46, 9, 10, 11, 6, 12, 2, 60, 61, 62, 63, 64, 65, 66, 67, 68, 69, 70, 71] (by decide +kernel) (by decide +kernel)
set_option maxRecDepth 20000 in
theorem gX4_goWay_X4_layRails : GoodIn wsX4_goWay (wsV RX4 95 RX4 yX4_layRails wsX4_layRails) := goodIn_app (goodIn_of _ (by decide +kernel)) ggX4_goWay_X4_layRails
set_option maxRecDepth 20000 in
theorem ggX4_goWay_X4_apart : GoodIn wsX4_goWay wsX4_apart := goodIn_r _ [58, 1, 59, 17, 8, 9, 10, 11, 6, 12, 2, 26, 27, 28, 29, 60, 61, 62, 63, 64, 65, 66, 67, 68, 69, 70, 71] (by decide +kernel) (by decide +kernel)
set_option maxRecDepth 20000 in
theorem gX4_goWay_X4_apart : GoodIn wsX4_goWay (wsV RX4 98 RX4 yX4_apart wsX4_apart) := goodIn_app (goodIn_of _ (by decide +kernel)) ggX4_goWay_X4_apart
theorem dX4_goWay_0 : decode cX4_goWay 0 = .ok (.aload_n 0, 1) := by decide +kernel
theorem dX4_goWay_1 : decode cX4_goWay 1 = .ok (.invokevirtual 60, 3) := by decide +kernel
theorem dX4_goWay_4 : decode cX4_goWay 4 = .ok (.iconst 0, 1) := by decide +kernel
theorem dX4_goWay_5 : decode cX4_goWay 5 = .ok (.istore_n 3, 1) := by decide +kernel
theorem dX4_goWay_6 : decode cX4_goWay 6 = .ok (.iload_n 3, 1) := by decide +kernel
theorem dX4_goWay_7 : decode cX4_goWay 7 = .ok (.aload_n 0, 1) := by decide +kernel
theorem dX4_goWay_8 : decode cX4_goWay 8 = .ok (.invokevirtual 57, 3) := by decide +kernel
theorem dX4_goWay_11 : decode cX4_goWay 11 = .ok (.if_icmp .ge 23, 3) := by decide +kernel
theorem dX4_goWay_14 : decode cX4_goWay 14 = .ok (.aload_n 0, 1) := by decide +kernel
theorem dX4_goWay_15 : decode cX4_goWay 15 = .ok (.getfield 23, 3) := by decide +kernel
theorem dX4_goWay_18 : decode cX4_goWay 18 = .ok (.iload_n 3, 1) := by decide +kernel
theorem dX4_goWay_19 : decode cX4_goWay 19 = .ok (.aload_n 0, 1) := by decide +kernel
theorem dX4_goWay_20 : decode cX4_goWay 20 = .ok (.getfield 7, 3) := by decide +kernel
theorem dX4_goWay_23 : decode cX4_goWay 23 = .ok (.iconst 0, 1) := by decide +kernel
theorem dX4_goWay_24 : decode cX4_goWay 24 = .ok (.iload_n 3, 1) := by decide +kernel
theorem dX4_goWay_25 : decode cX4_goWay 25 = .ok (.iadd, 1) := by decide +kernel
theorem dX4_goWay_26 : decode cX4_goWay 26 = .ok (.iaload, 1) := by decide +kernel
theorem dX4_goWay_27 : decode cX4_goWay 27 = .ok (.iastore, 1) := by decide +kernel
theorem dX4_goWay_28 : decode cX4_goWay 28 = .ok (.iinc 3 1, 3) := by decide +kernel
theorem dX4_goWay_31 : decode cX4_goWay 31 = .ok (.goto (-25), 3) := by decide +kernel
theorem dX4_goWay_34 : decode cX4_goWay 34 = .ok (.iload_n 1, 1) := by decide +kernel
theorem dX4_goWay_35 : decode cX4_goWay 35 = .ok (.tableswitch 103 0 4 #[33, 33, 51, 59, 82], 33) := by decide +kernel
theorem dX4_goWay_68 : decode cX4_goWay 68 = .ok (.aload_n 0, 1) := by decide +kernel
theorem dX4_goWay_69 : decode cX4_goWay 69 = .ok (.iload_n 2, 1) := by decide +kernel
theorem dX4_goWay_70 : decode cX4_goWay 70 = .ok (.iload_n 1, 1) := by decide +kernel
theorem dX4_goWay_71 : decode cX4_goWay 71 = .ok (.iconst 1, 1) := by decide +kernel
theorem dX4_goWay_72 : decode cX4_goWay 72 = .ok (.if_icmp .ne 7, 3) := by decide +kernel
theorem dX4_goWay_75 : decode cX4_goWay 75 = .ok (.iconst 1, 1) := by decide +kernel
theorem dX4_goWay_76 : decode cX4_goWay 76 = .ok (.goto 4, 3) := by decide +kernel
theorem dX4_goWay_79 : decode cX4_goWay 79 = .ok (.iconst 0, 1) := by decide +kernel
theorem dX4_goWay_80 : decode cX4_goWay 80 = .ok (.invokevirtual 78, 3) := by decide +kernel
theorem dX4_goWay_83 : decode cX4_goWay 83 = .ok (.goto 60, 3) := by decide +kernel
theorem dX4_goWay_86 : decode cX4_goWay 86 = .ok (.aload_n 0, 1) := by decide +kernel
theorem dX4_goWay_87 : decode cX4_goWay 87 = .ok (.iload_n 2, 1) := by decide +kernel
theorem dX4_goWay_88 : decode cX4_goWay 88 = .ok (.invokevirtual 82, 3) := by decide +kernel
theorem dX4_goWay_91 : decode cX4_goWay 91 = .ok (.goto 52, 3) := by decide +kernel
theorem dX4_goWay_94 : decode cX4_goWay 94 = .ok (.aload_n 0, 1) := by decide +kernel
theorem dX4_goWay_95 : decode cX4_goWay 95 = .ok (.invokevirtual 86, 3) := by decide +kernel
theorem dX4_goWay_98 : decode cX4_goWay 98 = .ok (.aload_n 0, 1) := by decide +kernel
theorem dX4_goWay_99 : decode cX4_goWay 99 = .ok (.aload_n 0, 1) := by decide +kernel
theorem dX4_goWay_100 : decode cX4_goWay 100 = .ok (.getfield 7, 3) := by decide +kernel
theorem dX4_goWay_103 : decode cX4_goWay 103 = .ok (.bipush 55, 2) := by decide +kernel
theorem dX4_goWay_105 : decode cX4_goWay 105 = .ok (.iaload, 1) := by decide +kernel
theorem dX4_goWay_106 : decode cX4_goWay 106 = .ok (.invokevirtual 89, 3) := by decide +kernel
theorem dX4_goWay_109 : decode cX4_goWay 109 = .ok (.aload_n 0, 1) := by decide +kernel
theorem dX4_goWay_110 : decode cX4_goWay 110 = .ok (.iload_n 2, 1) := by decide +kernel
theorem dX4_goWay_111 : decode cX4_goWay 111 = .ok (.invokevirtual 92, 3) := by decide +kernel
theorem dX4_goWay_114 : decode cX4_goWay 114 = .ok (.goto 29, 3) := by decide +kernel
theorem dX4_goWay_117 : decode cX4_goWay 117 = .ok (.aload_n 0, 1) := by decide +kernel
theorem dX4_goWay_118 : decode cX4_goWay 118 = .ok (.aload_n 0, 1) := by decide +kernel
theorem dX4_goWay_119 : decode cX4_goWay 119 = .ok (.getfield 7, 3) := by decide +kernel
theorem dX4_goWay_122 : decode cX4_goWay 122 = .ok (.bipush 55, 2) := by decide +kernel
theorem dX4_goWay_124 : decode cX4_goWay 124 = .ok (.iaload, 1) := by decide +kernel
theorem dX4_goWay_125 : decode cX4_goWay 125 = .ok (.iconst 1, 1) := by decide +kernel
theorem dX4_goWay_126 : decode cX4_goWay 126 = .ok (.iadd, 1) := by decide +kernel
theorem dX4_goWay_127 : decode cX4_goWay 127 = .ok (.invokevirtual 95, 3) := by decide +kernel
theorem dX4_goWay_130 : decode cX4_goWay 130 = .ok (.aload_n 0, 1) := by decide +kernel
theorem dX4_goWay_131 : decode cX4_goWay 131 = .ok (.iload_n 2, 1) := by decide +kernel
theorem dX4_goWay_132 : decode cX4_goWay 132 = .ok (.invokevirtual 92, 3) := by decide +kernel
theorem dX4_goWay_135 : decode cX4_goWay 135 = .ok (.goto 8, 3) := by decide +kernel
theorem dX4_goWay_138 : decode cX4_goWay 138 = .ok (.aload_n 0, 1) := by decide +kernel
theorem dX4_goWay_139 : decode cX4_goWay 139 = .ok (.iload_n 2, 1) := by decide +kernel
theorem dX4_goWay_140 : decode cX4_goWay 140 = .ok (.invokevirtual 98, 3) := by decide +kernel
theorem dX4_goWay_143 : decode cX4_goWay 143 = .ok (.return_, 1) := by decide +kernel
theorem dX4_keepStep_0 : decode cX4_keepStep 0 = .ok (.aload_n 0, 1) := by decide +kernel
theorem dX4_keepStep_1 : decode cX4_keepStep 1 = .ok (.getfield 7, 3) := by decide +kernel
theorem dX4_keepStep_4 : decode cX4_keepStep 4 = .ok (.sipush 328, 3) := by decide +kernel
theorem dX4_keepStep_7 : decode cX4_keepStep 7 = .ok (.iaload, 1) := by decide +kernel
theorem dX4_keepStep_8 : decode cX4_keepStep 8 = .ok (.bipush 10, 2) := by decide +kernel
theorem dX4_keepStep_10 : decode cX4_keepStep 10 = .ok (.if_icmp .ne 50, 3) := by decide +kernel
theorem dX4_keepStep_13 : decode cX4_keepStep 13 = .ok (.iconst 0, 1) := by decide +kernel
theorem dX4_keepStep_14 : decode cX4_keepStep 14 = .ok (.istore_n 1, 1) := by decide +kernel
theorem dX4_keepStep_15 : decode cX4_keepStep 15 = .ok (.iload_n 1, 1) := by decide +kernel
theorem dX4_keepStep_16 : decode cX4_keepStep 16 = .ok (.sipush 441, 3) := by decide +kernel
theorem dX4_keepStep_19 : decode cX4_keepStep 19 = .ok (.if_icmp .ge 29, 3) := by decide +kernel
theorem dX4_keepStep_22 : decode cX4_keepStep 22 = .ok (.aload_n 0, 1) := by decide +kernel
theorem dX4_keepStep_23 : decode cX4_keepStep 23 = .ok (.getfield 7, 3) := by decide +kernel
theorem dX4_keepStep_26 : decode cX4_keepStep 26 = .ok (.sipush 329, 3) := by decide +kernel
theorem dX4_keepStep_29 : decode cX4_keepStep 29 = .ok (.iload_n 1, 1) := by decide +kernel
theorem dX4_keepStep_30 : decode cX4_keepStep 30 = .ok (.iadd, 1) := by decide +kernel
theorem dX4_keepStep_31 : decode cX4_keepStep 31 = .ok (.aload_n 0, 1) := by decide +kernel
theorem dX4_keepStep_32 : decode cX4_keepStep 32 = .ok (.getfield 7, 3) := by decide +kernel
theorem dX4_keepStep_35 : decode cX4_keepStep 35 = .ok (.sipush 378, 3) := by decide +kernel
theorem dX4_keepStep_38 : decode cX4_keepStep 38 = .ok (.iload_n 1, 1) := by decide +kernel
theorem dX4_keepStep_39 : decode cX4_keepStep 39 = .ok (.iadd, 1) := by decide +kernel
theorem dX4_keepStep_40 : decode cX4_keepStep 40 = .ok (.iaload, 1) := by decide +kernel
theorem dX4_keepStep_41 : decode cX4_keepStep 41 = .ok (.iastore, 1) := by decide +kernel
theorem dX4_keepStep_42 : decode cX4_keepStep 42 = .ok (.iinc 1 1, 3) := by decide +kernel
theorem dX4_keepStep_45 : decode cX4_keepStep 45 = .ok (.goto (-30), 3) := by decide +kernel
theorem dX4_keepStep_48 : decode cX4_keepStep 48 = .ok (.aload_n 0, 1) := by decide +kernel
theorem dX4_keepStep_49 : decode cX4_keepStep 49 = .ok (.getfield 7, 3) := by decide +kernel
theorem dX4_keepStep_52 : decode cX4_keepStep 52 = .ok (.sipush 328, 3) := by decide +kernel
theorem dX4_keepStep_55 : decode cX4_keepStep 55 = .ok (.dup2, 1) := by decide +kernel
theorem dX4_keepStep_56 : decode cX4_keepStep 56 = .ok (.iaload, 1) := by decide +kernel
theorem dX4_keepStep_57 : decode cX4_keepStep 57 = .ok (.iconst 1, 1) := by decide +kernel
theorem dX4_keepStep_58 : decode cX4_keepStep 58 = .ok (.isub, 1) := by decide +kernel
theorem dX4_keepStep_59 : decode cX4_keepStep 59 = .ok (.iastore, 1) := by decide +kernel
theorem dX4_keepStep_60 : decode cX4_keepStep 60 = .ok (.iconst 0, 1) := by decide +kernel
theorem dX4_keepStep_61 : decode cX4_keepStep 61 = .ok (.istore_n 1, 1) := by decide +kernel
theorem dX4_keepStep_62 : decode cX4_keepStep 62 = .ok (.iload_n 1, 1) := by decide +kernel
theorem dX4_keepStep_63 : decode cX4_keepStep 63 = .ok (.bipush 49, 2) := by decide +kernel
theorem dX4_keepStep_65 : decode cX4_keepStep 65 = .ok (.if_icmp .ge 39, 3) := by decide +kernel
theorem dX4_keepStep_68 : decode cX4_keepStep 68 = .ok (.aload_n 0, 1) := by decide +kernel
theorem dX4_keepStep_69 : decode cX4_keepStep 69 = .ok (.getfield 7, 3) := by decide +kernel
theorem dX4_keepStep_72 : decode cX4_keepStep 72 = .ok (.sipush 329, 3) := by decide +kernel
theorem dX4_keepStep_75 : decode cX4_keepStep 75 = .ok (.bipush 49, 2) := by decide +kernel
theorem dX4_keepStep_77 : decode cX4_keepStep 77 = .ok (.aload_n 0, 1) := by decide +kernel
theorem dX4_keepStep_78 : decode cX4_keepStep 78 = .ok (.getfield 7, 3) := by decide +kernel
theorem dX4_keepStep_81 : decode cX4_keepStep 81 = .ok (.sipush 328, 3) := by decide +kernel
theorem dX4_keepStep_84 : decode cX4_keepStep 84 = .ok (.iaload, 1) := by decide +kernel
theorem dX4_keepStep_85 : decode cX4_keepStep 85 = .ok (.imul, 1) := by decide +kernel
theorem dX4_keepStep_86 : decode cX4_keepStep 86 = .ok (.iadd, 1) := by decide +kernel
theorem dX4_keepStep_87 : decode cX4_keepStep 87 = .ok (.iload_n 1, 1) := by decide +kernel
theorem dX4_keepStep_88 : decode cX4_keepStep 88 = .ok (.iadd, 1) := by decide +kernel
theorem dX4_keepStep_89 : decode cX4_keepStep 89 = .ok (.aload_n 0, 1) := by decide +kernel
theorem dX4_keepStep_90 : decode cX4_keepStep 90 = .ok (.getfield 7, 3) := by decide +kernel
theorem dX4_keepStep_93 : decode cX4_keepStep 93 = .ok (.iconst 0, 1) := by decide +kernel
theorem dX4_keepStep_94 : decode cX4_keepStep 94 = .ok (.iload_n 1, 1) := by decide +kernel
theorem dX4_keepStep_95 : decode cX4_keepStep 95 = .ok (.iadd, 1) := by decide +kernel
theorem dX4_keepStep_96 : decode cX4_keepStep 96 = .ok (.iaload, 1) := by decide +kernel
theorem dX4_keepStep_97 : decode cX4_keepStep 97 = .ok (.iastore, 1) := by decide +kernel
theorem dX4_keepStep_98 : decode cX4_keepStep 98 = .ok (.iinc 1 1, 3) := by decide +kernel
theorem dX4_keepStep_101 : decode cX4_keepStep 101 = .ok (.goto (-39), 3) := by decide +kernel
theorem dX4_keepStep_104 : decode cX4_keepStep 104 = .ok (.aload_n 0, 1) := by decide +kernel
theorem dX4_keepStep_105 : decode cX4_keepStep 105 = .ok (.getfield 7, 3) := by decide +kernel
theorem dX4_keepStep_108 : decode cX4_keepStep 108 = .ok (.sipush 328, 3) := by decide +kernel
theorem dX4_keepStep_111 : decode cX4_keepStep 111 = .ok (.dup2, 1) := by decide +kernel
theorem dX4_keepStep_112 : decode cX4_keepStep 112 = .ok (.iaload, 1) := by decide +kernel
theorem dX4_keepStep_113 : decode cX4_keepStep 113 = .ok (.iconst 1, 1) := by decide +kernel
theorem dX4_keepStep_114 : decode cX4_keepStep 114 = .ok (.iadd, 1) := by decide +kernel
theorem dX4_keepStep_115 : decode cX4_keepStep 115 = .ok (.iastore, 1) := by decide +kernel
theorem dX4_keepStep_116 : decode cX4_keepStep 116 = .ok (.return_, 1) := by decide +kernel
set_option maxRecDepth 20000 in
theorem ggX4_step_X4_in : GoodIn wsX4_step wsX4_in := goodIn_r _ [6] (by decide +kernel) (by decide +kernel)
set_option maxRecDepth 20000 in
theorem gX4_step_X4_in : GoodIn wsX4_step (va_wsS RX4 41 yX4_in wsX4_in) := goodIn_app (goodIn_of _ (by decide +kernel)) ggX4_step_X4_in
set_option maxRecDepth 20000 in
theorem ggX4_step_X4_many : GoodIn wsX4_step wsX4_many := goodIn_r _ [10, 1, 71, 72, 73, 74, 75, 76, 77, 78, 79, 80, 81, 82] (by decide +kernel) (by decide +kernel)
set_option maxRecDepth 20000 in
theorem gX4_step_X4_many : GoodIn wsX4_step (wsV RX4 57 RX4 yX4_many wsX4_many) := goodIn_app (goodIn_of _ (by decide +kernel)) ggX4_step_X4_many
set_option maxRecDepth 20000 in
theorem ggX4_step_X4_goWay : GoodIn wsX4_step wsX4_goWay := goodIn_r _ [14, 15, 1, 16, 17, 18, 5, 19, 20, 7, 8, 9, 10, 21, 22, 23, 24, 2, 25, 26, 27, 28, 29, 30, 31, 32, 33, 34, 35, 36, 37, 38, 39, 40, 41, 42, 43, 44, 45, 46, 47, 48, 49, 50, 51, 52, 53, 54, 55, 56, 57, 58, 59, 60, 61, 62, 63, 64, 65, 66, 71, 72, 73, 74, 75, 76, 77, 78, 79, 80, 81, 82] (by decide +kernel) (by decide +kernel)
set_option maxRecDepth 20000 in
theorem gX4_step_X4_goWay : GoodIn wsX4_step (wsV RX4 101 RX4 yX4_goWay wsX4_goWay) := goodIn_app (goodIn_of _ (by decide +kernel)) ggX4_step_X4_goWay
set_option maxRecDepth 20000 in
theorem ggX4_step_X4_keepStep : GoodIn wsX4_step wsX4_keepStep := goodIn_r _ [70, 1, 71, 72, 73, 74, 75, 76, 77, 78, 79, 80, 81, 82] (by decide +kernel) (by decide +kernel)
set_option maxRecDepth 20000 in
theorem gX4_step_X4_keepStep : GoodIn wsX4_step (wsV RX4 104 RX4 yX4_keepStep wsX4_keepStep) := goodIn_app (goodIn_of _ (by decide +kernel)) ggX4_step_X4_keepStep
theorem dX4_step_0 : decode cX4_step 0 = .ok (.iload_n 1, 1) := by decide +kernel
theorem dX4_step_1 : decode cX4_step 1 = .ok (.iconst 0, 1) := by decide +kernel
theorem dX4_step_2 : decode cX4_step 2 = .ok (.iconst 5, 1) := by decide +kernel
theorem dX4_step_3 : decode cX4_step 3 = .ok (.invokestatic 41, 3) := by decide +kernel
theorem dX4_step_6 : decode cX4_step 6 = .ok (.ifCond .ne 6, 3) := by decide +kernel
theorem dX4_step_9 : decode cX4_step 9 = .ok (.bipush (-2), 2) := by decide +kernel
theorem dX4_step_11 : decode cX4_step 11 = .ok (.ireturn, 1) := by decide +kernel
theorem dX4_step_12 : decode cX4_step 12 = .ok (.iload_n 1, 1) := by decide +kernel
theorem dX4_step_13 : decode cX4_step 13 = .ok (.iconst 2, 1) := by decide +kernel
theorem dX4_step_14 : decode cX4_step 14 = .ok (.if_icmp .ne 16, 3) := by decide +kernel
theorem dX4_step_17 : decode cX4_step 17 = .ok (.aload_n 0, 1) := by decide +kernel
theorem dX4_step_18 : decode cX4_step 18 = .ok (.invokevirtual 57, 3) := by decide +kernel
theorem dX4_step_21 : decode cX4_step 21 = .ok (.iconst 2, 1) := by decide +kernel
theorem dX4_step_22 : decode cX4_step 22 = .ok (.irem, 1) := by decide +kernel
theorem dX4_step_23 : decode cX4_step 23 = .ok (.iconst 1, 1) := by decide +kernel
theorem dX4_step_24 : decode cX4_step 24 = .ok (.if_icmp .ne 6, 3) := by decide +kernel
theorem dX4_step_27 : decode cX4_step 27 = .ok (.bipush (-3), 2) := by decide +kernel
theorem dX4_step_29 : decode cX4_step 29 = .ok (.ireturn, 1) := by decide +kernel
theorem dX4_step_30 : decode cX4_step 30 = .ok (.aload_n 0, 1) := by decide +kernel
theorem dX4_step_31 : decode cX4_step 31 = .ok (.iload_n 1, 1) := by decide +kernel
theorem dX4_step_32 : decode cX4_step 32 = .ok (.iload_n 2, 1) := by decide +kernel
theorem dX4_step_33 : decode cX4_step 33 = .ok (.invokevirtual 101, 3) := by decide +kernel
theorem dX4_step_36 : decode cX4_step 36 = .ok (.aload_n 0, 1) := by decide +kernel
theorem dX4_step_37 : decode cX4_step 37 = .ok (.invokevirtual 104, 3) := by decide +kernel
theorem dX4_step_40 : decode cX4_step 40 = .ok (.iconst 0, 1) := by decide +kernel
theorem dX4_step_41 : decode cX4_step 41 = .ok (.istore_n 3, 1) := by decide +kernel
theorem dX4_step_42 : decode cX4_step 42 = .ok (.iconst 0, 1) := by decide +kernel
theorem dX4_step_43 : decode cX4_step 43 = .ok (.istore 4, 2) := by decide +kernel
theorem dX4_step_45 : decode cX4_step 45 = .ok (.iload 4, 2) := by decide +kernel
theorem dX4_step_47 : decode cX4_step 47 = .ok (.aload_n 0, 1) := by decide +kernel
theorem dX4_step_48 : decode cX4_step 48 = .ok (.invokevirtual 57, 3) := by decide +kernel
theorem dX4_step_51 : decode cX4_step 51 = .ok (.if_icmp .ge 52, 3) := by decide +kernel
theorem dX4_step_54 : decode cX4_step 54 = .ok (.iload_n 3, 1) := by decide +kernel
theorem dX4_step_55 : decode cX4_step 55 = .ok (.aload_n 0, 1) := by decide +kernel
theorem dX4_step_56 : decode cX4_step 56 = .ok (.getfield 7, 3) := by decide +kernel
theorem dX4_step_59 : decode cX4_step 59 = .ok (.iconst 0, 1) := by decide +kernel
theorem dX4_step_60 : decode cX4_step 60 = .ok (.iload 4, 2) := by decide +kernel
theorem dX4_step_62 : decode cX4_step 62 = .ok (.iadd, 1) := by decide +kernel
theorem dX4_step_63 : decode cX4_step 63 = .ok (.iaload, 1) := by decide +kernel
theorem dX4_step_64 : decode cX4_step 64 = .ok (.aload_n 0, 1) := by decide +kernel
theorem dX4_step_65 : decode cX4_step 65 = .ok (.getfield 26, 3) := by decide +kernel
theorem dX4_step_68 : decode cX4_step 68 = .ok (.iload 4, 2) := by decide +kernel
theorem dX4_step_70 : decode cX4_step 70 = .ok (.iaload, 1) := by decide +kernel
theorem dX4_step_71 : decode cX4_step 71 = .ok (.if_icmp .ne 7, 3) := by decide +kernel
theorem dX4_step_74 : decode cX4_step 74 = .ok (.iconst 0, 1) := by decide +kernel
theorem dX4_step_75 : decode cX4_step 75 = .ok (.goto 4, 3) := by decide +kernel
theorem dX4_step_78 : decode cX4_step 78 = .ok (.iconst 1, 1) := by decide +kernel
theorem dX4_step_79 : decode cX4_step 79 = .ok (.iadd, 1) := by decide +kernel
theorem dX4_step_80 : decode cX4_step 80 = .ok (.istore_n 3, 1) := by decide +kernel
theorem dX4_step_81 : decode cX4_step 81 = .ok (.aload_n 0, 1) := by decide +kernel
theorem dX4_step_82 : decode cX4_step 82 = .ok (.getfield 7, 3) := by decide +kernel
theorem dX4_step_85 : decode cX4_step 85 = .ok (.iconst 0, 1) := by decide +kernel
theorem dX4_step_86 : decode cX4_step 86 = .ok (.iload 4, 2) := by decide +kernel
theorem dX4_step_88 : decode cX4_step 88 = .ok (.iadd, 1) := by decide +kernel
theorem dX4_step_89 : decode cX4_step 89 = .ok (.aload_n 0, 1) := by decide +kernel
theorem dX4_step_90 : decode cX4_step 90 = .ok (.getfield 26, 3) := by decide +kernel
theorem dX4_step_93 : decode cX4_step 93 = .ok (.iload 4, 2) := by decide +kernel
theorem dX4_step_95 : decode cX4_step 95 = .ok (.iaload, 1) := by decide +kernel
theorem dX4_step_96 : decode cX4_step 96 = .ok (.iastore, 1) := by decide +kernel
theorem dX4_step_97 : decode cX4_step 97 = .ok (.iinc 4 1, 3) := by decide +kernel
theorem dX4_step_100 : decode cX4_step 100 = .ok (.goto (-55), 3) := by decide +kernel
theorem dX4_step_103 : decode cX4_step 103 = .ok (.iload_n 3, 1) := by decide +kernel
theorem dX4_step_104 : decode cX4_step 104 = .ok (.ireturn, 1) := by decide +kernel
set_option maxRecDepth 20000 in
theorem ggX4_hide_X4_step : GoodIn wsX4_hide wsX4_step := goodIn_r _ [5, 6, 7, 8, 9, 4, 10, 11, 12, 13, 14, 15, 16, 17, 18, 19, 20, 21, 22, 23, 24, 25, 26, 27, 28, 29, 30, 31, 32, 33, 34, 35, 36, 37, 38, 39, 40, 41, 42, 43, 44, 45, 46, 47, 48, 49, 50, 51, 52, 53, 54, 55, 56, 57, 58, 59, 60, 61, 62, 63, 64, 65, 66, 67, 68, 69, 70, 71, 72, 73, 74, 75, 76, 77, 78, 79, 80, 81, 82, 83, 84, 85, 86] (by decide +kernel) (by decide +kernel)
set_option maxRecDepth 20000 in
theorem gX4_hide_X4_step : GoodIn wsX4_hide (wsV RX4 107 RX4 yX4_step wsX4_step) := goodIn_app (goodIn_of _ (by decide +kernel)) ggX4_hide_X4_step
theorem dX4_hide_0 : decode cX4_hide 0 = .ok (.aload_n 0, 1) := by decide +kernel
theorem dX4_hide_1 : decode cX4_hide 1 = .ok (.iload_n 1, 1) := by decide +kernel
theorem dX4_hide_2 : decode cX4_hide 2 = .ok (.iconst 1, 1) := by decide +kernel
theorem dX4_hide_3 : decode cX4_hide 3 = .ok (.invokevirtual 107, 3) := by decide +kernel
theorem dX4_hide_6 : decode cX4_hide 6 = .ok (.ireturn, 1) := by decide +kernel
set_option maxRecDepth 20000 in
theorem ggX4_find_X4_step : GoodIn wsX4_find wsX4_step := goodIn_r _ [5, 6, 7, 8, 9, 4, 10, 11, 12, 13, 14, 15, 16, 17, 18, 19, 20, 21, 22, 23, 24, 25, 26, 27, 28, 29, 30, 31, 32, 33, 34, 35, 36, 37, 38, 39, 40, 41, 42, 43, 44, 45, 46, 47, 48, 49, 50, 51, 52, 53, 54, 55, 56, 57, 58, 59, 60, 61, 62, 63, 64, 65, 66, 67, 68, 69, 70, 71, 72, 73, 74, 75, 76, 77, 78, 79, 80, 81, 82, 83, 84, 85, 86] (by decide +kernel) (by decide +kernel)
set_option maxRecDepth 20000 in
theorem gX4_find_X4_step : GoodIn wsX4_find (wsV RX4 107 RX4 yX4_step wsX4_step) := goodIn_app (goodIn_of _ (by decide +kernel)) ggX4_find_X4_step
theorem dX4_find_0 : decode cX4_find 0 = .ok (.aload_n 0, 1) := by decide +kernel
theorem dX4_find_1 : decode cX4_find 1 = .ok (.iload_n 1, 1) := by decide +kernel
theorem dX4_find_2 : decode cX4_find 2 = .ok (.iconst (-1), 1) := by decide +kernel
theorem dX4_find_3 : decode cX4_find 3 = .ok (.invokevirtual 107, 3) := by decide +kernel
theorem dX4_find_6 : decode cX4_find 6 = .ok (.ireturn, 1) := by decide +kernel
theorem dX4_undo_0 : decode cX4_undo 0 = .ok (.aload_n 0, 1) := by decide +kernel
theorem dX4_undo_1 : decode cX4_undo 1 = .ok (.getfield 7, 3) := by decide +kernel
theorem dX4_undo_4 : decode cX4_undo 4 = .ok (.sipush 328, 3) := by decide +kernel
theorem dX4_undo_7 : decode cX4_undo 7 = .ok (.iaload, 1) := by decide +kernel
theorem dX4_undo_8 : decode cX4_undo 8 = .ok (.ifCond .ne 6, 3) := by decide +kernel
theorem dX4_undo_11 : decode cX4_undo 11 = .ok (.bipush (-3), 2) := by decide +kernel
theorem dX4_undo_13 : decode cX4_undo 13 = .ok (.ireturn, 1) := by decide +kernel
theorem dX4_undo_14 : decode cX4_undo 14 = .ok (.aload_n 0, 1) := by decide +kernel
theorem dX4_undo_15 : decode cX4_undo 15 = .ok (.getfield 7, 3) := by decide +kernel
theorem dX4_undo_18 : decode cX4_undo 18 = .ok (.sipush 328, 3) := by decide +kernel
theorem dX4_undo_21 : decode cX4_undo 21 = .ok (.dup2, 1) := by decide +kernel
theorem dX4_undo_22 : decode cX4_undo 22 = .ok (.iaload, 1) := by decide +kernel
theorem dX4_undo_23 : decode cX4_undo 23 = .ok (.iconst 1, 1) := by decide +kernel
theorem dX4_undo_24 : decode cX4_undo 24 = .ok (.isub, 1) := by decide +kernel
theorem dX4_undo_25 : decode cX4_undo 25 = .ok (.iastore, 1) := by decide +kernel
theorem dX4_undo_26 : decode cX4_undo 26 = .ok (.iconst 0, 1) := by decide +kernel
theorem dX4_undo_27 : decode cX4_undo 27 = .ok (.istore_n 1, 1) := by decide +kernel
theorem dX4_undo_28 : decode cX4_undo 28 = .ok (.iload_n 1, 1) := by decide +kernel
theorem dX4_undo_29 : decode cX4_undo 29 = .ok (.bipush 49, 2) := by decide +kernel
theorem dX4_undo_31 : decode cX4_undo 31 = .ok (.if_icmp .ge 39, 3) := by decide +kernel
theorem dX4_undo_34 : decode cX4_undo 34 = .ok (.aload_n 0, 1) := by decide +kernel
theorem dX4_undo_35 : decode cX4_undo 35 = .ok (.getfield 7, 3) := by decide +kernel
theorem dX4_undo_38 : decode cX4_undo 38 = .ok (.iconst 0, 1) := by decide +kernel
theorem dX4_undo_39 : decode cX4_undo 39 = .ok (.iload_n 1, 1) := by decide +kernel
theorem dX4_undo_40 : decode cX4_undo 40 = .ok (.iadd, 1) := by decide +kernel
theorem dX4_undo_41 : decode cX4_undo 41 = .ok (.aload_n 0, 1) := by decide +kernel
theorem dX4_undo_42 : decode cX4_undo 42 = .ok (.getfield 7, 3) := by decide +kernel
theorem dX4_undo_45 : decode cX4_undo 45 = .ok (.sipush 329, 3) := by decide +kernel
theorem dX4_undo_48 : decode cX4_undo 48 = .ok (.bipush 49, 2) := by decide +kernel
theorem dX4_undo_50 : decode cX4_undo 50 = .ok (.aload_n 0, 1) := by decide +kernel
theorem dX4_undo_51 : decode cX4_undo 51 = .ok (.getfield 7, 3) := by decide +kernel
theorem dX4_undo_54 : decode cX4_undo 54 = .ok (.sipush 328, 3) := by decide +kernel
theorem dX4_undo_57 : decode cX4_undo 57 = .ok (.iaload, 1) := by decide +kernel
theorem dX4_undo_58 : decode cX4_undo 58 = .ok (.imul, 1) := by decide +kernel
theorem dX4_undo_59 : decode cX4_undo 59 = .ok (.iadd, 1) := by decide +kernel
theorem dX4_undo_60 : decode cX4_undo 60 = .ok (.iload_n 1, 1) := by decide +kernel
theorem dX4_undo_61 : decode cX4_undo 61 = .ok (.iadd, 1) := by decide +kernel
theorem dX4_undo_62 : decode cX4_undo 62 = .ok (.iaload, 1) := by decide +kernel
theorem dX4_undo_63 : decode cX4_undo 63 = .ok (.iastore, 1) := by decide +kernel
theorem dX4_undo_64 : decode cX4_undo 64 = .ok (.iinc 1 1, 3) := by decide +kernel
theorem dX4_undo_67 : decode cX4_undo 67 = .ok (.goto (-39), 3) := by decide +kernel
theorem dX4_undo_70 : decode cX4_undo 70 = .ok (.aload_n 0, 1) := by decide +kernel
theorem dX4_undo_71 : decode cX4_undo 71 = .ok (.getfield 7, 3) := by decide +kernel
theorem dX4_undo_74 : decode cX4_undo 74 = .ok (.sipush 328, 3) := by decide +kernel
theorem dX4_undo_77 : decode cX4_undo 77 = .ok (.iaload, 1) := by decide +kernel
theorem dX4_undo_78 : decode cX4_undo 78 = .ok (.ireturn, 1) := by decide +kernel
set_option maxRecDepth 20000 in
theorem ggX4_times_X4_isLetter : GoodIn wsX4_times wsX4_isLetter := goodIn_r _ [5, 6, 7, 4, 8] (by decide +kernel) (by decide +kernel)
set_option maxRecDepth 20000 in
theorem gX4_times_X4_isLetter : GoodIn wsX4_times (va_wsS RX4 49 yX4_isLetter wsX4_isLetter) := goodIn_app (goodIn_of _ (by decide +kernel)) ggX4_times_X4_isLetter
set_option maxRecDepth 20000 in
theorem ggX4_times_X4_many : GoodIn wsX4_times wsX4_many := goodIn_r _ [12, 1, 13, 14, 15, 16, 17, 18, 19, 20, 21, 22, 23, 24] (by decide +kernel) (by decide +kernel)
set_option maxRecDepth 20000 in
theorem gX4_times_X4_many : GoodIn wsX4_times (wsV RX4 57 RX4 yX4_many wsX4_many) := goodIn_app (goodIn_of _ (by decide +kernel)) ggX4_times_X4_many
theorem dX4_times_0 : decode cX4_times 0 = .ok (.iload_n 1, 1) := by decide +kernel
theorem dX4_times_1 : decode cX4_times 1 = .ok (.invokestatic 49, 3) := by decide +kernel
theorem dX4_times_4 : decode cX4_times 4 = .ok (.ifCond .ne 6, 3) := by decide +kernel
theorem dX4_times_7 : decode cX4_times 7 = .ok (.bipush (-2), 2) := by decide +kernel
theorem dX4_times_9 : decode cX4_times 9 = .ok (.ireturn, 1) := by decide +kernel
theorem dX4_times_10 : decode cX4_times 10 = .ok (.iconst 0, 1) := by decide +kernel
theorem dX4_times_11 : decode cX4_times 11 = .ok (.istore_n 2, 1) := by decide +kernel
theorem dX4_times_12 : decode cX4_times 12 = .ok (.iconst 0, 1) := by decide +kernel
theorem dX4_times_13 : decode cX4_times 13 = .ok (.istore_n 3, 1) := by decide +kernel
theorem dX4_times_14 : decode cX4_times 14 = .ok (.iload_n 3, 1) := by decide +kernel
theorem dX4_times_15 : decode cX4_times 15 = .ok (.aload_n 0, 1) := by decide +kernel
theorem dX4_times_16 : decode cX4_times 16 = .ok (.invokevirtual 57, 3) := by decide +kernel
theorem dX4_times_19 : decode cX4_times 19 = .ok (.if_icmp .ge 29, 3) := by decide +kernel
theorem dX4_times_22 : decode cX4_times 22 = .ok (.iload_n 2, 1) := by decide +kernel
theorem dX4_times_23 : decode cX4_times 23 = .ok (.aload_n 0, 1) := by decide +kernel
theorem dX4_times_24 : decode cX4_times 24 = .ok (.getfield 7, 3) := by decide +kernel
theorem dX4_times_27 : decode cX4_times 27 = .ok (.iconst 0, 1) := by decide +kernel
theorem dX4_times_28 : decode cX4_times 28 = .ok (.iload_n 3, 1) := by decide +kernel
theorem dX4_times_29 : decode cX4_times 29 = .ok (.iadd, 1) := by decide +kernel
theorem dX4_times_30 : decode cX4_times 30 = .ok (.iaload, 1) := by decide +kernel
theorem dX4_times_31 : decode cX4_times 31 = .ok (.iload_n 1, 1) := by decide +kernel
theorem dX4_times_32 : decode cX4_times 32 = .ok (.if_icmp .ne 7, 3) := by decide +kernel
theorem dX4_times_35 : decode cX4_times 35 = .ok (.iconst 1, 1) := by decide +kernel
theorem dX4_times_36 : decode cX4_times 36 = .ok (.goto 4, 3) := by decide +kernel
theorem dX4_times_39 : decode cX4_times 39 = .ok (.iconst 0, 1) := by decide +kernel
theorem dX4_times_40 : decode cX4_times 40 = .ok (.iadd, 1) := by decide +kernel
theorem dX4_times_41 : decode cX4_times 41 = .ok (.istore_n 2, 1) := by decide +kernel
theorem dX4_times_42 : decode cX4_times 42 = .ok (.iinc 3 1, 3) := by decide +kernel
theorem dX4_times_45 : decode cX4_times 45 = .ok (.goto (-31), 3) := by decide +kernel
theorem dX4_times_48 : decode cX4_times 48 = .ok (.iload_n 2, 1) := by decide +kernel
theorem dX4_times_49 : decode cX4_times 49 = .ok (.ireturn, 1) := by decide +kernel
set_option maxRecDepth 20000 in
theorem ggX4_sameAt_X4_many : GoodIn wsX4_sameAt wsX4_many := goodIn_r _ [6, 1, 7, 8, 9, 10, 11, 12, 13, 14, 15, 16, 17, 18] (by decide +kernel) (by decide +kernel)
set_option maxRecDepth 20000 in
theorem gX4_sameAt_X4_many : GoodIn wsX4_sameAt (wsV RX4 57 RX4 yX4_many wsX4_many) := goodIn_app (goodIn_of _ (by decide +kernel)) ggX4_sameAt_X4_many
theorem dX4_sameAt_0 : decode cX4_sameAt 0 = .ok (.iconst 0, 1) := by decide +kernel
theorem dX4_sameAt_1 : decode cX4_sameAt 1 = .ok (.istore_n 2, 1) := by decide +kernel
theorem dX4_sameAt_2 : decode cX4_sameAt 2 = .ok (.iconst 0, 1) := by decide +kernel
theorem dX4_sameAt_3 : decode cX4_sameAt 3 = .ok (.istore_n 3, 1) := by decide +kernel
theorem dX4_sameAt_4 : decode cX4_sameAt 4 = .ok (.iload_n 3, 1) := by decide +kernel
theorem dX4_sameAt_5 : decode cX4_sameAt 5 = .ok (.iload_n 1, 1) := by decide +kernel
theorem dX4_sameAt_6 : decode cX4_sameAt 6 = .ok (.iadd, 1) := by decide +kernel
theorem dX4_sameAt_7 : decode cX4_sameAt 7 = .ok (.aload_n 0, 1) := by decide +kernel
theorem dX4_sameAt_8 : decode cX4_sameAt 8 = .ok (.invokevirtual 57, 3) := by decide +kernel
theorem dX4_sameAt_11 : decode cX4_sameAt 11 = .ok (.if_icmp .ge 38, 3) := by decide +kernel
theorem dX4_sameAt_14 : decode cX4_sameAt 14 = .ok (.iload_n 2, 1) := by decide +kernel
theorem dX4_sameAt_15 : decode cX4_sameAt 15 = .ok (.aload_n 0, 1) := by decide +kernel
theorem dX4_sameAt_16 : decode cX4_sameAt 16 = .ok (.getfield 7, 3) := by decide +kernel
theorem dX4_sameAt_19 : decode cX4_sameAt 19 = .ok (.iconst 0, 1) := by decide +kernel
theorem dX4_sameAt_20 : decode cX4_sameAt 20 = .ok (.iload_n 3, 1) := by decide +kernel
theorem dX4_sameAt_21 : decode cX4_sameAt 21 = .ok (.iadd, 1) := by decide +kernel
theorem dX4_sameAt_22 : decode cX4_sameAt 22 = .ok (.iaload, 1) := by decide +kernel
theorem dX4_sameAt_23 : decode cX4_sameAt 23 = .ok (.aload_n 0, 1) := by decide +kernel
theorem dX4_sameAt_24 : decode cX4_sameAt 24 = .ok (.getfield 7, 3) := by decide +kernel
theorem dX4_sameAt_27 : decode cX4_sameAt 27 = .ok (.iconst 0, 1) := by decide +kernel
theorem dX4_sameAt_28 : decode cX4_sameAt 28 = .ok (.iload_n 3, 1) := by decide +kernel
theorem dX4_sameAt_29 : decode cX4_sameAt 29 = .ok (.iadd, 1) := by decide +kernel
theorem dX4_sameAt_30 : decode cX4_sameAt 30 = .ok (.iload_n 1, 1) := by decide +kernel
theorem dX4_sameAt_31 : decode cX4_sameAt 31 = .ok (.iadd, 1) := by decide +kernel
theorem dX4_sameAt_32 : decode cX4_sameAt 32 = .ok (.iaload, 1) := by decide +kernel
theorem dX4_sameAt_33 : decode cX4_sameAt 33 = .ok (.if_icmp .ne 7, 3) := by decide +kernel
theorem dX4_sameAt_36 : decode cX4_sameAt 36 = .ok (.iconst 1, 1) := by decide +kernel
theorem dX4_sameAt_37 : decode cX4_sameAt 37 = .ok (.goto 4, 3) := by decide +kernel
theorem dX4_sameAt_40 : decode cX4_sameAt 40 = .ok (.iconst 0, 1) := by decide +kernel
theorem dX4_sameAt_41 : decode cX4_sameAt 41 = .ok (.iadd, 1) := by decide +kernel
theorem dX4_sameAt_42 : decode cX4_sameAt 42 = .ok (.istore_n 2, 1) := by decide +kernel
theorem dX4_sameAt_43 : decode cX4_sameAt 43 = .ok (.iinc 3 1, 3) := by decide +kernel
theorem dX4_sameAt_46 : decode cX4_sameAt 46 = .ok (.goto (-42), 3) := by decide +kernel
theorem dX4_sameAt_49 : decode cX4_sameAt 49 = .ok (.iload_n 2, 1) := by decide +kernel
theorem dX4_sameAt_50 : decode cX4_sameAt 50 = .ok (.ireturn, 1) := by decide +kernel
set_option maxRecDepth 20000 in
theorem ggX4_same_X4_in : GoodIn wsX4_same wsX4_in := goodIn_r _ [4] (by decide +kernel) (by decide +kernel)
set_option maxRecDepth 20000 in
theorem gX4_same_X4_in : GoodIn wsX4_same (va_wsS RX4 41 yX4_in wsX4_in) := goodIn_app (goodIn_of _ (by decide +kernel)) ggX4_same_X4_in
set_option maxRecDepth 20000 in
theorem ggX4_same_X4_sameAt : GoodIn wsX4_same wsX4_sameAt := goodIn_r _ [8, 9, 10, 11, 12, 3, 13, 14, 15, 16, 17, 18, 19, 20, 21, 22, 23, 24, 25] (by decide +kernel) (by decide +kernel)
set_option maxRecDepth 20000 in
theorem gX4_same_X4_sameAt : GoodIn wsX4_same (wsV RX4 110 RX4 yX4_sameAt wsX4_sameAt) := goodIn_app (goodIn_of _ (by decide +kernel)) ggX4_same_X4_sameAt
theorem dX4_same_0 : decode cX4_same 0 = .ok (.iload_n 1, 1) := by decide +kernel
theorem dX4_same_1 : decode cX4_same 1 = .ok (.iconst 1, 1) := by decide +kernel
theorem dX4_same_2 : decode cX4_same 2 = .ok (.bipush 47, 2) := by decide +kernel
theorem dX4_same_4 : decode cX4_same 4 = .ok (.invokestatic 41, 3) := by decide +kernel
theorem dX4_same_7 : decode cX4_same 7 = .ok (.ifCond .eq 11, 3) := by decide +kernel
theorem dX4_same_10 : decode cX4_same 10 = .ok (.aload_n 0, 1) := by decide +kernel
theorem dX4_same_11 : decode cX4_same 11 = .ok (.iload_n 1, 1) := by decide +kernel
theorem dX4_same_12 : decode cX4_same 12 = .ok (.invokevirtual 110, 3) := by decide +kernel
theorem dX4_same_15 : decode cX4_same 15 = .ok (.goto 5, 3) := by decide +kernel
theorem dX4_same_18 : decode cX4_same 18 = .ok (.bipush (-2), 2) := by decide +kernel
theorem dX4_same_20 : decode cX4_same 20 = .ok (.ireturn, 1) := by decide +kernel
set_option maxRecDepth 20000 in
theorem ggX4_length_X4_in : GoodIn wsX4_length wsX4_in := goodIn_r _ [4] (by decide +kernel) (by decide +kernel)
set_option maxRecDepth 20000 in
theorem gX4_length_X4_in : GoodIn wsX4_length (va_wsS RX4 41 yX4_in wsX4_in) := goodIn_app (goodIn_of _ (by decide +kernel)) ggX4_length_X4_in
set_option maxRecDepth 20000 in
theorem ggX4_length_X4_many : GoodIn wsX4_length wsX4_many := goodIn_r _ [8, 9, 14, 15, 16, 17, 18, 19, 20, 21, 22, 23, 24, 25] (by decide +kernel) (by decide +kernel)
set_option maxRecDepth 20000 in
theorem gX4_length_X4_many : GoodIn wsX4_length (wsV RX4 57 RX4 yX4_many wsX4_many) := goodIn_app (goodIn_of _ (by decide +kernel)) ggX4_length_X4_many
set_option maxRecDepth 20000 in
theorem ggX4_length_X4_sameAt : GoodIn wsX4_length wsX4_sameAt := goodIn_r _ [13, 9, 5, 6, 7, 3, 8, 14, 15, 16, 17, 18, 19, 20, 21, 22, 23, 24, 25] (by decide +kernel) (by decide +kernel)
set_option maxRecDepth 20000 in
theorem gX4_length_X4_sameAt : GoodIn wsX4_length (wsV RX4 110 RX4 yX4_sameAt wsX4_sameAt) := goodIn_app (goodIn_of _ (by decide +kernel)) ggX4_length_X4_sameAt
theorem dX4_length_0 : decode cX4_length 0 = .ok (.iload_n 1, 1) := by decide +kernel
theorem dX4_length_1 : decode cX4_length 1 = .ok (.iconst 1, 1) := by decide +kernel
theorem dX4_length_2 : decode cX4_length 2 = .ok (.bipush 20, 2) := by decide +kernel
theorem dX4_length_4 : decode cX4_length 4 = .ok (.invokestatic 41, 3) := by decide +kernel
theorem dX4_length_7 : decode cX4_length 7 = .ok (.ifCond .ne 6, 3) := by decide +kernel
theorem dX4_length_10 : decode cX4_length 10 = .ok (.bipush (-2), 2) := by decide +kernel
theorem dX4_length_12 : decode cX4_length 12 = .ok (.ireturn, 1) := by decide +kernel
theorem dX4_length_13 : decode cX4_length 13 = .ok (.bipush (-6), 2) := by decide +kernel
theorem dX4_length_15 : decode cX4_length 15 = .ok (.istore_n 2, 1) := by decide +kernel
theorem dX4_length_16 : decode cX4_length 16 = .ok (.iconst 1, 1) := by decide +kernel
theorem dX4_length_17 : decode cX4_length 17 = .ok (.istore_n 3, 1) := by decide +kernel
theorem dX4_length_18 : decode cX4_length 18 = .ok (.iload_n 3, 1) := by decide +kernel
theorem dX4_length_19 : decode cX4_length 19 = .ok (.iload_n 1, 1) := by decide +kernel
theorem dX4_length_20 : decode cX4_length 20 = .ok (.if_icmp .gt 66, 3) := by decide +kernel
theorem dX4_length_23 : decode cX4_length 23 = .ok (.iload_n 3, 1) := by decide +kernel
theorem dX4_length_24 : decode cX4_length 24 = .ok (.aload_n 0, 1) := by decide +kernel
theorem dX4_length_25 : decode cX4_length 25 = .ok (.invokevirtual 57, 3) := by decide +kernel
theorem dX4_length_28 : decode cX4_length 28 = .ok (.if_icmp .ge 58, 3) := by decide +kernel
theorem dX4_length_31 : decode cX4_length 31 = .ok (.iload_n 2, 1) := by decide +kernel
theorem dX4_length_32 : decode cX4_length 32 = .ok (.ifCond .lt 30, 3) := by decide +kernel
theorem dX4_length_35 : decode cX4_length 35 = .ok (.aload_n 0, 1) := by decide +kernel
theorem dX4_length_36 : decode cX4_length 36 = .ok (.iload_n 3, 1) := by decide +kernel
theorem dX4_length_37 : decode cX4_length 37 = .ok (.invokevirtual 110, 3) := by decide +kernel
theorem dX4_length_40 : decode cX4_length 40 = .ok (.aload_n 0, 1) := by decide +kernel
theorem dX4_length_41 : decode cX4_length 41 = .ok (.invokevirtual 57, 3) := by decide +kernel
theorem dX4_length_44 : decode cX4_length 44 = .ok (.iload_n 2, 1) := by decide +kernel
theorem dX4_length_45 : decode cX4_length 45 = .ok (.isub, 1) := by decide +kernel
theorem dX4_length_46 : decode cX4_length 46 = .ok (.imul, 1) := by decide +kernel
theorem dX4_length_47 : decode cX4_length 47 = .ok (.aload_n 0, 1) := by decide +kernel
theorem dX4_length_48 : decode cX4_length 48 = .ok (.iload_n 2, 1) := by decide +kernel
theorem dX4_length_49 : decode cX4_length 49 = .ok (.invokevirtual 110, 3) := by decide +kernel
theorem dX4_length_52 : decode cX4_length 52 = .ok (.aload_n 0, 1) := by decide +kernel
theorem dX4_length_53 : decode cX4_length 53 = .ok (.invokevirtual 57, 3) := by decide +kernel
theorem dX4_length_56 : decode cX4_length 56 = .ok (.iload_n 3, 1) := by decide +kernel
theorem dX4_length_57 : decode cX4_length 57 = .ok (.isub, 1) := by decide +kernel
theorem dX4_length_58 : decode cX4_length 58 = .ok (.imul, 1) := by decide +kernel
theorem dX4_length_59 : decode cX4_length 59 = .ok (.if_icmp .le 7, 3) := by decide +kernel
theorem dX4_length_62 : decode cX4_length 62 = .ok (.iconst 1, 1) := by decide +kernel
theorem dX4_length_63 : decode cX4_length 63 = .ok (.goto 4, 3) := by decide +kernel
theorem dX4_length_66 : decode cX4_length 66 = .ok (.iconst 0, 1) := by decide +kernel
theorem dX4_length_67 : decode cX4_length 67 = .ok (.istore 4, 2) := by decide +kernel
theorem dX4_length_69 : decode cX4_length 69 = .ok (.iload 4, 2) := by decide +kernel
theorem dX4_length_71 : decode cX4_length 71 = .ok (.ifCond .eq 7, 3) := by decide +kernel
theorem dX4_length_74 : decode cX4_length 74 = .ok (.iload_n 3, 1) := by decide +kernel
theorem dX4_length_75 : decode cX4_length 75 = .ok (.goto 4, 3) := by decide +kernel
theorem dX4_length_78 : decode cX4_length 78 = .ok (.iload_n 2, 1) := by decide +kernel
theorem dX4_length_79 : decode cX4_length 79 = .ok (.istore_n 2, 1) := by decide +kernel
theorem dX4_length_80 : decode cX4_length 80 = .ok (.iinc 3 1, 3) := by decide +kernel
theorem dX4_length_83 : decode cX4_length 83 = .ok (.goto (-65), 3) := by decide +kernel
theorem dX4_length_86 : decode cX4_length 86 = .ok (.iload_n 2, 1) := by decide +kernel
theorem dX4_length_87 : decode cX4_length 87 = .ok (.ireturn, 1) := by decide +kernel
set_option maxRecDepth 20000 in
theorem ggX4_score_X4_many : GoodIn wsX4_score wsX4_many := goodIn_r _ [6, 1, 7, 8, 9, 10, 11, 12, 13, 14, 15, 16, 17, 18] (by decide +kernel) (by decide +kernel)
set_option maxRecDepth 20000 in
theorem gX4_score_X4_many : GoodIn wsX4_score (wsV RX4 57 RX4 yX4_many wsX4_many) := goodIn_app (goodIn_of _ (by decide +kernel)) ggX4_score_X4_many
theorem dX4_score_0 : decode cX4_score 0 = .ok (.iconst 0, 1) := by decide +kernel
theorem dX4_score_1 : decode cX4_score 1 = .ok (.istore 4, 2) := by decide +kernel
theorem dX4_score_3 : decode cX4_score 3 = .ok (.iload_n 2, 1) := by decide +kernel
theorem dX4_score_4 : decode cX4_score 4 = .ok (.istore 5, 2) := by decide +kernel
theorem dX4_score_6 : decode cX4_score 6 = .ok (.iload 5, 2) := by decide +kernel
theorem dX4_score_8 : decode cX4_score 8 = .ok (.aload_n 0, 1) := by decide +kernel
theorem dX4_score_9 : decode cX4_score 9 = .ok (.invokevirtual 57, 3) := by decide +kernel
theorem dX4_score_12 : decode cX4_score 12 = .ok (.if_icmp .ge 42, 3) := by decide +kernel
theorem dX4_score_15 : decode cX4_score 15 = .ok (.iload 4, 2) := by decide +kernel
theorem dX4_score_17 : decode cX4_score 17 = .ok (.aload_n 0, 1) := by decide +kernel
theorem dX4_score_18 : decode cX4_score 18 = .ok (.getfield 7, 3) := by decide +kernel
theorem dX4_score_21 : decode cX4_score 21 = .ok (.bipush 56, 2) := by decide +kernel
theorem dX4_score_23 : decode cX4_score 23 = .ok (.aload_n 0, 1) := by decide +kernel
theorem dX4_score_24 : decode cX4_score 24 = .ok (.getfield 7, 3) := by decide +kernel
theorem dX4_score_27 : decode cX4_score 27 = .ok (.iconst 0, 1) := by decide +kernel
theorem dX4_score_28 : decode cX4_score 28 = .ok (.iload 5, 2) := by decide +kernel
theorem dX4_score_30 : decode cX4_score 30 = .ok (.iadd, 1) := by decide +kernel
theorem dX4_score_31 : decode cX4_score 31 = .ok (.iaload, 1) := by decide +kernel
theorem dX4_score_32 : decode cX4_score 32 = .ok (.iload_n 3, 1) := by decide +kernel
theorem dX4_score_33 : decode cX4_score 33 = .ok (.isub, 1) := by decide +kernel
theorem dX4_score_34 : decode cX4_score 34 = .ok (.bipush 16, 2) := by decide +kernel
theorem dX4_score_36 : decode cX4_score 36 = .ok (.iadd, 1) := by decide +kernel
theorem dX4_score_37 : decode cX4_score 37 = .ok (.bipush 16, 2) := by decide +kernel
theorem dX4_score_39 : decode cX4_score 39 = .ok (.irem, 1) := by decide +kernel
theorem dX4_score_40 : decode cX4_score 40 = .ok (.iadd, 1) := by decide +kernel
theorem dX4_score_41 : decode cX4_score 41 = .ok (.iaload, 1) := by decide +kernel
theorem dX4_score_42 : decode cX4_score 42 = .ok (.iadd, 1) := by decide +kernel
theorem dX4_score_43 : decode cX4_score 43 = .ok (.istore 4, 2) := by decide +kernel
theorem dX4_score_45 : decode cX4_score 45 = .ok (.iload 5, 2) := by decide +kernel
theorem dX4_score_47 : decode cX4_score 47 = .ok (.iload_n 1, 1) := by decide +kernel
theorem dX4_score_48 : decode cX4_score 48 = .ok (.iadd, 1) := by decide +kernel
theorem dX4_score_49 : decode cX4_score 49 = .ok (.istore 5, 2) := by decide +kernel
theorem dX4_score_51 : decode cX4_score 51 = .ok (.goto (-45), 3) := by decide +kernel
theorem dX4_score_54 : decode cX4_score 54 = .ok (.iload 4, 2) := by decide +kernel
theorem dX4_score_56 : decode cX4_score 56 = .ok (.ireturn, 1) := by decide +kernel
set_option maxRecDepth 20000 in
theorem ggX4_rankOf_X4_score : GoodIn wsX4_rankOf wsX4_score := goodIn_r _ [5, 6, 7, 8, 9, 4, 10, 11, 12, 13, 14, 15, 16, 17, 18, 19, 20, 21, 22] (by decide +kernel) (by decide +kernel)
set_option maxRecDepth 20000 in
theorem gX4_rankOf_X4_score : GoodIn wsX4_rankOf (wsV RX4 113 RX4 yX4_score wsX4_score) := goodIn_app (goodIn_of _ (by decide +kernel)) ggX4_rankOf_X4_score
theorem dX4_rankOf_0 : decode cX4_rankOf 0 = .ok (.aload_n 0, 1) := by decide +kernel
theorem dX4_rankOf_1 : decode cX4_rankOf 1 = .ok (.iload_n 1, 1) := by decide +kernel
theorem dX4_rankOf_2 : decode cX4_rankOf 2 = .ok (.iload_n 2, 1) := by decide +kernel
theorem dX4_rankOf_3 : decode cX4_rankOf 3 = .ok (.iload_n 3, 1) := by decide +kernel
theorem dX4_rankOf_4 : decode cX4_rankOf 4 = .ok (.invokevirtual 113, 3) := by decide +kernel
theorem dX4_rankOf_7 : decode cX4_rankOf 7 = .ok (.istore 4, 2) := by decide +kernel
theorem dX4_rankOf_9 : decode cX4_rankOf 9 = .ok (.iconst 0, 1) := by decide +kernel
theorem dX4_rankOf_10 : decode cX4_rankOf 10 = .ok (.istore 5, 2) := by decide +kernel
theorem dX4_rankOf_12 : decode cX4_rankOf 12 = .ok (.iconst 0, 1) := by decide +kernel
theorem dX4_rankOf_13 : decode cX4_rankOf 13 = .ok (.istore 6, 2) := by decide +kernel
theorem dX4_rankOf_15 : decode cX4_rankOf 15 = .ok (.iload 6, 2) := by decide +kernel
theorem dX4_rankOf_17 : decode cX4_rankOf 17 = .ok (.bipush 16, 2) := by decide +kernel
theorem dX4_rankOf_19 : decode cX4_rankOf 19 = .ok (.if_icmp .ge 49, 3) := by decide +kernel
theorem dX4_rankOf_22 : decode cX4_rankOf 22 = .ok (.aload_n 0, 1) := by decide +kernel
theorem dX4_rankOf_23 : decode cX4_rankOf 23 = .ok (.iload_n 1, 1) := by decide +kernel
theorem dX4_rankOf_24 : decode cX4_rankOf 24 = .ok (.iload_n 2, 1) := by decide +kernel
theorem dX4_rankOf_25 : decode cX4_rankOf 25 = .ok (.iload 6, 2) := by decide +kernel
theorem dX4_rankOf_27 : decode cX4_rankOf 27 = .ok (.invokevirtual 113, 3) := by decide +kernel
theorem dX4_rankOf_30 : decode cX4_rankOf 30 = .ok (.istore 7, 2) := by decide +kernel
theorem dX4_rankOf_32 : decode cX4_rankOf 32 = .ok (.iload 5, 2) := by decide +kernel
theorem dX4_rankOf_34 : decode cX4_rankOf 34 = .ok (.iload 7, 2) := by decide +kernel
theorem dX4_rankOf_36 : decode cX4_rankOf 36 = .ok (.iload 4, 2) := by decide +kernel
theorem dX4_rankOf_38 : decode cX4_rankOf 38 = .ok (.if_icmp .gt 16, 3) := by decide +kernel
theorem dX4_rankOf_41 : decode cX4_rankOf 41 = .ok (.iload 7, 2) := by decide +kernel
theorem dX4_rankOf_43 : decode cX4_rankOf 43 = .ok (.iload 4, 2) := by decide +kernel
theorem dX4_rankOf_45 : decode cX4_rankOf 45 = .ok (.if_icmp .ne 13, 3) := by decide +kernel
theorem dX4_rankOf_48 : decode cX4_rankOf 48 = .ok (.iload 6, 2) := by decide +kernel
theorem dX4_rankOf_50 : decode cX4_rankOf 50 = .ok (.iload_n 3, 1) := by decide +kernel
theorem dX4_rankOf_51 : decode cX4_rankOf 51 = .ok (.if_icmp .ge 7, 3) := by decide +kernel
theorem dX4_rankOf_54 : decode cX4_rankOf 54 = .ok (.iconst 1, 1) := by decide +kernel
theorem dX4_rankOf_55 : decode cX4_rankOf 55 = .ok (.goto 4, 3) := by decide +kernel
theorem dX4_rankOf_58 : decode cX4_rankOf 58 = .ok (.iconst 0, 1) := by decide +kernel
theorem dX4_rankOf_59 : decode cX4_rankOf 59 = .ok (.iadd, 1) := by decide +kernel
theorem dX4_rankOf_60 : decode cX4_rankOf 60 = .ok (.istore 5, 2) := by decide +kernel
theorem dX4_rankOf_62 : decode cX4_rankOf 62 = .ok (.iinc 6 1, 3) := by decide +kernel
theorem dX4_rankOf_65 : decode cX4_rankOf 65 = .ok (.goto (-50), 3) := by decide +kernel
theorem dX4_rankOf_68 : decode cX4_rankOf 68 = .ok (.iload 5, 2) := by decide +kernel
theorem dX4_rankOf_70 : decode cX4_rankOf 70 = .ok (.ireturn, 1) := by decide +kernel
set_option maxRecDepth 20000 in
theorem ggX4_shift_X4_in : GoodIn wsX4_shift wsX4_in := goodIn_r _ [4] (by decide +kernel) (by decide +kernel)
set_option maxRecDepth 20000 in
theorem gX4_shift_X4_in : GoodIn wsX4_shift (va_wsS RX4 41 yX4_in wsX4_in) := goodIn_app (goodIn_of _ (by decide +kernel)) ggX4_shift_X4_in
set_option maxRecDepth 20000 in
theorem ggX4_shift_X4_rankOf : GoodIn wsX4_shift wsX4_rankOf := goodIn_r _ [8, 9, 10, 11, 3, 12, 13, 14, 15, 16, 17, 18, 19, 20, 21, 22, 23, 24, 25, 26, 27, 28, 29] (by decide +kernel) (by decide +kernel)
set_option maxRecDepth 20000 in
theorem gX4_shift_X4_rankOf : GoodIn wsX4_shift (wsV RX4 117 RX4 yX4_rankOf wsX4_rankOf) := goodIn_app (goodIn_of _ (by decide +kernel)) ggX4_shift_X4_rankOf
set_option maxRecDepth 20000 in
theorem ggX4_shift_X4_score : GoodIn wsX4_shift wsX4_score := goodIn_r _ [12, 13, 14, 15, 16, 3, 17, 18, 19, 20, 21, 22, 23, 24, 25, 26, 27, 28, 29] (by decide +kernel) (by decide +kernel)
set_option maxRecDepth 20000 in
theorem gX4_shift_X4_score : GoodIn wsX4_shift (wsV RX4 113 RX4 yX4_score wsX4_score) := goodIn_app (goodIn_of _ (by decide +kernel)) ggX4_shift_X4_score
theorem dX4_shift_0 : decode cX4_shift 0 = .ok (.iload_n 1, 1) := by decide +kernel
theorem dX4_shift_1 : decode cX4_shift 1 = .ok (.iconst 1, 1) := by decide +kernel
theorem dX4_shift_2 : decode cX4_shift 2 = .ok (.bipush 8, 2) := by decide +kernel
theorem dX4_shift_4 : decode cX4_shift 4 = .ok (.invokestatic 41, 3) := by decide +kernel
theorem dX4_shift_7 : decode cX4_shift 7 = .ok (.ifCond .eq 34, 3) := by decide +kernel
theorem dX4_shift_10 : decode cX4_shift 10 = .ok (.iload_n 2, 1) := by decide +kernel
theorem dX4_shift_11 : decode cX4_shift 11 = .ok (.iconst 0, 1) := by decide +kernel
theorem dX4_shift_12 : decode cX4_shift 12 = .ok (.iload_n 1, 1) := by decide +kernel
theorem dX4_shift_13 : decode cX4_shift 13 = .ok (.iconst 1, 1) := by decide +kernel
theorem dX4_shift_14 : decode cX4_shift 14 = .ok (.isub, 1) := by decide +kernel
theorem dX4_shift_15 : decode cX4_shift 15 = .ok (.invokestatic 41, 3) := by decide +kernel
theorem dX4_shift_18 : decode cX4_shift 18 = .ok (.ifCond .eq 23, 3) := by decide +kernel
theorem dX4_shift_21 : decode cX4_shift 21 = .ok (.iload_n 3, 1) := by decide +kernel
theorem dX4_shift_22 : decode cX4_shift 22 = .ok (.iconst 0, 1) := by decide +kernel
theorem dX4_shift_23 : decode cX4_shift 23 = .ok (.bipush 15, 2) := by decide +kernel
theorem dX4_shift_25 : decode cX4_shift 25 = .ok (.invokestatic 41, 3) := by decide +kernel
theorem dX4_shift_28 : decode cX4_shift 28 = .ok (.ifCond .eq 13, 3) := by decide +kernel
theorem dX4_shift_31 : decode cX4_shift 31 = .ok (.iload 4, 2) := by decide +kernel
theorem dX4_shift_33 : decode cX4_shift 33 = .ok (.iconst 0, 1) := by decide +kernel
theorem dX4_shift_34 : decode cX4_shift 34 = .ok (.iconst 1, 1) := by decide +kernel
theorem dX4_shift_35 : decode cX4_shift 35 = .ok (.invokestatic 41, 3) := by decide +kernel
theorem dX4_shift_38 : decode cX4_shift 38 = .ok (.ifCond .ne 6, 3) := by decide +kernel
theorem dX4_shift_41 : decode cX4_shift 41 = .ok (.bipush (-2), 2) := by decide +kernel
theorem dX4_shift_43 : decode cX4_shift 43 = .ok (.ireturn, 1) := by decide +kernel
theorem dX4_shift_44 : decode cX4_shift 44 = .ok (.iconst 0, 1) := by decide +kernel
theorem dX4_shift_45 : decode cX4_shift 45 = .ok (.istore 5, 2) := by decide +kernel
theorem dX4_shift_47 : decode cX4_shift 47 = .ok (.aload_n 0, 1) := by decide +kernel
theorem dX4_shift_48 : decode cX4_shift 48 = .ok (.iload_n 1, 1) := by decide +kernel
theorem dX4_shift_49 : decode cX4_shift 49 = .ok (.iload_n 2, 1) := by decide +kernel
theorem dX4_shift_50 : decode cX4_shift 50 = .ok (.iload 5, 2) := by decide +kernel
theorem dX4_shift_52 : decode cX4_shift 52 = .ok (.invokevirtual 117, 3) := by decide +kernel
theorem dX4_shift_55 : decode cX4_shift 55 = .ok (.iload_n 3, 1) := by decide +kernel
theorem dX4_shift_56 : decode cX4_shift 56 = .ok (.if_icmp .eq 9, 3) := by decide +kernel
theorem dX4_shift_59 : decode cX4_shift 59 = .ok (.iinc 5 1, 3) := by decide +kernel
theorem dX4_shift_62 : decode cX4_shift 62 = .ok (.goto (-15), 3) := by decide +kernel
theorem dX4_shift_65 : decode cX4_shift 65 = .ok (.iload 4, 2) := by decide +kernel
theorem dX4_shift_67 : decode cX4_shift 67 = .ok (.ifCond .ne 8, 3) := by decide +kernel
theorem dX4_shift_70 : decode cX4_shift 70 = .ok (.iload 5, 2) := by decide +kernel
theorem dX4_shift_72 : decode cX4_shift 72 = .ok (.goto 11, 3) := by decide +kernel
theorem dX4_shift_75 : decode cX4_shift 75 = .ok (.aload_n 0, 1) := by decide +kernel
theorem dX4_shift_76 : decode cX4_shift 76 = .ok (.iload_n 1, 1) := by decide +kernel
theorem dX4_shift_77 : decode cX4_shift 77 = .ok (.iload_n 2, 1) := by decide +kernel
theorem dX4_shift_78 : decode cX4_shift 78 = .ok (.iload 5, 2) := by decide +kernel
theorem dX4_shift_80 : decode cX4_shift 80 = .ok (.invokevirtual 113, 3) := by decide +kernel
theorem dX4_shift_83 : decode cX4_shift 83 = .ok (.ireturn, 1) := by decide +kernel
set_option maxRecDepth 20000 in
theorem ggX4_goodOf_X4_many : GoodIn wsX4_goodOf wsX4_many := goodIn_r _ [6, 1, 7, 8, 9, 10, 11, 12, 13, 14, 15, 16, 17, 18] (by decide +kernel) (by decide +kernel)
set_option maxRecDepth 20000 in
theorem gX4_goodOf_X4_many : GoodIn wsX4_goodOf (wsV RX4 57 RX4 yX4_many wsX4_many) := goodIn_app (goodIn_of _ (by decide +kernel)) ggX4_goodOf_X4_many
theorem dX4_goodOf_0 : decode cX4_goodOf 0 = .ok (.iconst 0, 1) := by decide +kernel
theorem dX4_goodOf_1 : decode cX4_goodOf 1 = .ok (.istore_n 2, 1) := by decide +kernel
theorem dX4_goodOf_2 : decode cX4_goodOf 2 = .ok (.iconst 0, 1) := by decide +kernel
theorem dX4_goodOf_3 : decode cX4_goodOf 3 = .ok (.istore_n 3, 1) := by decide +kernel
theorem dX4_goodOf_4 : decode cX4_goodOf 4 = .ok (.iload_n 3, 1) := by decide +kernel
theorem dX4_goodOf_5 : decode cX4_goodOf 5 = .ok (.iconst 1, 1) := by decide +kernel
theorem dX4_goodOf_6 : decode cX4_goodOf 6 = .ok (.iadd, 1) := by decide +kernel
theorem dX4_goodOf_7 : decode cX4_goodOf 7 = .ok (.aload_n 0, 1) := by decide +kernel
theorem dX4_goodOf_8 : decode cX4_goodOf 8 = .ok (.invokevirtual 57, 3) := by decide +kernel
theorem dX4_goodOf_11 : decode cX4_goodOf 11 = .ok (.if_icmp .ge 32, 3) := by decide +kernel
theorem dX4_goodOf_14 : decode cX4_goodOf 14 = .ok (.iload_n 2, 1) := by decide +kernel
theorem dX4_goodOf_15 : decode cX4_goodOf 15 = .ok (.aload_n 0, 1) := by decide +kernel
theorem dX4_goodOf_16 : decode cX4_goodOf 16 = .ok (.getfield 7, 3) := by decide +kernel
theorem dX4_goodOf_19 : decode cX4_goodOf 19 = .ok (.bipush 72, 2) := by decide +kernel
theorem dX4_goodOf_21 : decode cX4_goodOf 21 = .ok (.bipush 16, 2) := by decide +kernel
theorem dX4_goodOf_23 : decode cX4_goodOf 23 = .ok (.aload_n 1, 1) := by decide +kernel
theorem dX4_goodOf_24 : decode cX4_goodOf 24 = .ok (.iload_n 3, 1) := by decide +kernel
theorem dX4_goodOf_25 : decode cX4_goodOf 25 = .ok (.iaload, 1) := by decide +kernel
theorem dX4_goodOf_26 : decode cX4_goodOf 26 = .ok (.imul, 1) := by decide +kernel
theorem dX4_goodOf_27 : decode cX4_goodOf 27 = .ok (.iadd, 1) := by decide +kernel
theorem dX4_goodOf_28 : decode cX4_goodOf 28 = .ok (.aload_n 1, 1) := by decide +kernel
theorem dX4_goodOf_29 : decode cX4_goodOf 29 = .ok (.iload_n 3, 1) := by decide +kernel
theorem dX4_goodOf_30 : decode cX4_goodOf 30 = .ok (.iconst 1, 1) := by decide +kernel
theorem dX4_goodOf_31 : decode cX4_goodOf 31 = .ok (.iadd, 1) := by decide +kernel
theorem dX4_goodOf_32 : decode cX4_goodOf 32 = .ok (.iaload, 1) := by decide +kernel
theorem dX4_goodOf_33 : decode cX4_goodOf 33 = .ok (.iadd, 1) := by decide +kernel
theorem dX4_goodOf_34 : decode cX4_goodOf 34 = .ok (.iaload, 1) := by decide +kernel
theorem dX4_goodOf_35 : decode cX4_goodOf 35 = .ok (.iadd, 1) := by decide +kernel
theorem dX4_goodOf_36 : decode cX4_goodOf 36 = .ok (.istore_n 2, 1) := by decide +kernel
theorem dX4_goodOf_37 : decode cX4_goodOf 37 = .ok (.iinc 3 1, 3) := by decide +kernel
theorem dX4_goodOf_40 : decode cX4_goodOf 40 = .ok (.goto (-36), 3) := by decide +kernel
theorem dX4_goodOf_43 : decode cX4_goodOf 43 = .ok (.iload_n 2, 1) := by decide +kernel
theorem dX4_goodOf_44 : decode cX4_goodOf 44 = .ok (.ireturn, 1) := by decide +kernel
set_option maxRecDepth 20000 in
theorem ggX4_layText_X4_many : GoodIn wsX4_layText wsX4_many := goodIn_r _ [7, 2, 8, 9, 10, 11, 12, 13, 14, 15, 16, 17, 18, 19] (by decide +kernel) (by decide +kernel)
set_option maxRecDepth 20000 in
theorem gX4_layText_X4_many : GoodIn wsX4_layText (wsV RX4 57 RX4 yX4_many wsX4_many) := goodIn_app (goodIn_of _ (by decide +kernel)) ggX4_layText_X4_many
theorem dX4_layText_0 : decode cX4_layText 0 = .ok (.iconst 0, 1) := by decide +kernel
theorem dX4_layText_1 : decode cX4_layText 1 = .ok (.istore_n 1, 1) := by decide +kernel
theorem dX4_layText_2 : decode cX4_layText 2 = .ok (.iload_n 1, 1) := by decide +kernel
theorem dX4_layText_3 : decode cX4_layText 3 = .ok (.aload_n 0, 1) := by decide +kernel
theorem dX4_layText_4 : decode cX4_layText 4 = .ok (.invokevirtual 57, 3) := by decide +kernel
theorem dX4_layText_7 : decode cX4_layText 7 = .ok (.if_icmp .ge 23, 3) := by decide +kernel
theorem dX4_layText_10 : decode cX4_layText 10 = .ok (.aload_n 0, 1) := by decide +kernel
theorem dX4_layText_11 : decode cX4_layText 11 = .ok (.getfield 23, 3) := by decide +kernel
theorem dX4_layText_14 : decode cX4_layText 14 = .ok (.iload_n 1, 1) := by decide +kernel
theorem dX4_layText_15 : decode cX4_layText 15 = .ok (.aload_n 0, 1) := by decide +kernel
theorem dX4_layText_16 : decode cX4_layText 16 = .ok (.getfield 7, 3) := by decide +kernel
theorem dX4_layText_19 : decode cX4_layText 19 = .ok (.iconst 0, 1) := by decide +kernel
theorem dX4_layText_20 : decode cX4_layText 20 = .ok (.iload_n 1, 1) := by decide +kernel
theorem dX4_layText_21 : decode cX4_layText 21 = .ok (.iadd, 1) := by decide +kernel
theorem dX4_layText_22 : decode cX4_layText 22 = .ok (.iaload, 1) := by decide +kernel
theorem dX4_layText_23 : decode cX4_layText 23 = .ok (.iastore, 1) := by decide +kernel
theorem dX4_layText_24 : decode cX4_layText 24 = .ok (.iinc 1 1, 3) := by decide +kernel
theorem dX4_layText_27 : decode cX4_layText 27 = .ok (.goto (-25), 3) := by decide +kernel
theorem dX4_layText_30 : decode cX4_layText 30 = .ok (.return_, 1) := by decide +kernel
set_option maxRecDepth 20000 in
theorem ggX4_good_X4_layText : GoodIn wsX4_good wsX4_layText := goodIn_r _ [6, 1, 7, 8, 9, 10, 5, 11, 16, 17, 18, 19, 20, 21, 22, 23, 24, 25, 26, 27] (by decide +kernel) (by decide +kernel)
set_option maxRecDepth 20000 in
theorem gX4_good_X4_layText : GoodIn wsX4_good (wsV RX4 120 RX4 yX4_layText wsX4_layText) := goodIn_app (goodIn_of _ (by decide +kernel)) ggX4_good_X4_layText
set_option maxRecDepth 20000 in
theorem ggX4_good_X4_goodOf : GoodIn wsX4_good wsX4_goodOf := goodIn_r _ [15, 7, 8, 9, 10, 5, 11, 16, 17, 18, 19, 20, 21, 22, 23, 24, 25, 26, 27] (by decide +kernel) (by decide +kernel)
set_option maxRecDepth 20000 in
theorem gX4_good_X4_goodOf : GoodIn wsX4_good (wsV RX4 123 RX4 yX4_goodOf wsX4_goodOf) := goodIn_app (goodIn_of _ (by decide +kernel)) ggX4_good_X4_goodOf
theorem dX4_good_0 : decode cX4_good 0 = .ok (.aload_n 0, 1) := by decide +kernel
theorem dX4_good_1 : decode cX4_good 1 = .ok (.invokevirtual 120, 3) := by decide +kernel
theorem dX4_good_4 : decode cX4_good 4 = .ok (.aload_n 0, 1) := by decide +kernel
theorem dX4_good_5 : decode cX4_good 5 = .ok (.aload_n 0, 1) := by decide +kernel
theorem dX4_good_6 : decode cX4_good 6 = .ok (.getfield 23, 3) := by decide +kernel
theorem dX4_good_9 : decode cX4_good 9 = .ok (.invokevirtual 123, 3) := by decide +kernel
theorem dX4_good_12 : decode cX4_good 12 = .ok (.ireturn, 1) := by decide +kernel
theorem dX4_layOrder_0 : decode cX4_layOrder 0 = .ok (.iload_n 1, 1) := by decide +kernel
theorem dX4_layOrder_1 : decode cX4_layOrder 1 = .ok (.istore_n 3, 1) := by decide +kernel
theorem dX4_layOrder_2 : decode cX4_layOrder 2 = .ok (.iload_n 2, 1) := by decide +kernel
theorem dX4_layOrder_3 : decode cX4_layOrder 3 = .ok (.iconst 1, 1) := by decide +kernel
theorem dX4_layOrder_4 : decode cX4_layOrder 4 = .ok (.isub, 1) := by decide +kernel
theorem dX4_layOrder_5 : decode cX4_layOrder 5 = .ok (.istore 4, 2) := by decide +kernel
theorem dX4_layOrder_7 : decode cX4_layOrder 7 = .ok (.iload 4, 2) := by decide +kernel
theorem dX4_layOrder_9 : decode cX4_layOrder 9 = .ok (.ifCond .lt 29, 3) := by decide +kernel
theorem dX4_layOrder_12 : decode cX4_layOrder 12 = .ok (.aload_n 0, 1) := by decide +kernel
theorem dX4_layOrder_13 : decode cX4_layOrder 13 = .ok (.getfield 32, 3) := by decide +kernel
theorem dX4_layOrder_16 : decode cX4_layOrder 16 = .ok (.iload 4, 2) := by decide +kernel
theorem dX4_layOrder_18 : decode cX4_layOrder 18 = .ok (.iload_n 3, 1) := by decide +kernel
theorem dX4_layOrder_19 : decode cX4_layOrder 19 = .ok (.iload_n 2, 1) := by decide +kernel
theorem dX4_layOrder_20 : decode cX4_layOrder 20 = .ok (.iload 4, 2) := by decide +kernel
theorem dX4_layOrder_22 : decode cX4_layOrder 22 = .ok (.isub, 1) := by decide +kernel
theorem dX4_layOrder_23 : decode cX4_layOrder 23 = .ok (.irem, 1) := by decide +kernel
theorem dX4_layOrder_24 : decode cX4_layOrder 24 = .ok (.iastore, 1) := by decide +kernel
theorem dX4_layOrder_25 : decode cX4_layOrder 25 = .ok (.iload_n 3, 1) := by decide +kernel
theorem dX4_layOrder_26 : decode cX4_layOrder 26 = .ok (.iload_n 2, 1) := by decide +kernel
theorem dX4_layOrder_27 : decode cX4_layOrder 27 = .ok (.iload 4, 2) := by decide +kernel
theorem dX4_layOrder_29 : decode cX4_layOrder 29 = .ok (.isub, 1) := by decide +kernel
theorem dX4_layOrder_30 : decode cX4_layOrder 30 = .ok (.idiv, 1) := by decide +kernel
theorem dX4_layOrder_31 : decode cX4_layOrder 31 = .ok (.istore_n 3, 1) := by decide +kernel
theorem dX4_layOrder_32 : decode cX4_layOrder 32 = .ok (.iinc 4 (-1), 3) := by decide +kernel
theorem dX4_layOrder_35 : decode cX4_layOrder 35 = .ok (.goto (-28), 3) := by decide +kernel
theorem dX4_layOrder_38 : decode cX4_layOrder 38 = .ok (.iconst 1, 1) := by decide +kernel
theorem dX4_layOrder_39 : decode cX4_layOrder 39 = .ok (.iload_n 2, 1) := by decide +kernel
theorem dX4_layOrder_40 : decode cX4_layOrder 40 = .ok (.ishl, 1) := by decide +kernel
theorem dX4_layOrder_41 : decode cX4_layOrder 41 = .ok (.iconst 1, 1) := by decide +kernel
theorem dX4_layOrder_42 : decode cX4_layOrder 42 = .ok (.isub, 1) := by decide +kernel
theorem dX4_layOrder_43 : decode cX4_layOrder 43 = .ok (.istore 4, 2) := by decide +kernel
theorem dX4_layOrder_45 : decode cX4_layOrder 45 = .ok (.iconst 0, 1) := by decide +kernel
theorem dX4_layOrder_46 : decode cX4_layOrder 46 = .ok (.istore 5, 2) := by decide +kernel
theorem dX4_layOrder_48 : decode cX4_layOrder 48 = .ok (.iload 5, 2) := by decide +kernel
theorem dX4_layOrder_50 : decode cX4_layOrder 50 = .ok (.iload_n 2, 1) := by decide +kernel
theorem dX4_layOrder_51 : decode cX4_layOrder 51 = .ok (.if_icmp .ge 74, 3) := by decide +kernel
theorem dX4_layOrder_54 : decode cX4_layOrder 54 = .ok (.aload_n 0, 1) := by decide +kernel
theorem dX4_layOrder_55 : decode cX4_layOrder 55 = .ok (.getfield 32, 3) := by decide +kernel
theorem dX4_layOrder_58 : decode cX4_layOrder 58 = .ok (.iload 5, 2) := by decide +kernel
theorem dX4_layOrder_60 : decode cX4_layOrder 60 = .ok (.iaload, 1) := by decide +kernel
theorem dX4_layOrder_61 : decode cX4_layOrder 61 = .ok (.istore 6, 2) := by decide +kernel
theorem dX4_layOrder_63 : decode cX4_layOrder 63 = .ok (.iconst 0, 1) := by decide +kernel
theorem dX4_layOrder_64 : decode cX4_layOrder 64 = .ok (.istore 7, 2) := by decide +kernel
theorem dX4_layOrder_66 : decode cX4_layOrder 66 = .ok (.iload 4, 2) := by decide +kernel
theorem dX4_layOrder_68 : decode cX4_layOrder 68 = .ok (.iload 7, 2) := by decide +kernel
theorem dX4_layOrder_70 : decode cX4_layOrder 70 = .ok (.ishr, 1) := by decide +kernel
theorem dX4_layOrder_71 : decode cX4_layOrder 71 = .ok (.iconst 1, 1) := by decide +kernel
theorem dX4_layOrder_72 : decode cX4_layOrder 72 = .ok (.iand, 1) := by decide +kernel
theorem dX4_layOrder_73 : decode cX4_layOrder 73 = .ok (.ifCond .eq 8, 3) := by decide +kernel
theorem dX4_layOrder_76 : decode cX4_layOrder 76 = .ok (.iload 6, 2) := by decide +kernel
theorem dX4_layOrder_78 : decode cX4_layOrder 78 = .ok (.ifCond .le 21, 3) := by decide +kernel
theorem dX4_layOrder_81 : decode cX4_layOrder 81 = .ok (.iload 6, 2) := by decide +kernel
theorem dX4_layOrder_83 : decode cX4_layOrder 83 = .ok (.iload 4, 2) := by decide +kernel
theorem dX4_layOrder_85 : decode cX4_layOrder 85 = .ok (.iload 7, 2) := by decide +kernel
theorem dX4_layOrder_87 : decode cX4_layOrder 87 = .ok (.ishr, 1) := by decide +kernel
theorem dX4_layOrder_88 : decode cX4_layOrder 88 = .ok (.iconst 1, 1) := by decide +kernel
theorem dX4_layOrder_89 : decode cX4_layOrder 89 = .ok (.iand, 1) := by decide +kernel
theorem dX4_layOrder_90 : decode cX4_layOrder 90 = .ok (.isub, 1) := by decide +kernel
theorem dX4_layOrder_91 : decode cX4_layOrder 91 = .ok (.istore 6, 2) := by decide +kernel
theorem dX4_layOrder_93 : decode cX4_layOrder 93 = .ok (.iinc 7 1, 3) := by decide +kernel
theorem dX4_layOrder_96 : decode cX4_layOrder 96 = .ok (.goto (-30), 3) := by decide +kernel
theorem dX4_layOrder_99 : decode cX4_layOrder 99 = .ok (.iload 4, 2) := by decide +kernel
theorem dX4_layOrder_101 : decode cX4_layOrder 101 = .ok (.iconst 1, 1) := by decide +kernel
theorem dX4_layOrder_102 : decode cX4_layOrder 102 = .ok (.iload 7, 2) := by decide +kernel
theorem dX4_layOrder_104 : decode cX4_layOrder 104 = .ok (.ishl, 1) := by decide +kernel
theorem dX4_layOrder_105 : decode cX4_layOrder 105 = .ok (.iconst (-1), 1) := by decide +kernel
theorem dX4_layOrder_106 : decode cX4_layOrder 106 = .ok (.ixor, 1) := by decide +kernel
theorem dX4_layOrder_107 : decode cX4_layOrder 107 = .ok (.iand, 1) := by decide +kernel
theorem dX4_layOrder_108 : decode cX4_layOrder 108 = .ok (.istore 4, 2) := by decide +kernel
theorem dX4_layOrder_110 : decode cX4_layOrder 110 = .ok (.aload_n 0, 1) := by decide +kernel
theorem dX4_layOrder_111 : decode cX4_layOrder 111 = .ok (.getfield 32, 3) := by decide +kernel
theorem dX4_layOrder_114 : decode cX4_layOrder 114 = .ok (.iload 5, 2) := by decide +kernel
theorem dX4_layOrder_116 : decode cX4_layOrder 116 = .ok (.iload 7, 2) := by decide +kernel
theorem dX4_layOrder_118 : decode cX4_layOrder 118 = .ok (.iastore, 1) := by decide +kernel
theorem dX4_layOrder_119 : decode cX4_layOrder 119 = .ok (.iinc 5 1, 3) := by decide +kernel
theorem dX4_layOrder_122 : decode cX4_layOrder 122 = .ok (.goto (-74), 3) := by decide +kernel
theorem dX4_layOrder_125 : decode cX4_layOrder 125 = .ok (.return_, 1) := by decide +kernel
set_option maxRecDepth 20000 in
theorem ggX4_goodBy_X4_layOrder : GoodIn wsX4_goodBy wsX4_layOrder := goodIn_r _ [6, 7, 31, 32, 33, 34, 35, 36, 37, 38, 39, 40, 41, 42] (by decide +kernel) (by decide +kernel)
set_option maxRecDepth 20000 in
theorem gX4_goodBy_X4_layOrder : GoodIn wsX4_goodBy (wsV RX4 127 RX4 yX4_layOrder wsX4_layOrder) := goodIn_app (goodIn_of _ (by decide +kernel)) ggX4_goodBy_X4_layOrder
set_option maxRecDepth 20000 in
theorem ggX4_goodBy_X4_layText : GoodIn wsX4_goodBy wsX4_layText := goodIn_r _ [11, 12, 13, 14, 15, 16, 5, 17, 31, 32, 33, 34, 35, 36, 37, 38, 39, 40, 41, 42] (by decide +kernel) (by decide +kernel)
set_option maxRecDepth 20000 in
theorem gX4_goodBy_X4_layText : GoodIn wsX4_goodBy (wsV RX4 120 RX4 yX4_layText wsX4_layText) := goodIn_app (goodIn_of _ (by decide +kernel)) ggX4_goodBy_X4_layText
set_option maxRecDepth 20000 in
theorem ggX4_goodBy_X4_layColumns : GoodIn wsX4_goodBy wsX4_layColumns := goodIn_r _ [21, 7, 22, 14, 15, 16, 5, 17, 13, 31, 32, 33, 34, 35, 36, 37, 38, 39, 40, 41, 42] (by decide +kernel) (by decide +kernel)
set_option maxRecDepth 20000 in
theorem gX4_goodBy_X4_layColumns : GoodIn wsX4_goodBy (wsV RX4 89 RX4 yX4_layColumns wsX4_layColumns) := goodIn_app (goodIn_of _ (by decide +kernel)) ggX4_goodBy_X4_layColumns
set_option maxRecDepth 20000 in
theorem ggX4_goodBy_X4_readBy : GoodIn wsX4_goodBy wsX4_readBy := goodIn_r _ [26, 1, 12, 22, 14, 15, 16, 5, 17, 13, 31, 32, 33, 34, 35, 36, 37, 38, 39, 40, 41, 42] (by decide +kernel) (by decide +kernel)
set_option maxRecDepth 20000 in
theorem gX4_goodBy_X4_readBy : GoodIn wsX4_goodBy (wsV RX4 92 RX4 yX4_readBy wsX4_readBy) := goodIn_app (goodIn_of _ (by decide +kernel)) ggX4_goodBy_X4_readBy
set_option maxRecDepth 20000 in
theorem ggX4_goodBy_X4_goodOf : GoodIn wsX4_goodBy wsX4_goodOf := goodIn_r _ [30, 13, 14, 15, 16, 5, 17, 31, 32, 33, 34, 35, 36, 37, 38, 39, 40, 41, 42] (by decide +kernel) (by decide +kernel)
set_option maxRecDepth 20000 in
theorem gX4_goodBy_X4_goodOf : GoodIn wsX4_goodBy (wsV RX4 123 RX4 yX4_goodOf wsX4_goodOf) := goodIn_app (goodIn_of _ (by decide +kernel)) ggX4_goodBy_X4_goodOf
theorem dX4_goodBy_0 : decode cX4_goodBy 0 = .ok (.aload_n 0, 1) := by decide +kernel
theorem dX4_goodBy_1 : decode cX4_goodBy 1 = .ok (.iload_n 1, 1) := by decide +kernel
theorem dX4_goodBy_2 : decode cX4_goodBy 2 = .ok (.iload_n 2, 1) := by decide +kernel
theorem dX4_goodBy_3 : decode cX4_goodBy 3 = .ok (.invokevirtual 127, 3) := by decide +kernel
theorem dX4_goodBy_6 : decode cX4_goodBy 6 = .ok (.aload_n 0, 1) := by decide +kernel
theorem dX4_goodBy_7 : decode cX4_goodBy 7 = .ok (.invokevirtual 120, 3) := by decide +kernel
theorem dX4_goodBy_10 : decode cX4_goodBy 10 = .ok (.aload_n 0, 1) := by decide +kernel
theorem dX4_goodBy_11 : decode cX4_goodBy 11 = .ok (.iload_n 2, 1) := by decide +kernel
theorem dX4_goodBy_12 : decode cX4_goodBy 12 = .ok (.invokevirtual 89, 3) := by decide +kernel
theorem dX4_goodBy_15 : decode cX4_goodBy 15 = .ok (.aload_n 0, 1) := by decide +kernel
theorem dX4_goodBy_16 : decode cX4_goodBy 16 = .ok (.iconst (-1), 1) := by decide +kernel
theorem dX4_goodBy_17 : decode cX4_goodBy 17 = .ok (.invokevirtual 92, 3) := by decide +kernel
theorem dX4_goodBy_20 : decode cX4_goodBy 20 = .ok (.aload_n 0, 1) := by decide +kernel
theorem dX4_goodBy_21 : decode cX4_goodBy 21 = .ok (.aload_n 0, 1) := by decide +kernel
theorem dX4_goodBy_22 : decode cX4_goodBy 22 = .ok (.getfield 26, 3) := by decide +kernel
theorem dX4_goodBy_25 : decode cX4_goodBy 25 = .ok (.invokevirtual 123, 3) := by decide +kernel
theorem dX4_goodBy_28 : decode cX4_goodBy 28 = .ok (.ireturn, 1) := by decide +kernel
theorem dX4_orders_0 : decode cX4_orders 0 = .ok (.iconst 1, 1) := by decide +kernel
theorem dX4_orders_1 : decode cX4_orders 1 = .ok (.istore_n 1, 1) := by decide +kernel
theorem dX4_orders_2 : decode cX4_orders 2 = .ok (.iconst 2, 1) := by decide +kernel
theorem dX4_orders_3 : decode cX4_orders 3 = .ok (.istore_n 2, 1) := by decide +kernel
theorem dX4_orders_4 : decode cX4_orders 4 = .ok (.iload_n 2, 1) := by decide +kernel
theorem dX4_orders_5 : decode cX4_orders 5 = .ok (.iload_n 0, 1) := by decide +kernel
theorem dX4_orders_6 : decode cX4_orders 6 = .ok (.if_icmp .gt 13, 3) := by decide +kernel
theorem dX4_orders_9 : decode cX4_orders 9 = .ok (.iload_n 1, 1) := by decide +kernel
theorem dX4_orders_10 : decode cX4_orders 10 = .ok (.iload_n 2, 1) := by decide +kernel
theorem dX4_orders_11 : decode cX4_orders 11 = .ok (.imul, 1) := by decide +kernel
theorem dX4_orders_12 : decode cX4_orders 12 = .ok (.istore_n 1, 1) := by decide +kernel
theorem dX4_orders_13 : decode cX4_orders 13 = .ok (.iinc 2 1, 3) := by decide +kernel
theorem dX4_orders_16 : decode cX4_orders 16 = .ok (.goto (-12), 3) := by decide +kernel
theorem dX4_orders_19 : decode cX4_orders 19 = .ok (.iload_n 1, 1) := by decide +kernel
theorem dX4_orders_20 : decode cX4_orders 20 = .ok (.ireturn, 1) := by decide +kernel
set_option maxRecDepth 20000 in
theorem ggX4_order_X4_in : GoodIn wsX4_order wsX4_in := goodIn_r _ [5] (by decide +kernel) (by decide +kernel)
set_option maxRecDepth 20000 in
theorem gX4_order_X4_in : GoodIn wsX4_order (va_wsS RX4 41 yX4_in wsX4_in) := goodIn_app (goodIn_of _ (by decide +kernel)) ggX4_order_X4_in
set_option maxRecDepth 20000 in
theorem ggX4_order_X4_orders : GoodIn wsX4_order wsX4_orders := goodIn_r _ [8] (by decide +kernel) (by decide +kernel)
set_option maxRecDepth 20000 in
theorem gX4_order_X4_orders : GoodIn wsX4_order (va_wsS RX4 130 yX4_orders wsX4_orders) := goodIn_app (goodIn_of _ (by decide +kernel)) ggX4_order_X4_orders
set_option maxRecDepth 20000 in
theorem ggX4_order_X4_goodBy : GoodIn wsX4_order wsX4_goodBy := goodIn_r _ [12, 13, 14, 15, 16, 4, 17, 1, 18, 19, 20, 21, 22, 23, 24, 25, 26, 27, 28, 29, 30, 31, 32, 33, 34, 35, 36, 37, 38, 39, 40, 41, 42, 43, 44, 45, 46, 47, 48, 49, 50, 51, 52] (by decide +kernel) (by decide +kernel)
set_option maxRecDepth 20000 in
theorem gX4_order_X4_goodBy : GoodIn wsX4_order (wsV RX4 133 RX4 yX4_goodBy wsX4_goodBy) := goodIn_app (goodIn_of _ (by decide +kernel)) ggX4_order_X4_goodBy
set_option maxRecDepth 20000 in
theorem ggX4_order_X4_layOrder : GoodIn wsX4_order wsX4_layOrder := goodIn_r _ [17, 1, 41, 42, 43, 44, 45, 46, 47, 48, 49, 50, 51, 52] (by decide +kernel) (by decide +kernel)
set_option maxRecDepth 20000 in
theorem gX4_order_X4_layOrder : GoodIn wsX4_order (wsV RX4 127 RX4 yX4_layOrder wsX4_layOrder) := goodIn_app (goodIn_of _ (by decide +kernel)) ggX4_order_X4_layOrder
theorem dX4_order_0 : decode cX4_order 0 = .ok (.iload_n 1, 1) := by decide +kernel
theorem dX4_order_1 : decode cX4_order 1 = .ok (.iconst 2, 1) := by decide +kernel
theorem dX4_order_2 : decode cX4_order 2 = .ok (.bipush 6, 2) := by decide +kernel
theorem dX4_order_4 : decode cX4_order 4 = .ok (.invokestatic 41, 3) := by decide +kernel
theorem dX4_order_7 : decode cX4_order 7 = .ok (.ifCond .eq 15, 3) := by decide +kernel
theorem dX4_order_10 : decode cX4_order 10 = .ok (.iload_n 2, 1) := by decide +kernel
theorem dX4_order_11 : decode cX4_order 11 = .ok (.bipush (-2), 2) := by decide +kernel
theorem dX4_order_13 : decode cX4_order 13 = .ok (.iload_n 1, 1) := by decide +kernel
theorem dX4_order_14 : decode cX4_order 14 = .ok (.iconst 1, 1) := by decide +kernel
theorem dX4_order_15 : decode cX4_order 15 = .ok (.isub, 1) := by decide +kernel
theorem dX4_order_16 : decode cX4_order 16 = .ok (.invokestatic 41, 3) := by decide +kernel
theorem dX4_order_19 : decode cX4_order 19 = .ok (.ifCond .ne 6, 3) := by decide +kernel
theorem dX4_order_22 : decode cX4_order 22 = .ok (.bipush (-2), 2) := by decide +kernel
theorem dX4_order_24 : decode cX4_order 24 = .ok (.ireturn, 1) := by decide +kernel
theorem dX4_order_25 : decode cX4_order 25 = .ok (.bipush (-6), 2) := by decide +kernel
theorem dX4_order_27 : decode cX4_order 27 = .ok (.istore_n 3, 1) := by decide +kernel
theorem dX4_order_28 : decode cX4_order 28 = .ok (.iconst (-1), 1) := by decide +kernel
theorem dX4_order_29 : decode cX4_order 29 = .ok (.istore 4, 2) := by decide +kernel
theorem dX4_order_31 : decode cX4_order 31 = .ok (.iconst 0, 1) := by decide +kernel
theorem dX4_order_32 : decode cX4_order 32 = .ok (.istore 5, 2) := by decide +kernel
theorem dX4_order_34 : decode cX4_order 34 = .ok (.iconst 0, 1) := by decide +kernel
theorem dX4_order_35 : decode cX4_order 35 = .ok (.istore 6, 2) := by decide +kernel
theorem dX4_order_37 : decode cX4_order 37 = .ok (.iload 6, 2) := by decide +kernel
theorem dX4_order_39 : decode cX4_order 39 = .ok (.iload_n 1, 1) := by decide +kernel
theorem dX4_order_40 : decode cX4_order 40 = .ok (.invokestatic 130, 3) := by decide +kernel
theorem dX4_order_43 : decode cX4_order 43 = .ok (.if_icmp .ge 77, 3) := by decide +kernel
theorem dX4_order_46 : decode cX4_order 46 = .ok (.aload_n 0, 1) := by decide +kernel
theorem dX4_order_47 : decode cX4_order 47 = .ok (.iload 6, 2) := by decide +kernel
theorem dX4_order_49 : decode cX4_order 49 = .ok (.iload_n 1, 1) := by decide +kernel
theorem dX4_order_50 : decode cX4_order 50 = .ok (.invokevirtual 133, 3) := by decide +kernel
theorem dX4_order_53 : decode cX4_order 53 = .ok (.istore 7, 2) := by decide +kernel
theorem dX4_order_55 : decode cX4_order 55 = .ok (.iload 7, 2) := by decide +kernel
theorem dX4_order_57 : decode cX4_order 57 = .ok (.iload 4, 2) := by decide +kernel
theorem dX4_order_59 : decode cX4_order 59 = .ok (.if_icmp .le 8, 3) := by decide +kernel
theorem dX4_order_62 : decode cX4_order 62 = .ok (.iload 6, 2) := by decide +kernel
theorem dX4_order_64 : decode cX4_order 64 = .ok (.goto 4, 3) := by decide +kernel
theorem dX4_order_67 : decode cX4_order 67 = .ok (.iload_n 3, 1) := by decide +kernel
theorem dX4_order_68 : decode cX4_order 68 = .ok (.istore_n 3, 1) := by decide +kernel
theorem dX4_order_69 : decode cX4_order 69 = .ok (.iload 7, 2) := by decide +kernel
theorem dX4_order_71 : decode cX4_order 71 = .ok (.iload 4, 2) := by decide +kernel
theorem dX4_order_73 : decode cX4_order 73 = .ok (.if_icmp .le 7, 3) := by decide +kernel
theorem dX4_order_76 : decode cX4_order 76 = .ok (.iconst 1, 1) := by decide +kernel
theorem dX4_order_77 : decode cX4_order 77 = .ok (.goto 19, 3) := by decide +kernel
theorem dX4_order_80 : decode cX4_order 80 = .ok (.iload 7, 2) := by decide +kernel
theorem dX4_order_82 : decode cX4_order 82 = .ok (.iload 4, 2) := by decide +kernel
theorem dX4_order_84 : decode cX4_order 84 = .ok (.if_icmp .ne 10, 3) := by decide +kernel
theorem dX4_order_87 : decode cX4_order 87 = .ok (.iload 5, 2) := by decide +kernel
theorem dX4_order_89 : decode cX4_order 89 = .ok (.iconst 1, 1) := by decide +kernel
theorem dX4_order_90 : decode cX4_order 90 = .ok (.iadd, 1) := by decide +kernel
theorem dX4_order_91 : decode cX4_order 91 = .ok (.goto 5, 3) := by decide +kernel
theorem dX4_order_94 : decode cX4_order 94 = .ok (.iload 5, 2) := by decide +kernel
theorem dX4_order_96 : decode cX4_order 96 = .ok (.istore 5, 2) := by decide +kernel
theorem dX4_order_98 : decode cX4_order 98 = .ok (.iload 7, 2) := by decide +kernel
theorem dX4_order_100 : decode cX4_order 100 = .ok (.iload 4, 2) := by decide +kernel
theorem dX4_order_102 : decode cX4_order 102 = .ok (.if_icmp .le 8, 3) := by decide +kernel
theorem dX4_order_105 : decode cX4_order 105 = .ok (.iload 7, 2) := by decide +kernel
theorem dX4_order_107 : decode cX4_order 107 = .ok (.goto 5, 3) := by decide +kernel
theorem dX4_order_110 : decode cX4_order 110 = .ok (.iload 4, 2) := by decide +kernel
theorem dX4_order_112 : decode cX4_order 112 = .ok (.istore 4, 2) := by decide +kernel
theorem dX4_order_114 : decode cX4_order 114 = .ok (.iinc 6 1, 3) := by decide +kernel
theorem dX4_order_117 : decode cX4_order 117 = .ok (.goto (-80), 3) := by decide +kernel
theorem dX4_order_120 : decode cX4_order 120 = .ok (.aload_n 0, 1) := by decide +kernel
theorem dX4_order_121 : decode cX4_order 121 = .ok (.iload_n 3, 1) := by decide +kernel
theorem dX4_order_122 : decode cX4_order 122 = .ok (.iload_n 1, 1) := by decide +kernel
theorem dX4_order_123 : decode cX4_order 123 = .ok (.invokevirtual 127, 3) := by decide +kernel
theorem dX4_order_126 : decode cX4_order 126 = .ok (.iload_n 2, 1) := by decide +kernel
theorem dX4_order_127 : decode cX4_order 127 = .ok (.iconst (-1), 1) := by decide +kernel
theorem dX4_order_128 : decode cX4_order 128 = .ok (.if_icmp .ne 8, 3) := by decide +kernel
theorem dX4_order_131 : decode cX4_order 131 = .ok (.iload 4, 2) := by decide +kernel
theorem dX4_order_133 : decode cX4_order 133 = .ok (.goto 20, 3) := by decide +kernel
theorem dX4_order_136 : decode cX4_order 136 = .ok (.iload_n 2, 1) := by decide +kernel
theorem dX4_order_137 : decode cX4_order 137 = .ok (.bipush (-2), 2) := by decide +kernel
theorem dX4_order_139 : decode cX4_order 139 = .ok (.if_icmp .ne 8, 3) := by decide +kernel
theorem dX4_order_142 : decode cX4_order 142 = .ok (.iload 5, 2) := by decide +kernel
theorem dX4_order_144 : decode cX4_order 144 = .ok (.goto 9, 3) := by decide +kernel
theorem dX4_order_147 : decode cX4_order 147 = .ok (.aload_n 0, 1) := by decide +kernel
theorem dX4_order_148 : decode cX4_order 148 = .ok (.getfield 32, 3) := by decide +kernel
theorem dX4_order_151 : decode cX4_order 151 = .ok (.iload_n 2, 1) := by decide +kernel
theorem dX4_order_152 : decode cX4_order 152 = .ok (.iaload, 1) := by decide +kernel
theorem dX4_order_153 : decode cX4_order 153 = .ok (.ireturn, 1) := by decide +kernel
set_option maxRecDepth 20000 in
theorem ggX4_goodByPairs_X4_pairs : GoodIn wsX4_goodByPairs wsX4_pairs := goodIn_r _ [6, 7, 8, 9, 5, 10, 11, 12, 13, 14, 15, 16, 1, 17, 18, 19, 20, 21, 22, 23, 24, 25, 26, 27, 28, 33, 34, 35, 36, 37, 38, 39, 40, 41, 42, 43, 44] (by decide +kernel) (by decide +kernel)
set_option maxRecDepth 20000 in
theorem gX4_goodByPairs_X4_pairs : GoodIn wsX4_goodByPairs (wsV RX4 82 RX4 yX4_pairs wsX4_pairs) := goodIn_app (goodIn_of _ (by decide +kernel)) ggX4_goodByPairs_X4_pairs
set_option maxRecDepth 20000 in
theorem ggX4_goodByPairs_X4_goodOf : GoodIn wsX4_goodByPairs wsX4_goodOf := goodIn_r _ [32, 11, 7, 8, 9, 5, 10, 33, 34, 35, 36, 37, 38, 39, 40, 41, 42, 43, 44] (by decide +kernel) (by decide +kernel)
set_option maxRecDepth 20000 in
theorem gX4_goodByPairs_X4_goodOf : GoodIn wsX4_goodByPairs (wsV RX4 123 RX4 yX4_goodOf wsX4_goodOf) := goodIn_app (goodIn_of _ (by decide +kernel)) ggX4_goodByPairs_X4_goodOf
theorem dX4_goodByPairs_0 : decode cX4_goodByPairs 0 = .ok (.aload_n 0, 1) := by decide +kernel
theorem dX4_goodByPairs_1 : decode cX4_goodByPairs 1 = .ok (.iconst (-1), 1) := by decide +kernel
theorem dX4_goodByPairs_2 : decode cX4_goodByPairs 2 = .ok (.invokevirtual 82, 3) := by decide +kernel
theorem dX4_goodByPairs_5 : decode cX4_goodByPairs 5 = .ok (.aload_n 0, 1) := by decide +kernel
theorem dX4_goodByPairs_6 : decode cX4_goodByPairs 6 = .ok (.aload_n 0, 1) := by decide +kernel
theorem dX4_goodByPairs_7 : decode cX4_goodByPairs 7 = .ok (.getfield 26, 3) := by decide +kernel
theorem dX4_goodByPairs_10 : decode cX4_goodByPairs 10 = .ok (.invokevirtual 123, 3) := by decide +kernel
theorem dX4_goodByPairs_13 : decode cX4_goodByPairs 13 = .ok (.ireturn, 1) := by decide +kernel
theorem dX4_swap_0 : decode cX4_swap 0 = .ok (.aload_n 0, 1) := by decide +kernel
theorem dX4_swap_1 : decode cX4_swap 1 = .ok (.getfield 29, 3) := by decide +kernel
theorem dX4_swap_4 : decode cX4_swap 4 = .ok (.iload_n 1, 1) := by decide +kernel
theorem dX4_swap_5 : decode cX4_swap 5 = .ok (.iaload, 1) := by decide +kernel
theorem dX4_swap_6 : decode cX4_swap 6 = .ok (.istore_n 3, 1) := by decide +kernel
theorem dX4_swap_7 : decode cX4_swap 7 = .ok (.aload_n 0, 1) := by decide +kernel
theorem dX4_swap_8 : decode cX4_swap 8 = .ok (.getfield 29, 3) := by decide +kernel
theorem dX4_swap_11 : decode cX4_swap 11 = .ok (.iload_n 1, 1) := by decide +kernel
theorem dX4_swap_12 : decode cX4_swap 12 = .ok (.aload_n 0, 1) := by decide +kernel
theorem dX4_swap_13 : decode cX4_swap 13 = .ok (.getfield 29, 3) := by decide +kernel
theorem dX4_swap_16 : decode cX4_swap 16 = .ok (.iload_n 2, 1) := by decide +kernel
theorem dX4_swap_17 : decode cX4_swap 17 = .ok (.iaload, 1) := by decide +kernel
theorem dX4_swap_18 : decode cX4_swap 18 = .ok (.iastore, 1) := by decide +kernel
theorem dX4_swap_19 : decode cX4_swap 19 = .ok (.aload_n 0, 1) := by decide +kernel
theorem dX4_swap_20 : decode cX4_swap 20 = .ok (.getfield 29, 3) := by decide +kernel
theorem dX4_swap_23 : decode cX4_swap 23 = .ok (.iload_n 2, 1) := by decide +kernel
theorem dX4_swap_24 : decode cX4_swap 24 = .ok (.iload_n 3, 1) := by decide +kernel
theorem dX4_swap_25 : decode cX4_swap 25 = .ok (.iastore, 1) := by decide +kernel
theorem dX4_swap_26 : decode cX4_swap 26 = .ok (.return_, 1) := by decide +kernel
set_option maxRecDepth 20000 in
theorem ggX4_goUp_X4_laySquare : GoodIn wsX4_goUp wsX4_laySquare := goodIn_r _ [7, 8, 9, 51, 52, 53, 54, 55, 56, 57, 58, 59, 60, 61, 62] (by decide +kernel) (by decide +kernel)
set_option maxRecDepth 20000 in
theorem gX4_goUp_X4_laySquare : GoodIn wsX4_goUp (wsV RX4 60 RX4 yX4_laySquare wsX4_laySquare) := goodIn_app (goodIn_of _ (by decide +kernel)) ggX4_goUp_X4_laySquare
set_option maxRecDepth 20000 in
theorem ggX4_goUp_X4_layText : GoodIn wsX4_goUp wsX4_layText := goodIn_r _ [13, 14, 8, 15, 16, 17, 6, 18, 51, 52, 53, 54, 55, 56, 57, 58, 59, 60, 61, 62] (by decide +kernel) (by decide +kernel)
set_option maxRecDepth 20000 in
theorem gX4_goUp_X4_layText : GoodIn wsX4_goUp (wsV RX4 120 RX4 yX4_layText wsX4_layText) := goodIn_app (goodIn_of _ (by decide +kernel)) ggX4_goUp_X4_layText
set_option maxRecDepth 20000 in
theorem ggX4_goUp_X4_goodByPairs : GoodIn wsX4_goUp wsX4_goodByPairs := goodIn_r _ [22, 23, 24, 25, 26, 6, 27, 15, 16, 17, 18, 8, 28, 29, 30, 31, 14, 32, 33, 34, 35, 9, 36, 37, 38, 39, 40, 41, 42, 43, 44, 45, 46, 51, 52, 53, 54, 55, 56, 57, 58, 59, 60, 61, 62] (by decide +kernel) (by decide +kernel)
set_option maxRecDepth 20000 in
theorem gX4_goUp_X4_goodByPairs : GoodIn wsX4_goUp (wsV RX4 136 RX4 yX4_goodByPairs wsX4_goodByPairs) := goodIn_app (goodIn_of _ (by decide +kernel)) ggX4_goUp_X4_goodByPairs
set_option maxRecDepth 20000 in
theorem ggX4_goUp_X4_swap : GoodIn wsX4_goUp wsX4_swap := goodIn_r _ [50, 9, 51, 52, 53, 54, 55, 56, 57, 58, 59, 60, 61, 62] (by decide +kernel) (by decide +kernel)
set_option maxRecDepth 20000 in
theorem gX4_goUp_X4_swap : GoodIn wsX4_goUp (wsV RX4 143 RX4 yX4_swap wsX4_swap) := goodIn_app (goodIn_of _ (by decide +kernel)) ggX4_goUp_X4_swap
theorem dX4_goUp_0 : decode cX4_goUp 0 = .ok (.aload_n 0, 1) := by decide +kernel
theorem dX4_goUp_1 : decode cX4_goUp 1 = .ok (.invokevirtual 60, 3) := by decide +kernel
theorem dX4_goUp_4 : decode cX4_goUp 4 = .ok (.aload_n 0, 1) := by decide +kernel
theorem dX4_goUp_5 : decode cX4_goUp 5 = .ok (.invokevirtual 120, 3) := by decide +kernel
theorem dX4_goUp_8 : decode cX4_goUp 8 = .ok (.aload_n 0, 1) := by decide +kernel
theorem dX4_goUp_9 : decode cX4_goUp 9 = .ok (.invokevirtual 136, 3) := by decide +kernel
theorem dX4_goUp_12 : decode cX4_goUp 12 = .ok (.istore_n 3, 1) := by decide +kernel
theorem dX4_goUp_13 : decode cX4_goUp 13 = .ok (.iload_n 1, 1) := by decide +kernel
theorem dX4_goUp_14 : decode cX4_goUp 14 = .ok (.istore 4, 2) := by decide +kernel
theorem dX4_goUp_16 : decode cX4_goUp 16 = .ok (.aload_n 0, 1) := by decide +kernel
theorem dX4_goUp_17 : decode cX4_goUp 17 = .ok (.iconst 0, 1) := by decide +kernel
theorem dX4_goUp_18 : decode cX4_goUp 18 = .ok (.putfield 139, 3) := by decide +kernel
theorem dX4_goUp_21 : decode cX4_goUp 21 = .ok (.iconst 0, 1) := by decide +kernel
theorem dX4_goUp_22 : decode cX4_goUp 22 = .ok (.istore 5, 2) := by decide +kernel
theorem dX4_goUp_24 : decode cX4_goUp 24 = .ok (.iload 5, 2) := by decide +kernel
theorem dX4_goUp_26 : decode cX4_goUp 26 = .ok (.iload_n 2, 1) := by decide +kernel
theorem dX4_goUp_27 : decode cX4_goUp 27 = .ok (.if_icmp .ge 84, 3) := by decide +kernel
theorem dX4_goUp_30 : decode cX4_goUp 30 = .ok (.bipush 75, 2) := by decide +kernel
theorem dX4_goUp_32 : decode cX4_goUp 32 = .ok (.iload 4, 2) := by decide +kernel
theorem dX4_goUp_34 : decode cX4_goUp 34 = .ok (.imul, 1) := by decide +kernel
theorem dX4_goUp_35 : decode cX4_goUp 35 = .ok (.bipush 74, 2) := by decide +kernel
theorem dX4_goUp_37 : decode cX4_goUp 37 = .ok (.iadd, 1) := by decide +kernel
theorem dX4_goUp_38 : decode cX4_goUp 38 = .ok (.ldc 142, 2) := by decide +kernel
theorem dX4_goUp_40 : decode cX4_goUp 40 = .ok (.irem, 1) := by decide +kernel
theorem dX4_goUp_41 : decode cX4_goUp 41 = .ok (.istore 4, 2) := by decide +kernel
theorem dX4_goUp_43 : decode cX4_goUp 43 = .ok (.aload_n 0, 1) := by decide +kernel
theorem dX4_goUp_44 : decode cX4_goUp 44 = .ok (.iload 4, 2) := by decide +kernel
theorem dX4_goUp_46 : decode cX4_goUp 46 = .ok (.bipush 16, 2) := by decide +kernel
theorem dX4_goUp_48 : decode cX4_goUp 48 = .ok (.irem, 1) := by decide +kernel
theorem dX4_goUp_49 : decode cX4_goUp 49 = .ok (.iload 4, 2) := by decide +kernel
theorem dX4_goUp_51 : decode cX4_goUp 51 = .ok (.bipush 16, 2) := by decide +kernel
theorem dX4_goUp_53 : decode cX4_goUp 53 = .ok (.idiv, 1) := by decide +kernel
theorem dX4_goUp_54 : decode cX4_goUp 54 = .ok (.bipush 16, 2) := by decide +kernel
theorem dX4_goUp_56 : decode cX4_goUp 56 = .ok (.irem, 1) := by decide +kernel
theorem dX4_goUp_57 : decode cX4_goUp 57 = .ok (.invokevirtual 143, 3) := by decide +kernel
theorem dX4_goUp_60 : decode cX4_goUp 60 = .ok (.aload_n 0, 1) := by decide +kernel
theorem dX4_goUp_61 : decode cX4_goUp 61 = .ok (.invokevirtual 136, 3) := by decide +kernel
theorem dX4_goUp_64 : decode cX4_goUp 64 = .ok (.istore 6, 2) := by decide +kernel
theorem dX4_goUp_66 : decode cX4_goUp 66 = .ok (.iload 6, 2) := by decide +kernel
theorem dX4_goUp_68 : decode cX4_goUp 68 = .ok (.iload_n 3, 1) := by decide +kernel
theorem dX4_goUp_69 : decode cX4_goUp 69 = .ok (.if_icmp .ge 23, 3) := by decide +kernel
theorem dX4_goUp_72 : decode cX4_goUp 72 = .ok (.aload_n 0, 1) := by decide +kernel
theorem dX4_goUp_73 : decode cX4_goUp 73 = .ok (.iload 4, 2) := by decide +kernel
theorem dX4_goUp_75 : decode cX4_goUp 75 = .ok (.bipush 16, 2) := by decide +kernel
theorem dX4_goUp_77 : decode cX4_goUp 77 = .ok (.irem, 1) := by decide +kernel
theorem dX4_goUp_78 : decode cX4_goUp 78 = .ok (.iload 4, 2) := by decide +kernel
theorem dX4_goUp_80 : decode cX4_goUp 80 = .ok (.bipush 16, 2) := by decide +kernel
theorem dX4_goUp_82 : decode cX4_goUp 82 = .ok (.idiv, 1) := by decide +kernel
theorem dX4_goUp_83 : decode cX4_goUp 83 = .ok (.bipush 16, 2) := by decide +kernel
theorem dX4_goUp_85 : decode cX4_goUp 85 = .ok (.irem, 1) := by decide +kernel
theorem dX4_goUp_86 : decode cX4_goUp 86 = .ok (.invokevirtual 143, 3) := by decide +kernel
theorem dX4_goUp_89 : decode cX4_goUp 89 = .ok (.goto 16, 3) := by decide +kernel
theorem dX4_goUp_92 : decode cX4_goUp 92 = .ok (.iload 6, 2) := by decide +kernel
theorem dX4_goUp_94 : decode cX4_goUp 94 = .ok (.istore_n 3, 1) := by decide +kernel
theorem dX4_goUp_95 : decode cX4_goUp 95 = .ok (.aload_n 0, 1) := by decide +kernel
theorem dX4_goUp_96 : decode cX4_goUp 96 = .ok (.dup, 1) := by decide +kernel
theorem dX4_goUp_97 : decode cX4_goUp 97 = .ok (.getfield 139, 3) := by decide +kernel
theorem dX4_goUp_100 : decode cX4_goUp 100 = .ok (.iconst 1, 1) := by decide +kernel
theorem dX4_goUp_101 : decode cX4_goUp 101 = .ok (.iadd, 1) := by decide +kernel
theorem dX4_goUp_102 : decode cX4_goUp 102 = .ok (.putfield 139, 3) := by decide +kernel
theorem dX4_goUp_105 : decode cX4_goUp 105 = .ok (.iinc 5 1, 3) := by decide +kernel
theorem dX4_goUp_108 : decode cX4_goUp 108 = .ok (.goto (-84), 3) := by decide +kernel
theorem dX4_goUp_111 : decode cX4_goUp 111 = .ok (.iload_n 3, 1) := by decide +kernel
theorem dX4_goUp_112 : decode cX4_goUp 112 = .ok (.ireturn, 1) := by decide +kernel
set_option maxRecDepth 20000 in
theorem ggX4_climb_X4_in : GoodIn wsX4_climb wsX4_in := goodIn_r _ [6] (by decide +kernel) (by decide +kernel)
set_option maxRecDepth 20000 in
theorem gX4_climb_X4_in : GoodIn wsX4_climb (va_wsS RX4 41 yX4_in wsX4_in) := goodIn_app (goodIn_of _ (by decide +kernel)) ggX4_climb_X4_in
set_option maxRecDepth 20000 in
theorem ggX4_climb_X4_many : GoodIn wsX4_climb wsX4_many := goodIn_r _ [10, 11, 58, 59, 60, 61, 62, 63, 64, 65, 66, 67, 68, 69] (by decide +kernel) (by decide +kernel)
set_option maxRecDepth 20000 in
theorem gX4_climb_X4_many : GoodIn wsX4_climb (wsV RX4 57 RX4 yX4_many wsX4_many) := goodIn_app (goodIn_of _ (by decide +kernel)) ggX4_climb_X4_many
set_option maxRecDepth 20000 in
theorem ggX4_climb_X4_goUp : GoodIn wsX4_climb wsX4_goUp := goodIn_r _ [15, 1, 16, 17, 18, 19, 5, 20, 11, 2, 21, 22, 23, 24, 25, 7, 8, 9, 10, 26, 27, 28, 29, 30, 31, 32, 33, 34, 35, 36, 37, 38, 39, 40, 41, 42, 43, 44, 45, 46, 47, 48, 49, 50, 51, 52, 53, 54, 55, 56, 57, 58, 59, 60, 61, 62, 63, 64, 65, 66, 67, 68, 69] (by decide +kernel) (by decide +kernel)
set_option maxRecDepth 20000 in
theorem gX4_climb_X4_goUp : GoodIn wsX4_climb (wsV RX4 146 RX4 yX4_goUp wsX4_goUp) := goodIn_app (goodIn_of _ (by decide +kernel)) ggX4_climb_X4_goUp
theorem dX4_climb_0 : decode cX4_climb 0 = .ok (.iload_n 1, 1) := by decide +kernel
theorem dX4_climb_1 : decode cX4_climb 1 = .ok (.iconst 0, 1) := by decide +kernel
theorem dX4_climb_2 : decode cX4_climb 2 = .ok (.sipush 9999, 3) := by decide +kernel
theorem dX4_climb_5 : decode cX4_climb 5 = .ok (.invokestatic 41, 3) := by decide +kernel
theorem dX4_climb_8 : decode cX4_climb 8 = .ok (.ifCond .eq 24, 3) := by decide +kernel
theorem dX4_climb_11 : decode cX4_climb 11 = .ok (.iload_n 2, 1) := by decide +kernel
theorem dX4_climb_12 : decode cX4_climb 12 = .ok (.iconst 0, 1) := by decide +kernel
theorem dX4_climb_13 : decode cX4_climb 13 = .ok (.bipush 60, 2) := by decide +kernel
theorem dX4_climb_15 : decode cX4_climb 15 = .ok (.invokestatic 41, 3) := by decide +kernel
theorem dX4_climb_18 : decode cX4_climb 18 = .ok (.ifCond .eq 14, 3) := by decide +kernel
theorem dX4_climb_21 : decode cX4_climb 21 = .ok (.iload_n 3, 1) := by decide +kernel
theorem dX4_climb_22 : decode cX4_climb 22 = .ok (.bipush (-2), 2) := by decide +kernel
theorem dX4_climb_24 : decode cX4_climb 24 = .ok (.bipush 15, 2) := by decide +kernel
theorem dX4_climb_26 : decode cX4_climb 26 = .ok (.invokestatic 41, 3) := by decide +kernel
theorem dX4_climb_29 : decode cX4_climb 29 = .ok (.ifCond .ne 6, 3) := by decide +kernel
theorem dX4_climb_32 : decode cX4_climb 32 = .ok (.bipush (-2), 2) := by decide +kernel
theorem dX4_climb_34 : decode cX4_climb 34 = .ok (.ireturn, 1) := by decide +kernel
theorem dX4_climb_35 : decode cX4_climb 35 = .ok (.aload_n 0, 1) := by decide +kernel
theorem dX4_climb_36 : decode cX4_climb 36 = .ok (.invokevirtual 57, 3) := by decide +kernel
theorem dX4_climb_39 : decode cX4_climb 39 = .ok (.iconst 2, 1) := by decide +kernel
theorem dX4_climb_40 : decode cX4_climb 40 = .ok (.irem, 1) := by decide +kernel
theorem dX4_climb_41 : decode cX4_climb 41 = .ok (.iconst 1, 1) := by decide +kernel
theorem dX4_climb_42 : decode cX4_climb 42 = .ok (.if_icmp .ne 6, 3) := by decide +kernel
theorem dX4_climb_45 : decode cX4_climb 45 = .ok (.bipush (-3), 2) := by decide +kernel
theorem dX4_climb_47 : decode cX4_climb 47 = .ok (.ireturn, 1) := by decide +kernel
theorem dX4_climb_48 : decode cX4_climb 48 = .ok (.aload_n 0, 1) := by decide +kernel
theorem dX4_climb_49 : decode cX4_climb 49 = .ok (.iload_n 1, 1) := by decide +kernel
theorem dX4_climb_50 : decode cX4_climb 50 = .ok (.iload_n 2, 1) := by decide +kernel
theorem dX4_climb_51 : decode cX4_climb 51 = .ok (.invokevirtual 146, 3) := by decide +kernel
theorem dX4_climb_54 : decode cX4_climb 54 = .ok (.istore 4, 2) := by decide +kernel
theorem dX4_climb_56 : decode cX4_climb 56 = .ok (.iload_n 3, 1) := by decide +kernel
theorem dX4_climb_57 : decode cX4_climb 57 = .ok (.iconst (-1), 1) := by decide +kernel
theorem dX4_climb_58 : decode cX4_climb 58 = .ok (.if_icmp .ne 8, 3) := by decide +kernel
theorem dX4_climb_61 : decode cX4_climb 61 = .ok (.iload 4, 2) := by decide +kernel
theorem dX4_climb_63 : decode cX4_climb 63 = .ok (.goto 22, 3) := by decide +kernel
theorem dX4_climb_66 : decode cX4_climb 66 = .ok (.iload_n 3, 1) := by decide +kernel
theorem dX4_climb_67 : decode cX4_climb 67 = .ok (.bipush (-2), 2) := by decide +kernel
theorem dX4_climb_69 : decode cX4_climb 69 = .ok (.if_icmp .ne 10, 3) := by decide +kernel
theorem dX4_climb_72 : decode cX4_climb 72 = .ok (.aload_n 0, 1) := by decide +kernel
theorem dX4_climb_73 : decode cX4_climb 73 = .ok (.getfield 139, 3) := by decide +kernel
theorem dX4_climb_76 : decode cX4_climb 76 = .ok (.goto 9, 3) := by decide +kernel
theorem dX4_climb_79 : decode cX4_climb 79 = .ok (.aload_n 0, 1) := by decide +kernel
theorem dX4_climb_80 : decode cX4_climb 80 = .ok (.getfield 29, 3) := by decide +kernel
theorem dX4_climb_83 : decode cX4_climb 83 = .ok (.iload_n 3, 1) := by decide +kernel
theorem dX4_climb_84 : decode cX4_climb 84 = .ok (.iaload, 1) := by decide +kernel
theorem dX4_climb_85 : decode cX4_climb 85 = .ok (.ireturn, 1) := by decide +kernel
set_option maxRecDepth 20000 in
theorem ggX4_image_X4_in : GoodIn wsX4_image wsX4_in := goodIn_r _ [7] (by decide +kernel) (by decide +kernel)
set_option maxRecDepth 20000 in
theorem gX4_image_X4_in : GoodIn wsX4_image (va_wsS RX4 41 yX4_in wsX4_in) := goodIn_app (goodIn_of _ (by decide +kernel)) ggX4_image_X4_in
theorem dX4_image_0 : decode cX4_image 0 = .ok (.iload_n 1, 1) := by decide +kernel
theorem dX4_image_1 : decode cX4_image 1 = .ok (.iconst 0, 1) := by decide +kernel
theorem dX4_image_2 : decode cX4_image 2 = .ok (.iconst 1, 1) := by decide +kernel
theorem dX4_image_3 : decode cX4_image 3 = .ok (.invokestatic 41, 3) := by decide +kernel
theorem dX4_image_6 : decode cX4_image 6 = .ok (.ifCond .ne 6, 3) := by decide +kernel
theorem dX4_image_9 : decode cX4_image 9 = .ok (.bipush (-2), 2) := by decide +kernel
theorem dX4_image_11 : decode cX4_image 11 = .ok (.ireturn, 1) := by decide +kernel
theorem dX4_image_12 : decode cX4_image 12 = .ok (.iconst 0, 1) := by decide +kernel
theorem dX4_image_13 : decode cX4_image 13 = .ok (.istore_n 2, 1) := by decide +kernel
theorem dX4_image_14 : decode cX4_image 14 = .ok (.iload_n 2, 1) := by decide +kernel
theorem dX4_image_15 : decode cX4_image 15 = .ok (.sipush 819, 3) := by decide +kernel
theorem dX4_image_18 : decode cX4_image 18 = .ok (.if_icmp .ge 27, 3) := by decide +kernel
theorem dX4_image_21 : decode cX4_image 21 = .ok (.aload_n 0, 1) := by decide +kernel
theorem dX4_image_22 : decode cX4_image 22 = .ok (.getfield 13, 3) := by decide +kernel
theorem dX4_image_25 : decode cX4_image 25 = .ok (.sipush 819, 3) := by decide +kernel
theorem dX4_image_28 : decode cX4_image 28 = .ok (.iload_n 1, 1) := by decide +kernel
theorem dX4_image_29 : decode cX4_image 29 = .ok (.imul, 1) := by decide +kernel
theorem dX4_image_30 : decode cX4_image 30 = .ok (.iload_n 2, 1) := by decide +kernel
theorem dX4_image_31 : decode cX4_image 31 = .ok (.iadd, 1) := by decide +kernel
theorem dX4_image_32 : decode cX4_image 32 = .ok (.aload_n 0, 1) := by decide +kernel
theorem dX4_image_33 : decode cX4_image 33 = .ok (.getfield 7, 3) := by decide +kernel
theorem dX4_image_36 : decode cX4_image 36 = .ok (.iload_n 2, 1) := by decide +kernel
theorem dX4_image_37 : decode cX4_image 37 = .ok (.iaload, 1) := by decide +kernel
theorem dX4_image_38 : decode cX4_image 38 = .ok (.iastore, 1) := by decide +kernel
theorem dX4_image_39 : decode cX4_image 39 = .ok (.iinc 2 1, 3) := by decide +kernel
theorem dX4_image_42 : decode cX4_image 42 = .ok (.goto (-28), 3) := by decide +kernel
theorem dX4_image_45 : decode cX4_image 45 = .ok (.aload_n 0, 1) := by decide +kernel
theorem dX4_image_46 : decode cX4_image 46 = .ok (.getfield 16, 3) := by decide +kernel
theorem dX4_image_49 : decode cX4_image 49 = .ok (.iload_n 1, 1) := by decide +kernel
theorem dX4_image_50 : decode cX4_image 50 = .ok (.iconst 1, 1) := by decide +kernel
theorem dX4_image_51 : decode cX4_image 51 = .ok (.bastore, 1) := by decide +kernel
theorem dX4_image_52 : decode cX4_image 52 = .ok (.iconst 1, 1) := by decide +kernel
theorem dX4_image_53 : decode cX4_image 53 = .ok (.ireturn, 1) := by decide +kernel
set_option maxRecDepth 20000 in
theorem ggX4_restore_X4_in : GoodIn wsX4_restore wsX4_in := goodIn_r _ [7] (by decide +kernel) (by decide +kernel)
set_option maxRecDepth 20000 in
theorem gX4_restore_X4_in : GoodIn wsX4_restore (va_wsS RX4 41 yX4_in wsX4_in) := goodIn_app (goodIn_of _ (by decide +kernel)) ggX4_restore_X4_in
theorem dX4_restore_0 : decode cX4_restore 0 = .ok (.iload_n 1, 1) := by decide +kernel
theorem dX4_restore_1 : decode cX4_restore 1 = .ok (.iconst 0, 1) := by decide +kernel
theorem dX4_restore_2 : decode cX4_restore 2 = .ok (.iconst 1, 1) := by decide +kernel
theorem dX4_restore_3 : decode cX4_restore 3 = .ok (.invokestatic 41, 3) := by decide +kernel
theorem dX4_restore_6 : decode cX4_restore 6 = .ok (.ifCond .ne 6, 3) := by decide +kernel
theorem dX4_restore_9 : decode cX4_restore 9 = .ok (.bipush (-2), 2) := by decide +kernel
theorem dX4_restore_11 : decode cX4_restore 11 = .ok (.ireturn, 1) := by decide +kernel
theorem dX4_restore_12 : decode cX4_restore 12 = .ok (.aload_n 0, 1) := by decide +kernel
theorem dX4_restore_13 : decode cX4_restore 13 = .ok (.getfield 16, 3) := by decide +kernel
theorem dX4_restore_16 : decode cX4_restore 16 = .ok (.iload_n 1, 1) := by decide +kernel
theorem dX4_restore_17 : decode cX4_restore 17 = .ok (.baload, 1) := by decide +kernel
theorem dX4_restore_18 : decode cX4_restore 18 = .ok (.ifCond .ne 6, 3) := by decide +kernel
theorem dX4_restore_21 : decode cX4_restore 21 = .ok (.bipush (-3), 2) := by decide +kernel
theorem dX4_restore_23 : decode cX4_restore 23 = .ok (.ireturn, 1) := by decide +kernel
theorem dX4_restore_24 : decode cX4_restore 24 = .ok (.iconst 0, 1) := by decide +kernel
theorem dX4_restore_25 : decode cX4_restore 25 = .ok (.istore_n 2, 1) := by decide +kernel
theorem dX4_restore_26 : decode cX4_restore 26 = .ok (.iload_n 2, 1) := by decide +kernel
theorem dX4_restore_27 : decode cX4_restore 27 = .ok (.sipush 819, 3) := by decide +kernel
theorem dX4_restore_30 : decode cX4_restore 30 = .ok (.if_icmp .ge 27, 3) := by decide +kernel
theorem dX4_restore_33 : decode cX4_restore 33 = .ok (.aload_n 0, 1) := by decide +kernel
theorem dX4_restore_34 : decode cX4_restore 34 = .ok (.getfield 7, 3) := by decide +kernel
theorem dX4_restore_37 : decode cX4_restore 37 = .ok (.iload_n 2, 1) := by decide +kernel
theorem dX4_restore_38 : decode cX4_restore 38 = .ok (.aload_n 0, 1) := by decide +kernel
theorem dX4_restore_39 : decode cX4_restore 39 = .ok (.getfield 13, 3) := by decide +kernel
theorem dX4_restore_42 : decode cX4_restore 42 = .ok (.sipush 819, 3) := by decide +kernel
theorem dX4_restore_45 : decode cX4_restore 45 = .ok (.iload_n 1, 1) := by decide +kernel
theorem dX4_restore_46 : decode cX4_restore 46 = .ok (.imul, 1) := by decide +kernel
theorem dX4_restore_47 : decode cX4_restore 47 = .ok (.iload_n 2, 1) := by decide +kernel
theorem dX4_restore_48 : decode cX4_restore 48 = .ok (.iadd, 1) := by decide +kernel
theorem dX4_restore_49 : decode cX4_restore 49 = .ok (.iaload, 1) := by decide +kernel
theorem dX4_restore_50 : decode cX4_restore 50 = .ok (.iastore, 1) := by decide +kernel
theorem dX4_restore_51 : decode cX4_restore 51 = .ok (.iinc 2 1, 3) := by decide +kernel
theorem dX4_restore_54 : decode cX4_restore 54 = .ok (.goto (-28), 3) := by decide +kernel
theorem dX4_restore_57 : decode cX4_restore 57 = .ok (.iconst 1, 1) := by decide +kernel
theorem dX4_restore_58 : decode cX4_restore 58 = .ok (.ireturn, 1) := by decide +kernel
set_option maxRecDepth 20000 in
theorem ggX4_count_X4_in : GoodIn wsX4_count wsX4_in := goodIn_r _ [7] (by decide +kernel) (by decide +kernel)
set_option maxRecDepth 20000 in
theorem gX4_count_X4_in : GoodIn wsX4_count (va_wsS RX4 41 yX4_in wsX4_in) := goodIn_app (goodIn_of _ (by decide +kernel)) ggX4_count_X4_in
set_option maxRecDepth 20000 in
theorem ggX4_count_X4_many : GoodIn wsX4_count wsX4_many := goodIn_r _ [11, 1, 16, 17, 18, 19, 20, 21, 22, 23, 24, 25, 26, 27] (by decide +kernel) (by decide +kernel)
set_option maxRecDepth 20000 in
theorem gX4_count_X4_many : GoodIn wsX4_count (wsV RX4 57 RX4 yX4_many wsX4_many) := goodIn_app (goodIn_of _ (by decide +kernel)) ggX4_count_X4_many
set_option maxRecDepth 20000 in
theorem ggX4_count_X4_liked : GoodIn wsX4_count wsX4_liked := goodIn_r _ [15, 1, 16, 17, 18, 19, 20, 21, 22, 23, 24, 25, 26, 27] (by decide +kernel) (by decide +kernel)
set_option maxRecDepth 20000 in
theorem gX4_count_X4_liked : GoodIn wsX4_count (wsV RX4 53 RX4 yX4_liked wsX4_liked) := goodIn_app (goodIn_of _ (by decide +kernel)) ggX4_count_X4_liked
theorem dX4_count_0 : decode cX4_count 0 = .ok (.iload_n 1, 1) := by decide +kernel
theorem dX4_count_1 : decode cX4_count 1 = .ok (.bipush 10, 2) := by decide +kernel
theorem dX4_count_3 : decode cX4_count 3 = .ok (.bipush 25, 2) := by decide +kernel
theorem dX4_count_5 : decode cX4_count 5 = .ok (.invokestatic 41, 3) := by decide +kernel
theorem dX4_count_8 : decode cX4_count 8 = .ok (.ifCond .eq 16, 3) := by decide +kernel
theorem dX4_count_11 : decode cX4_count 11 = .ok (.aload_n 0, 1) := by decide +kernel
theorem dX4_count_12 : decode cX4_count 12 = .ok (.getfield 7, 3) := by decide +kernel
theorem dX4_count_15 : decode cX4_count 15 = .ok (.bipush 56, 2) := by decide +kernel
theorem dX4_count_17 : decode cX4_count 17 = .ok (.iload_n 1, 1) := by decide +kernel
theorem dX4_count_18 : decode cX4_count 18 = .ok (.iadd, 1) := by decide +kernel
theorem dX4_count_19 : decode cX4_count 19 = .ok (.bipush 10, 2) := by decide +kernel
theorem dX4_count_21 : decode cX4_count 21 = .ok (.isub, 1) := by decide +kernel
theorem dX4_count_22 : decode cX4_count 22 = .ok (.iaload, 1) := by decide +kernel
theorem dX4_count_23 : decode cX4_count 23 = .ok (.ireturn, 1) := by decide +kernel
theorem dX4_count_24 : decode cX4_count 24 = .ok (.iload_n 1, 1) := by decide +kernel
theorem dX4_count_25 : decode cX4_count 25 = .ok (.tableswitch 101 0 5 #[39, 44, 52, 57, 66, 71], 39) := by decide +kernel
theorem dX4_count_64 : decode cX4_count 64 = .ok (.aload_n 0, 1) := by decide +kernel
theorem dX4_count_65 : decode cX4_count 65 = .ok (.invokevirtual 57, 3) := by decide +kernel
theorem dX4_count_68 : decode cX4_count 68 = .ok (.ireturn, 1) := by decide +kernel
theorem dX4_count_69 : decode cX4_count 69 = .ok (.aload_n 0, 1) := by decide +kernel
theorem dX4_count_70 : decode cX4_count 70 = .ok (.getfield 7, 3) := by decide +kernel
theorem dX4_count_73 : decode cX4_count 73 = .ok (.bipush 55, 2) := by decide +kernel
theorem dX4_count_75 : decode cX4_count 75 = .ok (.iaload, 1) := by decide +kernel
theorem dX4_count_76 : decode cX4_count 76 = .ok (.ireturn, 1) := by decide +kernel
theorem dX4_count_77 : decode cX4_count 77 = .ok (.aload_n 0, 1) := by decide +kernel
theorem dX4_count_78 : decode cX4_count 78 = .ok (.getfield 45, 3) := by decide +kernel
theorem dX4_count_81 : decode cX4_count 81 = .ok (.ireturn, 1) := by decide +kernel
theorem dX4_count_82 : decode cX4_count 82 = .ok (.aload_n 0, 1) := by decide +kernel
theorem dX4_count_83 : decode cX4_count 83 = .ok (.getfield 7, 3) := by decide +kernel
theorem dX4_count_86 : decode cX4_count 86 = .ok (.sipush 328, 3) := by decide +kernel
theorem dX4_count_89 : decode cX4_count 89 = .ok (.iaload, 1) := by decide +kernel
theorem dX4_count_90 : decode cX4_count 90 = .ok (.ireturn, 1) := by decide +kernel
theorem dX4_count_91 : decode cX4_count 91 = .ok (.aload_n 0, 1) := by decide +kernel
theorem dX4_count_92 : decode cX4_count 92 = .ok (.invokevirtual 53, 3) := by decide +kernel
theorem dX4_count_95 : decode cX4_count 95 = .ok (.ireturn, 1) := by decide +kernel
theorem dX4_count_96 : decode cX4_count 96 = .ok (.aload_n 0, 1) := by decide +kernel
theorem dX4_count_97 : decode cX4_count 97 = .ok (.getfield 16, 3) := by decide +kernel
theorem dX4_count_100 : decode cX4_count 100 = .ok (.iconst 0, 1) := by decide +kernel
theorem dX4_count_101 : decode cX4_count 101 = .ok (.baload, 1) := by decide +kernel
theorem dX4_count_102 : decode cX4_count 102 = .ok (.ifCond .eq 7, 3) := by decide +kernel
theorem dX4_count_105 : decode cX4_count 105 = .ok (.iconst 1, 1) := by decide +kernel
theorem dX4_count_106 : decode cX4_count 106 = .ok (.goto 4, 3) := by decide +kernel
theorem dX4_count_109 : decode cX4_count 109 = .ok (.iconst 0, 1) := by decide +kernel
theorem dX4_count_110 : decode cX4_count 110 = .ok (.aload_n 0, 1) := by decide +kernel
theorem dX4_count_111 : decode cX4_count 111 = .ok (.getfield 16, 3) := by decide +kernel
theorem dX4_count_114 : decode cX4_count 114 = .ok (.iconst 1, 1) := by decide +kernel
theorem dX4_count_115 : decode cX4_count 115 = .ok (.baload, 1) := by decide +kernel
theorem dX4_count_116 : decode cX4_count 116 = .ok (.ifCond .eq 7, 3) := by decide +kernel
theorem dX4_count_119 : decode cX4_count 119 = .ok (.iconst 2, 1) := by decide +kernel
theorem dX4_count_120 : decode cX4_count 120 = .ok (.goto 4, 3) := by decide +kernel
theorem dX4_count_123 : decode cX4_count 123 = .ok (.iconst 0, 1) := by decide +kernel
theorem dX4_count_124 : decode cX4_count 124 = .ok (.iadd, 1) := by decide +kernel
theorem dX4_count_125 : decode cX4_count 125 = .ok (.ireturn, 1) := by decide +kernel
theorem dX4_count_126 : decode cX4_count 126 = .ok (.bipush (-2), 2) := by decide +kernel
theorem dX4_count_128 : decode cX4_count 128 = .ok (.ireturn, 1) := by decide +kernel
theorem dJ6_bitCount_0f7a4_0 : decode cJ6_bitCount_0f7a4 0 = .ok (.iload_n 0, 1) := by decide +kernel
theorem dJ6_bitCount_0f7a4_1 : decode cJ6_bitCount_0f7a4 1 = .ok (.iload_n 0, 1) := by decide +kernel
theorem dJ6_bitCount_0f7a4_2 : decode cJ6_bitCount_0f7a4 2 = .ok (.iconst 1, 1) := by decide +kernel
theorem dJ6_bitCount_0f7a4_3 : decode cJ6_bitCount_0f7a4 3 = .ok (.iushr, 1) := by decide +kernel
theorem dJ6_bitCount_0f7a4_4 : decode cJ6_bitCount_0f7a4 4 = .ok (.ldc_w 265, 3) := by decide +kernel
theorem dJ6_bitCount_0f7a4_7 : decode cJ6_bitCount_0f7a4 7 = .ok (.iand, 1) := by decide +kernel
theorem dJ6_bitCount_0f7a4_8 : decode cJ6_bitCount_0f7a4 8 = .ok (.isub, 1) := by decide +kernel
theorem dJ6_bitCount_0f7a4_9 : decode cJ6_bitCount_0f7a4 9 = .ok (.istore_n 0, 1) := by decide +kernel
theorem dJ6_bitCount_0f7a4_10 : decode cJ6_bitCount_0f7a4 10 = .ok (.iload_n 0, 1) := by decide +kernel
theorem dJ6_bitCount_0f7a4_11 : decode cJ6_bitCount_0f7a4 11 = .ok (.ldc_w 266, 3) := by decide +kernel
theorem dJ6_bitCount_0f7a4_14 : decode cJ6_bitCount_0f7a4 14 = .ok (.iand, 1) := by decide +kernel
theorem dJ6_bitCount_0f7a4_15 : decode cJ6_bitCount_0f7a4 15 = .ok (.iload_n 0, 1) := by decide +kernel
theorem dJ6_bitCount_0f7a4_16 : decode cJ6_bitCount_0f7a4 16 = .ok (.iconst 2, 1) := by decide +kernel
theorem dJ6_bitCount_0f7a4_17 : decode cJ6_bitCount_0f7a4 17 = .ok (.iushr, 1) := by decide +kernel
theorem dJ6_bitCount_0f7a4_18 : decode cJ6_bitCount_0f7a4 18 = .ok (.ldc_w 266, 3) := by decide +kernel
theorem dJ6_bitCount_0f7a4_21 : decode cJ6_bitCount_0f7a4 21 = .ok (.iand, 1) := by decide +kernel
theorem dJ6_bitCount_0f7a4_22 : decode cJ6_bitCount_0f7a4 22 = .ok (.iadd, 1) := by decide +kernel
theorem dJ6_bitCount_0f7a4_23 : decode cJ6_bitCount_0f7a4 23 = .ok (.istore_n 0, 1) := by decide +kernel
theorem dJ6_bitCount_0f7a4_24 : decode cJ6_bitCount_0f7a4 24 = .ok (.iload_n 0, 1) := by decide +kernel
theorem dJ6_bitCount_0f7a4_25 : decode cJ6_bitCount_0f7a4 25 = .ok (.iload_n 0, 1) := by decide +kernel
theorem dJ6_bitCount_0f7a4_26 : decode cJ6_bitCount_0f7a4 26 = .ok (.iconst 4, 1) := by decide +kernel
theorem dJ6_bitCount_0f7a4_27 : decode cJ6_bitCount_0f7a4 27 = .ok (.iushr, 1) := by decide +kernel
theorem dJ6_bitCount_0f7a4_28 : decode cJ6_bitCount_0f7a4 28 = .ok (.iadd, 1) := by decide +kernel
theorem dJ6_bitCount_0f7a4_29 : decode cJ6_bitCount_0f7a4 29 = .ok (.ldc_w 267, 3) := by decide +kernel
theorem dJ6_bitCount_0f7a4_32 : decode cJ6_bitCount_0f7a4 32 = .ok (.iand, 1) := by decide +kernel
theorem dJ6_bitCount_0f7a4_33 : decode cJ6_bitCount_0f7a4 33 = .ok (.istore_n 0, 1) := by decide +kernel
theorem dJ6_bitCount_0f7a4_34 : decode cJ6_bitCount_0f7a4 34 = .ok (.iload_n 0, 1) := by decide +kernel
theorem dJ6_bitCount_0f7a4_35 : decode cJ6_bitCount_0f7a4 35 = .ok (.iload_n 0, 1) := by decide +kernel
theorem dJ6_bitCount_0f7a4_36 : decode cJ6_bitCount_0f7a4 36 = .ok (.bipush 8, 2) := by decide +kernel
theorem dJ6_bitCount_0f7a4_38 : decode cJ6_bitCount_0f7a4 38 = .ok (.iushr, 1) := by decide +kernel
theorem dJ6_bitCount_0f7a4_39 : decode cJ6_bitCount_0f7a4 39 = .ok (.iadd, 1) := by decide +kernel
theorem dJ6_bitCount_0f7a4_40 : decode cJ6_bitCount_0f7a4 40 = .ok (.istore_n 0, 1) := by decide +kernel
theorem dJ6_bitCount_0f7a4_41 : decode cJ6_bitCount_0f7a4 41 = .ok (.iload_n 0, 1) := by decide +kernel
theorem dJ6_bitCount_0f7a4_42 : decode cJ6_bitCount_0f7a4 42 = .ok (.iload_n 0, 1) := by decide +kernel
theorem dJ6_bitCount_0f7a4_43 : decode cJ6_bitCount_0f7a4 43 = .ok (.bipush 16, 2) := by decide +kernel
theorem dJ6_bitCount_0f7a4_45 : decode cJ6_bitCount_0f7a4 45 = .ok (.iushr, 1) := by decide +kernel
theorem dJ6_bitCount_0f7a4_46 : decode cJ6_bitCount_0f7a4 46 = .ok (.iadd, 1) := by decide +kernel
theorem dJ6_bitCount_0f7a4_47 : decode cJ6_bitCount_0f7a4 47 = .ok (.istore_n 0, 1) := by decide +kernel
theorem dJ6_bitCount_0f7a4_48 : decode cJ6_bitCount_0f7a4 48 = .ok (.iload_n 0, 1) := by decide +kernel
theorem dJ6_bitCount_0f7a4_49 : decode cJ6_bitCount_0f7a4 49 = .ok (.bipush 63, 2) := by decide +kernel
theorem dJ6_bitCount_0f7a4_51 : decode cJ6_bitCount_0f7a4 51 = .ok (.iand, 1) := by decide +kernel
theorem dJ6_bitCount_0f7a4_52 : decode cJ6_bitCount_0f7a4 52 = .ok (.ireturn, 1) := by decide +kernel
abbrev vwCl : List vw_C := [(RX0, TX0, 9), (RX1, TX1, 2), (RX2, TX2, 5), (RX3, TX3, 8), (RX4, TX4, 12)]
end
section
/-! abstract memory: cell, place, number; the worlds of the class and of the reference; the judgement J over them -/
abbrev sq_S : Type := Nat → Nat → Int
abbrev sq_G : Type := va_G × (ClassId × ClassId × ClassId) × (Nat → Nat)
def sq_z (a : Int) : Int32 := Int32.ofInt a
def sq_row (st : sq_S) (q : Nat) (F : Nat → Int) : sq_S := fun c => if c = q then F else st c
def sq_set (st : sq_S) (q k : Nat) (x : Int) : sq_S := sq_row st q (fun j => if j = k then x else st q j)
def sq_cp (f h : Nat → Int) (sp dp n : Nat) : Nat → Int := fun k => if dp ≤ k ∧ k < dp + n then f (sp + (k - dp)) else h k
abbrev sq_rg (a : Int) : Prop := -2147483648 ≤ a ∧ a ≤ 2147483647
abbrev sq_ib (i : Int) (n : Int) : Prop := 0 ≤ i ∧ i < n
def sq_and (a b : Int) : Int := (sq_z a &&& sq_z b).toInt
def sq_or (a b : Int) : Int := (sq_z a ||| sq_z b).toInt
def sq_xor (a b : Int) : Int := (sq_z a ^^^ sq_z b).toInt
def sq_shl (a b : Int) : Int := (sq_z a <<< (sq_z b &&& 31)).toInt
def sq_shr (a b : Int) : Int := (sq_z a >>> (sq_z b &&& 31)).toInt
def sq_ushr (a b : Int) : Int := ((sq_z a).toUInt32 >>> ((sq_z b).toUInt32 &&& Int32.toUInt32 31)).toInt32.toInt
def sq_tys (g : sq_G) : List (ClassId × FieldType) := [(g.2.1.1, .int), (g.2.1.2.1, .boolean), (g.2.1.2.2, .object "SecretSquares$Desk")]
def sq_im (g : sq_G) : Nat → Option Nat := fun k => if k = 0 then some (g.2.2 9) else if k = 1 then some (g.2.2 16) else none

def sq_X (g : sq_G) (st : sq_S) : va_W := [
  (g.2.2 0, .inr (3, [.ref (g.2.2 1), .int (sq_z (st 0 1)), .ref (g.2.2 2), .ref (g.2.2 23), .int (sq_z (st 0 4)), .ref (g.2.2 24), .ref (g.2.2 32), .ref (g.2.2 33)])),
  (g.2.2 1, .inl (g.2.1.1, 48, .inl (fun k => sq_z (st 1 k)))),
  (g.2.2 2, .inr (0, [.ref (g.2.2 3), .int (sq_z (st 2 1)), .ref (g.2.2 4), .int (sq_z (st 2 3)), .ref (g.2.2 5), .ref (g.2.2 6), .ref (g.2.2 7), .ref (g.2.2 8), .int (sq_z (st 2 8))])),
  (g.2.2 3, .inl (g.2.1.1, 48, .inl (fun k => sq_z (st 3 k)))),
  (g.2.2 4, .inl (g.2.1.1, 6, .inl (fun k => sq_z (st 4 k)))),
  (g.2.2 5, .inl (g.2.1.1, 16, .inl (fun k => sq_z (st 5 k)))),
  (g.2.2 6, .inl (g.2.1.1, 16, .inl (fun k => sq_z (st 6 k)))),
  (g.2.2 7, .inl (g.2.1.1, 480, .inl (fun k => sq_z (st 7 k)))),
  (g.2.2 8, .inl (g.2.1.1, 10, .inl (fun k => sq_z (st 8 k)))),
  (g.2.2 9, .inr (0, [.ref (g.2.2 10), .int (sq_z (st 9 1)), .ref (g.2.2 11), .int (sq_z (st 9 3)), .ref (g.2.2 12), .ref (g.2.2 13), .ref (g.2.2 14), .ref (g.2.2 15), .int (sq_z (st 9 8))])),
  (g.2.2 10, .inl (g.2.1.1, 48, .inl (fun k => sq_z (st 10 k)))),
  (g.2.2 11, .inl (g.2.1.1, 6, .inl (fun k => sq_z (st 11 k)))),
  (g.2.2 12, .inl (g.2.1.1, 16, .inl (fun k => sq_z (st 12 k)))),
  (g.2.2 13, .inl (g.2.1.1, 16, .inl (fun k => sq_z (st 13 k)))),
  (g.2.2 14, .inl (g.2.1.1, 480, .inl (fun k => sq_z (st 14 k)))),
  (g.2.2 15, .inl (g.2.1.1, 10, .inl (fun k => sq_z (st 15 k)))),
  (g.2.2 16, .inr (0, [.ref (g.2.2 17), .int (sq_z (st 16 1)), .ref (g.2.2 18), .int (sq_z (st 16 3)), .ref (g.2.2 19), .ref (g.2.2 20), .ref (g.2.2 21), .ref (g.2.2 22), .int (sq_z (st 16 8))])),
  (g.2.2 17, .inl (g.2.1.1, 48, .inl (fun k => sq_z (st 17 k)))),
  (g.2.2 18, .inl (g.2.1.1, 6, .inl (fun k => sq_z (st 18 k)))),
  (g.2.2 19, .inl (g.2.1.1, 16, .inl (fun k => sq_z (st 19 k)))),
  (g.2.2 20, .inl (g.2.1.1, 16, .inl (fun k => sq_z (st 20 k)))),
  (g.2.2 21, .inl (g.2.1.1, 480, .inl (fun k => sq_z (st 21 k)))),
  (g.2.2 22, .inl (g.2.1.1, 10, .inl (fun k => sq_z (st 22 k)))),
  (g.2.2 23, .inl (g.2.1.2.2, 2, .inr (.inr (.inr (.inr (sq_im g)))))),
  (g.2.2 24, .inr (2, [.ref (g.2.2 25), .ref (g.2.2 26), .ref (g.2.2 29), .ref (g.2.2 30), .ref (g.2.2 31)])),
  (g.2.2 25, .inl (g.2.1.1, 48, .inl (fun k => sq_z (st 25 k)))),
  (g.2.2 26, .inr (1, [.ref (g.2.2 27), .ref (g.2.2 28)])),
  (g.2.2 27, .inl (g.2.1.1, 16, .inl (fun k => sq_z (st 27 k)))),
  (g.2.2 28, .inl (g.2.1.1, 16, .inl (fun k => sq_z (st 28 k)))),
  (g.2.2 29, .inl (g.2.1.1, 6, .inl (fun k => sq_z (st 29 k)))),
  (g.2.2 30, .inl (g.2.1.1, 48, .inl (fun k => sq_z (st 30 k)))),
  (g.2.2 31, .inl (g.2.1.1, 96, .inl (fun k => sq_z (st 31 k)))),
  (g.2.2 32, .inl (g.2.1.1, 16, .inl (fun k => sq_z (st 32 k)))),
  (g.2.2 33, .inl (g.2.1.1, 6, .inl (fun k => sq_z (st 33 k))))]
def sq_M (g : sq_G) (st : sq_S) : va_W := [
  (g.2.2 0, .inr (4, [.ref (g.2.2 1), .ref (g.2.2 2), .ref (g.2.2 3), .ref (g.2.2 4), .int (sq_z (st 0 4)), .ref (g.2.2 5), .ref (g.2.2 6), .ref (g.2.2 7), .ref (g.2.2 8), .ref (g.2.2 9), .ref (g.2.2 10), .int (sq_z (st 0 11))])),
  (g.2.2 1, .inl (g.2.1.1, 819, .inl (fun k => sq_z (st 1 k)))),
  (g.2.2 2, .inl (g.2.1.1, 1638, .inl (fun k => sq_z (st 2 k)))),
  (g.2.2 3, .inl (g.2.1.2.1, 2, .inl (fun k => sq_z (st 3 k)))),
  (g.2.2 4, .inl (g.2.1.1, 48, .inl (fun k => sq_z (st 4 k)))),
  (g.2.2 5, .inl (g.2.1.1, 48, .inl (fun k => sq_z (st 5 k)))),
  (g.2.2 6, .inl (g.2.1.1, 48, .inl (fun k => sq_z (st 6 k)))),
  (g.2.2 7, .inl (g.2.1.1, 16, .inl (fun k => sq_z (st 7 k)))),
  (g.2.2 8, .inl (g.2.1.1, 6, .inl (fun k => sq_z (st 8 k)))),
  (g.2.2 9, .inl (g.2.1.1, 48, .inl (fun k => sq_z (st 9 k)))),
  (g.2.2 10, .inl (g.2.1.1, 96, .inl (fun k => sq_z (st 10 k))))]
/-- cell q is an array of ints of n places -/
def sq_ar (wl : sq_G → sq_S → va_W) (q n : Nat) : Prop := n < 2147483648 ∧ ∀ (g : sq_G) (st : sq_S), (wl g st)[q]? = some (g.2.2 q, .inl (g.2.1.1, n, .inl (fun k => sq_z (st q k)))) ∧ ∀ F : Nat → Int, (wl g st).set q (g.2.2 q, .inl (g.2.1.1, n, .inl (fun k => sq_z (F k)))) = wl g (sq_row st q F)
def sq_az (wl : sq_G → sq_S → va_W) (q n : Nat) : Prop := n < 2147483648 ∧ ∀ (g : sq_G) (st : sq_S), (wl g st)[q]? = some (g.2.2 q, .inl (g.2.1.2.1, n, .inl (fun k => sq_z (st q k)))) ∧ ∀ F : Nat → Int, (wl g st).set q (g.2.2 q, .inl (g.2.1.2.1, n, .inl (fun k => sq_z (F k)))) = wl g (sq_row st q F)
/-- cell q is an object of class ci; its field k is an int -/
def sq_fi (wl : sq_G → sq_S → va_W) (q ci k : Nat) : Prop := ∀ (g : sq_G) (st : sq_S), ∃ fs : List Value, (wl g st)[q]? = some (g.2.2 q, .inr (ci, fs)) ∧ fs[k]? = some (.int (sq_z (st q k))) ∧ k < fs.length ∧ ∀ x : Int, (wl g st).set q (g.2.2 q, .inr (ci, fs.set k (.int (sq_z x)))) = wl g (sq_set st q k x)
/-- .. its field k is a reference to cell r -/
def sq_fr (wl : sq_G → sq_S → va_W) (q ci k r : Nat) : Prop := ∀ (g : sq_G) (st : sq_S), ∃ fs : List Value, (wl g st)[q]? = some (g.2.2 q, .inr (ci, fs)) ∧ fs[k]? = some (.ref (g.2.2 r))

theorem aX_1 : sq_ar sq_X 1 48 := ⟨by decide, fun _ _ => ⟨rfl, fun _ => rfl⟩⟩
theorem aX_3 : sq_ar sq_X 3 48 := ⟨by decide, fun _ _ => ⟨rfl, fun _ => rfl⟩⟩
theorem aX_4 : sq_ar sq_X 4 6 := ⟨by decide, fun _ _ => ⟨rfl, fun _ => rfl⟩⟩
theorem aX_5 : sq_ar sq_X 5 16 := ⟨by decide, fun _ _ => ⟨rfl, fun _ => rfl⟩⟩
theorem aX_6 : sq_ar sq_X 6 16 := ⟨by decide, fun _ _ => ⟨rfl, fun _ => rfl⟩⟩
theorem aX_7 : sq_ar sq_X 7 480 := ⟨by decide, fun _ _ => ⟨rfl, fun _ => rfl⟩⟩
theorem aX_8 : sq_ar sq_X 8 10 := ⟨by decide, fun _ _ => ⟨rfl, fun _ => rfl⟩⟩
theorem aX_10 : sq_ar sq_X 10 48 := ⟨by decide, fun _ _ => ⟨rfl, fun _ => rfl⟩⟩
theorem aX_11 : sq_ar sq_X 11 6 := ⟨by decide, fun _ _ => ⟨rfl, fun _ => rfl⟩⟩
theorem aX_12 : sq_ar sq_X 12 16 := ⟨by decide, fun _ _ => ⟨rfl, fun _ => rfl⟩⟩
theorem aX_13 : sq_ar sq_X 13 16 := ⟨by decide, fun _ _ => ⟨rfl, fun _ => rfl⟩⟩
theorem aX_14 : sq_ar sq_X 14 480 := ⟨by decide, fun _ _ => ⟨rfl, fun _ => rfl⟩⟩
theorem aX_15 : sq_ar sq_X 15 10 := ⟨by decide, fun _ _ => ⟨rfl, fun _ => rfl⟩⟩
theorem aX_17 : sq_ar sq_X 17 48 := ⟨by decide, fun _ _ => ⟨rfl, fun _ => rfl⟩⟩
theorem aX_18 : sq_ar sq_X 18 6 := ⟨by decide, fun _ _ => ⟨rfl, fun _ => rfl⟩⟩
theorem aX_19 : sq_ar sq_X 19 16 := ⟨by decide, fun _ _ => ⟨rfl, fun _ => rfl⟩⟩
theorem aX_20 : sq_ar sq_X 20 16 := ⟨by decide, fun _ _ => ⟨rfl, fun _ => rfl⟩⟩
theorem aX_21 : sq_ar sq_X 21 480 := ⟨by decide, fun _ _ => ⟨rfl, fun _ => rfl⟩⟩
theorem aX_22 : sq_ar sq_X 22 10 := ⟨by decide, fun _ _ => ⟨rfl, fun _ => rfl⟩⟩
theorem aX_25 : sq_ar sq_X 25 48 := ⟨by decide, fun _ _ => ⟨rfl, fun _ => rfl⟩⟩
theorem aX_27 : sq_ar sq_X 27 16 := ⟨by decide, fun _ _ => ⟨rfl, fun _ => rfl⟩⟩
theorem aX_28 : sq_ar sq_X 28 16 := ⟨by decide, fun _ _ => ⟨rfl, fun _ => rfl⟩⟩
theorem aX_29 : sq_ar sq_X 29 6 := ⟨by decide, fun _ _ => ⟨rfl, fun _ => rfl⟩⟩
theorem aX_30 : sq_ar sq_X 30 48 := ⟨by decide, fun _ _ => ⟨rfl, fun _ => rfl⟩⟩
theorem aX_31 : sq_ar sq_X 31 96 := ⟨by decide, fun _ _ => ⟨rfl, fun _ => rfl⟩⟩
theorem aX_32 : sq_ar sq_X 32 16 := ⟨by decide, fun _ _ => ⟨rfl, fun _ => rfl⟩⟩
theorem aX_33 : sq_ar sq_X 33 6 := ⟨by decide, fun _ _ => ⟨rfl, fun _ => rfl⟩⟩
theorem aM_1 : sq_ar sq_M 1 819 := ⟨by decide, fun _ _ => ⟨rfl, fun _ => rfl⟩⟩
theorem aM_2 : sq_ar sq_M 2 1638 := ⟨by decide, fun _ _ => ⟨rfl, fun _ => rfl⟩⟩
theorem aM_4 : sq_ar sq_M 4 48 := ⟨by decide, fun _ _ => ⟨rfl, fun _ => rfl⟩⟩
theorem aM_5 : sq_ar sq_M 5 48 := ⟨by decide, fun _ _ => ⟨rfl, fun _ => rfl⟩⟩
theorem aM_6 : sq_ar sq_M 6 48 := ⟨by decide, fun _ _ => ⟨rfl, fun _ => rfl⟩⟩
theorem aM_7 : sq_ar sq_M 7 16 := ⟨by decide, fun _ _ => ⟨rfl, fun _ => rfl⟩⟩
theorem aM_8 : sq_ar sq_M 8 6 := ⟨by decide, fun _ _ => ⟨rfl, fun _ => rfl⟩⟩
theorem aM_9 : sq_ar sq_M 9 48 := ⟨by decide, fun _ _ => ⟨rfl, fun _ => rfl⟩⟩
theorem aM_10 : sq_ar sq_M 10 96 := ⟨by decide, fun _ _ => ⟨rfl, fun _ => rfl⟩⟩
theorem aM_3 : sq_az sq_M 3 2 := ⟨by decide, fun _ _ => ⟨rfl, fun _ => rfl⟩⟩
theorem fX_0_0 : sq_fr sq_X 0 3 0 1 := fun _ _ => ⟨_, rfl, rfl⟩
theorem fX_0_2 : sq_fr sq_X 0 3 2 2 := fun _ _ => ⟨_, rfl, rfl⟩
theorem fX_0_3 : sq_fr sq_X 0 3 3 23 := fun _ _ => ⟨_, rfl, rfl⟩
theorem fX_0_5 : sq_fr sq_X 0 3 5 24 := fun _ _ => ⟨_, rfl, rfl⟩
theorem fX_0_6 : sq_fr sq_X 0 3 6 32 := fun _ _ => ⟨_, rfl, rfl⟩
theorem fX_0_7 : sq_fr sq_X 0 3 7 33 := fun _ _ => ⟨_, rfl, rfl⟩
theorem fX_0_1 : sq_fi sq_X 0 3 1 := fun _ _ => ⟨_, rfl, rfl, Nat.le_of_ble_eq_true rfl, fun _ => rfl⟩
theorem fX_0_4 : sq_fi sq_X 0 3 4 := fun _ _ => ⟨_, rfl, rfl, Nat.le_of_ble_eq_true rfl, fun _ => rfl⟩
theorem fX_2_0 : sq_fr sq_X 2 0 0 3 := fun _ _ => ⟨_, rfl, rfl⟩
theorem fX_2_2 : sq_fr sq_X 2 0 2 4 := fun _ _ => ⟨_, rfl, rfl⟩
theorem fX_2_4 : sq_fr sq_X 2 0 4 5 := fun _ _ => ⟨_, rfl, rfl⟩
theorem fX_2_5 : sq_fr sq_X 2 0 5 6 := fun _ _ => ⟨_, rfl, rfl⟩
theorem fX_2_6 : sq_fr sq_X 2 0 6 7 := fun _ _ => ⟨_, rfl, rfl⟩
theorem fX_2_7 : sq_fr sq_X 2 0 7 8 := fun _ _ => ⟨_, rfl, rfl⟩
theorem fX_2_1 : sq_fi sq_X 2 0 1 := fun _ _ => ⟨_, rfl, rfl, Nat.le_of_ble_eq_true rfl, fun _ => rfl⟩
theorem fX_2_3 : sq_fi sq_X 2 0 3 := fun _ _ => ⟨_, rfl, rfl, Nat.le_of_ble_eq_true rfl, fun _ => rfl⟩
theorem fX_2_8 : sq_fi sq_X 2 0 8 := fun _ _ => ⟨_, rfl, rfl, Nat.le_of_ble_eq_true rfl, fun _ => rfl⟩
theorem fX_9_0 : sq_fr sq_X 9 0 0 10 := fun _ _ => ⟨_, rfl, rfl⟩
theorem fX_9_2 : sq_fr sq_X 9 0 2 11 := fun _ _ => ⟨_, rfl, rfl⟩
theorem fX_9_4 : sq_fr sq_X 9 0 4 12 := fun _ _ => ⟨_, rfl, rfl⟩
theorem fX_9_5 : sq_fr sq_X 9 0 5 13 := fun _ _ => ⟨_, rfl, rfl⟩
theorem fX_9_6 : sq_fr sq_X 9 0 6 14 := fun _ _ => ⟨_, rfl, rfl⟩
theorem fX_9_7 : sq_fr sq_X 9 0 7 15 := fun _ _ => ⟨_, rfl, rfl⟩
theorem fX_9_1 : sq_fi sq_X 9 0 1 := fun _ _ => ⟨_, rfl, rfl, Nat.le_of_ble_eq_true rfl, fun _ => rfl⟩
theorem fX_9_3 : sq_fi sq_X 9 0 3 := fun _ _ => ⟨_, rfl, rfl, Nat.le_of_ble_eq_true rfl, fun _ => rfl⟩
theorem fX_9_8 : sq_fi sq_X 9 0 8 := fun _ _ => ⟨_, rfl, rfl, Nat.le_of_ble_eq_true rfl, fun _ => rfl⟩
theorem fX_16_0 : sq_fr sq_X 16 0 0 17 := fun _ _ => ⟨_, rfl, rfl⟩
theorem fX_16_2 : sq_fr sq_X 16 0 2 18 := fun _ _ => ⟨_, rfl, rfl⟩
theorem fX_16_4 : sq_fr sq_X 16 0 4 19 := fun _ _ => ⟨_, rfl, rfl⟩
theorem fX_16_5 : sq_fr sq_X 16 0 5 20 := fun _ _ => ⟨_, rfl, rfl⟩
theorem fX_16_6 : sq_fr sq_X 16 0 6 21 := fun _ _ => ⟨_, rfl, rfl⟩
theorem fX_16_7 : sq_fr sq_X 16 0 7 22 := fun _ _ => ⟨_, rfl, rfl⟩
theorem fX_16_1 : sq_fi sq_X 16 0 1 := fun _ _ => ⟨_, rfl, rfl, Nat.le_of_ble_eq_true rfl, fun _ => rfl⟩
theorem fX_16_3 : sq_fi sq_X 16 0 3 := fun _ _ => ⟨_, rfl, rfl, Nat.le_of_ble_eq_true rfl, fun _ => rfl⟩
theorem fX_16_8 : sq_fi sq_X 16 0 8 := fun _ _ => ⟨_, rfl, rfl, Nat.le_of_ble_eq_true rfl, fun _ => rfl⟩
theorem fX_24_0 : sq_fr sq_X 24 2 0 25 := fun _ _ => ⟨_, rfl, rfl⟩
theorem fX_24_1 : sq_fr sq_X 24 2 1 26 := fun _ _ => ⟨_, rfl, rfl⟩
theorem fX_24_2 : sq_fr sq_X 24 2 2 29 := fun _ _ => ⟨_, rfl, rfl⟩
theorem fX_24_3 : sq_fr sq_X 24 2 3 30 := fun _ _ => ⟨_, rfl, rfl⟩
theorem fX_24_4 : sq_fr sq_X 24 2 4 31 := fun _ _ => ⟨_, rfl, rfl⟩
theorem fX_26_0 : sq_fr sq_X 26 1 0 27 := fun _ _ => ⟨_, rfl, rfl⟩
theorem fX_26_1 : sq_fr sq_X 26 1 1 28 := fun _ _ => ⟨_, rfl, rfl⟩
theorem fM_0_0 : sq_fr sq_M 0 4 0 1 := fun _ _ => ⟨_, rfl, rfl⟩
theorem fM_0_1 : sq_fr sq_M 0 4 1 2 := fun _ _ => ⟨_, rfl, rfl⟩
theorem fM_0_2 : sq_fr sq_M 0 4 2 3 := fun _ _ => ⟨_, rfl, rfl⟩
theorem fM_0_3 : sq_fr sq_M 0 4 3 4 := fun _ _ => ⟨_, rfl, rfl⟩
theorem fM_0_5 : sq_fr sq_M 0 4 5 5 := fun _ _ => ⟨_, rfl, rfl⟩
theorem fM_0_6 : sq_fr sq_M 0 4 6 6 := fun _ _ => ⟨_, rfl, rfl⟩
theorem fM_0_7 : sq_fr sq_M 0 4 7 7 := fun _ _ => ⟨_, rfl, rfl⟩
theorem fM_0_8 : sq_fr sq_M 0 4 8 8 := fun _ _ => ⟨_, rfl, rfl⟩
theorem fM_0_9 : sq_fr sq_M 0 4 9 9 := fun _ _ => ⟨_, rfl, rfl⟩
theorem fM_0_10 : sq_fr sq_M 0 4 10 10 := fun _ _ => ⟨_, rfl, rfl⟩
theorem fM_0_4 : sq_fi sq_M 0 4 4 := fun _ _ => ⟨_, rfl, rfl, Nat.le_of_ble_eq_true rfl, fun _ => rfl⟩
theorem fM_0_11 : sq_fi sq_M 0 4 11 := fun _ _ => ⟨_, rfl, rfl, Nat.le_of_ble_eq_true rfl, fun _ => rfl⟩

theorem sq_zt {a : Int} (h : sq_rg a) : (sq_z a).toInt = a := Int32.toInt_ofInt_of_le (by omega) (by omega)
theorem sq_zq (x : Int32) : sq_z x.toInt = x := Int32.ofInt_toInt x
theorem sq_zn (n : Nat) : sq_z (n : Int) = nI n := Int32.ofInt_eq_ofNat
theorem sq_zlt {a b : Int} (ha : sq_rg a) (hb : sq_rg b) : sq_z a < sq_z b ↔ a < b := by rw [Int32.lt_iff_toInt_lt, sq_zt ha, sq_zt hb]
theorem sq_zle {a b : Int} (ha : sq_rg a) (hb : sq_rg b) : sq_z a ≤ sq_z b ↔ a ≤ b := by rw [Int32.le_iff_toInt_le, sq_zt ha, sq_zt hb]
theorem sq_zeq {a b : Int} (ha : sq_rg a) (hb : sq_rg b) : sq_z a = sq_z b ↔ a = b := by rw [← Int32.toInt_inj, sq_zt ha, sq_zt hb]
theorem sq_z0 : (0 : Int32) = sq_z 0 := rfl
theorem sq_r0 : sq_rg 0 := by decide
theorem sq_zadd (a b : Int) : sq_z a + sq_z b = sq_z (a + b) := (Int32.ofInt_add a b).symm
theorem sq_zsub (a b : Int) : sq_z a - sq_z b = sq_z (a - b) := (Int32.ofInt_sub a b).symm
theorem sq_zmul (a b : Int) : sq_z a * sq_z b = sq_z (a * b) := (Int32.ofInt_mul a b).symm
theorem sq_zneg (a : Int) : - sq_z a = sq_z (-a) := (Int32.ofInt_neg a).symm
theorem sq_zdiv {a b : Int} (ha : 0 ≤ a ∧ a ≤ 2147483647) (hb : 0 < b ∧ b ≤ 2147483647) : sq_z a / sq_z b = sq_z (a / b) := by
  obtain ⟨n, rfl⟩ := Int.eq_ofNat_of_zero_le ha.1
  obtain ⟨d, rfl⟩ := Int.eq_ofNat_of_zero_le (Int.le_of_lt hb.1)
  rw [← Int.natCast_ediv, sq_zn, sq_zn, sq_zn]
  exact pk_div (by omega) (by omega) (by omega)
theorem sq_zrem {a b : Int} (ha : 0 ≤ a ∧ a ≤ 2147483647) (hb : 0 < b ∧ b ≤ 2147483647) : sq_z a - sq_z a / sq_z b * sq_z b = sq_z (a % b) := by
  obtain ⟨n, rfl⟩ := Int.eq_ofNat_of_zero_le ha.1
  obtain ⟨d, rfl⟩ := Int.eq_ofNat_of_zero_le (Int.le_of_lt hb.1)
  rw [← Int.natCast_emod, sq_zn, sq_zn, sq_zn]
  exact pk_rem (by omega) (by omega) (by omega)
theorem sq_zne {b : Int} (hb : 0 < b ∧ b ≤ 2147483647) : ¬ sq_z b = 0 := by
  rw [sq_z0, sq_zeq (by omega) sq_r0]
  omega
theorem sq_zin {i : Int} {n : Nat} (hn : n < 2147483648) (h : sq_ib i n) : vp_in (sq_z i) n := by
  rw [vp_in_iff, sq_zt (by omega)]
  exact h
theorem sq_zc {i : Int} {n : Nat} (hn : n < 2147483648) (h : sq_ib i n) : (sq_z i).toNatClampNeg = i.toNat := by
  show (sq_z i).toInt.toNat = i.toNat
  rw [sq_zt (by omega)]
theorem sq_upd (st : sq_S) (q k : Nat) (x : Int) : upd (fun j => sq_z (st q j)) k (sq_z x) = fun j => sq_z ((fun j => if j = k then x else st q j) j) := by
  funext j
  by_cases h : j = k <;> simp [upd, h]
theorem sq_cpz (f h : Nat → Int) (sp dp n : Nat) : va_cpy (fun j => sq_z (f j)) (fun j => sq_z (h j)) sp dp n = fun j => sq_z (sq_cp f h sp dp n j) := by
  funext j
  unfold va_cpy sq_cp
  by_cases hj : dp ≤ j ∧ j < dp + n
  · rw [if_pos hj, if_pos hj]
  · rw [if_neg hj, if_neg hj]
abbrev sq_K : Type := Nat → List (Nat × Value) → List Value → sq_S → Prop
def sq_j (p : Program) (l : Launch) (e : Env) (R : Room) (s : State) (m : MethodId) (args : Array Value) (below : List Frame) (meth : Method) (c : Code) (g : sq_G) (wl : sq_G → sq_S → va_W) (A : Nat → Prop) (nL cells slots : Nat) (Q : State → Prop) : sq_K := fun pc lv stk st =>
  ∀ (H : Heap) (locs : List Loc) (ls : Array Slot), lv_has ls nL lv → va_P g.1 vwCl (wl g st) H → va_D A (wl g st) → va_S A s.heap H locs → W p l e R s m args below meth c H locs cells slots Q (F0 m pc ls stk)
def sq_J (l : Launch) (R : Room) (cc : ByteArray) (nL : Nat) (own : String) (Ts : List Cond) (g : sq_G) (wl : sq_G → sq_S → va_W) (J : sq_K) : Prop :=
  ∃ (p : Program) (e : Env) (s : State) (m : MethodId) (args : Array Value) (below : List Frame) (meth : Method) (c : Code) (A : Nat → Prop) (cells slots : Nat) (Q : State → Prop), p.tables.exec = Jvm.exec ∧ c.code = cc ∧ c.maxLocals = nL ∧ s.vm.findClass own = some m.cls ∧ (∀ w ∈ Ts, w.before args s = true) ∧ va_K g.1 vwCl (sq_tys g) s ∧ (∀ q, s.heap.size ≤ q → A q) ∧ cells ≤ R.cells ∧ slots ≤ R.slots ∧ J = sq_j p l e R s m args below meth c g wl A nL cells slots Q
def sq_P (g : sq_G) (wl : sq_G → sq_S → va_W) (av : List Value) (st : sq_S) (sz : Nat) : Array Value → State → Prop := va_Pc av (fun U => U.heap.size = sz ∧ va_P g.1 vwCl (wl g st) U.heap ∧ va_K g.1 vwCl (sq_tys g) U ∧ va_D (fun _ => True) (wl g st))
def sq_B (g : sq_G) (wl : sq_G → sq_S → va_W) (st : sq_S) (sz : Nat) (u : sq_S) (t : State) : Prop := va_P g.1 vwCl (wl g u) t.heap ∧ va_K g.1 vwCl (sq_tys g) t ∧ va_D (va_A (wl g st) sz) (wl g u)
def sq_Qi (g : sq_G) (wl : sq_G → sq_S → va_W) (st : sq_S) (sz : Nat) (Q : Int → sq_S → Prop) : Array Value → State → Outcome → State → Prop := va_Qi (S := Int × sq_S) (fun r u => r = sq_z u.1 ∧ Q u.1 u.2) (fun u t => sq_B g wl st sz u.2 t) (va_A (wl g st) sz)
def sq_Qv (g : sq_G) (wl : sq_G → sq_S → va_W) (st : sq_S) (sz : Nat) (Q : Int → sq_S → Prop) : Array Value → State → Outcome → State → Prop := va_Qv (S := sq_S) (fun u => Q 0 u) (fun u t => sq_B g wl st sz u t) (va_A (wl g st) sz)
/-- a contract: with an int (or boolean), or with nothing -/
def sq_Ci (l : Launch) (y : MethodName) (ws : List Cond) (rm : Room) (g : sq_G) (wl : sq_G → sq_S → va_W) (av : List Value) (st : sq_S) (Q : Int → sq_S → Prop) : Prop := ∀ sz : Nat, Met l y ws rm (sq_P g wl av st sz) (sq_Qi g wl st sz Q) 0 0 (va_A (wl g st) sz)
def sq_Cv (l : Launch) (y : MethodName) (ws : List Cond) (rm : Room) (g : sq_G) (wl : sq_G → sq_S → va_W) (av : List Value) (st : sq_S) (Q : Int → sq_S → Prop) : Prop := ∀ sz : Nat, Met l y ws rm (sq_P g wl av st sz) (sq_Qv g wl st sz Q) 0 0 (va_A (wl g st) sz)
theorem sq_blind (g : sq_G) (wl : sq_G → sq_S → va_W) (av : List Value) (st : sq_S) (sz : Nat) : FrameBlind (sq_P g wl av st sz) := fun a U g' mk q => by
  obtain ⟨q0, q1, qP, qK, qD⟩ := q
  exact ⟨q0, q1, qP, va_K.moved (u := U) (U := U.calling g' mk a) (Vm.Alike.refl U.vm) qK, qD⟩
section SQR
variable {l : Launch} {R : Room} {cc : ByteArray} {nL : Nat} {own : String} {Ts : List Cond} {g : sq_G} {wl : sq_G → sq_S → va_W} {J : sq_K}
variable {pc : Nat} {lv : List (Nat × Value)} {stk : List Value} {st : sq_S}

theorem sj_iconst (S : sq_J l R cc nL own Ts g wl J) {n : Int} (hd : decode cc pc = .ok (.iconst n, 1)) (k : J (pc + 1) lv (.int (sq_z n) :: stk) st) : J pc lv (stk) st := by
  obtain ⟨p, e, s, m, args, below, meth, c, A, cells, slots, Qs, hx, hb, hml, hown, hts, hK, hA, hc1, hc2, rfl⟩ := S
  intro H locs ls h1 h2 h3 h4
  exact lv_iconst hx hb hd rfl (k H locs ls h1 h2 h3 h4)
theorem sj_bipush (S : sq_J l R cc nL own Ts g wl J) {n : Int} (hd : decode cc pc = .ok (.bipush n, 2)) (hv : (Int8.ofInt n).toInt32 = sq_z n) (k : J (pc + 2) lv (.int (sq_z n) :: stk) st) : J pc lv (stk) st := by
  obtain ⟨p, e, s, m, args, below, meth, c, A, cells, slots, Qs, hx, hb, hml, hown, hts, hK, hA, hc1, hc2, rfl⟩ := S
  intro H locs ls h1 h2 h3 h4
  exact lv_bipush hx hb hd hv (k H locs ls h1 h2 h3 h4)
theorem sj_sipush (S : sq_J l R cc nL own Ts g wl J) {n : Int} (hd : decode cc pc = .ok (.sipush n, 3)) (hv : (Int16.ofInt n).toInt32 = sq_z n) (k : J (pc + 3) lv (.int (sq_z n) :: stk) st) : J pc lv (stk) st := by
  obtain ⟨p, e, s, m, args, below, meth, c, A, cells, slots, Qs, hx, hb, hml, hown, hts, hK, hA, hc1, hc2, rfl⟩ := S
  intro H locs ls h1 h2 h3 h4
  exact lv_sipush hx hb hd hv (k H locs ls h1 h2 h3 h4)
theorem sj_ldc (S : sq_J l R cc nL own Ts g wl J) {n : Int} {ix : Nat} {v : Int32} (hd : decode cc pc = .ok (.ldc ix, 2)) (hw : Cond.constant own ix v ∈ Ts) (hv : v = sq_z n) (k : J (pc + 2) lv (.int (sq_z n) :: stk) st) : J pc lv (stk) st := by
  obtain ⟨p, e, s, m, args, below, meth, c, A, cells, slots, Qs, hx, hb, hml, hown, hts, hK, hA, hc1, hc2, rfl⟩ := S
  intro H locs ls h1 h2 h3 h4
  subst hv
  exact lv_ldc hx hb hown (hts _ hw) hd (k H locs ls h1 h2 h3 h4)
theorem sj_ldcw (S : sq_J l R cc nL own Ts g wl J) {n : Int} {ix : Nat} {v : Int32} (hd : decode cc pc = .ok (.ldc_w ix, 3)) (hw : Cond.constant own ix v ∈ Ts) (hv : v = sq_z n) (k : J (pc + 3) lv (.int (sq_z n) :: stk) st) : J pc lv (stk) st := by
  obtain ⟨p, e, s, m, args, below, meth, c, A, cells, slots, Qs, hx, hb, hml, hown, hts, hK, hA, hc1, hc2, rfl⟩ := S
  intro H locs ls h1 h2 h3 h4
  subst hv
  exact lv_ldcw hx hb hown (hts _ hw) hd (k H locs ls h1 h2 h3 h4)
theorem sj_iload_n (S : sq_J l R cc nL own Ts g wl J) {kk : Fin 4} {i pl : Nat} {x : Int32} (hd : decode cc pc = .ok (.iload_n kk, 1)) (hi : (kk : Nat) = i) (hl : lv[pl]? = some (i, .int x)) (k : J (pc + 1) lv (.int x :: stk) st) : J pc lv (stk) st := by
  obtain ⟨p, e, s, m, args, below, meth, c, A, cells, slots, Qs, hx, hb, hml, hown, hts, hK, hA, hc1, hc2, rfl⟩ := S
  intro H locs ls h1 h2 h3 h4
  exact lv_iload_n hx hb hd hi (lv_at h1 pl hl) (k H locs ls h1 h2 h3 h4)
theorem sj_iload (S : sq_J l R cc nL own Ts g wl J) {i pl : Nat} {x : Int32} (hd : decode cc pc = .ok (.iload i, 2)) (hl : lv[pl]? = some (i, .int x)) (k : J (pc + 2) lv (.int x :: stk) st) : J pc lv (stk) st := by
  obtain ⟨p, e, s, m, args, below, meth, c, A, cells, slots, Qs, hx, hb, hml, hown, hts, hK, hA, hc1, hc2, rfl⟩ := S
  intro H locs ls h1 h2 h3 h4
  exact lv_iload hx hb hd (lv_at h1 pl hl) (k H locs ls h1 h2 h3 h4)
theorem sj_aload_n (S : sq_J l R cc nL own Ts g wl J) {kk : Fin 4} {i pl : Nat} {x : Nat} (hd : decode cc pc = .ok (.aload_n kk, 1)) (hi : (kk : Nat) = i) (hl : lv[pl]? = some (i, .ref x)) (k : J (pc + 1) lv (.ref x :: stk) st) : J pc lv (stk) st := by
  obtain ⟨p, e, s, m, args, below, meth, c, A, cells, slots, Qs, hx, hb, hml, hown, hts, hK, hA, hc1, hc2, rfl⟩ := S
  intro H locs ls h1 h2 h3 h4
  exact lv_aload_n hx hb hd hi (lv_at h1 pl hl) (k H locs ls h1 h2 h3 h4)
theorem sj_aload (S : sq_J l R cc nL own Ts g wl J) {i pl : Nat} {x : Nat} (hd : decode cc pc = .ok (.aload i, 2)) (hl : lv[pl]? = some (i, .ref x)) (k : J (pc + 2) lv (.ref x :: stk) st) : J pc lv (stk) st := by
  obtain ⟨p, e, s, m, args, below, meth, c, A, cells, slots, Qs, hx, hb, hml, hown, hts, hK, hA, hc1, hc2, rfl⟩ := S
  intro H locs ls h1 h2 h3 h4
  exact lv_aload hx hb hd (lv_at h1 pl hl) (k H locs ls h1 h2 h3 h4)
theorem sj_istore_n (S : sq_J l R cc nL own Ts g wl J) {kk : Fin 4} {i : Nat} {x : Int} {lv' : List (Nat × Value)} (hd : decode cc pc = .ok (.istore_n kk, 1)) (hi : (kk : Nat) = i) (hn : i < nL) (hl : ∀ y : Int, (i, Value.int (sq_z y)) :: lv.filter (fun q => !(q.1 == i) && !(q.1 + 1 == i && q.2.category == 2)) = (i, Value.int (sq_z y)) :: lv') (k : ∀ y : Int, y = x → J (pc + 1) ((i, .int (sq_z y)) :: lv') stk st) : J pc lv (.int (sq_z x) :: stk) st := by
  obtain ⟨p, e, s, m, args, below, meth, c, A, cells, slots, Qs, hx, hb, hml, hown, hts, hK, hA, hc1, hc2, rfl⟩ := S
  intro H locs ls h1 h2 h3 h4
  exact lv_istore_n hx hb hd hi h1 hn (hl x) (fun ls' h1' => k x rfl H locs ls' h1' h2 h3 h4)
theorem sj_istore (S : sq_J l R cc nL own Ts g wl J) {i : Nat} {x : Int} {lv' : List (Nat × Value)} (hd : decode cc pc = .ok (.istore i, 2)) (hn : i < nL) (hl : ∀ y : Int, (i, Value.int (sq_z y)) :: lv.filter (fun q => !(q.1 == i) && !(q.1 + 1 == i && q.2.category == 2)) = (i, Value.int (sq_z y)) :: lv') (k : ∀ y : Int, y = x → J (pc + 2) ((i, .int (sq_z y)) :: lv') stk st) : J pc lv (.int (sq_z x) :: stk) st := by
  obtain ⟨p, e, s, m, args, below, meth, c, A, cells, slots, Qs, hx, hb, hml, hown, hts, hK, hA, hc1, hc2, rfl⟩ := S
  intro H locs ls h1 h2 h3 h4
  exact lv_istore hx hb hd h1 hn (hl x) (fun ls' h1' => k x rfl H locs ls' h1' h2 h3 h4)
theorem sj_astore_n (S : sq_J l R cc nL own Ts g wl J) {kk : Fin 4} {i x : Nat} {lv' : List (Nat × Value)} (hd : decode cc pc = .ok (.astore_n kk, 1)) (hi : (kk : Nat) = i) (hn : i < nL) (hl : (i, Value.ref x) :: lv.filter (fun q => !(q.1 == i) && !(q.1 + 1 == i && q.2.category == 2)) = lv') (k : J (pc + 1) lv' stk st) : J pc lv (.ref x :: stk) st := by
  obtain ⟨p, e, s, m, args, below, meth, c, A, cells, slots, Qs, hx, hb, hml, hown, hts, hK, hA, hc1, hc2, rfl⟩ := S
  intro H locs ls h1 h2 h3 h4
  exact lv_astore_n hx hb hd hi h1 hn hl (fun ls' h1' => k H locs ls' h1' h2 h3 h4)
theorem sj_astore (S : sq_J l R cc nL own Ts g wl J) {i x : Nat} {lv' : List (Nat × Value)} (hd : decode cc pc = .ok (.astore i, 2)) (hn : i < nL) (hl : (i, Value.ref x) :: lv.filter (fun q => !(q.1 == i) && !(q.1 + 1 == i && q.2.category == 2)) = lv') (k : J (pc + 2) lv' stk st) : J pc lv (.ref x :: stk) st := by
  obtain ⟨p, e, s, m, args, below, meth, c, A, cells, slots, Qs, hx, hb, hml, hown, hts, hK, hA, hc1, hc2, rfl⟩ := S
  intro H locs ls h1 h2 h3 h4
  exact lv_astore hx hb hd h1 hn hl (fun ls' h1' => k H locs ls' h1' h2 h3 h4)
theorem sj_iinc (S : sq_J l R cc nL own Ts g wl J) {i pl : Nat} {n x : Int} {lv' : List (Nat × Value)} (hd : decode cc pc = .ok (.iinc i n, 3)) (hp : lv[pl]? = some (i, .int (sq_z x))) (hn : i < nL) (hl : ∀ y : Int, (i, Value.int (sq_z y)) :: lv.filter (fun q => !(q.1 == i) && !(q.1 + 1 == i && q.2.category == 2)) = (i, Value.int (sq_z y)) :: lv') (k : J (pc + 3) ((i, .int (sq_z (x + n))) :: lv') stk st) : J pc lv stk st := by
  obtain ⟨p, e, s, m, args, below, meth, c, A, cells, slots, Qs, hx, hb, hml, hown, hts, hK, hA, hc1, hc2, rfl⟩ := S
  intro H locs ls h1 h2 h3 h4
  exact lv_iinc hx hb hd h1 hp (sq_zadd x n) hn (hl (x + n)) (fun ls' h1' => k H locs ls' h1' h2 h3 h4)
theorem sj_lv (S : sq_J l R cc nL own Ts g wl J) {lv' : List (Nat × Value)} (ps : List Nat) (hl : lv_pick lv ps = lv') (k : J pc lv' stk st) : J pc lv stk st := by
  obtain ⟨p, e, s, m, args, below, meth, c, A, cells, slots, Qs, hx, hb, hml, hown, hts, hK, hA, hc1, hc2, rfl⟩ := S
  intro H locs ls h1 h2 h3 h4
  exact k H locs ls (lv_sub h1 ps hl) h2 h3 h4
theorem sj_iadd (S : sq_J l R cc nL own Ts g wl J) {x y : Int} (hd : decode cc pc = .ok (.iadd, 1)) (k : J (pc + 1) lv (.int (sq_z (x + y)) :: stk) st) : J pc lv (.int (sq_z y) :: .int (sq_z x) :: stk) st := by
  obtain ⟨p, e, s, m, args, below, meth, c, A, cells, slots, Qs, hx, hb, hml, hown, hts, hK, hA, hc1, hc2, rfl⟩ := S
  intro H locs ls h1 h2 h3 h4
  have k1 := k H locs ls h1 h2 h3 h4
  rw [← sq_zadd] at k1
  exact lv_iadd hx hb hd k1
theorem sj_isub (S : sq_J l R cc nL own Ts g wl J) {x y : Int} (hd : decode cc pc = .ok (.isub, 1)) (k : J (pc + 1) lv (.int (sq_z (x - y)) :: stk) st) : J pc lv (.int (sq_z y) :: .int (sq_z x) :: stk) st := by
  obtain ⟨p, e, s, m, args, below, meth, c, A, cells, slots, Qs, hx, hb, hml, hown, hts, hK, hA, hc1, hc2, rfl⟩ := S
  intro H locs ls h1 h2 h3 h4
  have k1 := k H locs ls h1 h2 h3 h4
  rw [← sq_zsub] at k1
  exact lv_isub hx hb hd k1
theorem sj_imul (S : sq_J l R cc nL own Ts g wl J) {x y : Int} (hd : decode cc pc = .ok (.imul, 1)) (k : J (pc + 1) lv (.int (sq_z (x * y)) :: stk) st) : J pc lv (.int (sq_z y) :: .int (sq_z x) :: stk) st := by
  obtain ⟨p, e, s, m, args, below, meth, c, A, cells, slots, Qs, hx, hb, hml, hown, hts, hK, hA, hc1, hc2, rfl⟩ := S
  intro H locs ls h1 h2 h3 h4
  have k1 := k H locs ls h1 h2 h3 h4
  rw [← sq_zmul] at k1
  exact lv_imul hx hb hd k1
theorem sj_iand (S : sq_J l R cc nL own Ts g wl J) {x y : Int} (hd : decode cc pc = .ok (.iand, 1)) (k : J (pc + 1) lv (.int (sq_z (sq_and x y)) :: stk) st) : J pc lv (.int (sq_z y) :: .int (sq_z x) :: stk) st := by
  obtain ⟨p, e, s, m, args, below, meth, c, A, cells, slots, Qs, hx, hb, hml, hown, hts, hK, hA, hc1, hc2, rfl⟩ := S
  intro H locs ls h1 h2 h3 h4
  have k1 := k H locs ls h1 h2 h3 h4
  unfold sq_and at k1
  rw [sq_zq] at k1
  exact lv_iand hx hb hd k1
theorem sj_ior (S : sq_J l R cc nL own Ts g wl J) {x y : Int} (hd : decode cc pc = .ok (.ior, 1)) (k : J (pc + 1) lv (.int (sq_z (sq_or x y)) :: stk) st) : J pc lv (.int (sq_z y) :: .int (sq_z x) :: stk) st := by
  obtain ⟨p, e, s, m, args, below, meth, c, A, cells, slots, Qs, hx, hb, hml, hown, hts, hK, hA, hc1, hc2, rfl⟩ := S
  intro H locs ls h1 h2 h3 h4
  have k1 := k H locs ls h1 h2 h3 h4
  unfold sq_or at k1
  rw [sq_zq] at k1
  exact lv_ior hx hb hd k1
theorem sj_ixor (S : sq_J l R cc nL own Ts g wl J) {x y : Int} (hd : decode cc pc = .ok (.ixor, 1)) (k : J (pc + 1) lv (.int (sq_z (sq_xor x y)) :: stk) st) : J pc lv (.int (sq_z y) :: .int (sq_z x) :: stk) st := by
  obtain ⟨p, e, s, m, args, below, meth, c, A, cells, slots, Qs, hx, hb, hml, hown, hts, hK, hA, hc1, hc2, rfl⟩ := S
  intro H locs ls h1 h2 h3 h4
  have k1 := k H locs ls h1 h2 h3 h4
  unfold sq_xor at k1
  rw [sq_zq] at k1
  exact lv_ixor hx hb hd k1
theorem sj_ishl (S : sq_J l R cc nL own Ts g wl J) {x y : Int} (hd : decode cc pc = .ok (.ishl, 1)) (k : J (pc + 1) lv (.int (sq_z (sq_shl x y)) :: stk) st) : J pc lv (.int (sq_z y) :: .int (sq_z x) :: stk) st := by
  obtain ⟨p, e, s, m, args, below, meth, c, A, cells, slots, Qs, hx, hb, hml, hown, hts, hK, hA, hc1, hc2, rfl⟩ := S
  intro H locs ls h1 h2 h3 h4
  have k1 := k H locs ls h1 h2 h3 h4
  unfold sq_shl at k1
  rw [sq_zq] at k1
  exact lv_ishl hx hb hd k1
theorem sj_ishr (S : sq_J l R cc nL own Ts g wl J) {x y : Int} (hd : decode cc pc = .ok (.ishr, 1)) (k : J (pc + 1) lv (.int (sq_z (sq_shr x y)) :: stk) st) : J pc lv (.int (sq_z y) :: .int (sq_z x) :: stk) st := by
  obtain ⟨p, e, s, m, args, below, meth, c, A, cells, slots, Qs, hx, hb, hml, hown, hts, hK, hA, hc1, hc2, rfl⟩ := S
  intro H locs ls h1 h2 h3 h4
  have k1 := k H locs ls h1 h2 h3 h4
  unfold sq_shr at k1
  rw [sq_zq] at k1
  exact lv_ishr hx hb hd k1
theorem sj_iushr (S : sq_J l R cc nL own Ts g wl J) {x y : Int} (hd : decode cc pc = .ok (.iushr, 1)) (k : J (pc + 1) lv (.int (sq_z (sq_ushr x y)) :: stk) st) : J pc lv (.int (sq_z y) :: .int (sq_z x) :: stk) st := by
  obtain ⟨p, e, s, m, args, below, meth, c, A, cells, slots, Qs, hx, hb, hml, hown, hts, hK, hA, hc1, hc2, rfl⟩ := S
  intro H locs ls h1 h2 h3 h4
  have k1 := k H locs ls h1 h2 h3 h4
  unfold sq_ushr at k1
  rw [sq_zq] at k1
  exact lv_iushr hx hb hd rfl k1
theorem sj_ineg (S : sq_J l R cc nL own Ts g wl J) {x : Int} (hd : decode cc pc = .ok (.ineg, 1)) (k : J (pc + 1) lv (.int (sq_z (-x)) :: stk) st) : J pc lv (.int (sq_z x) :: stk) st := by
  obtain ⟨p, e, s, m, args, below, meth, c, A, cells, slots, Qs, hx, hb, hml, hown, hts, hK, hA, hc1, hc2, rfl⟩ := S
  intro H locs ls h1 h2 h3 h4
  have k1 := k H locs ls h1 h2 h3 h4
  rw [← sq_zneg] at k1
  exact lv_ineg hx hb hd k1
theorem sj_idiv (S : sq_J l R cc nL own Ts g wl J) {x y : Int} (hq : (0 ≤ x ∧ x ≤ 2147483647) ∧ (0 < y ∧ y ≤ 2147483647)) (hd : decode cc pc = .ok (.idiv, 1)) (k : J (pc + 1) lv (.int (sq_z (x / y)) :: stk) st) : J pc lv (.int (sq_z y) :: .int (sq_z x) :: stk) st := by
  obtain ⟨p, e, s, m, args, below, meth, c, A, cells, slots, Qs, hx, hb, hml, hown, hts, hK, hA, hc1, hc2, rfl⟩ := S
  intro H locs ls h1 h2 h3 h4
  have k1 := k H locs ls h1 h2 h3 h4
  rw [← sq_zdiv hq.1 hq.2] at k1
  exact lv_idiv hx hb hd (sq_zne hq.2) k1
theorem sj_irem (S : sq_J l R cc nL own Ts g wl J) {x y : Int} (hq : (0 ≤ x ∧ x ≤ 2147483647) ∧ (0 < y ∧ y ≤ 2147483647)) (hd : decode cc pc = .ok (.irem, 1)) (k : J (pc + 1) lv (.int (sq_z (x % y)) :: stk) st) : J pc lv (.int (sq_z y) :: .int (sq_z x) :: stk) st := by
  obtain ⟨p, e, s, m, args, below, meth, c, A, cells, slots, Qs, hx, hb, hml, hown, hts, hK, hA, hc1, hc2, rfl⟩ := S
  intro H locs ls h1 h2 h3 h4
  have k1 := k H locs ls h1 h2 h3 h4
  rw [← sq_zrem hq.1 hq.2] at k1
  exact lv_irem hx hb hd (sq_zne hq.2) k1
theorem sj_dup (S : sq_J l R cc nL own Ts g wl J) {v : Value} (hd : decode cc pc = .ok (.dup, 1)) (hv : v.category = 1) (k : J (pc + 1) lv (v :: v :: stk) st) : J pc lv (v :: stk) st := by
  obtain ⟨p, e, s, m, args, below, meth, c, A, cells, slots, Qs, hx, hb, hml, hown, hts, hK, hA, hc1, hc2, rfl⟩ := S
  intro H locs ls h1 h2 h3 h4
  exact lv_dup hx hb hd hv (k H locs ls h1 h2 h3 h4)
theorem sj_dup2 (S : sq_J l R cc nL own Ts g wl J) {v u : Value} (hd : decode cc pc = .ok (.dup2, 1)) (hv : v.category = 1) (hu : u.category = 1) (k : J (pc + 1) lv (v :: u :: v :: u :: stk) st) : J pc lv (v :: u :: stk) st := by
  obtain ⟨p, e, s, m, args, below, meth, c, A, cells, slots, Qs, hx, hb, hml, hown, hts, hK, hA, hc1, hc2, rfl⟩ := S
  intro H locs ls h1 h2 h3 h4
  exact lv_dup2_11 hx hb hd hv hu (k H locs ls h1 h2 h3 h4)
theorem sj_goto (S : sq_J l R cc nL own Ts g wl J) {off : Int} {tgt : Nat} (hd : decode cc pc = .ok (.goto off, 3)) (ht : (pc : Int) + off = (tgt : Int)) (k : J tgt lv stk st) : J pc lv stk st := by
  obtain ⟨p, e, s, m, args, below, meth, c, A, cells, slots, Qs, hx, hb, hml, hown, hts, hK, hA, hc1, hc2, rfl⟩ := S
  intro H locs ls h1 h2 h3 h4
  exact lv_goto hx hb hd ht (k H locs ls h1 h2 h3 h4)
theorem sj_icmp_eq (S : sq_J l R cc nL own Ts g wl J) {x y off : Int} {tgt : Nat} (hr : sq_rg x ∧ sq_rg y) (hd : decode cc pc = .ok (.if_icmp .eq off, 3)) (ht : (pc : Int) + off = (tgt : Int)) (kt : x = y → J tgt lv stk st) (kf : ¬ x = y → J (pc + 3) lv stk st) : J pc lv (.int (sq_z y) :: .int (sq_z x) :: stk) st := by
  obtain ⟨p, e, s, m, args, below, meth, c, A, cells, slots, Qs, hx, hb, hml, hown, hts, hK, hA, hc1, hc2, rfl⟩ := S
  intro H locs ls h1 h2 h3 h4
  exact lv_icmp_eq hx hb hd ht (fun h => kt ((sq_zeq hr.1 hr.2).mp h) H locs ls h1 h2 h3 h4) (fun h => kf (fun q => h ((sq_zeq hr.1 hr.2).mpr q)) H locs ls h1 h2 h3 h4)
theorem sj_icmp_ne (S : sq_J l R cc nL own Ts g wl J) {x y off : Int} {tgt : Nat} (hr : sq_rg x ∧ sq_rg y) (hd : decode cc pc = .ok (.if_icmp .ne off, 3)) (ht : (pc : Int) + off = (tgt : Int)) (kt : ¬ x = y → J tgt lv stk st) (kf : x = y → J (pc + 3) lv stk st) : J pc lv (.int (sq_z y) :: .int (sq_z x) :: stk) st := by
  obtain ⟨p, e, s, m, args, below, meth, c, A, cells, slots, Qs, hx, hb, hml, hown, hts, hK, hA, hc1, hc2, rfl⟩ := S
  intro H locs ls h1 h2 h3 h4
  exact lv_icmp_ne hx hb hd ht (fun h => kt (fun q => h ((sq_zeq hr.1 hr.2).mpr q)) H locs ls h1 h2 h3 h4) (fun h => kf ((sq_zeq hr.1 hr.2).mp h) H locs ls h1 h2 h3 h4)
theorem sj_icmp_lt (S : sq_J l R cc nL own Ts g wl J) {x y off : Int} {tgt : Nat} (hr : sq_rg x ∧ sq_rg y) (hd : decode cc pc = .ok (.if_icmp .lt off, 3)) (ht : (pc : Int) + off = (tgt : Int)) (kt : x < y → J tgt lv stk st) (kf : y ≤ x → J (pc + 3) lv stk st) : J pc lv (.int (sq_z y) :: .int (sq_z x) :: stk) st := by
  obtain ⟨p, e, s, m, args, below, meth, c, A, cells, slots, Qs, hx, hb, hml, hown, hts, hK, hA, hc1, hc2, rfl⟩ := S
  intro H locs ls h1 h2 h3 h4
  exact lv_icmp_lt hx hb hd ht (fun h => kt ((sq_zlt hr.1 hr.2).mp h) H locs ls h1 h2 h3 h4) (fun h => kf (Int.not_lt.mp (fun q => h ((sq_zlt hr.1 hr.2).mpr q))) H locs ls h1 h2 h3 h4)
theorem sj_icmp_ge (S : sq_J l R cc nL own Ts g wl J) {x y off : Int} {tgt : Nat} (hr : sq_rg x ∧ sq_rg y) (hd : decode cc pc = .ok (.if_icmp .ge off, 3)) (ht : (pc : Int) + off = (tgt : Int)) (kt : y ≤ x → J tgt lv stk st) (kf : x < y → J (pc + 3) lv stk st) : J pc lv (.int (sq_z y) :: .int (sq_z x) :: stk) st := by
  obtain ⟨p, e, s, m, args, below, meth, c, A, cells, slots, Qs, hx, hb, hml, hown, hts, hK, hA, hc1, hc2, rfl⟩ := S
  intro H locs ls h1 h2 h3 h4
  exact lv_icmp_ge hx hb hd ht (fun h => kt ((sq_zle hr.2 hr.1).mp h) H locs ls h1 h2 h3 h4) (fun h => kf (Int.not_le.mp (fun q => h ((sq_zle hr.2 hr.1).mpr q))) H locs ls h1 h2 h3 h4)
theorem sj_icmp_gt (S : sq_J l R cc nL own Ts g wl J) {x y off : Int} {tgt : Nat} (hr : sq_rg x ∧ sq_rg y) (hd : decode cc pc = .ok (.if_icmp .gt off, 3)) (ht : (pc : Int) + off = (tgt : Int)) (kt : y < x → J tgt lv stk st) (kf : x ≤ y → J (pc + 3) lv stk st) : J pc lv (.int (sq_z y) :: .int (sq_z x) :: stk) st := by
  obtain ⟨p, e, s, m, args, below, meth, c, A, cells, slots, Qs, hx, hb, hml, hown, hts, hK, hA, hc1, hc2, rfl⟩ := S
  intro H locs ls h1 h2 h3 h4
  exact lv_icmp_gt hx hb hd ht (fun h => kt ((sq_zlt hr.2 hr.1).mp h) H locs ls h1 h2 h3 h4) (fun h => kf (Int.not_lt.mp (fun q => h ((sq_zlt hr.2 hr.1).mpr q))) H locs ls h1 h2 h3 h4)
theorem sj_icmp_le (S : sq_J l R cc nL own Ts g wl J) {x y off : Int} {tgt : Nat} (hr : sq_rg x ∧ sq_rg y) (hd : decode cc pc = .ok (.if_icmp .le off, 3)) (ht : (pc : Int) + off = (tgt : Int)) (kt : x ≤ y → J tgt lv stk st) (kf : y < x → J (pc + 3) lv stk st) : J pc lv (.int (sq_z y) :: .int (sq_z x) :: stk) st := by
  obtain ⟨p, e, s, m, args, below, meth, c, A, cells, slots, Qs, hx, hb, hml, hown, hts, hK, hA, hc1, hc2, rfl⟩ := S
  intro H locs ls h1 h2 h3 h4
  exact lv_icmp_le hx hb hd ht (fun h => kt ((sq_zle hr.1 hr.2).mp h) H locs ls h1 h2 h3 h4) (fun h => kf (Int.not_le.mp (fun q => h ((sq_zle hr.1 hr.2).mpr q))) H locs ls h1 h2 h3 h4)
theorem sj_if_eq (S : sq_J l R cc nL own Ts g wl J) {x off : Int} {tgt : Nat} (hr : sq_rg x) (hd : decode cc pc = .ok (.ifCond .eq off, 3)) (ht : (pc : Int) + off = (tgt : Int)) (kt : x = 0 → J tgt lv stk st) (kf : ¬ x = 0 → J (pc + 3) lv stk st) : J pc lv (.int (sq_z x) :: stk) st := by
  obtain ⟨p, e, s, m, args, below, meth, c, A, cells, slots, Qs, hx, hb, hml, hown, hts, hK, hA, hc1, hc2, rfl⟩ := S
  intro H locs ls h1 h2 h3 h4
  exact lv_if_eq hx hb hd ht (fun h => kt ((sq_zeq hr sq_r0).mp h) H locs ls h1 h2 h3 h4) (fun h => kf (fun q => h ((sq_zeq hr sq_r0).mpr q)) H locs ls h1 h2 h3 h4)
theorem sj_if_ne (S : sq_J l R cc nL own Ts g wl J) {x off : Int} {tgt : Nat} (hr : sq_rg x) (hd : decode cc pc = .ok (.ifCond .ne off, 3)) (ht : (pc : Int) + off = (tgt : Int)) (kt : ¬ x = 0 → J tgt lv stk st) (kf : x = 0 → J (pc + 3) lv stk st) : J pc lv (.int (sq_z x) :: stk) st := by
  obtain ⟨p, e, s, m, args, below, meth, c, A, cells, slots, Qs, hx, hb, hml, hown, hts, hK, hA, hc1, hc2, rfl⟩ := S
  intro H locs ls h1 h2 h3 h4
  exact lv_if_ne hx hb hd ht (fun h => kt (fun q => h ((sq_zeq hr sq_r0).mpr q)) H locs ls h1 h2 h3 h4) (fun h => kf ((sq_zeq hr sq_r0).mp h) H locs ls h1 h2 h3 h4)
theorem sj_if_lt (S : sq_J l R cc nL own Ts g wl J) {x off : Int} {tgt : Nat} (hr : sq_rg x) (hd : decode cc pc = .ok (.ifCond .lt off, 3)) (ht : (pc : Int) + off = (tgt : Int)) (kt : x < 0 → J tgt lv stk st) (kf : 0 ≤ x → J (pc + 3) lv stk st) : J pc lv (.int (sq_z x) :: stk) st := by
  obtain ⟨p, e, s, m, args, below, meth, c, A, cells, slots, Qs, hx, hb, hml, hown, hts, hK, hA, hc1, hc2, rfl⟩ := S
  intro H locs ls h1 h2 h3 h4
  exact lv_if_lt hx hb hd ht (fun h => kt ((sq_zlt hr sq_r0).mp h) H locs ls h1 h2 h3 h4) (fun h => kf (Int.not_lt.mp (fun q => h ((sq_zlt hr sq_r0).mpr q))) H locs ls h1 h2 h3 h4)
theorem sj_if_ge (S : sq_J l R cc nL own Ts g wl J) {x off : Int} {tgt : Nat} (hr : sq_rg x) (hd : decode cc pc = .ok (.ifCond .ge off, 3)) (ht : (pc : Int) + off = (tgt : Int)) (kt : 0 ≤ x → J tgt lv stk st) (kf : x < 0 → J (pc + 3) lv stk st) : J pc lv (.int (sq_z x) :: stk) st := by
  obtain ⟨p, e, s, m, args, below, meth, c, A, cells, slots, Qs, hx, hb, hml, hown, hts, hK, hA, hc1, hc2, rfl⟩ := S
  intro H locs ls h1 h2 h3 h4
  exact lv_if_ge hx hb hd ht (fun h => kt ((sq_zle sq_r0 hr).mp h) H locs ls h1 h2 h3 h4) (fun h => kf (Int.not_le.mp (fun q => h ((sq_zle sq_r0 hr).mpr q))) H locs ls h1 h2 h3 h4)
theorem sj_if_gt (S : sq_J l R cc nL own Ts g wl J) {x off : Int} {tgt : Nat} (hr : sq_rg x) (hd : decode cc pc = .ok (.ifCond .gt off, 3)) (ht : (pc : Int) + off = (tgt : Int)) (kt : 0 < x → J tgt lv stk st) (kf : x ≤ 0 → J (pc + 3) lv stk st) : J pc lv (.int (sq_z x) :: stk) st := by
  obtain ⟨p, e, s, m, args, below, meth, c, A, cells, slots, Qs, hx, hb, hml, hown, hts, hK, hA, hc1, hc2, rfl⟩ := S
  intro H locs ls h1 h2 h3 h4
  exact lv_if_gt hx hb hd ht (fun h => kt ((sq_zlt sq_r0 hr).mp h) H locs ls h1 h2 h3 h4) (fun h => kf (Int.not_lt.mp (fun q => h ((sq_zlt sq_r0 hr).mpr q))) H locs ls h1 h2 h3 h4)
theorem sj_if_le (S : sq_J l R cc nL own Ts g wl J) {x off : Int} {tgt : Nat} (hr : sq_rg x) (hd : decode cc pc = .ok (.ifCond .le off, 3)) (ht : (pc : Int) + off = (tgt : Int)) (kt : x ≤ 0 → J tgt lv stk st) (kf : 0 < x → J (pc + 3) lv stk st) : J pc lv (.int (sq_z x) :: stk) st := by
  obtain ⟨p, e, s, m, args, below, meth, c, A, cells, slots, Qs, hx, hb, hml, hown, hts, hK, hA, hc1, hc2, rfl⟩ := S
  intro H locs ls h1 h2 h3 h4
  exact lv_if_le hx hb hd ht (fun h => kt ((sq_zle hr sq_r0).mp h) H locs ls h1 h2 h3 h4) (fun h => kf (Int.not_le.mp (fun q => h ((sq_zle hr sq_r0).mpr q))) H locs ls h1 h2 h3 h4)
theorem sj_tab (S : sq_J l R cc nL own Ts g wl J) {x v dflt lo hi off : Int} {offs : Array Int} {len tgt : Nat} (hr : sq_rg v) (hv : x = v) (hd : decode cc pc = .ok (.tableswitch dflt lo hi offs, len)) (hl : ¬ v < lo) (hh : ¬ hi < v) (ho : offs[(v - lo).toNat]? = some off) (ht : (pc : Int) + off = (tgt : Int)) (k : J tgt lv stk st) : J pc lv (.int (sq_z x) :: stk) st := by
  obtain ⟨p, e, s, m, args, below, meth, c, A, cells, slots, Qs, hx, hb, hml, hown, hts, hK, hA, hc1, hc2, rfl⟩ := S
  intro H locs ls h1 h2 h3 h4
  subst hv
  exact lv_tableIn hx hb hd (by rw [sq_zt hr]; exact hl) (by rw [sq_zt hr]; exact hh) (by rw [sq_zt hr]; exact ho) ht (k H locs ls h1 h2 h3 h4)
theorem sj_tabd (S : sq_J l R cc nL own Ts g wl J) {x dflt lo hi : Int} {offs : Array Int} {len tgt : Nat} (hr : sq_rg x) (hv : x < lo ∨ hi < x) (hd : decode cc pc = .ok (.tableswitch dflt lo hi offs, len)) (ht : (pc : Int) + dflt = (tgt : Int)) (k : J tgt lv stk st) : J pc lv (.int (sq_z x) :: stk) st := by
  obtain ⟨p, e, s, m, args, below, meth, c, A, cells, slots, Qs, hx, hb, hml, hown, hts, hK, hA, hc1, hc2, rfl⟩ := S
  intro H locs ls h1 h2 h3 h4
  exact lv_tableOut hx hb hd (by rw [sq_zt hr]; exact hv) ht (k H locs ls h1 h2 h3 h4)
theorem sj_geti (S : sq_J l R cc nL own Ts g wl J) {C : String} {T : u_T} {N ix q ci k : Nat} (hf : sq_fi wl q ci k) (hin : ∀ w ∈ u_ws C T N, w ∈ Ts) (hc : vwCl[ci]? = some (C, T, N)) (hk : k < N) (hlink : Cond.fieldLink own ix (T k).1 (T k).2.1 (T k).2.2.1 ∈ Ts) (hd : decode cc pc = .ok (.getfield ix, 3)) (kk : J (pc + 3) lv (.int (sq_z (st q k)) :: stk) st) : J pc lv (.ref (g.2.2 q) :: stk) st := by
  obtain ⟨p, e, s, m, args, below, meth, c, A, cells, slots, Qs, hx, hb, hml, hown, hts, hK, hA, hc1, hc2, rfl⟩ := S
  intro H locs ls h1 h2 h3 h4
  obtain ⟨fs, he, hv, -, -⟩ := hf g st
  exact va_get (D := g.1) hx hb hts hin hown hK h2 q he hc k hk (hts _ hlink) (fun _ h9 => h9) hv hd (kk H locs ls h1 h2 h3 h4)
theorem sj_getr (S : sq_J l R cc nL own Ts g wl J) {C : String} {T : u_T} {N ix q ci k r : Nat} (hf : sq_fr wl q ci k r) (hin : ∀ w ∈ u_ws C T N, w ∈ Ts) (hc : vwCl[ci]? = some (C, T, N)) (hk : k < N) (hlink : Cond.fieldLink own ix (T k).1 (T k).2.1 (T k).2.2.1 ∈ Ts) (hd : decode cc pc = .ok (.getfield ix, 3)) (kk : J (pc + 3) lv (.ref (g.2.2 r) :: stk) st) : J pc lv (.ref (g.2.2 q) :: stk) st := by
  obtain ⟨p, e, s, m, args, below, meth, c, A, cells, slots, Qs, hx, hb, hml, hown, hts, hK, hA, hc1, hc2, rfl⟩ := S
  intro H locs ls h1 h2 h3 h4
  obtain ⟨fs, he, hv⟩ := hf g st
  exact va_get (D := g.1) hx hb hts hin hown hK h2 q he hc k hk (hts _ hlink) (fun _ h9 => h9) hv hd (kk H locs ls h1 h2 h3 h4)
theorem sj_puti (S : sq_J l R cc nL own Ts g wl J) {C : String} {T : u_T} {N ix q ci k : Nat} {x : Int} (hf : sq_fi wl q ci k) (hin : ∀ w ∈ u_ws C T N, w ∈ Ts) (ty0 : Nat → FieldType) (hty : ∀ k, k < N → parseFieldDescriptor (T k).2.2.1 = some (ty0 k)) (hnm : ∀ a, a < N → ∀ b, b < N → a ≠ b → (T a).2.1 ≠ (T b).2.1) (hc : vwCl[ci]? = some (C, T, N)) (hk : k < N) (hlink : Cond.fieldLink own ix (T k).1 (T k).2.1 (T k).2.2.1 ∈ Ts) (hfin : (T k).2.2.2 = false) (hty2 : parseFieldDescriptor (T k).2.2.1 = some .int) (hd : decode cc pc = .ok (.putfield ix, 3)) (kk : ∀ st' : sq_S, st' = sq_set st q k x → J (pc + 3) lv stk st') : J pc lv (.int (sq_z x) :: .ref (g.2.2 q) :: stk) st := by
  obtain ⟨p, e, s, m, args, below, meth, c, A, cells, slots, Qs, hx, hb, hml, hown, hts, hK, hA, hc1, hc2, rfl⟩ := S
  intro H locs ls h1 h2 h3 h4
  obtain ⟨fs, he, hv, hl, hs⟩ := hf g st
  exact va_put (D := g.1) (v := .int (sq_z x)) (ty := .int) hx hb hts hin ty0 hty hnm hown hK h2 h3 h4 q he hc k hk (hts _ hlink) (fun _ h9 => h9) hfin hty2 rfl rfl hl hd (fun H1 locs1 hP hD hS => kk _ rfl H1 locs1 ls h1 (by rw [← hs x]; exact hP) (by rw [← hs x]; exact hD) hS)
theorem sj_iald (S : sq_J l R cc nL own Ts g wl J) {q n : Nat} {i : Int} (ha : sq_ar wl q n) (hi : sq_ib i n) (hd : decode cc pc = .ok (.iaload, 1)) (kk : J (pc + 1) lv (.int (sq_z (st q i.toNat)) :: stk) st) : J pc lv (.int (sq_z i) :: .ref (g.2.2 q) :: stk) st := by
  obtain ⟨p, e, s, m, args, below, meth, c, A, cells, slots, Qs, hx, hb, hml, hown, hts, hK, hA, hc1, hc2, rfl⟩ := S
  intro H locs ls h1 h2 h3 h4
  have k1 := kk H locs ls h1 h2 h3 h4
  rw [← sq_zc ha.1 hi] at k1
  exact va_iald (D := g.1) hx hb hK h2 q 0 (ha.2 g st).1 rfl (sq_zin ha.1 hi) hd k1
theorem sj_zald (S : sq_J l R cc nL own Ts g wl J) {q n : Nat} {i : Int} (ha : sq_az wl q n) (hi : sq_ib i n) (hd : decode cc pc = .ok (.baload, 1)) (kk : J (pc + 1) lv (.int (sq_z (st q i.toNat)) :: stk) st) : J pc lv (.int (sq_z i) :: .ref (g.2.2 q) :: stk) st := by
  obtain ⟨p, e, s, m, args, below, meth, c, A, cells, slots, Qs, hx, hb, hml, hown, hts, hK, hA, hc1, hc2, rfl⟩ := S
  intro H locs ls h1 h2 h3 h4
  have k1 := kk H locs ls h1 h2 h3 h4
  rw [← sq_zc ha.1 hi] at k1
  exact va_zald (D := g.1) hx hb hK h2 q 1 (ha.2 g st).1 rfl (sq_zin ha.1 hi) hd k1
theorem sj_iast (S : sq_J l R cc nL own Ts g wl J) {q n : Nat} {i x : Int} (ha : sq_ar wl q n) (hi : sq_ib i n) (hd : decode cc pc = .ok (.iastore, 1)) (kk : ∀ st' : sq_S, st' = sq_set st q i.toNat x → J (pc + 1) lv stk st') : J pc lv (.int (sq_z x) :: .int (sq_z i) :: .ref (g.2.2 q) :: stk) st := by
  obtain ⟨p, e, s, m, args, below, meth, c, A, cells, slots, Qs, hx, hb, hml, hown, hts, hK, hA, hc1, hc2, rfl⟩ := S
  intro H locs ls h1 h2 h3 h4
  refine va_iast (D := g.1) hx hb hK h2 h3 h4 q 0 (ha.2 g st).1 rfl (sq_zin ha.1 hi) hd (fun H1 locs1 hP hD hS => ?_)
  rw [sq_zc ha.1 hi, sq_upd, (ha.2 g st).2] at hP hD
  exact kk _ rfl H1 locs1 ls h1 hP hD hS
theorem sj_zast (S : sq_J l R cc nL own Ts g wl J) {q n : Nat} {i x : Int} (ha : sq_az wl q n) (hi : sq_ib i n) (hb1 : x = 0 ∨ x = 1) (hd : decode cc pc = .ok (.bastore, 1)) (kk : ∀ st' : sq_S, st' = sq_set st q i.toNat x → J (pc + 1) lv stk st') : J pc lv (.int (sq_z x) :: .int (sq_z i) :: .ref (g.2.2 q) :: stk) st := by
  obtain ⟨p, e, s, m, args, below, meth, c, A, cells, slots, Qs, hx, hb, hml, hown, hts, hK, hA, hc1, hc2, rfl⟩ := S
  intro H locs ls h1 h2 h3 h4
  refine va_zast (D := g.1) hx hb hK h2 h3 h4 q 1 (ha.2 g st).1 rfl (sq_zin ha.1 hi) hd (fun H1 locs1 hP hD hS => ?_)
  have hz : vp_nar .boolean (sq_z x) = sq_z x := by rcases hb1 with rfl | rfl <;> decide
  first | rw [hz] at hP hD | skip
  rw [sq_zc ha.1 hi, sq_upd, (ha.2 g st).2] at hP hD
  exact kk _ rfl H1 locs1 ls h1 hP hD hS
/-- the array of images (of the class's world) -/
theorem sj_aald (S : sq_J l R cc nL own Ts g sq_X J) {i v : Int} {r : Nat} (hv : i = v) (hi : sq_ib v 2) (hr : sq_im g v.toNat = some r) (hd : decode cc pc = .ok (.aaload, 1)) (kk : J (pc + 1) lv (.ref r :: stk) st) : J pc lv (.int (sq_z i) :: .ref (g.2.2 23) :: stk) st := by
  subst hv
  obtain ⟨p, e, s, m, args, below, meth, c, A, cells, slots, Qs, hx, hb, hml, hown, hts, hK, hA, hc1, hc2, rfl⟩ := S
  intro H locs ls h1 h2 h3 h4
  refine va_aldq (D := g.1) hx hb hK h2 23 2 (C := "SecretSquares$Desk") (n := 2) (f := sq_im g) rfl rfl (sq_zin (by decide) hi) hd ?_
  rw [sq_zc (n := 2) (by decide) hi, hr]
  exact kk H locs ls h1 h2 h3 h4
theorem sj_alen (S : sq_J l R cc nL own Ts g wl J) {q n : Nat} (ha : sq_ar wl q n) (hd : decode cc pc = .ok (.arraylength, 1)) (kk : J (pc + 1) lv (.int (sq_z (n : Int)) :: stk) st) : J pc lv (.ref (g.2.2 q) :: stk) st := by
  obtain ⟨p, e, s, m, args, below, meth, c, A, cells, slots, Qs, hx, hb, hml, hown, hts, hK, hA, hc1, hc2, rfl⟩ := S
  intro H locs ls h1 h2 h3 h4
  exact va_alen (D := g.1) hx hb hK h2 q 0 (ha.2 g st).1 rfl (by rw [sq_zn]; rfl) hd (kk H locs ls h1 h2 h3 h4)
theorem sj_copy (S : sq_J l R cc nL own Ts g wl J) {q0 q1 n0 n1 ix : Nat} {sp dp n : Int} (ha0 : sq_ar wl q0 n0) (ha1 : sq_ar wl q1 n1) (hq : (0 ≤ sp ∧ 0 ≤ dp ∧ 0 ≤ n) ∧ sp + n ≤ n0 ∧ dp + n ≤ n1) (hw : Cond.methodLink own ix arraycopyName ∈ Ts) (hw1 : Cond.native arraycopyName ∈ Ts) (hw2 : Cond.static arraycopyName ∈ Ts) (hw3 : Cond.initialized "java/lang/System" ∈ Ts) (hfr : 1 ≤ R.frames) (hlo : (stk.map fun v => v.category).sum + (nativeFrameWords "java/lang/System" "arraycopy" 5 + 11) ≤ R.locals) (hd : decode cc pc = .ok (.invokestatic ix, 3)) (kk : ∀ st' : sq_S, st' = sq_row st q1 (sq_cp (st q0) (st q1) sp.toNat dp.toNat n.toNat) → J (pc + 3) lv stk st') : J pc lv (.int (sq_z n) :: .int (sq_z dp) :: .ref (g.2.2 q1) :: .int (sq_z sp) :: .ref (g.2.2 q0) :: stk) st := by
  obtain ⟨p, e, s, m, args, below, meth, c, A, cells, slots, Qs, hx, hb, hml, hown, hts, hK, hA, hc1, hc2, rfl⟩ := S
  intro H locs ls h1 h2 h3 h4
  have l0 := ha0.1
  have l1 := ha1.1
  have c1 : (sq_z sp).toNatClampNeg = sp.toNat := by show (sq_z sp).toInt.toNat = _; rw [sq_zt (by omega)]
  have c2 : (sq_z dp).toNatClampNeg = dp.toNat := by show (sq_z dp).toInt.toNat = _; rw [sq_zt (by omega)]
  have c3 : (sq_z n).toNatClampNeg = n.toNat := by show (sq_z n).toInt.toNat = _; rw [sq_zt (by omega)]
  have nn : ∀ a : Int, 0 ≤ a → a ≤ 2147483647 → ¬ sq_z a < 0 := by
    intro a ha hb h
    rw [sq_z0, sq_zlt (by omega) sq_r0] at h
    omega
  refine va_copyi (D := g.1) hx hb (hml.trans h1.1.symm) hown (hts _ hw) (hts _ hw1) (hts _ hw2) (hts _ hw3) hK h2 h3 h4 q0 q1 0 0 (ha0.2 g st).1 (ha1.2 g st).1 (ty := .int) rfl rfl rfl (nn _ (by omega) (by omega)) (nn _ (by omega) (by omega)) (nn _ (by omega) (by omega)) (by rw [c1, c3]; omega) (by rw [c2, c3]; omega) (fun _ _ => rfl) hfr hlo hd (fun H1 locs1 hP hD hS => ?_)
  rw [c1, c2, c3, sq_cpz, (ha1.2 g st).2] at hP hD
  exact kk _ rfl H1 locs1 ls h1 hP hD hS
theorem sj_vi (S : sq_J l R cc nL own Ts g wl J) {y : MethodName} {ws : List Cond} {rm : Room} {bytes : ByteArray} {maxL n ix : Nat} {ret : Option FieldType} {As rest : List Value} {Q : Int → sq_S → Prop} {a q0 ci : Nat} {C : String} {T : u_T} {N : Nat} {fs : List Value} (ct : sq_Ci l y ws rm g wl (.ref a :: As) st Q) (cw : ∀ (s : State) (args : Array Value), (∀ w ∈ Ts, w.before args s = true) → CallW R s args own C ix y bytes maxL ret ws rm 0 0 n) (he : (wl g st)[q0]? = some (a, .inr (ci, fs))) (hc : vwCl[ci]? = some (C, T, N)) (hn : As.length = n) (hs : stk = As.reverse ++ .ref a :: rest) (hw : (rest.map fun v => v.category).sum ≤ 8) (hd : decode cc pc = .ok (.invokevirtual ix, 3)) (kk : ∀ (r : Int) (st' : sq_S), Q r st' → J (pc + 3) lv (.int (sq_z r) :: rest) st') : J pc lv stk st := by
  obtain ⟨p, e, s, m, args, below, meth, c, A, cells, slots, Qs, hx, hb, hml, hown, hts, hK, hA, hc1, hc2, rfl⟩ := S
  intro H locs ls h1 h2 h3 h4
  have hFc : ∀ q, va_A (wl g st) H.size q → A q := by
    intro q h
    rcases h with ⟨k, e, h⟩ | h
    · exact h3.2 k (q, e) h
    · exact hA q (Nat.le_trans h4.1 h)
  refine va_calli (va_runV (As := As) (rest := rest) ⟨hx, hb, hml, hown, hts⟩ (ct H.size) (cw s args hts) ⟨sq_blind g wl _ st H.size, va_recv hK h2 hc he, fun U hU hW => ⟨rfl, by rw [hU], by rw [hU]; exact h2, va_K.moved hW.alike hK, h3.weaken (fun _ _ _ _ => trivial)⟩⟩ rfl hn h1.1 hs (lv_room hw) hd ⟨hc1, hc2⟩) h4 (fun q _ h => hFc q h) hFc (fun r u t H1 locs1 ht hvm hpost hB hz1 hk1 hS => ?_)
  obtain ⟨hr9, hq9⟩ := hpost
  obtain ⟨hP1, hK1, hD1⟩ := hB
  rw [ht] at hP1
  rw [hr9]
  exact kk u.1 u.2 hq9 H1 locs1 ls h1 hP1 (hD1.weaken (fun k q _ h => hFc q.1 h)) hS
theorem sj_vv (S : sq_J l R cc nL own Ts g wl J) {y : MethodName} {ws : List Cond} {rm : Room} {bytes : ByteArray} {maxL n ix : Nat} {ret : Option FieldType} {As rest : List Value} {Q : Int → sq_S → Prop} {a q0 ci : Nat} {C : String} {T : u_T} {N : Nat} {fs : List Value} (ct : sq_Cv l y ws rm g wl (.ref a :: As) st Q) (cw : ∀ (s : State) (args : Array Value), (∀ w ∈ Ts, w.before args s = true) → CallW R s args own C ix y bytes maxL ret ws rm 0 0 n) (he : (wl g st)[q0]? = some (a, .inr (ci, fs))) (hc : vwCl[ci]? = some (C, T, N)) (hn : As.length = n) (hs : stk = As.reverse ++ .ref a :: rest) (hw : (rest.map fun v => v.category).sum ≤ 8) (hd : decode cc pc = .ok (.invokevirtual ix, 3)) (kk : ∀ (st' : sq_S), Q 0 st' → J (pc + 3) lv rest st') : J pc lv stk st := by
  obtain ⟨p, e, s, m, args, below, meth, c, A, cells, slots, Qs, hx, hb, hml, hown, hts, hK, hA, hc1, hc2, rfl⟩ := S
  intro H locs ls h1 h2 h3 h4
  have hFc : ∀ q, va_A (wl g st) H.size q → A q := by
    intro q h
    rcases h with ⟨k, e, h⟩ | h
    · exact h3.2 k (q, e) h
    · exact hA q (Nat.le_trans h4.1 h)
  refine va_callv (va_runV (As := As) (rest := rest) ⟨hx, hb, hml, hown, hts⟩ (ct H.size) (cw s args hts) ⟨sq_blind g wl _ st H.size, va_recv hK h2 hc he, fun U hU hW => ⟨rfl, by rw [hU], by rw [hU]; exact h2, va_K.moved hW.alike hK, h3.weaken (fun _ _ _ _ => trivial)⟩⟩ rfl hn h1.1 hs (lv_room hw) hd ⟨hc1, hc2⟩) h4 (fun q _ h => hFc q h) hFc (fun u t H1 locs1 ht hvm hpost hB hz1 hk1 hS => ?_)
  obtain ⟨hP1, hK1, hD1⟩ := hB
  rw [ht] at hP1
  exact kk u hpost H1 locs1 ls h1 hP1 (hD1.weaken (fun k q _ h => hFc q.1 h)) hS
theorem sj_si (S : sq_J l R cc nL own Ts g wl J) {y : MethodName} {ws : List Cond} {rm : Room} {bytes : ByteArray} {maxL n ix : Nat} {ret : Option FieldType} {As rest : List Value} {Q : Int → sq_S → Prop} (ct : sq_Ci l y ws rm g wl As st Q) (cw : ∀ (s : State) (args : Array Value), (∀ w ∈ Ts, w.before args s = true) → CallB R s args own ix y bytes maxL ret ws rm 0 0 n ∧ (Cond.static y).before args s = true) (hn : As.length = n) (hs : stk = As.reverse ++ rest) (hw : (rest.map fun v => v.category).sum ≤ 8) (hd : decode cc pc = .ok (.invokestatic ix, 3)) (kk : ∀ (r : Int) (st' : sq_S), Q r st' → J (pc + 3) lv (.int (sq_z r) :: rest) st') : J pc lv stk st := by
  obtain ⟨p, e, s, m, args, below, meth, c, A, cells, slots, Qs, hx, hb, hml, hown, hts, hK, hA, hc1, hc2, rfl⟩ := S
  intro H locs ls h1 h2 h3 h4
  have hFc : ∀ q, va_A (wl g st) H.size q → A q := by
    intro q h
    rcases h with ⟨k, e, h⟩ | h
    · exact h3.2 k (q, e) h
    · exact hA q (Nat.le_trans h4.1 h)
  refine va_calli (va_runS (As := As) (rest := rest) ⟨hx, hb, hml, hown, hts⟩ (ct H.size) (cw s args hts) ⟨sq_blind g wl _ st H.size, fun U hU hW => ⟨rfl, by rw [hU], by rw [hU]; exact h2, va_K.moved hW.alike hK, h3.weaken (fun _ _ _ _ => trivial)⟩⟩ rfl hn h1.1 hs (lv_room hw) hd ⟨hc1, hc2⟩) h4 (fun q _ h => hFc q h) hFc (fun r u t H1 locs1 ht hvm hpost hB hz1 hk1 hS => ?_)
  obtain ⟨hr9, hq9⟩ := hpost
  obtain ⟨hP1, hK1, hD1⟩ := hB
  rw [ht] at hP1
  rw [hr9]
  exact kk u.1 u.2 hq9 H1 locs1 ls h1 hP1 (hD1.weaken (fun k q _ h => hFc q.1 h)) hS
end SQR
theorem sq_in_i {l : Launch} {y : MethodName} {ws ws' : List Cond} {rm : Room} {g : sq_G} {wl : sq_G → sq_S → va_W} {av : List Value} {st : sq_S} {Q : Int → sq_S → Prop} {cc : ByteArray} {nL : Nat} {own : String} (hy : plainName y.cls = true) (hw : ws = Cond.code y cc nL (some .int) :: ws') (ho : y.cls = own) (hlen : (lg_sl av).length ≤ nL)
    (body : ∀ J : sq_K, sq_J l rm cc nL own ws g wl J → (∀ (pc : Nat) (lv : List (Nat × Value)) (r : Int) (st' : sq_S), decode cc pc = .ok (.ireturn, 1) → Q r st' → J pc lv [.int (sq_z r)] st') → J 0 (lv_args 0 av) [] st) : sq_Ci l y ws rm g wl av st Q := by
  intro sz
  refine Met.ofW (cc := cc) (maxL := nL) (ret := some .int) hy hw ?_
  intro p e s m args below meth c s₁ B hml hv
  obtain ⟨rfl, hsz, hP, hK, hD0⟩ := hv
  have hx := B.exec
  have hb := B.bytes
  have hr := B.returns
  have hts := atoms_spec (ws := ws) B.pre
  have hown : s.vm.findClass own = some m.cls := by rw [← ho]; exact findClass_of_methodNamed B.named
  have hlocks := B.notSynchronized
  subst hsz
  have hl := lv_entry av (n := nL) hlen
  rw [lg_entry_eq]
  generalize (lg_sl av ++ List.replicate (nL - (lg_sl av).length) Slot.unset).toArray = ls at hl ⊢
  refine body (sq_j p l e rm s m av.toArray below meth c g wl (va_A (wl g st) s.heap.size) nL 0 0 _) ⟨p, e, s, m, _, below, meth, c, _, 0, 0, _, hx, hb, hml, hown, hts, hK, fun q h => Or.inr h, Nat.zero_le _, Nat.zero_le _, rfl⟩ ?_ s.heap [] ls hl hP hD0.self va_S.rf
  intro pc lv r st' hd hq H locs ls h1 h2 h3 h4
  exact W.iret (v := sq_z r) hx hb hr (fun t ht hW => ⟨⟨sq_z r, (r, st'), rfl, ⟨rfl, hq⟩, by rw [ht]; exact h2, va_K.moved hW.alike hK, h3⟩, h4.F ht⟩) h4.2.2 hd
theorem sq_in_z {l : Launch} {y : MethodName} {ws ws' : List Cond} {rm : Room} {g : sq_G} {wl : sq_G → sq_S → va_W} {av : List Value} {st : sq_S} {Q : Int → sq_S → Prop} {cc : ByteArray} {nL : Nat} {own : String} (hy : plainName y.cls = true) (hw : ws = Cond.code y cc nL (some .boolean) :: ws') (ho : y.cls = own) (hlen : (lg_sl av).length ≤ nL)
    (body : ∀ J : sq_K, sq_J l rm cc nL own ws g wl J → (∀ (pc : Nat) (lv : List (Nat × Value)) (r : Int) (st' : sq_S), decode cc pc = .ok (.ireturn, 1) → (r = 0 ∨ r = 1) ∧ Q r st' → J pc lv [.int (sq_z r)] st') → J 0 (lv_args 0 av) [] st) : sq_Ci l y ws rm g wl av st Q := by
  intro sz
  refine Met.ofW (cc := cc) (maxL := nL) (ret := some .boolean) hy hw ?_
  intro p e s m args below meth c s₁ B hml hv
  obtain ⟨rfl, hsz, hP, hK, hD0⟩ := hv
  have hx := B.exec
  have hb := B.bytes
  have hr := B.returns
  have hts := atoms_spec (ws := ws) B.pre
  have hown : s.vm.findClass own = some m.cls := by rw [← ho]; exact findClass_of_methodNamed B.named
  have hlocks := B.notSynchronized
  subst hsz
  have hl := lv_entry av (n := nL) hlen
  rw [lg_entry_eq]
  generalize (lg_sl av ++ List.replicate (nL - (lg_sl av).length) Slot.unset).toArray = ls at hl ⊢
  refine body (sq_j p l e rm s m av.toArray below meth c g wl (va_A (wl g st) s.heap.size) nL 0 0 _) ⟨p, e, s, m, _, below, meth, c, _, 0, 0, _, hx, hb, hml, hown, hts, hK, fun q h => Or.inr h, Nat.zero_le _, Nat.zero_le _, rfl⟩ ?_ s.heap [] ls hl hP hD0.self va_S.rf
  intro pc lv r st' hd hq H locs ls h1 h2 h3 h4
  exact W.zret (v := sq_z r) hx hb hr (by rcases hq.1 with rfl | rfl <;> rfl) (fun t ht hW => ⟨⟨sq_z r, (r, st'), rfl, ⟨rfl, hq.2⟩, by rw [ht]; exact h2, va_K.moved hW.alike hK, h3⟩, h4.F ht⟩) h4.2.2 hd
theorem sq_in_v {l : Launch} {y : MethodName} {ws ws' : List Cond} {rm : Room} {g : sq_G} {wl : sq_G → sq_S → va_W} {av : List Value} {st : sq_S} {Q : Int → sq_S → Prop} {cc : ByteArray} {nL : Nat} {own : String} (hy : plainName y.cls = true) (hw : ws = Cond.code y cc nL (none) :: ws') (ho : y.cls = own) (hlen : (lg_sl av).length ≤ nL)
    (body : ∀ J : sq_K, sq_J l rm cc nL own ws g wl J → (∀ (pc : Nat) (lv : List (Nat × Value)) (st' : sq_S), decode cc pc = .ok (.return_, 1) → Q 0 st' → J pc lv [] st') → J 0 (lv_args 0 av) [] st) : sq_Cv l y ws rm g wl av st Q := by
  intro sz
  refine Met.ofW (cc := cc) (maxL := nL) (ret := none) hy hw ?_
  intro p e s m args below meth c s₁ B hml hv
  obtain ⟨rfl, hsz, hP, hK, hD0⟩ := hv
  have hx := B.exec
  have hb := B.bytes
  have hr := B.returns
  have hts := atoms_spec (ws := ws) B.pre
  have hown : s.vm.findClass own = some m.cls := by rw [← ho]; exact findClass_of_methodNamed B.named
  have hlocks := B.notSynchronized
  subst hsz
  have hl := lv_entry av (n := nL) hlen
  rw [lg_entry_eq]
  generalize (lg_sl av ++ List.replicate (nL - (lg_sl av).length) Slot.unset).toArray = ls at hl ⊢
  refine body (sq_j p l e rm s m av.toArray below meth c g wl (va_A (wl g st) s.heap.size) nL 0 0 _) ⟨p, e, s, m, _, below, meth, c, _, 0, 0, _, hx, hb, hml, hown, hts, hK, fun q h => Or.inr h, Nat.zero_le _, Nat.zero_le _, rfl⟩ ?_ s.heap [] ls hl hP hD0.self va_S.rf
  intro pc lv st' hd hq H locs ls h1 h2 h3 h4
  exact W.vret hx hb hr (fun t ht hW => ⟨⟨st', rfl, hq, by rw [ht]; exact h2, va_K.moved hW.alike hK, h3⟩, h4.F ht⟩) h4.2.2 hd
end
section
/-! isOutside (III)Z : X3_isOutside -/
def wX3_isOutside (v0 v1 v2 : Int) (st : sq_S) (Q : Int → sq_S → Prop) : Prop :=
  (sq_rg v0 ∧ sq_rg v1) ∧ (v0 < v1 → (1 = 0 ∨ 1 = 1) ∧ Q 1 st) ∧ (v1 ≤ v0 → (sq_rg v0 ∧ sq_rg v2) ∧ (v0 ≤ v2 → (0 = 0 ∨ 0 = 1) ∧ Q 0 st) ∧ (v2 < v0 → (1 = 0 ∨ 1 = 1) ∧ Q 1 st))
def rX3_isOutside : Room := { frames := 0, cells := 0, slots := 0, locals := 0 }
set_option maxRecDepth 100000 in
set_option maxHeartbeats 4000000 in
theorem tX3_isOutside_0 {l : Launch} {g : sq_G} {J : sq_K} {Q : Int → sq_S → Prop} (S : sq_J l rX3_isOutside cX3_isOutside 3 RX3 wsX3_isOutside g sq_X J) (hret : ∀ (pc : Nat) (lv : List (Nat × Value)) (r : Int) (st' : sq_S), decode cX3_isOutside pc = .ok (.ireturn, 1) → (r = 0 ∨ r = 1) ∧ Q r st' → J pc lv [.int (sq_z r)] st') (v0 v1 v2 : Int) (st : sq_S) (H : wX3_isOutside v0 v1 v2 st Q) : J 0 [(0, .int (sq_z v0)), (1, .int (sq_z v1)), (2, .int (sq_z v2))] [] st := by
  unfold wX3_isOutside at H
  refine sj_iload_n (pl := 0) S dX3_isOutside_0 rfl rfl ?_
  refine sj_iload_n (pl := 1) S dX3_isOutside_1 rfl rfl ?_
  refine sj_icmp_lt (tgt := 10) S H.1 dX3_isOutside_2 (by decide) (fun c9 => ?_) (fun c9 => ?_)
  · have H := H.2.1 c9
    refine sj_iconst S dX3_isOutside_10 ?_
    refine sj_goto (tgt := 15) S dX3_isOutside_11 (by decide) ?_
    exact hret _ _ _ _ dX3_isOutside_15 H
  · have H := H.2.2 c9
    refine sj_iload_n (pl := 0) S dX3_isOutside_5 rfl rfl ?_
    refine sj_iload_n (pl := 2) S dX3_isOutside_6 rfl rfl ?_
    refine sj_icmp_le (tgt := 14) S H.1 dX3_isOutside_7 (by decide) (fun c9 => ?_) (fun c9 => ?_)
    · have H := H.2.1 c9
      refine sj_iconst S dX3_isOutside_14 ?_
      exact hret _ _ _ _ dX3_isOutside_15 H
    · have H := H.2.2 c9
      refine sj_iconst S dX3_isOutside_10 ?_
      refine sj_goto (tgt := 15) S dX3_isOutside_11 (by decide) ?_
      exact hret _ _ _ _ dX3_isOutside_15 H
set_option maxRecDepth 100000 in
set_option maxHeartbeats 4000000 in
theorem kX3_isOutside (l : Launch) (g : sq_G) (v0 v1 v2 : Int) (st : sq_S) (Q : Int → sq_S → Prop) (H : wX3_isOutside v0 v1 v2 st Q) : sq_Ci l yX3_isOutside wsX3_isOutside rX3_isOutside g sq_X [.int (sq_z v0), .int (sq_z v1), .int (sq_z v2)] st Q := by
  refine sq_in_z (cc := cX3_isOutside) (nL := 3) (own := RX3) (by decide) rfl rfl (Nat.le_of_ble_eq_true rfl) ?_
  intro J S hret
  exact tX3_isOutside_0 S hret v0 v1 v2 st H
/-! say (I)I : X3_say -/
theorem iX3_say_3 : ∀ w ∈ u_ws RX3 TX3 8, w ∈ wsX3_say := fun _ h => List.mem_cons_of_mem _ (List.mem_append_right _ h)
theorem mX3_say_9 : Cond.fieldLink RX3 9 (TX3 0).1 (TX3 0).2.1 (TX3 0).2.2.1 ∈ wsX3_say := List.mem_of_getElem? (i := 2) rfl
theorem mX3_say_41 : Cond.fieldLink RX3 41 (TX3 1).1 (TX3 1).2.1 (TX3 1).2.2.1 ∈ wsX3_say := List.mem_of_getElem? (i := 1) rfl
def wX3_say (v1 : Int) (st : sq_S) (Q : Int → sq_S → Prop) : Prop :=
  wX3_isOutside v1 33 126 st (fun r1 st2 => sq_rg r1 ∧ (r1 = 0 → (sq_rg (st2 0 1) ∧ sq_rg 48) ∧ ((st2 0 1) < 48 → sq_ib (st2 0 1) 48 ∧ (∀ st3 : sq_S, st3 = sq_set st2 1 ((st2 0 1)).toNat v1 → (∀ st4 : sq_S, st4 = sq_set st3 0 1 ((st3 0 1) + 1) → (Q (st4 0 1) st4)))) ∧ (48 ≤ (st2 0 1) → Q (-4) st2)) ∧ (¬ r1 = 0 → Q (-2) st2))
def rX3_say : Room := { frames := 1, cells := 0, slots := 0, locals := 22 }
set_option maxRecDepth 100000 in
set_option maxHeartbeats 4000000 in
theorem tX3_say_0 {l : Launch} {g : sq_G} {J : sq_K} {Q : Int → sq_S → Prop} (S : sq_J l rX3_say cX3_say 2 RX3 wsX3_say g sq_X J) (hret : ∀ (pc : Nat) (lv : List (Nat × Value)) (r : Int) (st' : sq_S), decode cX3_say pc = .ok (.ireturn, 1) → Q r st' → J pc lv [.int (sq_z r)] st') (v1 : Int) (st : sq_S) (H : wX3_say v1 st Q) : J 0 [(0, .ref (g.2.2 0)), (1, .int (sq_z v1))] [] st := by
  unfold wX3_say at H
  refine sj_iload_n (pl := 1) S dX3_say_0 rfl rfl ?_
  refine sj_bipush S dX3_say_1 (by decide +kernel) ?_
  refine sj_bipush S dX3_say_3 (by decide +kernel) ?_
  refine sj_si (rest := []) S (kX3_isOutside l g v1 33 126 st _ H) (fun s args hts => va_cwS 3 hts gX3_say_X3_isOutside rfl rfl rfl (by decide +kernel) ⟨Nat.le_of_ble_eq_true rfl, Nat.le_of_ble_eq_true rfl⟩) rfl rfl (Nat.le_of_ble_eq_true rfl) dX3_say_5 (fun r1 st2 H => ?_)
  refine sj_if_eq (tgt := 14) S H.1 dX3_say_8 (by decide) (fun c9 => ?_) (fun c9 => ?_)
  · have H := H.2.1 c9
    refine sj_aload_n (pl := 0) S dX3_say_14 rfl rfl ?_
    refine sj_geti S fX_0_1 iX3_say_3 rfl (by decide) mX3_say_41 dX3_say_15 ?_
    refine sj_bipush S dX3_say_18 (by decide +kernel) ?_
    refine sj_icmp_lt (tgt := 26) S H.1 dX3_say_20 (by decide) (fun c9 => ?_) (fun c9 => ?_)
    · have H := H.2.1 c9
      refine sj_aload_n (pl := 0) S dX3_say_26 rfl rfl ?_
      refine sj_getr S fX_0_0 iX3_say_3 rfl (by decide) mX3_say_9 dX3_say_27 ?_
      refine sj_aload_n (pl := 0) S dX3_say_30 rfl rfl ?_
      refine sj_geti S fX_0_1 iX3_say_3 rfl (by decide) mX3_say_41 dX3_say_31 ?_
      refine sj_iload_n (pl := 1) S dX3_say_34 rfl rfl ?_
      refine sj_iast S aX_1 H.1 dX3_say_35 (fun st3 est3 => ?_)
      have H := H.2 st3 est3
      refine sj_aload_n (pl := 0) S dX3_say_36 rfl rfl ?_
      refine sj_dup S dX3_say_37 rfl ?_
      refine sj_geti S fX_0_1 iX3_say_3 rfl (by decide) mX3_say_41 dX3_say_38 ?_
      refine sj_iconst S dX3_say_41 ?_
      refine sj_iadd S dX3_say_42 ?_
      refine sj_puti S fX_0_1 iX3_say_3 tyX3 tyX3_ok nmX3 rfl (by decide) mX3_say_41 rfl rfl dX3_say_43 (fun st4 est4 => ?_)
      have H := H st4 est4
      refine sj_aload_n (pl := 0) S dX3_say_46 rfl rfl ?_
      refine sj_geti S fX_0_1 iX3_say_3 rfl (by decide) mX3_say_41 dX3_say_47 ?_
      exact hret _ _ _ _ dX3_say_50 H
    · have H := H.2.2 c9
      refine sj_bipush S dX3_say_23 (by decide +kernel) ?_
      exact hret _ _ _ _ dX3_say_25 H
  · have H := H.2.2 c9
    refine sj_bipush S dX3_say_11 (by decide +kernel) ?_
    exact hret _ _ _ _ dX3_say_13 H
set_option maxRecDepth 100000 in
set_option maxHeartbeats 4000000 in
theorem kX3_say (l : Launch) (g : sq_G) (v1 : Int) (st : sq_S) (Q : Int → sq_S → Prop) (H : wX3_say v1 st Q) : sq_Ci l yX3_say wsX3_say rX3_say g sq_X [.ref (g.2.2 0), .int (sq_z v1)] st Q := by
  refine sq_in_i (cc := cX3_say) (nL := 2) (own := RX3) (by decide) rfl rfl (Nat.le_of_ble_eq_true rfl) ?_
  intro J S hret
  exact tX3_say_0 S hret v1 st H
/-! wipe ()I : X3_wipe -/
theorem iX3_wipe_3 : ∀ w ∈ u_ws RX3 TX3 8, w ∈ wsX3_wipe := fun _ h => List.mem_cons_of_mem _ (List.mem_append_right _ h)
theorem mX3_wipe_41 : Cond.fieldLink RX3 41 (TX3 1).1 (TX3 1).2.1 (TX3 1).2.2.1 ∈ wsX3_wipe := List.mem_of_getElem? (i := 1) rfl
def wX3_wipe (st : sq_S) (Q : Int → sq_S → Prop) : Prop :=
  ∀ y5 : Int, y5 = (st 0 1) → (∀ st6 : sq_S, st6 = sq_set st 0 1 0 → (Q y5 st6))
def rX3_wipe : Room := { frames := 0, cells := 0, slots := 0, locals := 0 }
set_option maxRecDepth 100000 in
set_option maxHeartbeats 4000000 in
theorem tX3_wipe_0 {l : Launch} {g : sq_G} {J : sq_K} {Q : Int → sq_S → Prop} (S : sq_J l rX3_wipe cX3_wipe 2 RX3 wsX3_wipe g sq_X J) (hret : ∀ (pc : Nat) (lv : List (Nat × Value)) (r : Int) (st' : sq_S), decode cX3_wipe pc = .ok (.ireturn, 1) → Q r st' → J pc lv [.int (sq_z r)] st') (st : sq_S) (H : wX3_wipe st Q) : J 0 [(0, .ref (g.2.2 0))] [] st := by
  unfold wX3_wipe at H
  refine sj_aload_n (pl := 0) S dX3_wipe_0 rfl rfl ?_
  refine sj_geti S fX_0_1 iX3_wipe_3 rfl (by decide) mX3_wipe_41 dX3_wipe_1 ?_
  refine sj_istore_n (lv' := [(0, .ref (g.2.2 0))]) S dX3_wipe_4 rfl (by decide) (fun _ => rfl) (fun y5 ey5 => ?_)
  have H := H y5 ey5
  refine sj_aload_n (pl := 1) S dX3_wipe_5 rfl rfl ?_
  refine sj_iconst S dX3_wipe_6 ?_
  refine sj_puti S fX_0_1 iX3_wipe_3 tyX3 tyX3_ok nmX3 rfl (by decide) mX3_wipe_41 rfl rfl dX3_wipe_7 (fun st6 est6 => ?_)
  have H := H st6 est6
  refine sj_iload_n (pl := 0) S dX3_wipe_10 rfl rfl ?_
  exact hret _ _ _ _ dX3_wipe_11 H
set_option maxRecDepth 100000 in
set_option maxHeartbeats 4000000 in
theorem kX3_wipe (l : Launch) (g : sq_G) (st : sq_S) (Q : Int → sq_S → Prop) (H : wX3_wipe  st Q) : sq_Ci l yX3_wipe wsX3_wipe rX3_wipe g sq_X [.ref (g.2.2 0)] st Q := by
  refine sq_in_i (cc := cX3_wipe) (nL := 2) (own := RX3) (by decide) rfl rfl (Nat.le_of_ble_eq_true rfl) ?_
  intro J S hret
  exact tX3_wipe_0 S hret  st H
/-! isNoLetter (I)Z : X3_isNoLetter -/
def wX3_isNoLetter (v0 : Int) (st : sq_S) (Q : Int → sq_S → Prop) : Prop :=
  wX3_isOutside v0 0 15 st (fun r9 st10 => (r9 = 0 ∨ r9 = 1) ∧ Q r9 st10)
def rX3_isNoLetter : Room := { frames := 1, cells := 0, slots := 0, locals := 22 }
set_option maxRecDepth 100000 in
set_option maxHeartbeats 4000000 in
theorem tX3_isNoLetter_0 {l : Launch} {g : sq_G} {J : sq_K} {Q : Int → sq_S → Prop} (S : sq_J l rX3_isNoLetter cX3_isNoLetter 1 RX3 wsX3_isNoLetter g sq_X J) (hret : ∀ (pc : Nat) (lv : List (Nat × Value)) (r : Int) (st' : sq_S), decode cX3_isNoLetter pc = .ok (.ireturn, 1) → (r = 0 ∨ r = 1) ∧ Q r st' → J pc lv [.int (sq_z r)] st') (v0 : Int) (st : sq_S) (H : wX3_isNoLetter v0 st Q) : J 0 [(0, .int (sq_z v0))] [] st := by
  unfold wX3_isNoLetter at H
  refine sj_iload_n (pl := 0) S dX3_isNoLetter_0 rfl rfl ?_
  refine sj_iconst S dX3_isNoLetter_1 ?_
  refine sj_bipush S dX3_isNoLetter_2 (by decide +kernel) ?_
  refine sj_si (rest := []) S (kX3_isOutside l g v0 0 15 st _ H) (fun s args hts => va_cwS 3 hts gX3_isNoLetter_X3_isOutside rfl rfl rfl (by decide +kernel) ⟨Nat.le_of_ble_eq_true rfl, Nat.le_of_ble_eq_true rfl⟩) rfl rfl (Nat.le_of_ble_eq_true rfl) dX3_isNoLetter_4 (fun r9 st10 H => ?_)
  exact hret _ _ _ _ dX3_isNoLetter_7 H
set_option maxRecDepth 100000 in
set_option maxHeartbeats 4000000 in
theorem kX3_isNoLetter (l : Launch) (g : sq_G) (v0 : Int) (st : sq_S) (Q : Int → sq_S → Prop) (H : wX3_isNoLetter v0 st Q) : sq_Ci l yX3_isNoLetter wsX3_isNoLetter rX3_isNoLetter g sq_X [.int (sq_z v0)] st Q := by
  refine sq_in_z (cc := cX3_isNoLetter) (nL := 1) (own := RX3) (by decide) rfl rfl (Nat.le_of_ble_eq_true rfl) ?_
  intro J S hret
  exact tX3_isNoLetter_0 S hret v0 st H
/-! padHasOnlyLetters ()Z : X3_padHasOnlyLetters -/
theorem iX3_padHasOnlyLetters_3 : ∀ w ∈ u_ws RX3 TX3 8, w ∈ wsX3_padHasOnlyLetters := fun _ h => List.mem_cons_of_mem _ (List.mem_append_right _ h)
theorem mX3_padHasOnlyLetters_9 : Cond.fieldLink RX3 9 (TX3 0).1 (TX3 0).2.1 (TX3 0).2.2.1 ∈ wsX3_padHasOnlyLetters := List.mem_of_getElem? (i := 2) rfl
theorem mX3_padHasOnlyLetters_41 : Cond.fieldLink RX3 41 (TX3 1).1 (TX3 1).2.1 (TX3 1).2.2.1 ∈ wsX3_padHasOnlyLetters := List.mem_of_getElem? (i := 1) rfl
def bX3_padHasOnlyLetters_2 (K2 : Int → sq_S → Prop) (Q : Int → sq_S → Prop) (v1 : Int) (st : sq_S) : Prop :=
  (sq_rg v1 ∧ sq_rg (st 0 1)) ∧ ((st 0 1) ≤ v1 → (1 = 0 ∨ 1 = 1) ∧ Q 1 st) ∧ (v1 < (st 0 1) → sq_ib v1 48 ∧ (wX3_isNoLetter ((st 1 v1.toNat) - 97) st (fun r11 st12 => sq_rg r11 ∧ (r11 = 0 → K2 (v1 + 1) st12) ∧ (¬ r11 = 0 → (0 = 0 ∨ 0 = 1) ∧ Q 0 st12))))
def bX3_padHasOnlyLetters_0 (K2 : Int → sq_S → Prop) (Q : Int → sq_S → Prop) (st : sq_S) : Prop :=
  K2 0 st
def wX3_padHasOnlyLetters (st : sq_S) (Q : Int → sq_S → Prop) : Prop :=
  ∀ (K2 : Int → sq_S → Prop), (∀ (v1 : Int) (st : sq_S), bX3_padHasOnlyLetters_2 K2 Q v1 st → K2 v1 st) → bX3_padHasOnlyLetters_0 K2 Q  st
def rX3_padHasOnlyLetters : Room := { frames := 2, cells := 0, slots := 0, locals := 42 }
def qX3_padHasOnlyLetters_2 (J : sq_K) (g : sq_G) : Int → sq_S → Prop := fun v1 st => J 2 [(0, .ref (g.2.2 0)), (1, .int (sq_z v1))] [] st
set_option maxRecDepth 100000 in
set_option maxHeartbeats 4000000 in
theorem tX3_padHasOnlyLetters_2 {l : Launch} {g : sq_G} {J : sq_K} {Q : Int → sq_S → Prop} (S : sq_J l rX3_padHasOnlyLetters cX3_padHasOnlyLetters 2 RX3 wsX3_padHasOnlyLetters g sq_X J) (hret : ∀ (pc : Nat) (lv : List (Nat × Value)) (r : Int) (st' : sq_S), decode cX3_padHasOnlyLetters pc = .ok (.ireturn, 1) → (r = 0 ∨ r = 1) ∧ Q r st' → J pc lv [.int (sq_z r)] st') (v1 : Int) (st : sq_S) (H : bX3_padHasOnlyLetters_2 (qX3_padHasOnlyLetters_2 J g) Q v1 st) : J 2 [(0, .ref (g.2.2 0)), (1, .int (sq_z v1))] [] st := by
  unfold bX3_padHasOnlyLetters_2 at H
  refine sj_iload_n (pl := 1) S dX3_padHasOnlyLetters_2 rfl rfl ?_
  refine sj_aload_n (pl := 0) S dX3_padHasOnlyLetters_3 rfl rfl ?_
  refine sj_geti S fX_0_1 iX3_padHasOnlyLetters_3 rfl (by decide) mX3_padHasOnlyLetters_41 dX3_padHasOnlyLetters_4 ?_
  refine sj_icmp_ge (tgt := 33) S H.1 dX3_padHasOnlyLetters_7 (by decide) (fun c9 => ?_) (fun c9 => ?_)
  · have H := H.2.1 c9
    refine sj_iconst S dX3_padHasOnlyLetters_33 ?_
    exact hret _ _ _ _ dX3_padHasOnlyLetters_34 H
  · have H := H.2.2 c9
    refine sj_aload_n (pl := 0) S dX3_padHasOnlyLetters_10 rfl rfl ?_
    refine sj_getr S fX_0_0 iX3_padHasOnlyLetters_3 rfl (by decide) mX3_padHasOnlyLetters_9 dX3_padHasOnlyLetters_11 ?_
    refine sj_iload_n (pl := 1) S dX3_padHasOnlyLetters_14 rfl rfl ?_
    refine sj_iald S aX_1 H.1 dX3_padHasOnlyLetters_15 ?_
    have H := H.2
    refine sj_bipush S dX3_padHasOnlyLetters_16 (by decide +kernel) ?_
    refine sj_isub S dX3_padHasOnlyLetters_18 ?_
    refine sj_si (rest := []) S (kX3_isNoLetter l g ((st 1 v1.toNat) - 97) st _ H) (fun s args hts => va_cwS 1 hts gX3_padHasOnlyLetters_X3_isNoLetter rfl rfl rfl (by decide +kernel) ⟨Nat.le_of_ble_eq_true rfl, Nat.le_of_ble_eq_true rfl⟩) rfl rfl (Nat.le_of_ble_eq_true rfl) dX3_padHasOnlyLetters_19 (fun r11 st12 H => ?_)
    refine sj_if_eq (tgt := 27) S H.1 dX3_padHasOnlyLetters_22 (by decide) (fun c9 => ?_) (fun c9 => ?_)
    · have H := H.2.1 c9
      refine sj_iinc (pl := 1) (lv' := [(0, .ref (g.2.2 0))]) S dX3_padHasOnlyLetters_27 rfl (by decide) (fun _ => rfl) ?_
      refine sj_goto (tgt := 2) S dX3_padHasOnlyLetters_30 (by decide) ?_
      exact sj_lv S [1, 0] rfl H
    · have H := H.2.2 c9
      refine sj_iconst S dX3_padHasOnlyLetters_25 ?_
      exact hret _ _ _ _ dX3_padHasOnlyLetters_26 H
set_option maxRecDepth 100000 in
set_option maxHeartbeats 4000000 in
theorem tX3_padHasOnlyLetters_0 {l : Launch} {g : sq_G} {J : sq_K} {Q : Int → sq_S → Prop} (S : sq_J l rX3_padHasOnlyLetters cX3_padHasOnlyLetters 2 RX3 wsX3_padHasOnlyLetters g sq_X J) (hret : ∀ (pc : Nat) (lv : List (Nat × Value)) (r : Int) (st' : sq_S), decode cX3_padHasOnlyLetters pc = .ok (.ireturn, 1) → (r = 0 ∨ r = 1) ∧ Q r st' → J pc lv [.int (sq_z r)] st') (st : sq_S) (H : bX3_padHasOnlyLetters_0 (qX3_padHasOnlyLetters_2 J g) Q st) : J 0 [(0, .ref (g.2.2 0))] [] st := by
  unfold bX3_padHasOnlyLetters_0 at H
  refine sj_iconst S dX3_padHasOnlyLetters_0 ?_
  refine sj_istore_n (lv' := [(0, .ref (g.2.2 0))]) S dX3_padHasOnlyLetters_1 rfl (by decide) (fun _ => rfl) ?_
  intro y9 e9; subst e9
  exact sj_lv S [1, 0] rfl H
set_option maxRecDepth 100000 in
set_option maxHeartbeats 4000000 in
theorem kX3_padHasOnlyLetters (l : Launch) (g : sq_G) (st : sq_S) (Q : Int → sq_S → Prop) (H : wX3_padHasOnlyLetters  st Q) : sq_Ci l yX3_padHasOnlyLetters wsX3_padHasOnlyLetters rX3_padHasOnlyLetters g sq_X [.ref (g.2.2 0)] st Q := by
  refine sq_in_z (cc := cX3_padHasOnlyLetters) (nL := 2) (own := RX3) (by decide) rfl rfl (Nat.le_of_ble_eq_true rfl) ?_
  intro J S hret
  exact tX3_padHasOnlyLetters_0 S hret  st (H (qX3_padHasOnlyLetters_2 J g) (tX3_padHasOnlyLetters_2 S hret))
/-! readPadInto ([I)V : X3_readPadInto_4 -/
theorem iX3_readPadInto_3 : ∀ w ∈ u_ws RX3 TX3 8, w ∈ wsX3_readPadInto := fun _ h => List.mem_cons_of_mem _ (List.mem_append_right _ h)
theorem mX3_readPadInto_9 : Cond.fieldLink RX3 9 (TX3 0).1 (TX3 0).2.1 (TX3 0).2.2.1 ∈ wsX3_readPadInto := List.mem_of_getElem? (i := 2) rfl
theorem mX3_readPadInto_41 : Cond.fieldLink RX3 41 (TX3 1).1 (TX3 1).2.1 (TX3 1).2.2.1 ∈ wsX3_readPadInto := List.mem_of_getElem? (i := 1) rfl
def bX3_readPadInto_4_2 (K2 : Int → sq_S → Prop) (Q : Int → sq_S → Prop) (v2 : Int) (st : sq_S) : Prop :=
  (sq_rg v2 ∧ sq_rg (st 0 1)) ∧ ((st 0 1) ≤ v2 → Q 0 st) ∧ (v2 < (st 0 1) → (sq_rg v2 ∧ sq_rg 6) ∧ (6 ≤ v2 → Q 0 st) ∧ (v2 < 6 → sq_ib v2 48 ∧ (sq_ib v2 6 ∧ (∀ st17 : sq_S, st17 = sq_set st 4 v2.toNat ((st 1 v2.toNat) - 97) → (K2 (v2 + 1) st17)))))
def bX3_readPadInto_4_0 (K2 : Int → sq_S → Prop) (Q : Int → sq_S → Prop) (st : sq_S) : Prop :=
  K2 0 st
def wX3_readPadInto_4 (st : sq_S) (Q : Int → sq_S → Prop) : Prop :=
  ∀ (K2 : Int → sq_S → Prop), (∀ (v2 : Int) (st : sq_S), bX3_readPadInto_4_2 K2 Q v2 st → K2 v2 st) → bX3_readPadInto_4_0 K2 Q  st
def rX3_readPadInto_4 : Room := { frames := 0, cells := 0, slots := 0, locals := 0 }
def qX3_readPadInto_4_2 (J : sq_K) (g : sq_G) : Int → sq_S → Prop := fun v2 st => J 2 [(0, .ref (g.2.2 0)), (1, .ref (g.2.2 4)), (2, .int (sq_z v2))] [] st
set_option maxRecDepth 100000 in
set_option maxHeartbeats 4000000 in
theorem tX3_readPadInto_4_2 {l : Launch} {g : sq_G} {J : sq_K} {Q : Int → sq_S → Prop} (S : sq_J l rX3_readPadInto_4 cX3_readPadInto 3 RX3 wsX3_readPadInto g sq_X J) (hret : ∀ (pc : Nat) (lv : List (Nat × Value)) (st' : sq_S), decode cX3_readPadInto pc = .ok (.return_, 1) → Q 0 st' → J pc lv [] st') (v2 : Int) (st : sq_S) (H : bX3_readPadInto_4_2 (qX3_readPadInto_4_2 J g) Q v2 st) : J 2 [(0, .ref (g.2.2 0)), (1, .ref (g.2.2 4)), (2, .int (sq_z v2))] [] st := by
  unfold bX3_readPadInto_4_2 at H
  refine sj_iload_n (pl := 2) S dX3_readPadInto_2 rfl rfl ?_
  refine sj_aload_n (pl := 0) S dX3_readPadInto_3 rfl rfl ?_
  refine sj_geti S fX_0_1 iX3_readPadInto_3 rfl (by decide) mX3_readPadInto_41 dX3_readPadInto_4 ?_
  refine sj_icmp_ge (tgt := 34) S H.1 dX3_readPadInto_7 (by decide) (fun c9 => ?_) (fun c9 => ?_)
  · have H := H.2.1 c9
    exact hret _ _ _ dX3_readPadInto_34 H
  · have H := H.2.2 c9
    refine sj_iload_n (pl := 2) S dX3_readPadInto_10 rfl rfl ?_
    refine sj_aload_n (pl := 1) S dX3_readPadInto_11 rfl rfl ?_
    refine sj_alen S aX_4 dX3_readPadInto_12 ?_
    refine sj_icmp_ge (tgt := 34) S H.1 dX3_readPadInto_13 (by decide) (fun c9 => ?_) (fun c9 => ?_)
    · have H := H.2.1 c9
      exact hret _ _ _ dX3_readPadInto_34 H
    · have H := H.2.2 c9
      refine sj_aload_n (pl := 1) S dX3_readPadInto_16 rfl rfl ?_
      refine sj_iload_n (pl := 2) S dX3_readPadInto_17 rfl rfl ?_
      refine sj_aload_n (pl := 0) S dX3_readPadInto_18 rfl rfl ?_
      refine sj_getr S fX_0_0 iX3_readPadInto_3 rfl (by decide) mX3_readPadInto_9 dX3_readPadInto_19 ?_
      refine sj_iload_n (pl := 2) S dX3_readPadInto_22 rfl rfl ?_
      refine sj_iald S aX_1 H.1 dX3_readPadInto_23 ?_
      have H := H.2
      refine sj_bipush S dX3_readPadInto_24 (by decide +kernel) ?_
      refine sj_isub S dX3_readPadInto_26 ?_
      refine sj_iast S aX_4 H.1 dX3_readPadInto_27 (fun st17 est17 => ?_)
      have H := H.2 st17 est17
      refine sj_iinc (pl := 2) (lv' := [(0, .ref (g.2.2 0)), (1, .ref (g.2.2 4))]) S dX3_readPadInto_28 rfl (by decide) (fun _ => rfl) ?_
      refine sj_goto (tgt := 2) S dX3_readPadInto_31 (by decide) ?_
      exact sj_lv S [1, 2, 0] rfl H
set_option maxRecDepth 100000 in
set_option maxHeartbeats 4000000 in
theorem tX3_readPadInto_4_0 {l : Launch} {g : sq_G} {J : sq_K} {Q : Int → sq_S → Prop} (S : sq_J l rX3_readPadInto_4 cX3_readPadInto 3 RX3 wsX3_readPadInto g sq_X J) (hret : ∀ (pc : Nat) (lv : List (Nat × Value)) (st' : sq_S), decode cX3_readPadInto pc = .ok (.return_, 1) → Q 0 st' → J pc lv [] st') (st : sq_S) (H : bX3_readPadInto_4_0 (qX3_readPadInto_4_2 J g) Q st) : J 0 [(0, .ref (g.2.2 0)), (1, .ref (g.2.2 4))] [] st := by
  unfold bX3_readPadInto_4_0 at H
  refine sj_iconst S dX3_readPadInto_0 ?_
  refine sj_istore_n (lv' := [(0, .ref (g.2.2 0)), (1, .ref (g.2.2 4))]) S dX3_readPadInto_1 rfl (by decide) (fun _ => rfl) ?_
  intro y9 e9; subst e9
  exact sj_lv S [1, 2, 0] rfl H
set_option maxRecDepth 100000 in
set_option maxHeartbeats 4000000 in
theorem kX3_readPadInto_4 (l : Launch) (g : sq_G) (st : sq_S) (Q : Int → sq_S → Prop) (H : wX3_readPadInto_4  st Q) : sq_Cv l yX3_readPadInto wsX3_readPadInto rX3_readPadInto_4 g sq_X [.ref (g.2.2 0), .ref (g.2.2 4)] st Q := by
  refine sq_in_v (cc := cX3_readPadInto) (nL := 3) (own := RX3) (by decide) rfl rfl (Nat.le_of_ble_eq_true rfl) ?_
  intro J S hret
  exact tX3_readPadInto_4_0 S hret  st (H (qX3_readPadInto_4_2 J g) (tX3_readPadInto_4_2 S hret))
/-! readPadInto ([I)V : X3_readPadInto_3 -/
def bX3_readPadInto_3_2 (K2 : Int → sq_S → Prop) (Q : Int → sq_S → Prop) (v2 : Int) (st : sq_S) : Prop :=
  (sq_rg v2 ∧ sq_rg (st 0 1)) ∧ ((st 0 1) ≤ v2 → Q 0 st) ∧ (v2 < (st 0 1) → (sq_rg v2 ∧ sq_rg 48) ∧ (48 ≤ v2 → Q 0 st) ∧ (v2 < 48 → sq_ib v2 48 ∧ (sq_ib v2 48 ∧ (∀ st22 : sq_S, st22 = sq_set st 3 v2.toNat ((st 1 v2.toNat) - 97) → (K2 (v2 + 1) st22)))))
def bX3_readPadInto_3_0 (K2 : Int → sq_S → Prop) (Q : Int → sq_S → Prop) (st : sq_S) : Prop :=
  K2 0 st
def wX3_readPadInto_3 (st : sq_S) (Q : Int → sq_S → Prop) : Prop :=
  ∀ (K2 : Int → sq_S → Prop), (∀ (v2 : Int) (st : sq_S), bX3_readPadInto_3_2 K2 Q v2 st → K2 v2 st) → bX3_readPadInto_3_0 K2 Q  st
def rX3_readPadInto_3 : Room := { frames := 0, cells := 0, slots := 0, locals := 0 }
def qX3_readPadInto_3_2 (J : sq_K) (g : sq_G) : Int → sq_S → Prop := fun v2 st => J 2 [(0, .ref (g.2.2 0)), (1, .ref (g.2.2 3)), (2, .int (sq_z v2))] [] st
set_option maxRecDepth 100000 in
set_option maxHeartbeats 4000000 in
theorem tX3_readPadInto_3_2 {l : Launch} {g : sq_G} {J : sq_K} {Q : Int → sq_S → Prop} (S : sq_J l rX3_readPadInto_3 cX3_readPadInto 3 RX3 wsX3_readPadInto g sq_X J) (hret : ∀ (pc : Nat) (lv : List (Nat × Value)) (st' : sq_S), decode cX3_readPadInto pc = .ok (.return_, 1) → Q 0 st' → J pc lv [] st') (v2 : Int) (st : sq_S) (H : bX3_readPadInto_3_2 (qX3_readPadInto_3_2 J g) Q v2 st) : J 2 [(0, .ref (g.2.2 0)), (1, .ref (g.2.2 3)), (2, .int (sq_z v2))] [] st := by
  unfold bX3_readPadInto_3_2 at H
  refine sj_iload_n (pl := 2) S dX3_readPadInto_2 rfl rfl ?_
  refine sj_aload_n (pl := 0) S dX3_readPadInto_3 rfl rfl ?_
  refine sj_geti S fX_0_1 iX3_readPadInto_3 rfl (by decide) mX3_readPadInto_41 dX3_readPadInto_4 ?_
  refine sj_icmp_ge (tgt := 34) S H.1 dX3_readPadInto_7 (by decide) (fun c9 => ?_) (fun c9 => ?_)
  · have H := H.2.1 c9
    exact hret _ _ _ dX3_readPadInto_34 H
  · have H := H.2.2 c9
    refine sj_iload_n (pl := 2) S dX3_readPadInto_10 rfl rfl ?_
    refine sj_aload_n (pl := 1) S dX3_readPadInto_11 rfl rfl ?_
    refine sj_alen S aX_3 dX3_readPadInto_12 ?_
    refine sj_icmp_ge (tgt := 34) S H.1 dX3_readPadInto_13 (by decide) (fun c9 => ?_) (fun c9 => ?_)
    · have H := H.2.1 c9
      exact hret _ _ _ dX3_readPadInto_34 H
    · have H := H.2.2 c9
      refine sj_aload_n (pl := 1) S dX3_readPadInto_16 rfl rfl ?_
      refine sj_iload_n (pl := 2) S dX3_readPadInto_17 rfl rfl ?_
      refine sj_aload_n (pl := 0) S dX3_readPadInto_18 rfl rfl ?_
      refine sj_getr S fX_0_0 iX3_readPadInto_3 rfl (by decide) mX3_readPadInto_9 dX3_readPadInto_19 ?_
      refine sj_iload_n (pl := 2) S dX3_readPadInto_22 rfl rfl ?_
      refine sj_iald S aX_1 H.1 dX3_readPadInto_23 ?_
      have H := H.2
      refine sj_bipush S dX3_readPadInto_24 (by decide +kernel) ?_
      refine sj_isub S dX3_readPadInto_26 ?_
      refine sj_iast S aX_3 H.1 dX3_readPadInto_27 (fun st22 est22 => ?_)
      have H := H.2 st22 est22
      refine sj_iinc (pl := 2) (lv' := [(0, .ref (g.2.2 0)), (1, .ref (g.2.2 3))]) S dX3_readPadInto_28 rfl (by decide) (fun _ => rfl) ?_
      refine sj_goto (tgt := 2) S dX3_readPadInto_31 (by decide) ?_
      exact sj_lv S [1, 2, 0] rfl H
set_option maxRecDepth 100000 in
set_option maxHeartbeats 4000000 in
theorem tX3_readPadInto_3_0 {l : Launch} {g : sq_G} {J : sq_K} {Q : Int → sq_S → Prop} (S : sq_J l rX3_readPadInto_3 cX3_readPadInto 3 RX3 wsX3_readPadInto g sq_X J) (hret : ∀ (pc : Nat) (lv : List (Nat × Value)) (st' : sq_S), decode cX3_readPadInto pc = .ok (.return_, 1) → Q 0 st' → J pc lv [] st') (st : sq_S) (H : bX3_readPadInto_3_0 (qX3_readPadInto_3_2 J g) Q st) : J 0 [(0, .ref (g.2.2 0)), (1, .ref (g.2.2 3))] [] st := by
  unfold bX3_readPadInto_3_0 at H
  refine sj_iconst S dX3_readPadInto_0 ?_
  refine sj_istore_n (lv' := [(0, .ref (g.2.2 0)), (1, .ref (g.2.2 3))]) S dX3_readPadInto_1 rfl (by decide) (fun _ => rfl) ?_
  intro y9 e9; subst e9
  exact sj_lv S [1, 2, 0] rfl H
set_option maxRecDepth 100000 in
set_option maxHeartbeats 4000000 in
theorem kX3_readPadInto_3 (l : Launch) (g : sq_G) (st : sq_S) (Q : Int → sq_S → Prop) (H : wX3_readPadInto_3  st Q) : sq_Cv l yX3_readPadInto wsX3_readPadInto rX3_readPadInto_3 g sq_X [.ref (g.2.2 0), .ref (g.2.2 3)] st Q := by
  refine sq_in_v (cc := cX3_readPadInto) (nL := 3) (own := RX3) (by decide) rfl rfl (Nat.le_of_ble_eq_true rfl) ?_
  intro J S hret
  exact tX3_readPadInto_3_0 S hret  st (H (qX3_readPadInto_3_2 J g) (tX3_readPadInto_3_2 S hret))
/-! take (I)I : X3_take -/
theorem iX3_take_0 : ∀ w ∈ u_ws RX0 TX0 9, w ∈ wsX3_take := fun _ h => List.mem_cons_of_mem _ (List.mem_append_right _ h)
theorem iX3_take_3 : ∀ w ∈ u_ws RX3 TX3 8, w ∈ wsX3_take := fun _ h => List.mem_cons_of_mem _ (List.mem_append_left _ (List.mem_append_right _ h))
theorem mX3_take_16 : Cond.fieldLink RX3 16 (TX3 2).1 (TX3 2).2.1 (TX3 2).2.2.1 ∈ wsX3_take := List.mem_of_getElem? (i := 2) rfl
theorem mX3_take_41 : Cond.fieldLink RX3 41 (TX3 1).1 (TX3 1).2.1 (TX3 1).2.2.1 ∈ wsX3_take := List.mem_of_getElem? (i := 1) rfl
theorem mX3_take_49 : Cond.fieldLink RX3 49 (TX0 0).1 (TX0 0).2.1 (TX0 0).2.2.1 ∈ wsX3_take := List.mem_of_getElem? (i := 3) rfl
theorem mX3_take_56 : Cond.fieldLink RX3 56 (TX0 1).1 (TX0 1).2.1 (TX0 1).2.2.1 ∈ wsX3_take := List.mem_of_getElem? (i := 4) rfl
theorem mX3_take_59 : Cond.fieldLink RX3 59 (TX0 2).1 (TX0 2).2.1 (TX0 2).2.2.1 ∈ wsX3_take := List.mem_of_getElem? (i := 5) rfl
theorem mX3_take_62 : Cond.fieldLink RX3 62 (TX0 3).1 (TX0 3).2.1 (TX0 3).2.2.1 ∈ wsX3_take := List.mem_of_getElem? (i := 6) rfl
def bX3_take_40 (K40 : Int → sq_S → Prop) (Q : Int → sq_S → Prop) (v1 : Int) (st : sq_S) : Prop :=
  sq_rg v1 ∧ (¬ v1 = 0 → wX3_readPadInto_4 st (fun _ st18 => ∀ st19 : sq_S, st19 = sq_set st18 2 3 (st18 0 1) → (wX3_wipe st19 (fun r20 st21 => Q r20 st21)))) ∧ (v1 = 0 → wX3_readPadInto_3 st (fun _ st23 => ∀ st24 : sq_S, st24 = sq_set st23 2 1 (st23 0 1) → (wX3_wipe st24 (fun r25 st26 => Q r25 st26))))
def bX3_take_0 (K40 : Int → sq_S → Prop) (Q : Int → sq_S → Prop) (v1 : Int) (st : sq_S) : Prop :=
  wX3_isOutside v1 0 1 st (fun r7 st8 => sq_rg r7 ∧ (r7 = 0 → wX3_padHasOnlyLetters st8 (fun r13 st14 => sq_rg r13 ∧ (r13 = 0 → Q (-7) st14) ∧ (¬ r13 = 0 → (sq_rg v1 ∧ sq_rg 1) ∧ (¬ v1 = 1 → K40 v1 st14) ∧ (v1 = 1 → wX3_isOutside (st14 0 1) 1 6 st14 (fun r15 st16 => sq_rg r15 ∧ (r15 = 0 → K40 v1 st16) ∧ (¬ r15 = 0 → Q (-7) st16)))))) ∧ (¬ r7 = 0 → Q (-2) st8))
def wX3_take (v1 : Int) (st : sq_S) (Q : Int → sq_S → Prop) : Prop :=
  ∀ (K40 : Int → sq_S → Prop), (∀ (v1 : Int) (st : sq_S), bX3_take_40 K40 Q v1 st → K40 v1 st) → bX3_take_0 K40 Q v1 st
def rX3_take : Room := { frames := 3, cells := 0, slots := 0, locals := 63 }
def qX3_take_40 (J : sq_K) (g : sq_G) : Int → sq_S → Prop := fun v1 st => J 40 [(0, .ref (g.2.2 0)), (1, .int (sq_z v1))] [] st
set_option maxRecDepth 100000 in
set_option maxHeartbeats 4000000 in
theorem tX3_take_40 {l : Launch} {g : sq_G} {J : sq_K} {Q : Int → sq_S → Prop} (S : sq_J l rX3_take cX3_take 2 RX3 wsX3_take g sq_X J) (hret : ∀ (pc : Nat) (lv : List (Nat × Value)) (r : Int) (st' : sq_S), decode cX3_take pc = .ok (.ireturn, 1) → Q r st' → J pc lv [.int (sq_z r)] st') (v1 : Int) (st : sq_S) (H : bX3_take_40 (qX3_take_40 J g) Q v1 st) : J 40 [(0, .ref (g.2.2 0)), (1, .int (sq_z v1))] [] st := by
  unfold bX3_take_40 at H
  refine sj_iload_n (pl := 1) S dX3_take_40 rfl rfl ?_
  refine sj_if_ne (tgt := 69) S H.1 dX3_take_41 (by decide) (fun c9 => ?_) (fun c9 => ?_)
  · have H := H.2.1 c9
    refine sj_aload_n (pl := 0) S dX3_take_69 rfl rfl ?_
    refine sj_aload_n (pl := 0) S dX3_take_70 rfl rfl ?_
    refine sj_getr S fX_0_2 iX3_take_3 rfl (by decide) mX3_take_16 dX3_take_71 ?_
    refine sj_getr S fX_2_2 iX3_take_0 rfl (by decide) mX3_take_59 dX3_take_74 ?_
    refine sj_vv (rest := []) (q0 := 0) (ci := 3) S (kX3_readPadInto_4 l g st _ H) (fun s args hts => cwV 1 hts gX3_take_X3_readPadInto rfl rfl rfl (by decide +kernel) ⟨Nat.le_of_ble_eq_true rfl, Nat.le_of_ble_eq_true rfl⟩) rfl rfl rfl rfl (Nat.le_of_ble_eq_true rfl) dX3_take_77 (fun st18 H => ?_)
    refine sj_aload_n (pl := 0) S dX3_take_80 rfl rfl ?_
    refine sj_getr S fX_0_2 iX3_take_3 rfl (by decide) mX3_take_16 dX3_take_81 ?_
    refine sj_aload_n (pl := 0) S dX3_take_84 rfl rfl ?_
    refine sj_geti S fX_0_1 iX3_take_3 rfl (by decide) mX3_take_41 dX3_take_85 ?_
    refine sj_puti S fX_2_3 iX3_take_0 tyX0 tyX0_ok nmX0 rfl (by decide) mX3_take_62 rfl rfl dX3_take_88 (fun st19 est19 => ?_)
    have H := H st19 est19
    refine sj_aload_n (pl := 0) S dX3_take_91 rfl rfl ?_
    refine sj_vi (rest := []) (q0 := 0) (ci := 3) S (kX3_wipe l g st19 _ H) (fun s args hts => cwV 0 hts gX3_take_X3_wipe rfl rfl rfl (by decide +kernel) ⟨Nat.le_of_ble_eq_true rfl, Nat.le_of_ble_eq_true rfl⟩) rfl rfl rfl rfl (Nat.le_of_ble_eq_true rfl) dX3_take_92 (fun r20 st21 H => ?_)
    exact hret _ _ _ _ dX3_take_95 H
  · have H := H.2.2 c9
    refine sj_aload_n (pl := 0) S dX3_take_44 rfl rfl ?_
    refine sj_aload_n (pl := 0) S dX3_take_45 rfl rfl ?_
    refine sj_getr S fX_0_2 iX3_take_3 rfl (by decide) mX3_take_16 dX3_take_46 ?_
    refine sj_getr S fX_2_0 iX3_take_0 rfl (by decide) mX3_take_49 dX3_take_49 ?_
    refine sj_vv (rest := []) (q0 := 0) (ci := 3) S (kX3_readPadInto_3 l g st _ H) (fun s args hts => cwV 1 hts gX3_take_X3_readPadInto rfl rfl rfl (by decide +kernel) ⟨Nat.le_of_ble_eq_true rfl, Nat.le_of_ble_eq_true rfl⟩) rfl rfl rfl rfl (Nat.le_of_ble_eq_true rfl) dX3_take_52 (fun st23 H => ?_)
    refine sj_aload_n (pl := 0) S dX3_take_55 rfl rfl ?_
    refine sj_getr S fX_0_2 iX3_take_3 rfl (by decide) mX3_take_16 dX3_take_56 ?_
    refine sj_aload_n (pl := 0) S dX3_take_59 rfl rfl ?_
    refine sj_geti S fX_0_1 iX3_take_3 rfl (by decide) mX3_take_41 dX3_take_60 ?_
    refine sj_puti S fX_2_1 iX3_take_0 tyX0 tyX0_ok nmX0 rfl (by decide) mX3_take_56 rfl rfl dX3_take_63 (fun st24 est24 => ?_)
    have H := H st24 est24
    refine sj_goto (tgt := 91) S dX3_take_66 (by decide) ?_
    refine sj_aload_n (pl := 0) S dX3_take_91 rfl rfl ?_
    refine sj_vi (rest := []) (q0 := 0) (ci := 3) S (kX3_wipe l g st24 _ H) (fun s args hts => cwV 0 hts gX3_take_X3_wipe rfl rfl rfl (by decide +kernel) ⟨Nat.le_of_ble_eq_true rfl, Nat.le_of_ble_eq_true rfl⟩) rfl rfl rfl rfl (Nat.le_of_ble_eq_true rfl) dX3_take_92 (fun r25 st26 H => ?_)
    exact hret _ _ _ _ dX3_take_95 H
set_option maxRecDepth 100000 in
set_option maxHeartbeats 4000000 in
theorem tX3_take_0 {l : Launch} {g : sq_G} {J : sq_K} {Q : Int → sq_S → Prop} (S : sq_J l rX3_take cX3_take 2 RX3 wsX3_take g sq_X J) (hret : ∀ (pc : Nat) (lv : List (Nat × Value)) (r : Int) (st' : sq_S), decode cX3_take pc = .ok (.ireturn, 1) → Q r st' → J pc lv [.int (sq_z r)] st') (v1 : Int) (st : sq_S) (H : bX3_take_0 (qX3_take_40 J g) Q v1 st) : J 0 [(0, .ref (g.2.2 0)), (1, .int (sq_z v1))] [] st := by
  unfold bX3_take_0 at H
  refine sj_iload_n (pl := 1) S dX3_take_0 rfl rfl ?_
  refine sj_iconst S dX3_take_1 ?_
  refine sj_iconst S dX3_take_2 ?_
  refine sj_si (rest := []) S (kX3_isOutside l g v1 0 1 st _ H) (fun s args hts => va_cwS 3 hts gX3_take_X3_isOutside rfl rfl rfl (by decide +kernel) ⟨Nat.le_of_ble_eq_true rfl, Nat.le_of_ble_eq_true rfl⟩) rfl rfl (Nat.le_of_ble_eq_true rfl) dX3_take_3 (fun r7 st8 H => ?_)
  refine sj_if_eq (tgt := 12) S H.1 dX3_take_6 (by decide) (fun c9 => ?_) (fun c9 => ?_)
  · have H := H.2.1 c9
    refine sj_aload_n (pl := 0) S dX3_take_12 rfl rfl ?_
    refine sj_vi (rest := []) (q0 := 0) (ci := 3) S (kX3_padHasOnlyLetters l g st8 _ H) (fun s args hts => cwV 0 hts gX3_take_X3_padHasOnlyLetters rfl rfl rfl (by decide +kernel) ⟨Nat.le_of_ble_eq_true rfl, Nat.le_of_ble_eq_true rfl⟩) rfl rfl rfl rfl (Nat.le_of_ble_eq_true rfl) dX3_take_13 (fun r13 st14 H => ?_)
    refine sj_if_eq (tgt := 37) S H.1 dX3_take_16 (by decide) (fun c9 => ?_) (fun c9 => ?_)
    · have H := H.2.1 c9
      refine sj_bipush S dX3_take_37 (by decide +kernel) ?_
      exact hret _ _ _ _ dX3_take_39 H
    · have H := H.2.2 c9
      refine sj_iload_n (pl := 1) S dX3_take_19 rfl rfl ?_
      refine sj_iconst S dX3_take_20 ?_
      refine sj_icmp_ne (tgt := 40) S H.1 dX3_take_21 (by decide) (fun c9 => ?_) (fun c9 => ?_)
      · have H := H.2.1 c9
        exact sj_lv S [0, 1] rfl H
      · have H := H.2.2 c9
        refine sj_aload_n (pl := 0) S dX3_take_24 rfl rfl ?_
        refine sj_geti S fX_0_1 iX3_take_3 rfl (by decide) mX3_take_41 dX3_take_25 ?_
        refine sj_iconst S dX3_take_28 ?_
        refine sj_bipush S dX3_take_29 (by decide +kernel) ?_
        refine sj_si (rest := []) S (kX3_isOutside l g (st14 0 1) 1 6 st14 _ H) (fun s args hts => va_cwS 3 hts gX3_take_X3_isOutside rfl rfl rfl (by decide +kernel) ⟨Nat.le_of_ble_eq_true rfl, Nat.le_of_ble_eq_true rfl⟩) rfl rfl (Nat.le_of_ble_eq_true rfl) dX3_take_31 (fun r15 st16 H => ?_)
        refine sj_if_eq (tgt := 40) S H.1 dX3_take_34 (by decide) (fun c9 => ?_) (fun c9 => ?_)
        · have H := H.2.1 c9
          exact sj_lv S [0, 1] rfl H
        · have H := H.2.2 c9
          refine sj_bipush S dX3_take_37 (by decide +kernel) ?_
          exact hret _ _ _ _ dX3_take_39 H
  · have H := H.2.2 c9
    refine sj_bipush S dX3_take_9 (by decide +kernel) ?_
    exact hret _ _ _ _ dX3_take_11 H
set_option maxRecDepth 100000 in
set_option maxHeartbeats 4000000 in
theorem kX3_take (l : Launch) (g : sq_G) (v1 : Int) (st : sq_S) (Q : Int → sq_S → Prop) (H : wX3_take v1 st Q) : sq_Ci l yX3_take wsX3_take rX3_take g sq_X [.ref (g.2.2 0), .int (sq_z v1)] st Q := by
  refine sq_in_i (cc := cX3_take) (nL := 2) (own := RX3) (by decide) rfl rfl (Nat.le_of_ble_eq_true rfl) ?_
  intro J S hret
  exact tX3_take_0 S hret v1 st (H (qX3_take_40 J g) (tX3_take_40 S hret))
/-! worth (II)I : X3_worth -/
theorem iX3_worth_0 : ∀ w ∈ u_ws RX0 TX0 9, w ∈ wsX3_worth := fun _ h => List.mem_cons_of_mem _ (List.mem_append_right _ h)
theorem iX3_worth_3 : ∀ w ∈ u_ws RX3 TX3 8, w ∈ wsX3_worth := fun _ h => List.mem_cons_of_mem _ (List.mem_append_left _ (List.mem_append_right _ h))
theorem mX3_worth_16 : Cond.fieldLink RX3 16 (TX3 2).1 (TX3 2).2.1 (TX3 2).2.2.1 ∈ wsX3_worth := List.mem_of_getElem? (i := 1) rfl
theorem mX3_worth_73 : Cond.fieldLink RX3 73 (TX0 4).1 (TX0 4).2.1 (TX0 4).2.2.1 ∈ wsX3_worth := List.mem_of_getElem? (i := 2) rfl
def wX3_worth (v1 v2 : Int) (st : sq_S) (Q : Int → sq_S → Prop) : Prop :=
  wX3_isNoLetter v1 st (fun r27 st28 => sq_rg r27 ∧ (¬ r27 = 0 → Q (-2) st28) ∧ (r27 = 0 → wX3_isOutside v2 0 99 st28 (fun r29 st30 => sq_rg r29 ∧ (r29 = 0 → sq_ib v1 16 ∧ (∀ y31 : Int, y31 = (st30 5 v1.toNat) → (sq_ib v1 16 ∧ (∀ st32 : sq_S, st32 = sq_set st30 5 v1.toNat v2 → (Q y31 st32))))) ∧ (¬ r29 = 0 → Q (-2) st30))))
def rX3_worth : Room := { frames := 2, cells := 0, slots := 0, locals := 42 }
set_option maxRecDepth 100000 in
set_option maxHeartbeats 4000000 in
theorem tX3_worth_0 {l : Launch} {g : sq_G} {J : sq_K} {Q : Int → sq_S → Prop} (S : sq_J l rX3_worth cX3_worth 4 RX3 wsX3_worth g sq_X J) (hret : ∀ (pc : Nat) (lv : List (Nat × Value)) (r : Int) (st' : sq_S), decode cX3_worth pc = .ok (.ireturn, 1) → Q r st' → J pc lv [.int (sq_z r)] st') (v1 v2 : Int) (st : sq_S) (H : wX3_worth v1 v2 st Q) : J 0 [(0, .ref (g.2.2 0)), (1, .int (sq_z v1)), (2, .int (sq_z v2))] [] st := by
  unfold wX3_worth at H
  refine sj_iload_n (pl := 1) S dX3_worth_0 rfl rfl ?_
  refine sj_si (rest := []) S (kX3_isNoLetter l g v1 st _ H) (fun s args hts => va_cwS 1 hts gX3_worth_X3_isNoLetter rfl rfl rfl (by decide +kernel) ⟨Nat.le_of_ble_eq_true rfl, Nat.le_of_ble_eq_true rfl⟩) rfl rfl (Nat.le_of_ble_eq_true rfl) dX3_worth_1 (fun r27 st28 H => ?_)
  refine sj_if_ne (tgt := 17) S H.1 dX3_worth_4 (by decide) (fun c9 => ?_) (fun c9 => ?_)
  · have H := H.2.1 c9
    refine sj_bipush S dX3_worth_17 (by decide +kernel) ?_
    exact hret _ _ _ _ dX3_worth_19 H
  · have H := H.2.2 c9
    refine sj_iload_n (pl := 2) S dX3_worth_7 rfl rfl ?_
    refine sj_iconst S dX3_worth_8 ?_
    refine sj_bipush S dX3_worth_9 (by decide +kernel) ?_
    refine sj_si (rest := []) S (kX3_isOutside l g v2 0 99 st28 _ H) (fun s args hts => va_cwS 3 hts gX3_worth_X3_isOutside rfl rfl rfl (by decide +kernel) ⟨Nat.le_of_ble_eq_true rfl, Nat.le_of_ble_eq_true rfl⟩) rfl rfl (Nat.le_of_ble_eq_true rfl) dX3_worth_11 (fun r29 st30 H => ?_)
    refine sj_if_eq (tgt := 20) S H.1 dX3_worth_14 (by decide) (fun c9 => ?_) (fun c9 => ?_)
    · have H := H.2.1 c9
      refine sj_aload_n (pl := 0) S dX3_worth_20 rfl rfl ?_
      refine sj_getr S fX_0_2 iX3_worth_3 rfl (by decide) mX3_worth_16 dX3_worth_21 ?_
      refine sj_getr S fX_2_4 iX3_worth_0 rfl (by decide) mX3_worth_73 dX3_worth_24 ?_
      refine sj_iload_n (pl := 1) S dX3_worth_27 rfl rfl ?_
      refine sj_iald S aX_5 H.1 dX3_worth_28 ?_
      have H := H.2
      refine sj_istore_n (lv' := [(0, .ref (g.2.2 0)), (1, .int (sq_z v1)), (2, .int (sq_z v2))]) S dX3_worth_29 rfl (by decide) (fun _ => rfl) (fun y31 ey31 => ?_)
      have H := H y31 ey31
      refine sj_aload_n (pl := 1) S dX3_worth_30 rfl rfl ?_
      refine sj_getr S fX_0_2 iX3_worth_3 rfl (by decide) mX3_worth_16 dX3_worth_31 ?_
      refine sj_getr S fX_2_4 iX3_worth_0 rfl (by decide) mX3_worth_73 dX3_worth_34 ?_
      refine sj_iload_n (pl := 2) S dX3_worth_37 rfl rfl ?_
      refine sj_iload_n (pl := 3) S dX3_worth_38 rfl rfl ?_
      refine sj_iast S aX_5 H.1 dX3_worth_39 (fun st32 est32 => ?_)
      have H := H.2 st32 est32
      refine sj_iload_n (pl := 0) S dX3_worth_40 rfl rfl ?_
      exact hret _ _ _ _ dX3_worth_41 H
    · have H := H.2.2 c9
      refine sj_bipush S dX3_worth_17 (by decide +kernel) ?_
      exact hret _ _ _ _ dX3_worth_19 H
set_option maxRecDepth 100000 in
set_option maxHeartbeats 4000000 in
theorem kX3_worth (l : Launch) (g : sq_G) (v1 v2 : Int) (st : sq_S) (Q : Int → sq_S → Prop) (H : wX3_worth v1 v2 st Q) : sq_Ci l yX3_worth wsX3_worth rX3_worth g sq_X [.ref (g.2.2 0), .int (sq_z v1), .int (sq_z v2)] st Q := by
  refine sq_in_i (cc := cX3_worth) (nL := 4) (own := RX3) (by decide) rfl rfl (Nat.le_of_ble_eq_true rfl) ?_
  intro J S hret
  exact tX3_worth_0 S hret v1 v2 st H
/-! bitCount (I)I : J6_bitCount -/
def wJ6_bitCount (v0 : Int) (st : sq_S) (Q : Int → sq_S → Prop) : Prop :=
  ∀ y41 : Int, y41 = (v0 - (sq_and (sq_ushr v0 1) 1431655765)) → (∀ y42 : Int, y42 = ((sq_and y41 858993459) + (sq_and (sq_ushr y41 2) 858993459)) → (∀ y43 : Int, y43 = (sq_and (y42 + (sq_ushr y42 4)) 252645135) → (∀ y44 : Int, y44 = (y43 + (sq_ushr y43 8)) → (∀ y45 : Int, y45 = (y44 + (sq_ushr y44 16)) → (Q (sq_and y45 63) st)))))
def rJ6_bitCount : Room := { frames := 0, cells := 0, slots := 0, locals := 0 }
set_option maxRecDepth 100000 in
set_option maxHeartbeats 4000000 in
theorem tJ6_bitCount_0 {l : Launch} {g : sq_G} {J : sq_K} {Q : Int → sq_S → Prop} (S : sq_J l rJ6_bitCount cJ6_bitCount_0f7a4 1 RJ6 wsJ6_bitCount_0f7a4 g sq_X J) (hret : ∀ (pc : Nat) (lv : List (Nat × Value)) (r : Int) (st' : sq_S), decode cJ6_bitCount_0f7a4 pc = .ok (.ireturn, 1) → Q r st' → J pc lv [.int (sq_z r)] st') (v0 : Int) (st : sq_S) (H : wJ6_bitCount v0 st Q) : J 0 [(0, .int (sq_z v0))] [] st := by
  unfold wJ6_bitCount at H
  refine sj_iload_n (pl := 0) S dJ6_bitCount_0f7a4_0 rfl rfl ?_
  refine sj_iload_n (pl := 0) S dJ6_bitCount_0f7a4_1 rfl rfl ?_
  refine sj_iconst S dJ6_bitCount_0f7a4_2 ?_
  refine sj_iushr S dJ6_bitCount_0f7a4_3 ?_
  refine sj_ldcw (n := 1431655765) S dJ6_bitCount_0f7a4_4 (List.mem_of_getElem? (i := 1) rfl) rfl ?_
  refine sj_iand S dJ6_bitCount_0f7a4_7 ?_
  refine sj_isub S dJ6_bitCount_0f7a4_8 ?_
  refine sj_istore_n (lv' := []) S dJ6_bitCount_0f7a4_9 rfl (by decide) (fun _ => rfl) (fun y41 ey41 => ?_)
  have H := H y41 ey41
  refine sj_iload_n (pl := 0) S dJ6_bitCount_0f7a4_10 rfl rfl ?_
  refine sj_ldcw (n := 858993459) S dJ6_bitCount_0f7a4_11 (List.mem_of_getElem? (i := 2) rfl) rfl ?_
  refine sj_iand S dJ6_bitCount_0f7a4_14 ?_
  refine sj_iload_n (pl := 0) S dJ6_bitCount_0f7a4_15 rfl rfl ?_
  refine sj_iconst S dJ6_bitCount_0f7a4_16 ?_
  refine sj_iushr S dJ6_bitCount_0f7a4_17 ?_
  refine sj_ldcw (n := 858993459) S dJ6_bitCount_0f7a4_18 (List.mem_of_getElem? (i := 2) rfl) rfl ?_
  refine sj_iand S dJ6_bitCount_0f7a4_21 ?_
  refine sj_iadd S dJ6_bitCount_0f7a4_22 ?_
  refine sj_istore_n (lv' := []) S dJ6_bitCount_0f7a4_23 rfl (by decide) (fun _ => rfl) (fun y42 ey42 => ?_)
  have H := H y42 ey42
  refine sj_iload_n (pl := 0) S dJ6_bitCount_0f7a4_24 rfl rfl ?_
  refine sj_iload_n (pl := 0) S dJ6_bitCount_0f7a4_25 rfl rfl ?_
  refine sj_iconst S dJ6_bitCount_0f7a4_26 ?_
  refine sj_iushr S dJ6_bitCount_0f7a4_27 ?_
  refine sj_iadd S dJ6_bitCount_0f7a4_28 ?_
  refine sj_ldcw (n := 252645135) S dJ6_bitCount_0f7a4_29 (List.mem_of_getElem? (i := 3) rfl) rfl ?_
  refine sj_iand S dJ6_bitCount_0f7a4_32 ?_
  refine sj_istore_n (lv' := []) S dJ6_bitCount_0f7a4_33 rfl (by decide) (fun _ => rfl) (fun y43 ey43 => ?_)
  have H := H y43 ey43
  refine sj_iload_n (pl := 0) S dJ6_bitCount_0f7a4_34 rfl rfl ?_
  refine sj_iload_n (pl := 0) S dJ6_bitCount_0f7a4_35 rfl rfl ?_
  refine sj_bipush S dJ6_bitCount_0f7a4_36 (by decide +kernel) ?_
  refine sj_iushr S dJ6_bitCount_0f7a4_38 ?_
  refine sj_iadd S dJ6_bitCount_0f7a4_39 ?_
  refine sj_istore_n (lv' := []) S dJ6_bitCount_0f7a4_40 rfl (by decide) (fun _ => rfl) (fun y44 ey44 => ?_)
  have H := H y44 ey44
  refine sj_iload_n (pl := 0) S dJ6_bitCount_0f7a4_41 rfl rfl ?_
  refine sj_iload_n (pl := 0) S dJ6_bitCount_0f7a4_42 rfl rfl ?_
  refine sj_bipush S dJ6_bitCount_0f7a4_43 (by decide +kernel) ?_
  refine sj_iushr S dJ6_bitCount_0f7a4_45 ?_
  refine sj_iadd S dJ6_bitCount_0f7a4_46 ?_
  refine sj_istore_n (lv' := []) S dJ6_bitCount_0f7a4_47 rfl (by decide) (fun _ => rfl) (fun y45 ey45 => ?_)
  have H := H y45 ey45
  refine sj_iload_n (pl := 0) S dJ6_bitCount_0f7a4_48 rfl rfl ?_
  refine sj_bipush S dJ6_bitCount_0f7a4_49 (by decide +kernel) ?_
  refine sj_iand S dJ6_bitCount_0f7a4_51 ?_
  exact hret _ _ _ _ dJ6_bitCount_0f7a4_52 H
set_option maxRecDepth 100000 in
set_option maxHeartbeats 4000000 in
theorem kJ6_bitCount (l : Launch) (g : sq_G) (v0 : Int) (st : sq_S) (Q : Int → sq_S → Prop) (H : wJ6_bitCount v0 st Q) : sq_Ci l yJ6_bitCount_0f7a4 wsJ6_bitCount_0f7a4 rJ6_bitCount g sq_X [.int (sq_z v0)] st Q := by
  refine sq_in_i (cc := cJ6_bitCount_0f7a4) (nL := 1) (own := RJ6) (by decide) rfl rfl (Nat.le_of_ble_eq_true rfl) ?_
  intro J S hret
  exact tJ6_bitCount_0 S hret v0 st H
/-! likedPairs ()I : X0_likedPairs -/
theorem iX0_likedPairs_0 : ∀ w ∈ u_ws RX0 TX0 9, w ∈ wsX0_likedPairs := fun _ h => List.mem_cons_of_mem _ (List.mem_append_right _ h)
theorem mX0_likedPairs_25 : Cond.fieldLink RX0 25 (TX0 5).1 (TX0 5).2.1 (TX0 5).2.2.1 ∈ wsX0_likedPairs := List.mem_of_getElem? (i := 1) rfl
def bX0_likedPairs_4 (K4 : Int → Int → sq_S → Prop) (Q : Int → sq_S → Prop) (v1 v2 : Int) (st : sq_S) : Prop :=
  (sq_rg v2 ∧ sq_rg 16) ∧ (16 ≤ v2 → Q v1 st) ∧ (v2 < 16 → sq_ib v2 16 ∧ (wJ6_bitCount (st 6 v2.toNat) st (fun r46 st47 => ∀ y48 : Int, y48 = (v1 + r46) → (K4 y48 (v2 + 1) st47))))
def bX0_likedPairs_0 (K4 : Int → Int → sq_S → Prop) (Q : Int → sq_S → Prop) (st : sq_S) : Prop :=
  K4 0 0 st
def wX0_likedPairs (st : sq_S) (Q : Int → sq_S → Prop) : Prop :=
  ∀ (K4 : Int → Int → sq_S → Prop), (∀ (v1 v2 : Int) (st : sq_S), bX0_likedPairs_4 K4 Q v1 v2 st → K4 v1 v2 st) → bX0_likedPairs_0 K4 Q  st
def rX0_likedPairs : Room := { frames := 1, cells := 0, slots := 0, locals := 20 }
def qX0_likedPairs_4 (J : sq_K) (g : sq_G) : Int → Int → sq_S → Prop := fun v1 v2 st => J 4 [(0, .ref (g.2.2 2)), (1, .int (sq_z v1)), (2, .int (sq_z v2))] [] st
set_option maxRecDepth 100000 in
set_option maxHeartbeats 4000000 in
theorem tX0_likedPairs_4 {l : Launch} {g : sq_G} {J : sq_K} {Q : Int → sq_S → Prop} (S : sq_J l rX0_likedPairs cX0_likedPairs 3 RX0 wsX0_likedPairs g sq_X J) (hret : ∀ (pc : Nat) (lv : List (Nat × Value)) (r : Int) (st' : sq_S), decode cX0_likedPairs pc = .ok (.ireturn, 1) → Q r st' → J pc lv [.int (sq_z r)] st') (v1 v2 : Int) (st : sq_S) (H : bX0_likedPairs_4 (qX0_likedPairs_4 J g) Q v1 v2 st) : J 4 [(0, .ref (g.2.2 2)), (1, .int (sq_z v1)), (2, .int (sq_z v2))] [] st := by
  unfold bX0_likedPairs_4 at H
  refine sj_iload_n (pl := 2) S dX0_likedPairs_4 rfl rfl ?_
  refine sj_bipush S dX0_likedPairs_5 (by decide +kernel) ?_
  refine sj_icmp_ge (tgt := 28) S H.1 dX0_likedPairs_7 (by decide) (fun c9 => ?_) (fun c9 => ?_)
  · have H := H.2.1 c9
    refine sj_iload_n (pl := 1) S dX0_likedPairs_28 rfl rfl ?_
    exact hret _ _ _ _ dX0_likedPairs_29 H
  · have H := H.2.2 c9
    refine sj_iload_n (pl := 1) S dX0_likedPairs_10 rfl rfl ?_
    refine sj_aload_n (pl := 0) S dX0_likedPairs_11 rfl rfl ?_
    refine sj_getr S fX_2_5 iX0_likedPairs_0 rfl (by decide) mX0_likedPairs_25 dX0_likedPairs_12 ?_
    refine sj_iload_n (pl := 2) S dX0_likedPairs_15 rfl rfl ?_
    refine sj_iald S aX_6 H.1 dX0_likedPairs_16 ?_
    have H := H.2
    refine sj_si (rest := [.int (sq_z v1)]) S (kJ6_bitCount l g (st 6 v2.toNat) st _ H) (fun s args hts => va_cwS 1 hts gX0_likedPairs_J6_bitCount_0f7a4 rfl rfl rfl (by decide +kernel) ⟨Nat.le_of_ble_eq_true rfl, Nat.le_of_ble_eq_true rfl⟩) rfl rfl (Nat.le_of_ble_eq_true rfl) dX0_likedPairs_17 (fun r46 st47 H => ?_)
    refine sj_iadd S dX0_likedPairs_20 ?_
    refine sj_istore_n (lv' := [(0, .ref (g.2.2 2)), (2, .int (sq_z v2))]) S dX0_likedPairs_21 rfl (by decide) (fun _ => rfl) (fun y48 ey48 => ?_)
    have H := H y48 ey48
    refine sj_iinc (pl := 2) (lv' := [(1, .int (sq_z y48)), (0, .ref (g.2.2 2))]) S dX0_likedPairs_22 rfl (by decide) (fun _ => rfl) ?_
    refine sj_goto (tgt := 4) S dX0_likedPairs_25 (by decide) ?_
    exact sj_lv S [2, 1, 0] rfl H
set_option maxRecDepth 100000 in
set_option maxHeartbeats 4000000 in
theorem tX0_likedPairs_0 {l : Launch} {g : sq_G} {J : sq_K} {Q : Int → sq_S → Prop} (S : sq_J l rX0_likedPairs cX0_likedPairs 3 RX0 wsX0_likedPairs g sq_X J) (hret : ∀ (pc : Nat) (lv : List (Nat × Value)) (r : Int) (st' : sq_S), decode cX0_likedPairs pc = .ok (.ireturn, 1) → Q r st' → J pc lv [.int (sq_z r)] st') (st : sq_S) (H : bX0_likedPairs_0 (qX0_likedPairs_4 J g) Q st) : J 0 [(0, .ref (g.2.2 2))] [] st := by
  unfold bX0_likedPairs_0 at H
  refine sj_iconst S dX0_likedPairs_0 ?_
  refine sj_istore_n (lv' := [(0, .ref (g.2.2 2))]) S dX0_likedPairs_1 rfl (by decide) (fun _ => rfl) ?_
  intro y9 e9; subst e9
  refine sj_iconst S dX0_likedPairs_2 ?_
  refine sj_istore_n (lv' := [(1, .int (sq_z 0)), (0, .ref (g.2.2 2))]) S dX0_likedPairs_3 rfl (by decide) (fun _ => rfl) ?_
  intro y9 e9; subst e9
  exact sj_lv S [2, 1, 0] rfl H
set_option maxRecDepth 100000 in
set_option maxHeartbeats 4000000 in
theorem kX0_likedPairs (l : Launch) (g : sq_G) (st : sq_S) (Q : Int → sq_S → Prop) (H : wX0_likedPairs  st Q) : sq_Ci l yX0_likedPairs wsX0_likedPairs rX0_likedPairs g sq_X [.ref (g.2.2 2)] st Q := by
  refine sq_in_i (cc := cX0_likedPairs) (nL := 3) (own := RX0) (by decide) rfl rfl (Nat.le_of_ble_eq_true rfl) ?_
  intro J S hret
  exact tX0_likedPairs_0 S hret  st (H (qX0_likedPairs_4 J g) (tX0_likedPairs_4 S hret))
/-! like (III)I : X3_like -/
theorem iX3_like_0 : ∀ w ∈ u_ws RX0 TX0 9, w ∈ wsX3_like := fun _ h => List.mem_cons_of_mem _ (List.mem_append_right _ h)
theorem iX3_like_3 : ∀ w ∈ u_ws RX3 TX3 8, w ∈ wsX3_like := fun _ h => List.mem_cons_of_mem _ (List.mem_append_left _ (List.mem_append_right _ h))
theorem mX3_like_16 : Cond.fieldLink RX3 16 (TX3 2).1 (TX3 2).2.1 (TX3 2).2.2.1 ∈ wsX3_like := List.mem_of_getElem? (i := 1) rfl
theorem mX3_like_76 : Cond.fieldLink RX3 76 (TX0 5).1 (TX0 5).2.1 (TX0 5).2.2.1 ∈ wsX3_like := List.mem_of_getElem? (i := 2) rfl
def wX3_like (v1 v2 v3 : Int) (st : sq_S) (Q : Int → sq_S → Prop) : Prop :=
  wX3_isNoLetter v1 st (fun r33 st34 => sq_rg r33 ∧ (¬ r33 = 0 → Q (-2) st34) ∧ (r33 = 0 → wX3_isNoLetter v2 st34 (fun r35 st36 => sq_rg r35 ∧ (¬ r35 = 0 → Q (-2) st36) ∧ (r35 = 0 → wX3_isOutside v3 0 1 st36 (fun r37 st38 => sq_rg r37 ∧ (r37 = 0 → ∀ y39 : Int, y39 = (sq_shl 1 v2) → ((sq_rg v3 ∧ sq_rg 1) ∧ (¬ v3 = 1 → sq_ib v1 16 ∧ (sq_ib v1 16 ∧ (∀ st40 : sq_S, st40 = sq_set st38 6 v1.toNat (sq_and (st38 6 v1.toNat) (sq_xor y39 (-1))) → (wX0_likedPairs st40 (fun r49 st50 => Q r49 st50))))) ∧ (v3 = 1 → sq_ib v1 16 ∧ (sq_ib v1 16 ∧ (∀ st51 : sq_S, st51 = sq_set st38 6 v1.toNat (sq_or (st38 6 v1.toNat) y39) → (wX0_likedPairs st51 (fun r52 st53 => Q r52 st53))))))) ∧ (¬ r37 = 0 → Q (-2) st38))))))
def rX3_like : Room := { frames := 2, cells := 0, slots := 0, locals := 42 }
set_option maxRecDepth 100000 in
set_option maxHeartbeats 4000000 in
theorem tX3_like_0 {l : Launch} {g : sq_G} {J : sq_K} {Q : Int → sq_S → Prop} (S : sq_J l rX3_like cX3_like 5 RX3 wsX3_like g sq_X J) (hret : ∀ (pc : Nat) (lv : List (Nat × Value)) (r : Int) (st' : sq_S), decode cX3_like pc = .ok (.ireturn, 1) → Q r st' → J pc lv [.int (sq_z r)] st') (v1 v2 v3 : Int) (st : sq_S) (H : wX3_like v1 v2 v3 st Q) : J 0 [(0, .ref (g.2.2 0)), (1, .int (sq_z v1)), (2, .int (sq_z v2)), (3, .int (sq_z v3))] [] st := by
  unfold wX3_like at H
  refine sj_iload_n (pl := 1) S dX3_like_0 rfl rfl ?_
  refine sj_si (rest := []) S (kX3_isNoLetter l g v1 st _ H) (fun s args hts => va_cwS 1 hts gX3_like_X3_isNoLetter rfl rfl rfl (by decide +kernel) ⟨Nat.le_of_ble_eq_true rfl, Nat.le_of_ble_eq_true rfl⟩) rfl rfl (Nat.le_of_ble_eq_true rfl) dX3_like_1 (fun r33 st34 H => ?_)
  refine sj_if_ne (tgt := 23) S H.1 dX3_like_4 (by decide) (fun c9 => ?_) (fun c9 => ?_)
  · have H := H.2.1 c9
    refine sj_bipush S dX3_like_23 (by decide +kernel) ?_
    exact hret _ _ _ _ dX3_like_25 H
  · have H := H.2.2 c9
    refine sj_iload_n (pl := 2) S dX3_like_7 rfl rfl ?_
    refine sj_si (rest := []) S (kX3_isNoLetter l g v2 st34 _ H) (fun s args hts => va_cwS 1 hts gX3_like_X3_isNoLetter rfl rfl rfl (by decide +kernel) ⟨Nat.le_of_ble_eq_true rfl, Nat.le_of_ble_eq_true rfl⟩) rfl rfl (Nat.le_of_ble_eq_true rfl) dX3_like_8 (fun r35 st36 H => ?_)
    refine sj_if_ne (tgt := 23) S H.1 dX3_like_11 (by decide) (fun c9 => ?_) (fun c9 => ?_)
    · have H := H.2.1 c9
      refine sj_bipush S dX3_like_23 (by decide +kernel) ?_
      exact hret _ _ _ _ dX3_like_25 H
    · have H := H.2.2 c9
      refine sj_iload_n (pl := 3) S dX3_like_14 rfl rfl ?_
      refine sj_iconst S dX3_like_15 ?_
      refine sj_iconst S dX3_like_16 ?_
      refine sj_si (rest := []) S (kX3_isOutside l g v3 0 1 st36 _ H) (fun s args hts => va_cwS 3 hts gX3_like_X3_isOutside rfl rfl rfl (by decide +kernel) ⟨Nat.le_of_ble_eq_true rfl, Nat.le_of_ble_eq_true rfl⟩) rfl rfl (Nat.le_of_ble_eq_true rfl) dX3_like_17 (fun r37 st38 H => ?_)
      refine sj_if_eq (tgt := 26) S H.1 dX3_like_20 (by decide) (fun c9 => ?_) (fun c9 => ?_)
      · have H := H.2.1 c9
        refine sj_iconst S dX3_like_26 ?_
        refine sj_iload_n (pl := 2) S dX3_like_27 rfl rfl ?_
        refine sj_ishl S dX3_like_28 ?_
        refine sj_istore (lv' := [(0, .ref (g.2.2 0)), (1, .int (sq_z v1)), (2, .int (sq_z v2)), (3, .int (sq_z v3))]) S dX3_like_29 (by decide) (fun _ => rfl) (fun y39 ey39 => ?_)
        have H := H y39 ey39
        refine sj_aload_n (pl := 1) S dX3_like_31 rfl rfl ?_
        refine sj_getr S fX_0_2 iX3_like_3 rfl (by decide) mX3_like_16 dX3_like_32 ?_
        refine sj_getr S fX_2_5 iX3_like_0 rfl (by decide) mX3_like_76 dX3_like_35 ?_
        refine sj_iload_n (pl := 2) S dX3_like_38 rfl rfl ?_
        refine sj_iload_n (pl := 4) S dX3_like_39 rfl rfl ?_
        refine sj_iconst S dX3_like_40 ?_
        refine sj_icmp_ne (tgt := 59) S H.1 dX3_like_41 (by decide) (fun c9 => ?_) (fun c9 => ?_)
        · have H := H.2.1 c9
          refine sj_aload_n (pl := 1) S dX3_like_59 rfl rfl ?_
          refine sj_getr S fX_0_2 iX3_like_3 rfl (by decide) mX3_like_16 dX3_like_60 ?_
          refine sj_getr S fX_2_5 iX3_like_0 rfl (by decide) mX3_like_76 dX3_like_63 ?_
          refine sj_iload_n (pl := 2) S dX3_like_66 rfl rfl ?_
          refine sj_iald S aX_6 H.1 dX3_like_67 ?_
          have H := H.2
          refine sj_iload (pl := 0) S dX3_like_68 rfl ?_
          refine sj_iconst S dX3_like_70 ?_
          refine sj_ixor S dX3_like_71 ?_
          refine sj_iand S dX3_like_72 ?_
          refine sj_iast S aX_6 H.1 dX3_like_73 (fun st40 est40 => ?_)
          have H := H.2 st40 est40
          refine sj_aload_n (pl := 1) S dX3_like_74 rfl rfl ?_
          refine sj_getr S fX_0_2 iX3_like_3 rfl (by decide) mX3_like_16 dX3_like_75 ?_
          refine sj_vi (rest := []) (q0 := 2) (ci := 0) S (kX0_likedPairs l g st40 _ H) (fun s args hts => cwV 0 hts gX3_like_X0_likedPairs rfl rfl rfl (by decide +kernel) ⟨Nat.le_of_ble_eq_true rfl, Nat.le_of_ble_eq_true rfl⟩) rfl rfl rfl rfl (Nat.le_of_ble_eq_true rfl) dX3_like_78 (fun r49 st50 H => ?_)
          exact hret _ _ _ _ dX3_like_81 H
        · have H := H.2.2 c9
          refine sj_aload_n (pl := 1) S dX3_like_44 rfl rfl ?_
          refine sj_getr S fX_0_2 iX3_like_3 rfl (by decide) mX3_like_16 dX3_like_45 ?_
          refine sj_getr S fX_2_5 iX3_like_0 rfl (by decide) mX3_like_76 dX3_like_48 ?_
          refine sj_iload_n (pl := 2) S dX3_like_51 rfl rfl ?_
          refine sj_iald S aX_6 H.1 dX3_like_52 ?_
          have H := H.2
          refine sj_iload (pl := 0) S dX3_like_53 rfl ?_
          refine sj_ior S dX3_like_55 ?_
          refine sj_goto (tgt := 73) S dX3_like_56 (by decide) ?_
          refine sj_iast S aX_6 H.1 dX3_like_73 (fun st51 est51 => ?_)
          have H := H.2 st51 est51
          refine sj_aload_n (pl := 1) S dX3_like_74 rfl rfl ?_
          refine sj_getr S fX_0_2 iX3_like_3 rfl (by decide) mX3_like_16 dX3_like_75 ?_
          refine sj_vi (rest := []) (q0 := 2) (ci := 0) S (kX0_likedPairs l g st51 _ H) (fun s args hts => cwV 0 hts gX3_like_X0_likedPairs rfl rfl rfl (by decide +kernel) ⟨Nat.le_of_ble_eq_true rfl, Nat.le_of_ble_eq_true rfl⟩) rfl rfl rfl rfl (Nat.le_of_ble_eq_true rfl) dX3_like_78 (fun r52 st53 H => ?_)
          exact hret _ _ _ _ dX3_like_81 H
      · have H := H.2.2 c9
        refine sj_bipush S dX3_like_23 (by decide +kernel) ?_
        exact hret _ _ _ _ dX3_like_25 H
set_option maxRecDepth 100000 in
set_option maxHeartbeats 4000000 in
theorem kX3_like (l : Launch) (g : sq_G) (v1 v2 v3 : Int) (st : sq_S) (Q : Int → sq_S → Prop) (H : wX3_like v1 v2 v3 st Q) : sq_Ci l yX3_like wsX3_like rX3_like g sq_X [.ref (g.2.2 0), .int (sq_z v1), .int (sq_z v2), .int (sq_z v3)] st Q := by
  refine sq_in_i (cc := cX3_like) (nL := 5) (own := RX3) (by decide) rfl rfl (Nat.le_of_ble_eq_true rfl) ?_
  intro J S hret
  exact tX3_like_0 S hret v1 v2 v3 st H
/-! letterAt ([III)I : X3_letterAt_3 -/
def wX3_letterAt_3 (v1 v2 : Int) (st : sq_S) (Q : Int → sq_S → Prop) : Prop :=
  (sq_rg v2 ∧ sq_rg (-1)) ∧ (¬ v2 = (-1) → wX3_isOutside v2 0 (v1 - 1) st (fun r54 st55 => sq_rg r54 ∧ (r54 = 0 → sq_ib v2 48 ∧ (Q (st55 3 v2.toNat) st55)) ∧ (¬ r54 = 0 → Q (-6) st55))) ∧ (v2 = (-1) → Q v1 st)
def rX3_letterAt_3 : Room := { frames := 1, cells := 0, slots := 0, locals := 22 }
set_option maxRecDepth 100000 in
set_option maxHeartbeats 4000000 in
theorem tX3_letterAt_3_0 {l : Launch} {g : sq_G} {J : sq_K} {Q : Int → sq_S → Prop} (S : sq_J l rX3_letterAt_3 cX3_letterAt 3 RX3 wsX3_letterAt g sq_X J) (hret : ∀ (pc : Nat) (lv : List (Nat × Value)) (r : Int) (st' : sq_S), decode cX3_letterAt pc = .ok (.ireturn, 1) → Q r st' → J pc lv [.int (sq_z r)] st') (v1 v2 : Int) (st : sq_S) (H : wX3_letterAt_3 v1 v2 st Q) : J 0 [(0, .ref (g.2.2 3)), (1, .int (sq_z v1)), (2, .int (sq_z v2))] [] st := by
  unfold wX3_letterAt_3 at H
  refine sj_iload_n (pl := 2) S dX3_letterAt_0 rfl rfl ?_
  refine sj_iconst S dX3_letterAt_1 ?_
  refine sj_icmp_ne (tgt := 7) S H.1 dX3_letterAt_2 (by decide) (fun c9 => ?_) (fun c9 => ?_)
  · have H := H.2.1 c9
    refine sj_iload_n (pl := 2) S dX3_letterAt_7 rfl rfl ?_
    refine sj_iconst S dX3_letterAt_8 ?_
    refine sj_iload_n (pl := 1) S dX3_letterAt_9 rfl rfl ?_
    refine sj_iconst S dX3_letterAt_10 ?_
    refine sj_isub S dX3_letterAt_11 ?_
    refine sj_si (rest := []) S (kX3_isOutside l g v2 0 (v1 - 1) st _ H) (fun s args hts => va_cwS 3 hts gX3_letterAt_X3_isOutside rfl rfl rfl (by decide +kernel) ⟨Nat.le_of_ble_eq_true rfl, Nat.le_of_ble_eq_true rfl⟩) rfl rfl (Nat.le_of_ble_eq_true rfl) dX3_letterAt_12 (fun r54 st55 H => ?_)
    refine sj_if_eq (tgt := 23) S H.1 dX3_letterAt_15 (by decide) (fun c9 => ?_) (fun c9 => ?_)
    · have H := H.2.1 c9
      refine sj_aload_n (pl := 0) S dX3_letterAt_23 rfl rfl ?_
      refine sj_iload_n (pl := 2) S dX3_letterAt_24 rfl rfl ?_
      refine sj_iald S aX_3 H.1 dX3_letterAt_25 ?_
      have H := H.2
      exact hret _ _ _ _ dX3_letterAt_26 H
    · have H := H.2.2 c9
      refine sj_bipush S dX3_letterAt_18 (by decide +kernel) ?_
      refine sj_goto (tgt := 26) S dX3_letterAt_20 (by decide) ?_
      exact hret _ _ _ _ dX3_letterAt_26 H
  · have H := H.2.2 c9
    refine sj_iload_n (pl := 1) S dX3_letterAt_5 rfl rfl ?_
    exact hret _ _ _ _ dX3_letterAt_6 H
set_option maxRecDepth 100000 in
set_option maxHeartbeats 4000000 in
theorem kX3_letterAt_3 (l : Launch) (g : sq_G) (v1 v2 : Int) (st : sq_S) (Q : Int → sq_S → Prop) (H : wX3_letterAt_3 v1 v2 st Q) : sq_Ci l yX3_letterAt wsX3_letterAt rX3_letterAt_3 g sq_X [.ref (g.2.2 3), .int (sq_z v1), .int (sq_z v2)] st Q := by
  refine sq_in_i (cc := cX3_letterAt) (nL := 3) (own := RX3) (by decide) rfl rfl (Nat.le_of_ble_eq_true rfl) ?_
  intro J S hret
  exact tX3_letterAt_3_0 S hret v1 v2 st H
/-! letterAt ([III)I : X3_letterAt_4 -/
def wX3_letterAt_4 (v1 v2 : Int) (st : sq_S) (Q : Int → sq_S → Prop) : Prop :=
  (sq_rg v2 ∧ sq_rg (-1)) ∧ (¬ v2 = (-1) → wX3_isOutside v2 0 (v1 - 1) st (fun r58 st59 => sq_rg r58 ∧ (r58 = 0 → sq_ib v2 6 ∧ (Q (st59 4 v2.toNat) st59)) ∧ (¬ r58 = 0 → Q (-6) st59))) ∧ (v2 = (-1) → Q v1 st)
def rX3_letterAt_4 : Room := { frames := 1, cells := 0, slots := 0, locals := 22 }
set_option maxRecDepth 100000 in
set_option maxHeartbeats 4000000 in
theorem tX3_letterAt_4_0 {l : Launch} {g : sq_G} {J : sq_K} {Q : Int → sq_S → Prop} (S : sq_J l rX3_letterAt_4 cX3_letterAt 3 RX3 wsX3_letterAt g sq_X J) (hret : ∀ (pc : Nat) (lv : List (Nat × Value)) (r : Int) (st' : sq_S), decode cX3_letterAt pc = .ok (.ireturn, 1) → Q r st' → J pc lv [.int (sq_z r)] st') (v1 v2 : Int) (st : sq_S) (H : wX3_letterAt_4 v1 v2 st Q) : J 0 [(0, .ref (g.2.2 4)), (1, .int (sq_z v1)), (2, .int (sq_z v2))] [] st := by
  unfold wX3_letterAt_4 at H
  refine sj_iload_n (pl := 2) S dX3_letterAt_0 rfl rfl ?_
  refine sj_iconst S dX3_letterAt_1 ?_
  refine sj_icmp_ne (tgt := 7) S H.1 dX3_letterAt_2 (by decide) (fun c9 => ?_) (fun c9 => ?_)
  · have H := H.2.1 c9
    refine sj_iload_n (pl := 2) S dX3_letterAt_7 rfl rfl ?_
    refine sj_iconst S dX3_letterAt_8 ?_
    refine sj_iload_n (pl := 1) S dX3_letterAt_9 rfl rfl ?_
    refine sj_iconst S dX3_letterAt_10 ?_
    refine sj_isub S dX3_letterAt_11 ?_
    refine sj_si (rest := []) S (kX3_isOutside l g v2 0 (v1 - 1) st _ H) (fun s args hts => va_cwS 3 hts gX3_letterAt_X3_isOutside rfl rfl rfl (by decide +kernel) ⟨Nat.le_of_ble_eq_true rfl, Nat.le_of_ble_eq_true rfl⟩) rfl rfl (Nat.le_of_ble_eq_true rfl) dX3_letterAt_12 (fun r58 st59 H => ?_)
    refine sj_if_eq (tgt := 23) S H.1 dX3_letterAt_15 (by decide) (fun c9 => ?_) (fun c9 => ?_)
    · have H := H.2.1 c9
      refine sj_aload_n (pl := 0) S dX3_letterAt_23 rfl rfl ?_
      refine sj_iload_n (pl := 2) S dX3_letterAt_24 rfl rfl ?_
      refine sj_iald S aX_4 H.1 dX3_letterAt_25 ?_
      have H := H.2
      exact hret _ _ _ _ dX3_letterAt_26 H
    · have H := H.2.2 c9
      refine sj_bipush S dX3_letterAt_18 (by decide +kernel) ?_
      refine sj_goto (tgt := 26) S dX3_letterAt_20 (by decide) ?_
      exact hret _ _ _ _ dX3_letterAt_26 H
  · have H := H.2.2 c9
    refine sj_iload_n (pl := 1) S dX3_letterAt_5 rfl rfl ?_
    exact hret _ _ _ _ dX3_letterAt_6 H
set_option maxRecDepth 100000 in
set_option maxHeartbeats 4000000 in
theorem kX3_letterAt_4 (l : Launch) (g : sq_G) (v1 v2 : Int) (st : sq_S) (Q : Int → sq_S → Prop) (H : wX3_letterAt_4 v1 v2 st Q) : sq_Ci l yX3_letterAt wsX3_letterAt rX3_letterAt_4 g sq_X [.ref (g.2.2 4), .int (sq_z v1), .int (sq_z v2)] st Q := by
  refine sq_in_i (cc := cX3_letterAt) (nL := 3) (own := RX3) (by decide) rfl rfl (Nat.le_of_ble_eq_true rfl) ?_
  intro J S hret
  exact tX3_letterAt_4_0 S hret v1 v2 st H
/-! put (II)V : X1_put -/
theorem iX1_put_1 : ∀ w ∈ u_ws RX1 TX1 2, w ∈ wsX1_put := fun _ h => List.mem_cons_of_mem _ (List.mem_append_right _ h)
theorem mX1_put_9 : Cond.fieldLink RX1 9 (TX1 0).1 (TX1 0).2.1 (TX1 0).2.2.1 ∈ wsX1_put := List.mem_of_getElem? (i := 1) rfl
theorem mX1_put_15 : Cond.fieldLink RX1 15 (TX1 1).1 (TX1 1).2.1 (TX1 1).2.2.1 ∈ wsX1_put := List.mem_of_getElem? (i := 2) rfl
def wX1_put (v1 v2 : Int) (st : sq_S) (Q : Int → sq_S → Prop) : Prop :=
  sq_ib v2 16 ∧ (∀ st63 : sq_S, st63 = sq_set st 27 v2.toNat v1 → (sq_ib v1 16 ∧ (∀ st64 : sq_S, st64 = sq_set st63 28 v1.toNat v2 → (Q 0 st64))))
def rX1_put : Room := { frames := 0, cells := 0, slots := 0, locals := 0 }
set_option maxRecDepth 100000 in
set_option maxHeartbeats 4000000 in
theorem tX1_put_0 {l : Launch} {g : sq_G} {J : sq_K} {Q : Int → sq_S → Prop} (S : sq_J l rX1_put cX1_put 3 RX1 wsX1_put g sq_X J) (hret : ∀ (pc : Nat) (lv : List (Nat × Value)) (st' : sq_S), decode cX1_put pc = .ok (.return_, 1) → Q 0 st' → J pc lv [] st') (v1 v2 : Int) (st : sq_S) (H : wX1_put v1 v2 st Q) : J 0 [(0, .ref (g.2.2 26)), (1, .int (sq_z v1)), (2, .int (sq_z v2))] [] st := by
  unfold wX1_put at H
  refine sj_aload_n (pl := 0) S dX1_put_0 rfl rfl ?_
  refine sj_getr S fX_26_0 iX1_put_1 rfl (by decide) mX1_put_9 dX1_put_1 ?_
  refine sj_iload_n (pl := 2) S dX1_put_4 rfl rfl ?_
  refine sj_iload_n (pl := 1) S dX1_put_5 rfl rfl ?_
  refine sj_iast S aX_27 H.1 dX1_put_6 (fun st63 est63 => ?_)
  have H := H.2 st63 est63
  refine sj_aload_n (pl := 0) S dX1_put_7 rfl rfl ?_
  refine sj_getr S fX_26_1 iX1_put_1 rfl (by decide) mX1_put_15 dX1_put_8 ?_
  refine sj_iload_n (pl := 1) S dX1_put_11 rfl rfl ?_
  refine sj_iload_n (pl := 2) S dX1_put_12 rfl rfl ?_
  refine sj_iast S aX_28 H.1 dX1_put_13 (fun st64 est64 => ?_)
  have H := H.2 st64 est64
  exact hret _ _ _ dX1_put_14 H
set_option maxRecDepth 100000 in
set_option maxHeartbeats 4000000 in
theorem kX1_put (l : Launch) (g : sq_G) (v1 v2 : Int) (st : sq_S) (Q : Int → sq_S → Prop) (H : wX1_put v1 v2 st Q) : sq_Cv l yX1_put wsX1_put rX1_put g sq_X [.ref (g.2.2 26), .int (sq_z v1), .int (sq_z v2)] st Q := by
  refine sq_in_v (cc := cX1_put) (nL := 3) (own := RX1) (by decide) rfl rfl (Nat.le_of_ble_eq_true rfl) ?_
  intro J S hret
  exact tX1_put_0 S hret v1 v2 st H
/-! layOut ([II)V : X1_layOut -/
def bX1_layOut_8 (K8 : Int → Int → Int → Int → sq_S → Prop) (K58 : Int → Int → Int → sq_S → Prop) (Q : Int → sq_S → Prop) (v2 v3 v4 v5 : Int) (st : sq_S) : Prop :=
  (sq_rg v5 ∧ sq_rg v2) ∧ (v2 ≤ v5 → K58 v3 v4 0 st) ∧ (v5 < v2 → sq_ib v5 6 ∧ (sq_rg (sq_and (sq_shr v4 (st 4 v5.toNat)) 1) ∧ (¬ (sq_and (sq_shr v4 (st 4 v5.toNat)) 1) = 0 → K8 v2 v3 v4 (v5 + 1) st) ∧ ((sq_and (sq_shr v4 (st 4 v5.toNat)) 1) = 0 → sq_ib v5 6 ∧ (∀ y62 : Int, y62 = (sq_or v4 (sq_shl 1 (st 4 v5.toNat))) → (sq_ib v5 6 ∧ (wX1_put (st 4 v5.toNat) v3 st (fun _ st65 => K8 v2 (v3 + 1) y62 (v5 + 1) st65)))))))
def bX1_layOut_58 (K8 : Int → Int → Int → Int → sq_S → Prop) (K58 : Int → Int → Int → sq_S → Prop) (Q : Int → sq_S → Prop) (v3 v4 v5 : Int) (st : sq_S) : Prop :=
  (sq_rg v5 ∧ sq_rg 16) ∧ (16 ≤ v5 → Q 0 st) ∧ (v5 < 16 → sq_rg (sq_and (sq_shr v4 v5) 1) ∧ (¬ (sq_and (sq_shr v4 v5) 1) = 0 → K58 v3 v4 (v5 + 1) st) ∧ ((sq_and (sq_shr v4 v5) 1) = 0 → wX1_put v5 v3 st (fun _ st66 => K58 (v3 + 1) v4 (v5 + 1) st66)))
def bX1_layOut_0 (K8 : Int → Int → Int → Int → sq_S → Prop) (K58 : Int → Int → Int → sq_S → Prop) (Q : Int → sq_S → Prop) (v2 : Int) (st : sq_S) : Prop :=
  K8 v2 0 0 0 st
def wX1_layOut (v2 : Int) (st : sq_S) (Q : Int → sq_S → Prop) : Prop :=
  ∀ (K8 : Int → Int → Int → Int → sq_S → Prop) (K58 : Int → Int → Int → sq_S → Prop), (∀ (v2 v3 v4 v5 : Int) (st : sq_S), bX1_layOut_8 K8 K58 Q v2 v3 v4 v5 st → K8 v2 v3 v4 v5 st) → (∀ (v3 v4 v5 : Int) (st : sq_S), bX1_layOut_58 K8 K58 Q v3 v4 v5 st → K58 v3 v4 v5 st) → bX1_layOut_0 K8 K58 Q v2 st
def rX1_layOut : Room := { frames := 1, cells := 0, slots := 0, locals := 22 }
def qX1_layOut_8 (J : sq_K) (g : sq_G) : Int → Int → Int → Int → sq_S → Prop := fun v2 v3 v4 v5 st => J 8 [(0, .ref (g.2.2 26)), (1, .ref (g.2.2 4)), (2, .int (sq_z v2)), (3, .int (sq_z v3)), (4, .int (sq_z v4)), (5, .int (sq_z v5))] [] st
def qX1_layOut_58 (J : sq_K) (g : sq_G) : Int → Int → Int → sq_S → Prop := fun v3 v4 v5 st => J 58 [(0, .ref (g.2.2 26)), (3, .int (sq_z v3)), (4, .int (sq_z v4)), (5, .int (sq_z v5))] [] st
set_option maxRecDepth 100000 in
set_option maxHeartbeats 4000000 in
theorem tX1_layOut_8 {l : Launch} {g : sq_G} {J : sq_K} {Q : Int → sq_S → Prop} (S : sq_J l rX1_layOut cX1_layOut 6 RX1 wsX1_layOut g sq_X J) (hret : ∀ (pc : Nat) (lv : List (Nat × Value)) (st' : sq_S), decode cX1_layOut pc = .ok (.return_, 1) → Q 0 st' → J pc lv [] st') (v2 v3 v4 v5 : Int) (st : sq_S) (H : bX1_layOut_8 (qX1_layOut_8 J g) (qX1_layOut_58 J g) Q v2 v3 v4 v5 st) : J 8 [(0, .ref (g.2.2 26)), (1, .ref (g.2.2 4)), (2, .int (sq_z v2)), (3, .int (sq_z v3)), (4, .int (sq_z v4)), (5, .int (sq_z v5))] [] st := by
  unfold bX1_layOut_8 at H
  refine sj_iload (pl := 5) S dX1_layOut_8 rfl ?_
  refine sj_iload_n (pl := 2) S dX1_layOut_10 rfl rfl ?_
  refine sj_icmp_ge (tgt := 55) S H.1 dX1_layOut_11 (by decide) (fun c9 => ?_) (fun c9 => ?_)
  · have H := H.2.1 c9
    refine sj_iconst S dX1_layOut_55 ?_
    refine sj_istore (lv' := [(0, .ref (g.2.2 26)), (1, .ref (g.2.2 4)), (2, .int (sq_z v2)), (3, .int (sq_z v3)), (4, .int (sq_z v4))]) S dX1_layOut_56 (by decide) (fun _ => rfl) ?_
    intro y9 e9; subst e9
    exact sj_lv S [1, 4, 5, 0] rfl H
  · have H := H.2.2 c9
    refine sj_iload (pl := 4) S dX1_layOut_14 rfl ?_
    refine sj_aload_n (pl := 1) S dX1_layOut_16 rfl rfl ?_
    refine sj_iload (pl := 5) S dX1_layOut_17 rfl ?_
    refine sj_iald S aX_4 H.1 dX1_layOut_19 ?_
    have H := H.2
    refine sj_ishr S dX1_layOut_20 ?_
    refine sj_iconst S dX1_layOut_21 ?_
    refine sj_iand S dX1_layOut_22 ?_
    refine sj_if_ne (tgt := 49) S H.1 dX1_layOut_23 (by decide) (fun c9 => ?_) (fun c9 => ?_)
    · have H := H.2.1 c9
      refine sj_iinc (pl := 5) (lv' := [(0, .ref (g.2.2 26)), (1, .ref (g.2.2 4)), (2, .int (sq_z v2)), (3, .int (sq_z v3)), (4, .int (sq_z v4))]) S dX1_layOut_49 rfl (by decide) (fun _ => rfl) ?_
      refine sj_goto (tgt := 8) S dX1_layOut_52 (by decide) ?_
      exact sj_lv S [1, 2, 3, 4, 5, 0] rfl H
    · have H := H.2.2 c9
      refine sj_iload (pl := 4) S dX1_layOut_26 rfl ?_
      refine sj_iconst S dX1_layOut_28 ?_
      refine sj_aload_n (pl := 1) S dX1_layOut_29 rfl rfl ?_
      refine sj_iload (pl := 5) S dX1_layOut_30 rfl ?_
      refine sj_iald S aX_4 H.1 dX1_layOut_32 ?_
      have H := H.2
      refine sj_ishl S dX1_layOut_33 ?_
      refine sj_ior S dX1_layOut_34 ?_
      refine sj_istore (lv' := [(0, .ref (g.2.2 26)), (1, .ref (g.2.2 4)), (2, .int (sq_z v2)), (3, .int (sq_z v3)), (5, .int (sq_z v5))]) S dX1_layOut_35 (by decide) (fun _ => rfl) (fun y62 ey62 => ?_)
      have H := H y62 ey62
      refine sj_aload_n (pl := 1) S dX1_layOut_37 rfl rfl ?_
      refine sj_aload_n (pl := 2) S dX1_layOut_38 rfl rfl ?_
      refine sj_iload (pl := 5) S dX1_layOut_39 rfl ?_
      refine sj_iald S aX_4 H.1 dX1_layOut_41 ?_
      have H := H.2
      refine sj_iload_n (pl := 4) S dX1_layOut_42 rfl rfl ?_
      refine sj_vv (rest := []) (q0 := 26) (ci := 1) S (kX1_put l g (st 4 v5.toNat) v3 st _ H) (fun s args hts => cwV 2 hts gX1_layOut_X1_put rfl rfl rfl (by decide +kernel) ⟨Nat.le_of_ble_eq_true rfl, Nat.le_of_ble_eq_true rfl⟩) rfl rfl rfl rfl (Nat.le_of_ble_eq_true rfl) dX1_layOut_43 (fun st65 H => ?_)
      refine sj_iinc (pl := 4) (lv' := [(4, .int (sq_z y62)), (0, .ref (g.2.2 26)), (1, .ref (g.2.2 4)), (2, .int (sq_z v2)), (5, .int (sq_z v5))]) S dX1_layOut_46 rfl (by decide) (fun _ => rfl) ?_
      refine sj_iinc (pl := 5) (lv' := [(3, .int (sq_z (v3 + 1))), (4, .int (sq_z y62)), (0, .ref (g.2.2 26)), (1, .ref (g.2.2 4)), (2, .int (sq_z v2))]) S dX1_layOut_49 rfl (by decide) (fun _ => rfl) ?_
      refine sj_goto (tgt := 8) S dX1_layOut_52 (by decide) ?_
      exact sj_lv S [3, 4, 5, 1, 2, 0] rfl H
set_option maxRecDepth 100000 in
set_option maxHeartbeats 4000000 in
theorem tX1_layOut_58 {l : Launch} {g : sq_G} {J : sq_K} {Q : Int → sq_S → Prop} (S : sq_J l rX1_layOut cX1_layOut 6 RX1 wsX1_layOut g sq_X J) (hret : ∀ (pc : Nat) (lv : List (Nat × Value)) (st' : sq_S), decode cX1_layOut pc = .ok (.return_, 1) → Q 0 st' → J pc lv [] st') (v3 v4 v5 : Int) (st : sq_S) (H : bX1_layOut_58 (qX1_layOut_8 J g) (qX1_layOut_58 J g) Q v3 v4 v5 st) : J 58 [(0, .ref (g.2.2 26)), (3, .int (sq_z v3)), (4, .int (sq_z v4)), (5, .int (sq_z v5))] [] st := by
  unfold bX1_layOut_58 at H
  refine sj_iload (pl := 3) S dX1_layOut_58 rfl ?_
  refine sj_bipush S dX1_layOut_60 (by decide +kernel) ?_
  refine sj_icmp_ge (tgt := 91) S H.1 dX1_layOut_62 (by decide) (fun c9 => ?_) (fun c9 => ?_)
  · have H := H.2.1 c9
    exact hret _ _ _ dX1_layOut_91 H
  · have H := H.2.2 c9
    refine sj_iload (pl := 2) S dX1_layOut_65 rfl ?_
    refine sj_iload (pl := 3) S dX1_layOut_67 rfl ?_
    refine sj_ishr S dX1_layOut_69 ?_
    refine sj_iconst S dX1_layOut_70 ?_
    refine sj_iand S dX1_layOut_71 ?_
    refine sj_if_ne (tgt := 85) S H.1 dX1_layOut_72 (by decide) (fun c9 => ?_) (fun c9 => ?_)
    · have H := H.2.1 c9
      refine sj_iinc (pl := 3) (lv' := [(0, .ref (g.2.2 26)), (3, .int (sq_z v3)), (4, .int (sq_z v4))]) S dX1_layOut_85 rfl (by decide) (fun _ => rfl) ?_
      refine sj_goto (tgt := 58) S dX1_layOut_88 (by decide) ?_
      exact sj_lv S [1, 2, 3, 0] rfl H
    · have H := H.2.2 c9
      refine sj_aload_n (pl := 0) S dX1_layOut_75 rfl rfl ?_
      refine sj_iload (pl := 3) S dX1_layOut_76 rfl ?_
      refine sj_iload_n (pl := 1) S dX1_layOut_78 rfl rfl ?_
      refine sj_vv (rest := []) (q0 := 26) (ci := 1) S (kX1_put l g v5 v3 st _ H) (fun s args hts => cwV 2 hts gX1_layOut_X1_put rfl rfl rfl (by decide +kernel) ⟨Nat.le_of_ble_eq_true rfl, Nat.le_of_ble_eq_true rfl⟩) rfl rfl rfl rfl (Nat.le_of_ble_eq_true rfl) dX1_layOut_79 (fun st66 H => ?_)
      refine sj_iinc (pl := 1) (lv' := [(0, .ref (g.2.2 26)), (4, .int (sq_z v4)), (5, .int (sq_z v5))]) S dX1_layOut_82 rfl (by decide) (fun _ => rfl) ?_
      refine sj_iinc (pl := 3) (lv' := [(3, .int (sq_z (v3 + 1))), (0, .ref (g.2.2 26)), (4, .int (sq_z v4))]) S dX1_layOut_85 rfl (by decide) (fun _ => rfl) ?_
      refine sj_goto (tgt := 58) S dX1_layOut_88 (by decide) ?_
      exact sj_lv S [2, 1, 3, 0] rfl H
set_option maxRecDepth 100000 in
set_option maxHeartbeats 4000000 in
theorem tX1_layOut_0 {l : Launch} {g : sq_G} {J : sq_K} {Q : Int → sq_S → Prop} (S : sq_J l rX1_layOut cX1_layOut 6 RX1 wsX1_layOut g sq_X J) (hret : ∀ (pc : Nat) (lv : List (Nat × Value)) (st' : sq_S), decode cX1_layOut pc = .ok (.return_, 1) → Q 0 st' → J pc lv [] st') (v2 : Int) (st : sq_S) (H : bX1_layOut_0 (qX1_layOut_8 J g) (qX1_layOut_58 J g) Q v2 st) : J 0 [(0, .ref (g.2.2 26)), (1, .ref (g.2.2 4)), (2, .int (sq_z v2))] [] st := by
  unfold bX1_layOut_0 at H
  refine sj_iconst S dX1_layOut_0 ?_
  refine sj_istore_n (lv' := [(0, .ref (g.2.2 26)), (1, .ref (g.2.2 4)), (2, .int (sq_z v2))]) S dX1_layOut_1 rfl (by decide) (fun _ => rfl) ?_
  intro y9 e9; subst e9
  refine sj_iconst S dX1_layOut_2 ?_
  refine sj_istore (lv' := [(3, .int (sq_z 0)), (0, .ref (g.2.2 26)), (1, .ref (g.2.2 4)), (2, .int (sq_z v2))]) S dX1_layOut_3 (by decide) (fun _ => rfl) ?_
  intro y9 e9; subst e9
  refine sj_iconst S dX1_layOut_5 ?_
  refine sj_istore (lv' := [(4, .int (sq_z 0)), (3, .int (sq_z 0)), (0, .ref (g.2.2 26)), (1, .ref (g.2.2 4)), (2, .int (sq_z v2))]) S dX1_layOut_6 (by decide) (fun _ => rfl) ?_
  intro y9 e9; subst e9
  exact sj_lv S [3, 4, 5, 2, 1, 0] rfl H
set_option maxRecDepth 100000 in
set_option maxHeartbeats 4000000 in
theorem kX1_layOut (l : Launch) (g : sq_G) (v2 : Int) (st : sq_S) (Q : Int → sq_S → Prop) (H : wX1_layOut v2 st Q) : sq_Cv l yX1_layOut wsX1_layOut rX1_layOut g sq_X [.ref (g.2.2 26), .ref (g.2.2 4), .int (sq_z v2)] st Q := by
  refine sq_in_v (cc := cX1_layOut) (nL := 6) (own := RX1) (by decide) rfl rfl (Nat.le_of_ble_eq_true rfl) ?_
  intro J S hret
  exact tX1_layOut_0 S hret v2 st (H (qX1_layOut_8 J g) (qX1_layOut_58 J g) (tX1_layOut_8 S hret) (tX1_layOut_58 S hret))
/-! letterAt ([III)I : X3_letterAt_27 -/
def wX3_letterAt_27 (v1 v2 : Int) (st : sq_S) (Q : Int → sq_S → Prop) : Prop :=
  (sq_rg v2 ∧ sq_rg (-1)) ∧ (¬ v2 = (-1) → wX3_isOutside v2 0 (v1 - 1) st (fun r68 st69 => sq_rg r68 ∧ (r68 = 0 → sq_ib v2 16 ∧ (Q (st69 27 v2.toNat) st69)) ∧ (¬ r68 = 0 → Q (-6) st69))) ∧ (v2 = (-1) → Q v1 st)
def rX3_letterAt_27 : Room := { frames := 1, cells := 0, slots := 0, locals := 22 }
set_option maxRecDepth 100000 in
set_option maxHeartbeats 4000000 in
theorem tX3_letterAt_27_0 {l : Launch} {g : sq_G} {J : sq_K} {Q : Int → sq_S → Prop} (S : sq_J l rX3_letterAt_27 cX3_letterAt 3 RX3 wsX3_letterAt g sq_X J) (hret : ∀ (pc : Nat) (lv : List (Nat × Value)) (r : Int) (st' : sq_S), decode cX3_letterAt pc = .ok (.ireturn, 1) → Q r st' → J pc lv [.int (sq_z r)] st') (v1 v2 : Int) (st : sq_S) (H : wX3_letterAt_27 v1 v2 st Q) : J 0 [(0, .ref (g.2.2 27)), (1, .int (sq_z v1)), (2, .int (sq_z v2))] [] st := by
  unfold wX3_letterAt_27 at H
  refine sj_iload_n (pl := 2) S dX3_letterAt_0 rfl rfl ?_
  refine sj_iconst S dX3_letterAt_1 ?_
  refine sj_icmp_ne (tgt := 7) S H.1 dX3_letterAt_2 (by decide) (fun c9 => ?_) (fun c9 => ?_)
  · have H := H.2.1 c9
    refine sj_iload_n (pl := 2) S dX3_letterAt_7 rfl rfl ?_
    refine sj_iconst S dX3_letterAt_8 ?_
    refine sj_iload_n (pl := 1) S dX3_letterAt_9 rfl rfl ?_
    refine sj_iconst S dX3_letterAt_10 ?_
    refine sj_isub S dX3_letterAt_11 ?_
    refine sj_si (rest := []) S (kX3_isOutside l g v2 0 (v1 - 1) st _ H) (fun s args hts => va_cwS 3 hts gX3_letterAt_X3_isOutside rfl rfl rfl (by decide +kernel) ⟨Nat.le_of_ble_eq_true rfl, Nat.le_of_ble_eq_true rfl⟩) rfl rfl (Nat.le_of_ble_eq_true rfl) dX3_letterAt_12 (fun r68 st69 H => ?_)
    refine sj_if_eq (tgt := 23) S H.1 dX3_letterAt_15 (by decide) (fun c9 => ?_) (fun c9 => ?_)
    · have H := H.2.1 c9
      refine sj_aload_n (pl := 0) S dX3_letterAt_23 rfl rfl ?_
      refine sj_iload_n (pl := 2) S dX3_letterAt_24 rfl rfl ?_
      refine sj_iald S aX_27 H.1 dX3_letterAt_25 ?_
      have H := H.2
      exact hret _ _ _ _ dX3_letterAt_26 H
    · have H := H.2.2 c9
      refine sj_bipush S dX3_letterAt_18 (by decide +kernel) ?_
      refine sj_goto (tgt := 26) S dX3_letterAt_20 (by decide) ?_
      exact hret _ _ _ _ dX3_letterAt_26 H
  · have H := H.2.2 c9
    refine sj_iload_n (pl := 1) S dX3_letterAt_5 rfl rfl ?_
    exact hret _ _ _ _ dX3_letterAt_6 H
set_option maxRecDepth 100000 in
set_option maxHeartbeats 4000000 in
theorem kX3_letterAt_27 (l : Launch) (g : sq_G) (v1 v2 : Int) (st : sq_S) (Q : Int → sq_S → Prop) (H : wX3_letterAt_27 v1 v2 st Q) : sq_Ci l yX3_letterAt wsX3_letterAt rX3_letterAt_27 g sq_X [.ref (g.2.2 27), .int (sq_z v1), .int (sq_z v2)] st Q := by
  refine sq_in_i (cc := cX3_letterAt) (nL := 3) (own := RX3) (by decide) rfl rfl (Nat.le_of_ble_eq_true rfl) ?_
  intro J S hret
  exact tX3_letterAt_27_0 S hret v1 v2 st H
/-! letter (II)I : X3_letter -/
theorem iX3_letter_0 : ∀ w ∈ u_ws RX0 TX0 9, w ∈ wsX3_letter := fun _ h => List.mem_cons_of_mem _ (List.mem_append_left _ (List.mem_append_left _ (List.mem_append_right _ h)))
theorem iX3_letter_1 : ∀ w ∈ u_ws RX1 TX1 2, w ∈ wsX3_letter := fun _ h => List.mem_cons_of_mem _ (List.mem_append_right _ h)
theorem iX3_letter_2 : ∀ w ∈ u_ws RX2 TX2 5, w ∈ wsX3_letter := fun _ h => List.mem_cons_of_mem _ (List.mem_append_left _ (List.mem_append_right _ h))
theorem iX3_letter_3 : ∀ w ∈ u_ws RX3 TX3 8, w ∈ wsX3_letter := fun _ h => List.mem_cons_of_mem _ (List.mem_append_left _ (List.mem_append_left _ (List.mem_append_left _ (List.mem_append_right _ h))))
theorem mX3_letter_16 : Cond.fieldLink RX3 16 (TX3 2).1 (TX3 2).2.1 (TX3 2).2.2.1 ∈ wsX3_letter := List.mem_of_getElem? (i := 1) rfl
theorem mX3_letter_27 : Cond.fieldLink RX3 27 (TX3 5).1 (TX3 5).2.1 (TX3 5).2.2.1 ∈ wsX3_letter := List.mem_of_getElem? (i := 6) rfl
theorem mX3_letter_49 : Cond.fieldLink RX3 49 (TX0 0).1 (TX0 0).2.1 (TX0 0).2.2.1 ∈ wsX3_letter := List.mem_of_getElem? (i := 2) rfl
theorem mX3_letter_56 : Cond.fieldLink RX3 56 (TX0 1).1 (TX0 1).2.1 (TX0 1).2.2.1 ∈ wsX3_letter := List.mem_of_getElem? (i := 3) rfl
theorem mX3_letter_59 : Cond.fieldLink RX3 59 (TX0 2).1 (TX0 2).2.1 (TX0 2).2.2.1 ∈ wsX3_letter := List.mem_of_getElem? (i := 4) rfl
theorem mX3_letter_62 : Cond.fieldLink RX3 62 (TX0 3).1 (TX0 3).2.1 (TX0 3).2.2.1 ∈ wsX3_letter := List.mem_of_getElem? (i := 5) rfl
theorem mX3_letter_86 : Cond.fieldLink RX3 86 (TX2 1).1 (TX2 1).2.1 (TX2 1).2.2.1 ∈ wsX3_letter := List.mem_of_getElem? (i := 7) rfl
theorem mX3_letter_96 : Cond.fieldLink RX3 96 (TX1 0).1 (TX1 0).2.1 (TX1 0).2.2.1 ∈ wsX3_letter := List.mem_of_getElem? (i := 8) rfl
def wX3_letter (v1 v2 : Int) (st : sq_S) (Q : Int → sq_S → Prop) : Prop :=
  sq_rg v1 ∧ (v1 = 0 → wX3_letterAt_3 (st 2 1) v2 st (fun r56 st57 => Q r56 st57)) ∧ (v1 = 1 → wX3_letterAt_4 (st 2 3) v2 st (fun r60 st61 => Q r60 st61)) ∧ (v1 = 2 → wX1_layOut (st 2 3) st (fun _ st67 => wX3_letterAt_27 16 v2 st67 (fun r70 st71 => Q r70 st71))) ∧ ((v1 < 0 ∨ 2 < v1) → Q (-2) st)
def rX3_letter : Room := { frames := 2, cells := 0, slots := 0, locals := 47 }
set_option maxRecDepth 100000 in
set_option maxHeartbeats 4000000 in
theorem tX3_letter_0 {l : Launch} {g : sq_G} {J : sq_K} {Q : Int → sq_S → Prop} (S : sq_J l rX3_letter cX3_letter 3 RX3 wsX3_letter g sq_X J) (hret : ∀ (pc : Nat) (lv : List (Nat × Value)) (r : Int) (st' : sq_S), decode cX3_letter pc = .ok (.ireturn, 1) → Q r st' → J pc lv [.int (sq_z r)] st') (v1 v2 : Int) (st : sq_S) (H : wX3_letter v1 v2 st Q) : J 0 [(0, .ref (g.2.2 0)), (1, .int (sq_z v1)), (2, .int (sq_z v2))] [] st := by
  unfold wX3_letter at H
  refine sj_iload_n (pl := 1) S dX3_letter_0 rfl rfl ?_
  by_cases c0 : v1 = 0
  · refine sj_tab (v := 0) (tgt := 28) S (by decide) c0 dX3_letter_1 (by decide) (by decide) rfl (by decide) ?_
    have H := H.2.1 c0
    refine sj_aload_n (pl := 0) S dX3_letter_28 rfl rfl ?_
    refine sj_getr S fX_0_2 iX3_letter_3 rfl (by decide) mX3_letter_16 dX3_letter_29 ?_
    refine sj_getr S fX_2_0 iX3_letter_0 rfl (by decide) mX3_letter_49 dX3_letter_32 ?_
    refine sj_aload_n (pl := 0) S dX3_letter_35 rfl rfl ?_
    refine sj_getr S fX_0_2 iX3_letter_3 rfl (by decide) mX3_letter_16 dX3_letter_36 ?_
    refine sj_geti S fX_2_1 iX3_letter_0 rfl (by decide) mX3_letter_56 dX3_letter_39 ?_
    refine sj_iload_n (pl := 2) S dX3_letter_42 rfl rfl ?_
    refine sj_si (rest := []) S (kX3_letterAt_3 l g (st 2 1) v2 st _ H) (fun s args hts => va_cwS 3 hts gX3_letter_X3_letterAt rfl rfl rfl (by decide +kernel) ⟨Nat.le_of_ble_eq_true rfl, Nat.le_of_ble_eq_true rfl⟩) rfl rfl (Nat.le_of_ble_eq_true rfl) dX3_letter_43 (fun r56 st57 H => ?_)
    exact hret _ _ _ _ dX3_letter_46 H
  by_cases c1 : v1 = 1
  · refine sj_tab (v := 1) (tgt := 47) S (by decide) c1 dX3_letter_1 (by decide) (by decide) rfl (by decide) ?_
    have H := H.2.2.1 c1
    refine sj_aload_n (pl := 0) S dX3_letter_47 rfl rfl ?_
    refine sj_getr S fX_0_2 iX3_letter_3 rfl (by decide) mX3_letter_16 dX3_letter_48 ?_
    refine sj_getr S fX_2_2 iX3_letter_0 rfl (by decide) mX3_letter_59 dX3_letter_51 ?_
    refine sj_aload_n (pl := 0) S dX3_letter_54 rfl rfl ?_
    refine sj_getr S fX_0_2 iX3_letter_3 rfl (by decide) mX3_letter_16 dX3_letter_55 ?_
    refine sj_geti S fX_2_3 iX3_letter_0 rfl (by decide) mX3_letter_62 dX3_letter_58 ?_
    refine sj_iload_n (pl := 2) S dX3_letter_61 rfl rfl ?_
    refine sj_si (rest := []) S (kX3_letterAt_4 l g (st 2 3) v2 st _ H) (fun s args hts => va_cwS 3 hts gX3_letter_X3_letterAt rfl rfl rfl (by decide +kernel) ⟨Nat.le_of_ble_eq_true rfl, Nat.le_of_ble_eq_true rfl⟩) rfl rfl (Nat.le_of_ble_eq_true rfl) dX3_letter_62 (fun r60 st61 H => ?_)
    exact hret _ _ _ _ dX3_letter_65 H
  by_cases c2 : v1 = 2
  · refine sj_tab (v := 2) (tgt := 66) S (by decide) c2 dX3_letter_1 (by decide) (by decide) rfl (by decide) ?_
    have H := H.2.2.2.1 c2
    refine sj_aload_n (pl := 0) S dX3_letter_66 rfl rfl ?_
    refine sj_getr S fX_0_5 iX3_letter_3 rfl (by decide) mX3_letter_27 dX3_letter_67 ?_
    refine sj_getr S fX_24_1 iX3_letter_2 rfl (by decide) mX3_letter_86 dX3_letter_70 ?_
    refine sj_aload_n (pl := 0) S dX3_letter_73 rfl rfl ?_
    refine sj_getr S fX_0_2 iX3_letter_3 rfl (by decide) mX3_letter_16 dX3_letter_74 ?_
    refine sj_getr S fX_2_2 iX3_letter_0 rfl (by decide) mX3_letter_59 dX3_letter_77 ?_
    refine sj_aload_n (pl := 0) S dX3_letter_80 rfl rfl ?_
    refine sj_getr S fX_0_2 iX3_letter_3 rfl (by decide) mX3_letter_16 dX3_letter_81 ?_
    refine sj_geti S fX_2_3 iX3_letter_0 rfl (by decide) mX3_letter_62 dX3_letter_84 ?_
    refine sj_vv (rest := []) (q0 := 26) (ci := 1) S (kX1_layOut l g (st 2 3) st _ H) (fun s args hts => cwV 2 hts gX3_letter_X1_layOut rfl rfl rfl (by decide +kernel) ⟨Nat.le_of_ble_eq_true rfl, Nat.le_of_ble_eq_true rfl⟩) rfl rfl rfl rfl (Nat.le_of_ble_eq_true rfl) dX3_letter_87 (fun st67 H => ?_)
    refine sj_aload_n (pl := 0) S dX3_letter_90 rfl rfl ?_
    refine sj_getr S fX_0_5 iX3_letter_3 rfl (by decide) mX3_letter_27 dX3_letter_91 ?_
    refine sj_getr S fX_24_1 iX3_letter_2 rfl (by decide) mX3_letter_86 dX3_letter_94 ?_
    refine sj_getr S fX_26_0 iX3_letter_1 rfl (by decide) mX3_letter_96 dX3_letter_97 ?_
    refine sj_bipush S dX3_letter_100 (by decide +kernel) ?_
    refine sj_iload_n (pl := 2) S dX3_letter_102 rfl rfl ?_
    refine sj_si (rest := []) S (kX3_letterAt_27 l g 16 v2 st67 _ H) (fun s args hts => va_cwS 3 hts gX3_letter_X3_letterAt rfl rfl rfl (by decide +kernel) ⟨Nat.le_of_ble_eq_true rfl, Nat.le_of_ble_eq_true rfl⟩) rfl rfl (Nat.le_of_ble_eq_true rfl) dX3_letter_103 (fun r70 st71 H => ?_)
    exact hret _ _ _ _ dX3_letter_106 H
  have cd : v1 < 0 ∨ 2 < v1 := by omega
  refine sj_tabd (tgt := 107) S H.1 cd dX3_letter_1 (by decide) ?_
  have H := H.2.2.2.2 cd
  refine sj_bipush S dX3_letter_107 (by decide +kernel) ?_
  exact hret _ _ _ _ dX3_letter_109 H
set_option maxRecDepth 100000 in
set_option maxHeartbeats 4000000 in
theorem kX3_letter (l : Launch) (g : sq_G) (v1 v2 : Int) (st : sq_S) (Q : Int → sq_S → Prop) (H : wX3_letter v1 v2 st Q) : sq_Ci l yX3_letter wsX3_letter rX3_letter g sq_X [.ref (g.2.2 0), .int (sq_z v1), .int (sq_z v2)] st Q := by
  refine sq_in_i (cc := cX3_letter) (nL := 3) (own := RX3) (by decide) rfl rfl (Nat.le_of_ble_eq_true rfl) ?_
  intro J S hret
  exact tX3_letter_0 S hret v1 v2 st H
/-! hasOddText ()Z : X3_hasOddText -/
theorem iX3_hasOddText_0 : ∀ w ∈ u_ws RX0 TX0 9, w ∈ wsX3_hasOddText := fun _ h => List.mem_cons_of_mem _ (List.mem_append_right _ h)
theorem iX3_hasOddText_3 : ∀ w ∈ u_ws RX3 TX3 8, w ∈ wsX3_hasOddText := fun _ h => List.mem_cons_of_mem _ (List.mem_append_left _ (List.mem_append_right _ h))
theorem mX3_hasOddText_16 : Cond.fieldLink RX3 16 (TX3 2).1 (TX3 2).2.1 (TX3 2).2.2.1 ∈ wsX3_hasOddText := List.mem_of_getElem? (i := 1) rfl
theorem mX3_hasOddText_56 : Cond.fieldLink RX3 56 (TX0 1).1 (TX0 1).2.1 (TX0 1).2.2.1 ∈ wsX3_hasOddText := List.mem_of_getElem? (i := 2) rfl
def wX3_hasOddText (st : sq_S) (Q : Int → sq_S → Prop) : Prop :=
  (sq_rg (sq_and (st 2 1) 1) ∧ sq_rg 1) ∧ (¬ (sq_and (st 2 1) 1) = 1 → (0 = 0 ∨ 0 = 1) ∧ Q 0 st) ∧ ((sq_and (st 2 1) 1) = 1 → (1 = 0 ∨ 1 = 1) ∧ Q 1 st)
def rX3_hasOddText : Room := { frames := 0, cells := 0, slots := 0, locals := 0 }
set_option maxRecDepth 100000 in
set_option maxHeartbeats 4000000 in
theorem tX3_hasOddText_0 {l : Launch} {g : sq_G} {J : sq_K} {Q : Int → sq_S → Prop} (S : sq_J l rX3_hasOddText cX3_hasOddText 1 RX3 wsX3_hasOddText g sq_X J) (hret : ∀ (pc : Nat) (lv : List (Nat × Value)) (r : Int) (st' : sq_S), decode cX3_hasOddText pc = .ok (.ireturn, 1) → (r = 0 ∨ r = 1) ∧ Q r st' → J pc lv [.int (sq_z r)] st') (st : sq_S) (H : wX3_hasOddText st Q) : J 0 [(0, .ref (g.2.2 0))] [] st := by
  unfold wX3_hasOddText at H
  refine sj_aload_n (pl := 0) S dX3_hasOddText_0 rfl rfl ?_
  refine sj_getr S fX_0_2 iX3_hasOddText_3 rfl (by decide) mX3_hasOddText_16 dX3_hasOddText_1 ?_
  refine sj_geti S fX_2_1 iX3_hasOddText_0 rfl (by decide) mX3_hasOddText_56 dX3_hasOddText_4 ?_
  refine sj_iconst S dX3_hasOddText_7 ?_
  refine sj_iand S dX3_hasOddText_8 ?_
  refine sj_iconst S dX3_hasOddText_9 ?_
  refine sj_icmp_ne (tgt := 17) S H.1 dX3_hasOddText_10 (by decide) (fun c9 => ?_) (fun c9 => ?_)
  · have H := H.2.1 c9
    refine sj_iconst S dX3_hasOddText_17 ?_
    exact hret _ _ _ _ dX3_hasOddText_18 H
  · have H := H.2.2 c9
    refine sj_iconst S dX3_hasOddText_13 ?_
    refine sj_goto (tgt := 18) S dX3_hasOddText_14 (by decide) ?_
    exact hret _ _ _ _ dX3_hasOddText_18 H
set_option maxRecDepth 100000 in
set_option maxHeartbeats 4000000 in
theorem kX3_hasOddText (l : Launch) (g : sq_G) (st : sq_S) (Q : Int → sq_S → Prop) (H : wX3_hasOddText  st Q) : sq_Ci l yX3_hasOddText wsX3_hasOddText rX3_hasOddText g sq_X [.ref (g.2.2 0)] st Q := by
  refine sq_in_z (cc := cX3_hasOddText) (nL := 1) (own := RX3) (by decide) rfl rfl (Nat.le_of_ble_eq_true rfl) ?_
  intro J S hret
  exact tX3_hasOddText_0 S hret  st H
/-! addKey (LSecretSquares$Desk;IZ)V : X2_addKey -/
theorem iX2_addKey_0 : ∀ w ∈ u_ws RX0 TX0 9, w ∈ wsX2_addKey := fun _ h => List.mem_cons_of_mem _ (List.mem_append_left _ (List.mem_append_right _ h))
theorem iX2_addKey_2 : ∀ w ∈ u_ws RX2 TX2 5, w ∈ wsX2_addKey := fun _ h => List.mem_cons_of_mem _ (List.mem_append_right _ h)
theorem mX2_addKey_9 : Cond.fieldLink RX2 9 (TX2 0).1 (TX2 0).2.1 (TX2 0).2.2.1 ∈ wsX2_addKey := List.mem_of_getElem? (i := 3) rfl
theorem mX2_addKey_41 : Cond.fieldLink RX2 41 (TX0 2).1 (TX0 2).2.1 (TX0 2).2.2.1 ∈ wsX2_addKey := List.mem_of_getElem? (i := 2) rfl
theorem mX2_addKey_56 : Cond.fieldLink RX2 56 (TX0 1).1 (TX0 1).2.1 (TX0 1).2.2.1 ∈ wsX2_addKey := List.mem_of_getElem? (i := 1) rfl
theorem mX2_addKey_72 : Cond.fieldLink RX2 72 (TX0 0).1 (TX0 0).2.1 (TX0 0).2.2.1 ∈ wsX2_addKey := List.mem_of_getElem? (i := 4) rfl
def bX2_addKey_6 (K6 : Int → Int → Int → Int → sq_S → Prop) (K37 : Int → Int → Int → Int → Int → sq_S → Prop) (Q : Int → sq_S → Prop) (v2 v3 v4 v5 : Int) (st : sq_S) : Prop :=
  (sq_rg v5 ∧ sq_rg (st 2 1)) ∧ ((st 2 1) ≤ v5 → Q 0 st) ∧ (v5 < (st 2 1) → sq_rg v3 ∧ (v3 = 0 → sq_ib v4 6 ∧ (K37 v2 v3 v4 v5 (-(st 4 v4.toNat)) st)) ∧ (¬ v3 = 0 → sq_ib v4 6 ∧ (K37 v2 v3 v4 v5 (st 4 v4.toNat) st)))
def bX2_addKey_37 (K6 : Int → Int → Int → Int → sq_S → Prop) (K37 : Int → Int → Int → Int → Int → sq_S → Prop) (Q : Int → sq_S → Prop) (v2 v3 v4 v5 s0 : Int) (st : sq_S) : Prop :=
  sq_ib v5 48 ∧ (sq_ib v5 48 ∧ (∀ st76 : sq_S, st76 = sq_set st 25 v5.toNat (sq_and ((st 3 v5.toNat) + s0) 15) → ((sq_rg (v4 + 1) ∧ sq_rg v2) ∧ (v2 ≤ (v4 + 1) → K6 v2 v3 0 (v5 + 1) st76) ∧ ((v4 + 1) < v2 → ∀ y77 : Int, y77 = (v4 + 1) → (K6 v2 v3 y77 (v5 + 1) st76)))))
def bX2_addKey_0 (K6 : Int → Int → Int → Int → sq_S → Prop) (K37 : Int → Int → Int → Int → Int → sq_S → Prop) (Q : Int → sq_S → Prop) (v2 v3 : Int) (st : sq_S) : Prop :=
  K6 v2 v3 0 0 st
def wX2_addKey (v2 v3 : Int) (st : sq_S) (Q : Int → sq_S → Prop) : Prop :=
  ∀ (K6 : Int → Int → Int → Int → sq_S → Prop) (K37 : Int → Int → Int → Int → Int → sq_S → Prop), (∀ (v2 v3 v4 v5 : Int) (st : sq_S), bX2_addKey_6 K6 K37 Q v2 v3 v4 v5 st → K6 v2 v3 v4 v5 st) → (∀ (v2 v3 v4 v5 s0 : Int) (st : sq_S), bX2_addKey_37 K6 K37 Q v2 v3 v4 v5 s0 st → K37 v2 v3 v4 v5 s0 st) → bX2_addKey_0 K6 K37 Q v2 v3 st
def rX2_addKey : Room := { frames := 0, cells := 0, slots := 0, locals := 0 }
def qX2_addKey_6 (J : sq_K) (g : sq_G) : Int → Int → Int → Int → sq_S → Prop := fun v2 v3 v4 v5 st => J 6 [(0, .ref (g.2.2 24)), (1, .ref (g.2.2 2)), (2, .int (sq_z v2)), (3, .int (sq_z v3)), (4, .int (sq_z v4)), (5, .int (sq_z v5))] [] st
def qX2_addKey_37 (J : sq_K) (g : sq_G) : Int → Int → Int → Int → Int → sq_S → Prop := fun v2 v3 v4 v5 s0 st => J 37 [(0, .ref (g.2.2 24)), (1, .ref (g.2.2 2)), (2, .int (sq_z v2)), (3, .int (sq_z v3)), (4, .int (sq_z v4)), (5, .int (sq_z v5))] [.int (sq_z s0)] st
set_option maxRecDepth 100000 in
set_option maxHeartbeats 4000000 in
theorem tX2_addKey_6 {l : Launch} {g : sq_G} {J : sq_K} {Q : Int → sq_S → Prop} (S : sq_J l rX2_addKey cX2_addKey 7 RX2 wsX2_addKey g sq_X J) (hret : ∀ (pc : Nat) (lv : List (Nat × Value)) (st' : sq_S), decode cX2_addKey pc = .ok (.return_, 1) → Q 0 st' → J pc lv [] st') (v2 v3 v4 v5 : Int) (st : sq_S) (H : bX2_addKey_6 (qX2_addKey_6 J g) (qX2_addKey_37 J g) Q v2 v3 v4 v5 st) : J 6 [(0, .ref (g.2.2 24)), (1, .ref (g.2.2 2)), (2, .int (sq_z v2)), (3, .int (sq_z v3)), (4, .int (sq_z v4)), (5, .int (sq_z v5))] [] st := by
  unfold bX2_addKey_6 at H
  refine sj_iload (pl := 5) S dX2_addKey_6 rfl ?_
  refine sj_aload_n (pl := 1) S dX2_addKey_8 rfl rfl ?_
  refine sj_geti S fX_2_1 iX2_addKey_0 rfl (by decide) mX2_addKey_56 dX2_addKey_9 ?_
  refine sj_icmp_ge (tgt := 83) S H.1 dX2_addKey_12 (by decide) (fun c9 => ?_) (fun c9 => ?_)
  · have H := H.2.1 c9
    exact hret _ _ _ dX2_addKey_83 H
  · have H := H.2.2 c9
    refine sj_iload_n (pl := 3) S dX2_addKey_15 rfl rfl ?_
    refine sj_if_eq (tgt := 29) S H.1 dX2_addKey_16 (by decide) (fun c9 => ?_) (fun c9 => ?_)
    · have H := H.2.1 c9
      refine sj_aload_n (pl := 1) S dX2_addKey_29 rfl rfl ?_
      refine sj_getr S fX_2_2 iX2_addKey_0 rfl (by decide) mX2_addKey_41 dX2_addKey_30 ?_
      refine sj_iload (pl := 4) S dX2_addKey_33 rfl ?_
      refine sj_iald S aX_4 H.1 dX2_addKey_35 ?_
      have H := H.2
      refine sj_ineg S dX2_addKey_36 ?_
      exact sj_lv S [0, 1, 2, 3, 4, 5] rfl H
    · have H := H.2.2 c9
      refine sj_aload_n (pl := 1) S dX2_addKey_19 rfl rfl ?_
      refine sj_getr S fX_2_2 iX2_addKey_0 rfl (by decide) mX2_addKey_41 dX2_addKey_20 ?_
      refine sj_iload (pl := 4) S dX2_addKey_23 rfl ?_
      refine sj_iald S aX_4 H.1 dX2_addKey_25 ?_
      have H := H.2
      refine sj_goto (tgt := 37) S dX2_addKey_26 (by decide) ?_
      exact sj_lv S [0, 1, 2, 3, 4, 5] rfl H
set_option maxRecDepth 100000 in
set_option maxHeartbeats 4000000 in
theorem tX2_addKey_37 {l : Launch} {g : sq_G} {J : sq_K} {Q : Int → sq_S → Prop} (S : sq_J l rX2_addKey cX2_addKey 7 RX2 wsX2_addKey g sq_X J) (hret : ∀ (pc : Nat) (lv : List (Nat × Value)) (st' : sq_S), decode cX2_addKey pc = .ok (.return_, 1) → Q 0 st' → J pc lv [] st') (v2 v3 v4 v5 s0 : Int) (st : sq_S) (H : bX2_addKey_37 (qX2_addKey_6 J g) (qX2_addKey_37 J g) Q v2 v3 v4 v5 s0 st) : J 37 [(0, .ref (g.2.2 24)), (1, .ref (g.2.2 2)), (2, .int (sq_z v2)), (3, .int (sq_z v3)), (4, .int (sq_z v4)), (5, .int (sq_z v5))] [.int (sq_z s0)] st := by
  unfold bX2_addKey_37 at H
  refine sj_istore (lv' := [(0, .ref (g.2.2 24)), (1, .ref (g.2.2 2)), (2, .int (sq_z v2)), (3, .int (sq_z v3)), (4, .int (sq_z v4)), (5, .int (sq_z v5))]) S dX2_addKey_37 (by decide) (fun _ => rfl) ?_
  intro y9 e9; subst e9
  refine sj_aload_n (pl := 1) S dX2_addKey_39 rfl rfl ?_
  refine sj_getr S fX_24_0 iX2_addKey_2 rfl (by decide) mX2_addKey_9 dX2_addKey_40 ?_
  refine sj_iload (pl := 6) S dX2_addKey_43 rfl ?_
  refine sj_aload_n (pl := 2) S dX2_addKey_45 rfl rfl ?_
  refine sj_getr S fX_2_0 iX2_addKey_0 rfl (by decide) mX2_addKey_72 dX2_addKey_46 ?_
  refine sj_iload (pl := 6) S dX2_addKey_49 rfl ?_
  refine sj_iald S aX_3 H.1 dX2_addKey_51 ?_
  have H := H.2
  refine sj_iload (pl := 0) S dX2_addKey_52 rfl ?_
  refine sj_iadd S dX2_addKey_54 ?_
  refine sj_bipush S dX2_addKey_55 (by decide +kernel) ?_
  refine sj_iand S dX2_addKey_57 ?_
  refine sj_iast S aX_25 H.1 dX2_addKey_58 (fun st76 est76 => ?_)
  have H := H.2 st76 est76
  refine sj_iload (pl := 5) S dX2_addKey_59 rfl ?_
  refine sj_iconst S dX2_addKey_61 ?_
  refine sj_iadd S dX2_addKey_62 ?_
  refine sj_iload_n (pl := 3) S dX2_addKey_63 rfl rfl ?_
  refine sj_icmp_ge (tgt := 74) S H.1 dX2_addKey_64 (by decide) (fun c9 => ?_) (fun c9 => ?_)
  · have H := H.2.1 c9
    refine sj_iconst S dX2_addKey_74 ?_
    refine sj_istore (lv' := [(6, .int (sq_z s0)), (0, .ref (g.2.2 24)), (1, .ref (g.2.2 2)), (2, .int (sq_z v2)), (3, .int (sq_z v3)), (5, .int (sq_z v5))]) S dX2_addKey_75 (by decide) (fun _ => rfl) ?_
    intro y9 e9; subst e9
    refine sj_iinc (pl := 6) (lv' := [(4, .int (sq_z 0)), (6, .int (sq_z s0)), (0, .ref (g.2.2 24)), (1, .ref (g.2.2 2)), (2, .int (sq_z v2)), (3, .int (sq_z v3))]) S dX2_addKey_77 rfl (by decide) (fun _ => rfl) ?_
    refine sj_goto (tgt := 6) S dX2_addKey_80 (by decide) ?_
    exact sj_lv S [3, 4, 5, 6, 1, 0] rfl H
  · have H := H.2.2 c9
    refine sj_iload (pl := 5) S dX2_addKey_67 rfl ?_
    refine sj_iconst S dX2_addKey_69 ?_
    refine sj_iadd S dX2_addKey_70 ?_
    refine sj_goto (tgt := 75) S dX2_addKey_71 (by decide) ?_
    refine sj_istore (lv' := [(6, .int (sq_z s0)), (0, .ref (g.2.2 24)), (1, .ref (g.2.2 2)), (2, .int (sq_z v2)), (3, .int (sq_z v3)), (5, .int (sq_z v5))]) S dX2_addKey_75 (by decide) (fun _ => rfl) (fun y77 ey77 => ?_)
    have H := H y77 ey77
    refine sj_iinc (pl := 6) (lv' := [(4, .int (sq_z y77)), (6, .int (sq_z s0)), (0, .ref (g.2.2 24)), (1, .ref (g.2.2 2)), (2, .int (sq_z v2)), (3, .int (sq_z v3))]) S dX2_addKey_77 rfl (by decide) (fun _ => rfl) ?_
    refine sj_goto (tgt := 6) S dX2_addKey_80 (by decide) ?_
    exact sj_lv S [3, 4, 5, 6, 1, 0] rfl H
set_option maxRecDepth 100000 in
set_option maxHeartbeats 4000000 in
theorem tX2_addKey_0 {l : Launch} {g : sq_G} {J : sq_K} {Q : Int → sq_S → Prop} (S : sq_J l rX2_addKey cX2_addKey 7 RX2 wsX2_addKey g sq_X J) (hret : ∀ (pc : Nat) (lv : List (Nat × Value)) (st' : sq_S), decode cX2_addKey pc = .ok (.return_, 1) → Q 0 st' → J pc lv [] st') (v2 v3 : Int) (st : sq_S) (H : bX2_addKey_0 (qX2_addKey_6 J g) (qX2_addKey_37 J g) Q v2 v3 st) : J 0 [(0, .ref (g.2.2 24)), (1, .ref (g.2.2 2)), (2, .int (sq_z v2)), (3, .int (sq_z v3))] [] st := by
  unfold bX2_addKey_0 at H
  refine sj_iconst S dX2_addKey_0 ?_
  refine sj_istore (lv' := [(0, .ref (g.2.2 24)), (1, .ref (g.2.2 2)), (2, .int (sq_z v2)), (3, .int (sq_z v3))]) S dX2_addKey_1 (by decide) (fun _ => rfl) ?_
  intro y9 e9; subst e9
  refine sj_iconst S dX2_addKey_3 ?_
  refine sj_istore (lv' := [(4, .int (sq_z 0)), (0, .ref (g.2.2 24)), (1, .ref (g.2.2 2)), (2, .int (sq_z v2)), (3, .int (sq_z v3))]) S dX2_addKey_4 (by decide) (fun _ => rfl) ?_
  intro y9 e9; subst e9
  exact sj_lv S [2, 3, 4, 5, 1, 0] rfl H
set_option maxRecDepth 100000 in
set_option maxHeartbeats 4000000 in
theorem kX2_addKey (l : Launch) (g : sq_G) (v2 v3 : Int) (st : sq_S) (Q : Int → sq_S → Prop) (H : wX2_addKey v2 v3 st Q) : sq_Cv l yX2_addKey wsX2_addKey rX2_addKey g sq_X [.ref (g.2.2 24), .ref (g.2.2 2), .int (sq_z v2), .int (sq_z v3)] st Q := by
  refine sq_in_v (cc := cX2_addKey) (nL := 7) (own := RX2) (by decide) rfl rfl (Nat.le_of_ble_eq_true rfl) ?_
  intro J S hret
  exact tX2_addKey_0 S hret v2 v3 st (H (qX2_addKey_6 J g) (qX2_addKey_37 J g) (tX2_addKey_6 S hret) (tX2_addKey_37 S hret))
/-! rowOf (I)I : X1_rowOf -/
theorem iX1_rowOf_1 : ∀ w ∈ u_ws RX1 TX1 2, w ∈ wsX1_rowOf := fun _ h => List.mem_cons_of_mem _ (List.mem_append_right _ h)
theorem mX1_rowOf_15 : Cond.fieldLink RX1 15 (TX1 1).1 (TX1 1).2.1 (TX1 1).2.2.1 ∈ wsX1_rowOf := List.mem_of_getElem? (i := 1) rfl
def wX1_rowOf (v1 : Int) (st : sq_S) (Q : Int → sq_S → Prop) : Prop :=
  sq_ib v1 16 ∧ (Q (sq_shr (st 28 v1.toNat) 2) st)
def rX1_rowOf : Room := { frames := 0, cells := 0, slots := 0, locals := 0 }
set_option maxRecDepth 100000 in
set_option maxHeartbeats 4000000 in
theorem tX1_rowOf_0 {l : Launch} {g : sq_G} {J : sq_K} {Q : Int → sq_S → Prop} (S : sq_J l rX1_rowOf cX1_rowOf 2 RX1 wsX1_rowOf g sq_X J) (hret : ∀ (pc : Nat) (lv : List (Nat × Value)) (r : Int) (st' : sq_S), decode cX1_rowOf pc = .ok (.ireturn, 1) → Q r st' → J pc lv [.int (sq_z r)] st') (v1 : Int) (st : sq_S) (H : wX1_rowOf v1 st Q) : J 0 [(0, .ref (g.2.2 26)), (1, .int (sq_z v1))] [] st := by
  unfold wX1_rowOf at H
  refine sj_aload_n (pl := 0) S dX1_rowOf_0 rfl rfl ?_
  refine sj_getr S fX_26_1 iX1_rowOf_1 rfl (by decide) mX1_rowOf_15 dX1_rowOf_1 ?_
  refine sj_iload_n (pl := 1) S dX1_rowOf_4 rfl rfl ?_
  refine sj_iald S aX_28 H.1 dX1_rowOf_5 ?_
  have H := H.2
  refine sj_iconst S dX1_rowOf_6 ?_
  refine sj_ishr S dX1_rowOf_7 ?_
  exact hret _ _ _ _ dX1_rowOf_8 H
set_option maxRecDepth 100000 in
set_option maxHeartbeats 4000000 in
theorem kX1_rowOf (l : Launch) (g : sq_G) (v1 : Int) (st : sq_S) (Q : Int → sq_S → Prop) (H : wX1_rowOf v1 st Q) : sq_Ci l yX1_rowOf wsX1_rowOf rX1_rowOf g sq_X [.ref (g.2.2 26), .int (sq_z v1)] st Q := by
  refine sq_in_i (cc := cX1_rowOf) (nL := 2) (own := RX1) (by decide) rfl rfl (Nat.le_of_ble_eq_true rfl) ?_
  intro J S hret
  exact tX1_rowOf_0 S hret v1 st H
/-! columnOf (I)I : X1_columnOf -/
theorem iX1_columnOf_1 : ∀ w ∈ u_ws RX1 TX1 2, w ∈ wsX1_columnOf := fun _ h => List.mem_cons_of_mem _ (List.mem_append_right _ h)
theorem mX1_columnOf_15 : Cond.fieldLink RX1 15 (TX1 1).1 (TX1 1).2.1 (TX1 1).2.2.1 ∈ wsX1_columnOf := List.mem_of_getElem? (i := 1) rfl
def wX1_columnOf (v1 : Int) (st : sq_S) (Q : Int → sq_S → Prop) : Prop :=
  sq_ib v1 16 ∧ (Q (sq_and (st 28 v1.toNat) 3) st)
def rX1_columnOf : Room := { frames := 0, cells := 0, slots := 0, locals := 0 }
set_option maxRecDepth 100000 in
set_option maxHeartbeats 4000000 in
theorem tX1_columnOf_0 {l : Launch} {g : sq_G} {J : sq_K} {Q : Int → sq_S → Prop} (S : sq_J l rX1_columnOf cX1_columnOf 2 RX1 wsX1_columnOf g sq_X J) (hret : ∀ (pc : Nat) (lv : List (Nat × Value)) (r : Int) (st' : sq_S), decode cX1_columnOf pc = .ok (.ireturn, 1) → Q r st' → J pc lv [.int (sq_z r)] st') (v1 : Int) (st : sq_S) (H : wX1_columnOf v1 st Q) : J 0 [(0, .ref (g.2.2 26)), (1, .int (sq_z v1))] [] st := by
  unfold wX1_columnOf at H
  refine sj_aload_n (pl := 0) S dX1_columnOf_0 rfl rfl ?_
  refine sj_getr S fX_26_1 iX1_columnOf_1 rfl (by decide) mX1_columnOf_15 dX1_columnOf_1 ?_
  refine sj_iload_n (pl := 1) S dX1_columnOf_4 rfl rfl ?_
  refine sj_iald S aX_28 H.1 dX1_columnOf_5 ?_
  have H := H.2
  refine sj_iconst S dX1_columnOf_6 ?_
  refine sj_iand S dX1_columnOf_7 ?_
  exact hret _ _ _ _ dX1_columnOf_8 H
set_option maxRecDepth 100000 in
set_option maxHeartbeats 4000000 in
theorem kX1_columnOf (l : Launch) (g : sq_G) (v1 : Int) (st : sq_S) (Q : Int → sq_S → Prop) (H : wX1_columnOf v1 st Q) : sq_Ci l yX1_columnOf wsX1_columnOf rX1_columnOf g sq_X [.ref (g.2.2 26), .int (sq_z v1)] st Q := by
  refine sq_in_i (cc := cX1_columnOf) (nL := 2) (own := RX1) (by decide) rfl rfl (Nat.le_of_ble_eq_true rfl) ?_
  intro J S hret
  exact tX1_columnOf_0 S hret v1 st H
/-! at (II)I : X1_at -/
theorem iX1_at_1 : ∀ w ∈ u_ws RX1 TX1 2, w ∈ wsX1_at := fun _ h => List.mem_cons_of_mem _ (List.mem_append_right _ h)
theorem mX1_at_9 : Cond.fieldLink RX1 9 (TX1 0).1 (TX1 0).2.1 (TX1 0).2.2.1 ∈ wsX1_at := List.mem_of_getElem? (i := 1) rfl
def wX1_at (v1 v2 : Int) (st : sq_S) (Q : Int → sq_S → Prop) : Prop :=
  sq_ib ((4 * (sq_and v1 3)) + (sq_and v2 3)) 16 ∧ (Q (st 27 (((4 * (sq_and v1 3)) + (sq_and v2 3))).toNat) st)
def rX1_at : Room := { frames := 0, cells := 0, slots := 0, locals := 0 }
set_option maxRecDepth 100000 in
set_option maxHeartbeats 4000000 in
theorem tX1_at_0 {l : Launch} {g : sq_G} {J : sq_K} {Q : Int → sq_S → Prop} (S : sq_J l rX1_at cX1_at 3 RX1 wsX1_at g sq_X J) (hret : ∀ (pc : Nat) (lv : List (Nat × Value)) (r : Int) (st' : sq_S), decode cX1_at pc = .ok (.ireturn, 1) → Q r st' → J pc lv [.int (sq_z r)] st') (v1 v2 : Int) (st : sq_S) (H : wX1_at v1 v2 st Q) : J 0 [(0, .ref (g.2.2 26)), (1, .int (sq_z v1)), (2, .int (sq_z v2))] [] st := by
  unfold wX1_at at H
  refine sj_aload_n (pl := 0) S dX1_at_0 rfl rfl ?_
  refine sj_getr S fX_26_0 iX1_at_1 rfl (by decide) mX1_at_9 dX1_at_1 ?_
  refine sj_iconst S dX1_at_4 ?_
  refine sj_iload_n (pl := 1) S dX1_at_5 rfl rfl ?_
  refine sj_iconst S dX1_at_6 ?_
  refine sj_iand S dX1_at_7 ?_
  refine sj_imul S dX1_at_8 ?_
  refine sj_iload_n (pl := 2) S dX1_at_9 rfl rfl ?_
  refine sj_iconst S dX1_at_10 ?_
  refine sj_iand S dX1_at_11 ?_
  refine sj_iadd S dX1_at_12 ?_
  refine sj_iald S aX_27 H.1 dX1_at_13 ?_
  have H := H.2
  exact hret _ _ _ _ dX1_at_14 H
set_option maxRecDepth 100000 in
set_option maxHeartbeats 4000000 in
theorem kX1_at (l : Launch) (g : sq_G) (v1 v2 : Int) (st : sq_S) (Q : Int → sq_S → Prop) (H : wX1_at v1 v2 st Q) : sq_Ci l yX1_at wsX1_at rX1_at g sq_X [.ref (g.2.2 26), .int (sq_z v1), .int (sq_z v2)] st Q := by
  refine sq_in_i (cc := cX1_at) (nL := 3) (own := RX1) (by decide) rfl rfl (Nat.le_of_ble_eq_true rfl) ?_
  intro J S hret
  exact tX1_at_0 S hret v1 v2 st H
/-! beside (III)I : X1_beside -/
def wX1_beside (v1 v2 v3 : Int) (st : sq_S) (Q : Int → sq_S → Prop) : Prop :=
  wX1_rowOf v1 st (fun r83 st84 => wX1_columnOf v1 st84 (fun r85 st86 => (sq_rg v1 ∧ sq_rg v2) ∧ (¬ v1 = v2 → wX1_rowOf v2 st86 (fun r87 st88 => (sq_rg r83 ∧ sq_rg r87) ∧ (¬ r83 = r87 → wX1_columnOf v2 st88 (fun r89 st90 => (sq_rg r85 ∧ sq_rg r89) ∧ (¬ r85 = r89 → wX1_columnOf v2 st90 (fun r91 st92 => wX1_at r83 r91 st92 (fun r93 st94 => Q r93 st94))) ∧ (r85 = r89 → wX1_at (r83 + v3) r85 st90 (fun r95 st96 => Q r95 st96)))) ∧ (r83 = r87 → wX1_at r83 (r85 + v3) st88 (fun r97 st98 => Q r97 st98)))) ∧ (v1 = v2 → wX1_at (r83 + v3) (r85 + v3) st86 (fun r99 st100 => Q r99 st100))))
def rX1_beside : Room := { frames := 1, cells := 0, slots := 0, locals := 22 }
set_option maxRecDepth 100000 in
set_option maxHeartbeats 4000000 in
theorem tX1_beside_0 {l : Launch} {g : sq_G} {J : sq_K} {Q : Int → sq_S → Prop} (S : sq_J l rX1_beside cX1_beside 6 RX1 wsX1_beside g sq_X J) (hret : ∀ (pc : Nat) (lv : List (Nat × Value)) (r : Int) (st' : sq_S), decode cX1_beside pc = .ok (.ireturn, 1) → Q r st' → J pc lv [.int (sq_z r)] st') (v1 v2 v3 : Int) (st : sq_S) (H : wX1_beside v1 v2 v3 st Q) : J 0 [(0, .ref (g.2.2 26)), (1, .int (sq_z v1)), (2, .int (sq_z v2)), (3, .int (sq_z v3))] [] st := by
  unfold wX1_beside at H
  refine sj_aload_n (pl := 0) S dX1_beside_0 rfl rfl ?_
  refine sj_iload_n (pl := 1) S dX1_beside_1 rfl rfl ?_
  refine sj_vi (rest := []) (q0 := 26) (ci := 1) S (kX1_rowOf l g v1 st _ H) (fun s args hts => cwV 1 hts gX1_beside_X1_rowOf rfl rfl rfl (by decide +kernel) ⟨Nat.le_of_ble_eq_true rfl, Nat.le_of_ble_eq_true rfl⟩) rfl rfl rfl rfl (Nat.le_of_ble_eq_true rfl) dX1_beside_2 (fun r83 st84 H => ?_)
  refine sj_istore (lv' := [(0, .ref (g.2.2 26)), (1, .int (sq_z v1)), (2, .int (sq_z v2)), (3, .int (sq_z v3))]) S dX1_beside_5 (by decide) (fun _ => rfl) ?_
  intro y9 e9; subst e9
  refine sj_aload_n (pl := 1) S dX1_beside_7 rfl rfl ?_
  refine sj_iload_n (pl := 2) S dX1_beside_8 rfl rfl ?_
  refine sj_vi (rest := []) (q0 := 26) (ci := 1) S (kX1_columnOf l g v1 st84 _ H) (fun s args hts => cwV 1 hts gX1_beside_X1_columnOf rfl rfl rfl (by decide +kernel) ⟨Nat.le_of_ble_eq_true rfl, Nat.le_of_ble_eq_true rfl⟩) rfl rfl rfl rfl (Nat.le_of_ble_eq_true rfl) dX1_beside_9 (fun r85 st86 H => ?_)
  refine sj_istore (lv' := [(4, .int (sq_z r83)), (0, .ref (g.2.2 26)), (1, .int (sq_z v1)), (2, .int (sq_z v2)), (3, .int (sq_z v3))]) S dX1_beside_12 (by decide) (fun _ => rfl) ?_
  intro y9 e9; subst e9
  refine sj_iload_n (pl := 3) S dX1_beside_14 rfl rfl ?_
  refine sj_iload_n (pl := 4) S dX1_beside_15 rfl rfl ?_
  refine sj_icmp_ne (tgt := 32) S H.1 dX1_beside_16 (by decide) (fun c9 => ?_) (fun c9 => ?_)
  · have H := H.2.1 c9
    refine sj_iload (pl := 1) S dX1_beside_32 rfl ?_
    refine sj_aload_n (pl := 2) S dX1_beside_34 rfl rfl ?_
    refine sj_iload_n (pl := 4) S dX1_beside_35 rfl rfl ?_
    refine sj_vi (rest := [.int (sq_z r83)]) (q0 := 26) (ci := 1) S (kX1_rowOf l g v2 st86 _ H) (fun s args hts => cwV 1 hts gX1_beside_X1_rowOf rfl rfl rfl (by decide +kernel) ⟨Nat.le_of_ble_eq_true rfl, Nat.le_of_ble_eq_true rfl⟩) rfl rfl rfl rfl (Nat.le_of_ble_eq_true rfl) dX1_beside_36 (fun r87 st88 H => ?_)
    refine sj_icmp_ne (tgt := 53) S H.1 dX1_beside_39 (by decide) (fun c9 => ?_) (fun c9 => ?_)
    · have H := H.2.1 c9
      refine sj_iload (pl := 0) S dX1_beside_53 rfl ?_
      refine sj_aload_n (pl := 2) S dX1_beside_55 rfl rfl ?_
      refine sj_iload_n (pl := 4) S dX1_beside_56 rfl rfl ?_
      refine sj_vi (rest := [.int (sq_z r85)]) (q0 := 26) (ci := 1) S (kX1_columnOf l g v2 st88 _ H) (fun s args hts => cwV 1 hts gX1_beside_X1_columnOf rfl rfl rfl (by decide +kernel) ⟨Nat.le_of_ble_eq_true rfl, Nat.le_of_ble_eq_true rfl⟩) rfl rfl rfl rfl (Nat.le_of_ble_eq_true rfl) dX1_beside_57 (fun r89 st90 H => ?_)
      refine sj_icmp_ne (tgt := 74) S H.1 dX1_beside_60 (by decide) (fun c9 => ?_) (fun c9 => ?_)
      · have H := H.2.1 c9
        refine sj_aload_n (pl := 2) S dX1_beside_74 rfl rfl ?_
        refine sj_iload (pl := 1) S dX1_beside_75 rfl ?_
        refine sj_aload_n (pl := 2) S dX1_beside_77 rfl rfl ?_
        refine sj_iload_n (pl := 4) S dX1_beside_78 rfl rfl ?_
        refine sj_vi (rest := [.int (sq_z r83), .ref (g.2.2 26)]) (q0 := 26) (ci := 1) S (kX1_columnOf l g v2 st90 _ H) (fun s args hts => cwV 1 hts gX1_beside_X1_columnOf rfl rfl rfl (by decide +kernel) ⟨Nat.le_of_ble_eq_true rfl, Nat.le_of_ble_eq_true rfl⟩) rfl rfl rfl rfl (Nat.le_of_ble_eq_true rfl) dX1_beside_79 (fun r91 st92 H => ?_)
        refine sj_vi (rest := []) (q0 := 26) (ci := 1) S (kX1_at l g r83 r91 st92 _ H) (fun s args hts => cwV 2 hts gX1_beside_X1_at rfl rfl rfl (by decide +kernel) ⟨Nat.le_of_ble_eq_true rfl, Nat.le_of_ble_eq_true rfl⟩) rfl rfl rfl rfl (Nat.le_of_ble_eq_true rfl) dX1_beside_82 (fun r93 st94 H => ?_)
        exact hret _ _ _ _ dX1_beside_85 H
      · have H := H.2.2 c9
        refine sj_aload_n (pl := 2) S dX1_beside_63 rfl rfl ?_
        refine sj_iload (pl := 1) S dX1_beside_64 rfl ?_
        refine sj_iload_n (pl := 5) S dX1_beside_66 rfl rfl ?_
        refine sj_iadd S dX1_beside_67 ?_
        refine sj_iload (pl := 0) S dX1_beside_68 rfl ?_
        refine sj_vi (rest := []) (q0 := 26) (ci := 1) S (kX1_at l g (r83 + v3) r85 st90 _ H) (fun s args hts => cwV 2 hts gX1_beside_X1_at rfl rfl rfl (by decide +kernel) ⟨Nat.le_of_ble_eq_true rfl, Nat.le_of_ble_eq_true rfl⟩) rfl rfl rfl rfl (Nat.le_of_ble_eq_true rfl) dX1_beside_70 (fun r95 st96 H => ?_)
        exact hret _ _ _ _ dX1_beside_73 H
    · have H := H.2.2 c9
      refine sj_aload_n (pl := 2) S dX1_beside_42 rfl rfl ?_
      refine sj_iload (pl := 1) S dX1_beside_43 rfl ?_
      refine sj_iload (pl := 0) S dX1_beside_45 rfl ?_
      refine sj_iload_n (pl := 5) S dX1_beside_47 rfl rfl ?_
      refine sj_iadd S dX1_beside_48 ?_
      refine sj_vi (rest := []) (q0 := 26) (ci := 1) S (kX1_at l g r83 (r85 + v3) st88 _ H) (fun s args hts => cwV 2 hts gX1_beside_X1_at rfl rfl rfl (by decide +kernel) ⟨Nat.le_of_ble_eq_true rfl, Nat.le_of_ble_eq_true rfl⟩) rfl rfl rfl rfl (Nat.le_of_ble_eq_true rfl) dX1_beside_49 (fun r97 st98 H => ?_)
      exact hret _ _ _ _ dX1_beside_52 H
  · have H := H.2.2 c9
    refine sj_aload_n (pl := 2) S dX1_beside_19 rfl rfl ?_
    refine sj_iload (pl := 1) S dX1_beside_20 rfl ?_
    refine sj_iload_n (pl := 5) S dX1_beside_22 rfl rfl ?_
    refine sj_iadd S dX1_beside_23 ?_
    refine sj_iload (pl := 0) S dX1_beside_24 rfl ?_
    refine sj_iload_n (pl := 5) S dX1_beside_26 rfl rfl ?_
    refine sj_iadd S dX1_beside_27 ?_
    refine sj_vi (rest := []) (q0 := 26) (ci := 1) S (kX1_at l g (r83 + v3) (r85 + v3) st86 _ H) (fun s args hts => cwV 2 hts gX1_beside_X1_at rfl rfl rfl (by decide +kernel) ⟨Nat.le_of_ble_eq_true rfl, Nat.le_of_ble_eq_true rfl⟩) rfl rfl rfl rfl (Nat.le_of_ble_eq_true rfl) dX1_beside_28 (fun r99 st100 H => ?_)
    exact hret _ _ _ _ dX1_beside_31 H
set_option maxRecDepth 100000 in
set_option maxHeartbeats 4000000 in
theorem kX1_beside (l : Launch) (g : sq_G) (v1 v2 v3 : Int) (st : sq_S) (Q : Int → sq_S → Prop) (H : wX1_beside v1 v2 v3 st Q) : sq_Ci l yX1_beside wsX1_beside rX1_beside g sq_X [.ref (g.2.2 26), .int (sq_z v1), .int (sq_z v2), .int (sq_z v3)] st Q := by
  refine sq_in_i (cc := cX1_beside) (nL := 6) (own := RX1) (by decide) rfl rfl (Nat.le_of_ble_eq_true rfl) ?_
  intro J S hret
  exact tX1_beside_0 S hret v1 v2 v3 st H
/-! changePairs (LSecretSquares$Desk;Z)V : X2_changePairs -/
theorem iX2_changePairs_0 : ∀ w ∈ u_ws RX0 TX0 9, w ∈ wsX2_changePairs := fun _ h => List.mem_cons_of_mem _ (List.mem_append_left _ (List.mem_append_left _ (List.mem_append_right _ h)))
theorem iX2_changePairs_2 : ∀ w ∈ u_ws RX2 TX2 5, w ∈ wsX2_changePairs := fun _ h => List.mem_cons_of_mem _ (List.mem_append_left _ (List.mem_append_right _ h))
theorem mX2_changePairs_9 : Cond.fieldLink RX2 9 (TX2 0).1 (TX2 0).2.1 (TX2 0).2.2.1 ∈ wsX2_changePairs := List.mem_of_getElem? (i := 3) rfl
theorem mX2_changePairs_18 : Cond.fieldLink RX2 18 (TX2 1).1 (TX2 1).2.1 (TX2 1).2.2.1 ∈ wsX2_changePairs := List.mem_of_getElem? (i := 4) rfl
theorem mX2_changePairs_56 : Cond.fieldLink RX2 56 (TX0 1).1 (TX0 1).2.1 (TX0 1).2.2.1 ∈ wsX2_changePairs := List.mem_of_getElem? (i := 1) rfl
theorem mX2_changePairs_72 : Cond.fieldLink RX2 72 (TX0 0).1 (TX0 0).2.1 (TX0 0).2.2.1 ∈ wsX2_changePairs := List.mem_of_getElem? (i := 2) rfl
def bX2_changePairs_13 (K13 : Int → Int → sq_S → Prop) (Q : Int → sq_S → Prop) (v3 v4 : Int) (st : sq_S) : Prop :=
  (sq_rg v4 ∧ sq_rg (st 2 1)) ∧ ((st 2 1) ≤ v4 → Q 0 st) ∧ (v4 < (st 2 1) → sq_ib (v4 - 1) 48 ∧ (∀ y81 : Int, y81 = (st 3 ((v4 - 1)).toNat) → (sq_ib v4 48 ∧ (∀ y82 : Int, y82 = (st 3 v4.toNat) → (wX1_beside y81 y82 v3 st (fun r101 st102 => sq_ib (v4 - 1) 48 ∧ (∀ st103 : sq_S, st103 = sq_set st102 25 ((v4 - 1)).toNat r101 → (wX1_beside y82 y81 v3 st103 (fun r104 st105 => sq_ib v4 48 ∧ (∀ st106 : sq_S, st106 = sq_set st105 25 v4.toNat r104 → (K13 v3 (v4 + 2) st106)))))))))))
def bX2_changePairs_0 (K13 : Int → Int → sq_S → Prop) (Q : Int → sq_S → Prop) (v2 : Int) (st : sq_S) : Prop :=
  sq_rg v2 ∧ (v2 = 0 → K13 (-1) 1 st) ∧ (¬ v2 = 0 → K13 1 1 st)
def wX2_changePairs (v2 : Int) (st : sq_S) (Q : Int → sq_S → Prop) : Prop :=
  ∀ (K13 : Int → Int → sq_S → Prop), (∀ (v3 v4 : Int) (st : sq_S), bX2_changePairs_13 K13 Q v3 v4 st → K13 v3 v4 st) → bX2_changePairs_0 K13 Q v2 st
def rX2_changePairs : Room := { frames := 2, cells := 0, slots := 0, locals := 47 }
def qX2_changePairs_13 (J : sq_K) (g : sq_G) : Int → Int → sq_S → Prop := fun v3 v4 st => J 13 [(0, .ref (g.2.2 24)), (1, .ref (g.2.2 2)), (3, .int (sq_z v3)), (4, .int (sq_z v4))] [] st
set_option maxRecDepth 100000 in
set_option maxHeartbeats 4000000 in
theorem tX2_changePairs_13 {l : Launch} {g : sq_G} {J : sq_K} {Q : Int → sq_S → Prop} (S : sq_J l rX2_changePairs cX2_changePairs 7 RX2 wsX2_changePairs g sq_X J) (hret : ∀ (pc : Nat) (lv : List (Nat × Value)) (st' : sq_S), decode cX2_changePairs pc = .ok (.return_, 1) → Q 0 st' → J pc lv [] st') (v3 v4 : Int) (st : sq_S) (H : bX2_changePairs_13 (qX2_changePairs_13 J g) Q v3 v4 st) : J 13 [(0, .ref (g.2.2 24)), (1, .ref (g.2.2 2)), (3, .int (sq_z v3)), (4, .int (sq_z v4))] [] st := by
  unfold bX2_changePairs_13 at H
  refine sj_iload (pl := 3) S dX2_changePairs_13 rfl ?_
  refine sj_aload_n (pl := 1) S dX2_changePairs_15 rfl rfl ?_
  refine sj_geti S fX_2_1 iX2_changePairs_0 rfl (by decide) mX2_changePairs_56 dX2_changePairs_16 ?_
  refine sj_icmp_ge (tgt := 88) S H.1 dX2_changePairs_19 (by decide) (fun c9 => ?_) (fun c9 => ?_)
  · have H := H.2.1 c9
    exact hret _ _ _ dX2_changePairs_88 H
  · have H := H.2.2 c9
    refine sj_aload_n (pl := 1) S dX2_changePairs_22 rfl rfl ?_
    refine sj_getr S fX_2_0 iX2_changePairs_0 rfl (by decide) mX2_changePairs_72 dX2_changePairs_23 ?_
    refine sj_iload (pl := 3) S dX2_changePairs_26 rfl ?_
    refine sj_iconst S dX2_changePairs_28 ?_
    refine sj_isub S dX2_changePairs_29 ?_
    refine sj_iald S aX_3 H.1 dX2_changePairs_30 ?_
    have H := H.2
    refine sj_istore (lv' := [(0, .ref (g.2.2 24)), (1, .ref (g.2.2 2)), (3, .int (sq_z v3)), (4, .int (sq_z v4))]) S dX2_changePairs_31 (by decide) (fun _ => rfl) (fun y81 ey81 => ?_)
    have H := H y81 ey81
    refine sj_aload_n (pl := 2) S dX2_changePairs_33 rfl rfl ?_
    refine sj_getr S fX_2_0 iX2_changePairs_0 rfl (by decide) mX2_changePairs_72 dX2_changePairs_34 ?_
    refine sj_iload (pl := 4) S dX2_changePairs_37 rfl ?_
    refine sj_iald S aX_3 H.1 dX2_changePairs_39 ?_
    have H := H.2
    refine sj_istore (lv' := [(5, .int (sq_z y81)), (0, .ref (g.2.2 24)), (1, .ref (g.2.2 2)), (3, .int (sq_z v3)), (4, .int (sq_z v4))]) S dX2_changePairs_40 (by decide) (fun _ => rfl) (fun y82 ey82 => ?_)
    have H := H y82 ey82
    refine sj_aload_n (pl := 2) S dX2_changePairs_42 rfl rfl ?_
    refine sj_getr S fX_24_0 iX2_changePairs_2 rfl (by decide) mX2_changePairs_9 dX2_changePairs_43 ?_
    refine sj_iload (pl := 5) S dX2_changePairs_46 rfl ?_
    refine sj_iconst S dX2_changePairs_48 ?_
    refine sj_isub S dX2_changePairs_49 ?_
    refine sj_aload_n (pl := 2) S dX2_changePairs_50 rfl rfl ?_
    refine sj_getr S fX_24_1 iX2_changePairs_2 rfl (by decide) mX2_changePairs_18 dX2_changePairs_51 ?_
    refine sj_iload (pl := 1) S dX2_changePairs_54 rfl ?_
    refine sj_iload (pl := 0) S dX2_changePairs_56 rfl ?_
    refine sj_iload_n (pl := 4) S dX2_changePairs_58 rfl rfl ?_
    refine sj_vi (rest := [.int (sq_z (v4 - 1)), .ref (g.2.2 25)]) (q0 := 26) (ci := 1) S (kX1_beside l g y81 y82 v3 st _ H) (fun s args hts => cwV 3 hts gX2_changePairs_X1_beside rfl rfl rfl (by decide +kernel) ⟨Nat.le_of_ble_eq_true rfl, Nat.le_of_ble_eq_true rfl⟩) rfl rfl rfl rfl (Nat.le_of_ble_eq_true rfl) dX2_changePairs_59 (fun r101 st102 H => ?_)
    refine sj_iast S aX_25 H.1 dX2_changePairs_62 (fun st103 est103 => ?_)
    have H := H.2 st103 est103
    refine sj_aload_n (pl := 2) S dX2_changePairs_63 rfl rfl ?_
    refine sj_getr S fX_24_0 iX2_changePairs_2 rfl (by decide) mX2_changePairs_9 dX2_changePairs_64 ?_
    refine sj_iload (pl := 5) S dX2_changePairs_67 rfl ?_
    refine sj_aload_n (pl := 2) S dX2_changePairs_69 rfl rfl ?_
    refine sj_getr S fX_24_1 iX2_changePairs_2 rfl (by decide) mX2_changePairs_18 dX2_changePairs_70 ?_
    refine sj_iload (pl := 0) S dX2_changePairs_73 rfl ?_
    refine sj_iload (pl := 1) S dX2_changePairs_75 rfl ?_
    refine sj_iload_n (pl := 4) S dX2_changePairs_77 rfl rfl ?_
    refine sj_vi (rest := [.int (sq_z v4), .ref (g.2.2 25)]) (q0 := 26) (ci := 1) S (kX1_beside l g y82 y81 v3 st103 _ H) (fun s args hts => cwV 3 hts gX2_changePairs_X1_beside rfl rfl rfl (by decide +kernel) ⟨Nat.le_of_ble_eq_true rfl, Nat.le_of_ble_eq_true rfl⟩) rfl rfl rfl rfl (Nat.le_of_ble_eq_true rfl) dX2_changePairs_78 (fun r104 st105 H => ?_)
    refine sj_iast S aX_25 H.1 dX2_changePairs_81 (fun st106 est106 => ?_)
    have H := H.2 st106 est106
    refine sj_iinc (pl := 5) (lv' := [(6, .int (sq_z y82)), (5, .int (sq_z y81)), (0, .ref (g.2.2 24)), (1, .ref (g.2.2 2)), (3, .int (sq_z v3))]) S dX2_changePairs_82 rfl (by decide) (fun _ => rfl) ?_
    refine sj_goto (tgt := 13) S dX2_changePairs_85 (by decide) ?_
    exact sj_lv S [3, 4, 5, 0] rfl H
set_option maxRecDepth 100000 in
set_option maxHeartbeats 4000000 in
theorem tX2_changePairs_0 {l : Launch} {g : sq_G} {J : sq_K} {Q : Int → sq_S → Prop} (S : sq_J l rX2_changePairs cX2_changePairs 7 RX2 wsX2_changePairs g sq_X J) (hret : ∀ (pc : Nat) (lv : List (Nat × Value)) (st' : sq_S), decode cX2_changePairs pc = .ok (.return_, 1) → Q 0 st' → J pc lv [] st') (v2 : Int) (st : sq_S) (H : bX2_changePairs_0 (qX2_changePairs_13 J g) Q v2 st) : J 0 [(0, .ref (g.2.2 24)), (1, .ref (g.2.2 2)), (2, .int (sq_z v2))] [] st := by
  unfold bX2_changePairs_0 at H
  refine sj_iload_n (pl := 2) S dX2_changePairs_0 rfl rfl ?_
  refine sj_if_eq (tgt := 8) S H.1 dX2_changePairs_1 (by decide) (fun c9 => ?_) (fun c9 => ?_)
  · have H := H.2.1 c9
    refine sj_iconst S dX2_changePairs_8 ?_
    refine sj_istore_n (lv' := [(0, .ref (g.2.2 24)), (1, .ref (g.2.2 2)), (2, .int (sq_z v2))]) S dX2_changePairs_9 rfl (by decide) (fun _ => rfl) ?_
    intro y9 e9; subst e9
    refine sj_iconst S dX2_changePairs_10 ?_
    refine sj_istore (lv' := [(3, .int (sq_z (-1))), (0, .ref (g.2.2 24)), (1, .ref (g.2.2 2)), (2, .int (sq_z v2))]) S dX2_changePairs_11 (by decide) (fun _ => rfl) ?_
    intro y9 e9; subst e9
    exact sj_lv S [2, 3, 1, 0] rfl H
  · have H := H.2.2 c9
    refine sj_iconst S dX2_changePairs_4 ?_
    refine sj_goto (tgt := 9) S dX2_changePairs_5 (by decide) ?_
    refine sj_istore_n (lv' := [(0, .ref (g.2.2 24)), (1, .ref (g.2.2 2)), (2, .int (sq_z v2))]) S dX2_changePairs_9 rfl (by decide) (fun _ => rfl) ?_
    intro y9 e9; subst e9
    refine sj_iconst S dX2_changePairs_10 ?_
    refine sj_istore (lv' := [(3, .int (sq_z 1)), (0, .ref (g.2.2 24)), (1, .ref (g.2.2 2)), (2, .int (sq_z v2))]) S dX2_changePairs_11 (by decide) (fun _ => rfl) ?_
    intro y9 e9; subst e9
    exact sj_lv S [2, 3, 1, 0] rfl H
set_option maxRecDepth 100000 in
set_option maxHeartbeats 4000000 in
theorem kX2_changePairs (l : Launch) (g : sq_G) (v2 : Int) (st : sq_S) (Q : Int → sq_S → Prop) (H : wX2_changePairs v2 st Q) : sq_Cv l yX2_changePairs wsX2_changePairs rX2_changePairs g sq_X [.ref (g.2.2 24), .ref (g.2.2 2), .int (sq_z v2)] st Q := by
  refine sq_in_v (cc := cX2_changePairs) (nL := 7) (own := RX2) (by decide) rfl rfl (Nat.le_of_ble_eq_true rfl) ?_
  intro J S hret
  exact tX2_changePairs_0 S hret v2 st (H (qX2_changePairs_13 J g) (tX2_changePairs_13 S hret))
/-! orderByKey (LSecretSquares$Desk;)V : X2_orderByKey -/
theorem iX2_orderByKey_0 : ∀ w ∈ u_ws RX0 TX0 9, w ∈ wsX2_orderByKey := fun _ h => List.mem_cons_of_mem _ (List.mem_append_left _ (List.mem_append_right _ h))
theorem iX2_orderByKey_2 : ∀ w ∈ u_ws RX2 TX2 5, w ∈ wsX2_orderByKey := fun _ h => List.mem_cons_of_mem _ (List.mem_append_right _ h)
theorem mX2_orderByKey_22 : Cond.fieldLink RX2 22 (TX2 2).1 (TX2 2).2.1 (TX2 2).2.2.1 ∈ wsX2_orderByKey := List.mem_of_getElem? (i := 3) rfl
theorem mX2_orderByKey_35 : Cond.fieldLink RX2 35 (TX0 3).1 (TX0 3).2.1 (TX0 3).2.2.1 ∈ wsX2_orderByKey := List.mem_of_getElem? (i := 1) rfl
theorem mX2_orderByKey_41 : Cond.fieldLink RX2 41 (TX0 2).1 (TX0 2).2.1 (TX0 2).2.2.1 ∈ wsX2_orderByKey := List.mem_of_getElem? (i := 2) rfl
def bX2_orderByKey_4 (K4 : Int → Int → sq_S → Prop) (K13 : Int → Int → Int → sq_S → Prop) (Q : Int → sq_S → Prop) (v2 v3 : Int) (st : sq_S) : Prop :=
  (sq_rg v3 ∧ sq_rg 16) ∧ (16 ≤ v3 → Q 0 st) ∧ (v3 < 16 → K13 v2 v3 0 st)
def bX2_orderByKey_13 (K4 : Int → Int → sq_S → Prop) (K13 : Int → Int → Int → sq_S → Prop) (Q : Int → sq_S → Prop) (v2 v3 v4 : Int) (st : sq_S) : Prop :=
  (sq_rg v4 ∧ sq_rg (st 2 3)) ∧ ((st 2 3) ≤ v4 → K4 v2 (v3 + 1) st) ∧ (v4 < (st 2 3) → sq_ib v4 6 ∧ ((sq_rg (st 4 v4.toNat) ∧ sq_rg v3) ∧ (¬ (st 4 v4.toNat) = v3 → K13 v2 v3 (v4 + 1) st) ∧ ((st 4 v4.toNat) = v3 → sq_ib v2 6 ∧ (∀ st108 : sq_S, st108 = sq_set st 29 v2.toNat v4 → (K13 (v2 + 1) v3 (v4 + 1) st108)))))
def bX2_orderByKey_0 (K4 : Int → Int → sq_S → Prop) (K13 : Int → Int → Int → sq_S → Prop) (Q : Int → sq_S → Prop) (st : sq_S) : Prop :=
  K4 0 0 st
def wX2_orderByKey (st : sq_S) (Q : Int → sq_S → Prop) : Prop :=
  ∀ (K4 : Int → Int → sq_S → Prop) (K13 : Int → Int → Int → sq_S → Prop), (∀ (v2 v3 : Int) (st : sq_S), bX2_orderByKey_4 K4 K13 Q v2 v3 st → K4 v2 v3 st) → (∀ (v2 v3 v4 : Int) (st : sq_S), bX2_orderByKey_13 K4 K13 Q v2 v3 v4 st → K13 v2 v3 v4 st) → bX2_orderByKey_0 K4 K13 Q  st
def rX2_orderByKey : Room := { frames := 0, cells := 0, slots := 0, locals := 0 }
def qX2_orderByKey_4 (J : sq_K) (g : sq_G) : Int → Int → sq_S → Prop := fun v2 v3 st => J 4 [(0, .ref (g.2.2 24)), (1, .ref (g.2.2 2)), (2, .int (sq_z v2)), (3, .int (sq_z v3))] [] st
def qX2_orderByKey_13 (J : sq_K) (g : sq_G) : Int → Int → Int → sq_S → Prop := fun v2 v3 v4 st => J 13 [(0, .ref (g.2.2 24)), (1, .ref (g.2.2 2)), (2, .int (sq_z v2)), (3, .int (sq_z v3)), (4, .int (sq_z v4))] [] st
set_option maxRecDepth 100000 in
set_option maxHeartbeats 4000000 in
theorem tX2_orderByKey_4 {l : Launch} {g : sq_G} {J : sq_K} {Q : Int → sq_S → Prop} (S : sq_J l rX2_orderByKey cX2_orderByKey 5 RX2 wsX2_orderByKey g sq_X J) (hret : ∀ (pc : Nat) (lv : List (Nat × Value)) (st' : sq_S), decode cX2_orderByKey pc = .ok (.return_, 1) → Q 0 st' → J pc lv [] st') (v2 v3 : Int) (st : sq_S) (H : bX2_orderByKey_4 (qX2_orderByKey_4 J g) (qX2_orderByKey_13 J g) Q v2 v3 st) : J 4 [(0, .ref (g.2.2 24)), (1, .ref (g.2.2 2)), (2, .int (sq_z v2)), (3, .int (sq_z v3))] [] st := by
  unfold bX2_orderByKey_4 at H
  refine sj_iload_n (pl := 3) S dX2_orderByKey_4 rfl rfl ?_
  refine sj_bipush S dX2_orderByKey_5 (by decide +kernel) ?_
  refine sj_icmp_ge (tgt := 56) S H.1 dX2_orderByKey_7 (by decide) (fun c9 => ?_) (fun c9 => ?_)
  · have H := H.2.1 c9
    exact hret _ _ _ dX2_orderByKey_56 H
  · have H := H.2.2 c9
    refine sj_iconst S dX2_orderByKey_10 ?_
    refine sj_istore (lv' := [(0, .ref (g.2.2 24)), (1, .ref (g.2.2 2)), (2, .int (sq_z v2)), (3, .int (sq_z v3))]) S dX2_orderByKey_11 (by decide) (fun _ => rfl) ?_
    intro y9 e9; subst e9
    exact sj_lv S [1, 2, 3, 4, 0] rfl H
set_option maxRecDepth 100000 in
set_option maxHeartbeats 4000000 in
theorem tX2_orderByKey_13 {l : Launch} {g : sq_G} {J : sq_K} {Q : Int → sq_S → Prop} (S : sq_J l rX2_orderByKey cX2_orderByKey 5 RX2 wsX2_orderByKey g sq_X J) (hret : ∀ (pc : Nat) (lv : List (Nat × Value)) (st' : sq_S), decode cX2_orderByKey pc = .ok (.return_, 1) → Q 0 st' → J pc lv [] st') (v2 v3 v4 : Int) (st : sq_S) (H : bX2_orderByKey_13 (qX2_orderByKey_4 J g) (qX2_orderByKey_13 J g) Q v2 v3 v4 st) : J 13 [(0, .ref (g.2.2 24)), (1, .ref (g.2.2 2)), (2, .int (sq_z v2)), (3, .int (sq_z v3)), (4, .int (sq_z v4))] [] st := by
  unfold bX2_orderByKey_13 at H
  refine sj_iload (pl := 4) S dX2_orderByKey_13 rfl ?_
  refine sj_aload_n (pl := 1) S dX2_orderByKey_15 rfl rfl ?_
  refine sj_geti S fX_2_3 iX2_orderByKey_0 rfl (by decide) mX2_orderByKey_35 dX2_orderByKey_16 ?_
  refine sj_icmp_ge (tgt := 50) S H.1 dX2_orderByKey_19 (by decide) (fun c9 => ?_) (fun c9 => ?_)
  · have H := H.2.1 c9
    refine sj_iinc (pl := 3) (lv' := [(0, .ref (g.2.2 24)), (1, .ref (g.2.2 2)), (2, .int (sq_z v2)), (4, .int (sq_z v4))]) S dX2_orderByKey_50 rfl (by decide) (fun _ => rfl) ?_
    refine sj_goto (tgt := 4) S dX2_orderByKey_53 (by decide) ?_
    exact sj_lv S [1, 2, 3, 0] rfl H
  · have H := H.2.2 c9
    refine sj_aload_n (pl := 1) S dX2_orderByKey_22 rfl rfl ?_
    refine sj_getr S fX_2_2 iX2_orderByKey_0 rfl (by decide) mX2_orderByKey_41 dX2_orderByKey_23 ?_
    refine sj_iload (pl := 4) S dX2_orderByKey_26 rfl ?_
    refine sj_iald S aX_4 H.1 dX2_orderByKey_28 ?_
    have H := H.2
    refine sj_iload_n (pl := 3) S dX2_orderByKey_29 rfl rfl ?_
    refine sj_icmp_ne (tgt := 44) S H.1 dX2_orderByKey_30 (by decide) (fun c9 => ?_) (fun c9 => ?_)
    · have H := H.2.1 c9
      refine sj_iinc (pl := 4) (lv' := [(0, .ref (g.2.2 24)), (1, .ref (g.2.2 2)), (2, .int (sq_z v2)), (3, .int (sq_z v3))]) S dX2_orderByKey_44 rfl (by decide) (fun _ => rfl) ?_
      refine sj_goto (tgt := 13) S dX2_orderByKey_47 (by decide) ?_
      exact sj_lv S [1, 2, 3, 4, 0] rfl H
    · have H := H.2.2 c9
      refine sj_aload_n (pl := 0) S dX2_orderByKey_33 rfl rfl ?_
      refine sj_getr S fX_24_2 iX2_orderByKey_2 rfl (by decide) mX2_orderByKey_22 dX2_orderByKey_34 ?_
      refine sj_iload_n (pl := 2) S dX2_orderByKey_37 rfl rfl ?_
      refine sj_iload (pl := 4) S dX2_orderByKey_38 rfl ?_
      refine sj_iast S aX_29 H.1 dX2_orderByKey_40 (fun st108 est108 => ?_)
      have H := H.2 st108 est108
      refine sj_iinc (pl := 2) (lv' := [(0, .ref (g.2.2 24)), (1, .ref (g.2.2 2)), (3, .int (sq_z v3)), (4, .int (sq_z v4))]) S dX2_orderByKey_41 rfl (by decide) (fun _ => rfl) ?_
      refine sj_iinc (pl := 4) (lv' := [(2, .int (sq_z (v2 + 1))), (0, .ref (g.2.2 24)), (1, .ref (g.2.2 2)), (3, .int (sq_z v3))]) S dX2_orderByKey_44 rfl (by decide) (fun _ => rfl) ?_
      refine sj_goto (tgt := 13) S dX2_orderByKey_47 (by decide) ?_
      exact sj_lv S [2, 3, 1, 4, 0] rfl H
set_option maxRecDepth 100000 in
set_option maxHeartbeats 4000000 in
theorem tX2_orderByKey_0 {l : Launch} {g : sq_G} {J : sq_K} {Q : Int → sq_S → Prop} (S : sq_J l rX2_orderByKey cX2_orderByKey 5 RX2 wsX2_orderByKey g sq_X J) (hret : ∀ (pc : Nat) (lv : List (Nat × Value)) (st' : sq_S), decode cX2_orderByKey pc = .ok (.return_, 1) → Q 0 st' → J pc lv [] st') (st : sq_S) (H : bX2_orderByKey_0 (qX2_orderByKey_4 J g) (qX2_orderByKey_13 J g) Q st) : J 0 [(0, .ref (g.2.2 24)), (1, .ref (g.2.2 2))] [] st := by
  unfold bX2_orderByKey_0 at H
  refine sj_iconst S dX2_orderByKey_0 ?_
  refine sj_istore_n (lv' := [(0, .ref (g.2.2 24)), (1, .ref (g.2.2 2))]) S dX2_orderByKey_1 rfl (by decide) (fun _ => rfl) ?_
  intro y9 e9; subst e9
  refine sj_iconst S dX2_orderByKey_2 ?_
  refine sj_istore_n (lv' := [(2, .int (sq_z 0)), (0, .ref (g.2.2 24)), (1, .ref (g.2.2 2))]) S dX2_orderByKey_3 rfl (by decide) (fun _ => rfl) ?_
  intro y9 e9; subst e9
  exact sj_lv S [2, 3, 1, 0] rfl H
set_option maxRecDepth 100000 in
set_option maxHeartbeats 4000000 in
theorem kX2_orderByKey (l : Launch) (g : sq_G) (st : sq_S) (Q : Int → sq_S → Prop) (H : wX2_orderByKey  st Q) : sq_Cv l yX2_orderByKey wsX2_orderByKey rX2_orderByKey g sq_X [.ref (g.2.2 24), .ref (g.2.2 2)] st Q := by
  refine sq_in_v (cc := cX2_orderByKey) (nL := 5) (own := RX2) (by decide) rfl rfl (Nat.le_of_ble_eq_true rfl) ?_
  intro J S hret
  exact tX2_orderByKey_0 S hret  st (H (qX2_orderByKey_4 J g) (qX2_orderByKey_13 J g) (tX2_orderByKey_4 S hret) (tX2_orderByKey_13 S hret))
end
