section
-- ===== PART A: goes FIRST, ahead of the names: the tables' words, and 'selects' of the private methods out of them =====
/-- a private method of a class that the tables say can be made, by its rows of tables_1 -/
def lw_okq (q : MethodName × Nat) : Prop := (q.1.cls ≠ "java/lang/invoke/MethodHandle" ∧ q.1.cls ≠ "java/lang/invoke/VarHandle") ∧ Cond.instantiable q.1.cls q.2 ∈ tables_1 ∧ Cond.privateMethod q.1 ∈ tables_1 ∧ Cond.instanceMethod q.1 ∈ tables_1
theorem lw_p0 : lw_okq (⟨"CellPictures$Tape", "append", "(I)V"⟩, 2) := ⟨⟨by decide +kernel, by decide +kernel⟩, List.mem_of_getElem? (i := 24) (by decide +kernel), List.mem_of_getElem? (i := 285) (by decide +kernel), List.mem_of_getElem? (i := 286) (by decide +kernel)⟩
theorem lw_p1 : lw_okq (⟨"CellPictures$TextReader", "readsAll", "()Z"⟩, 8) := ⟨⟨by decide +kernel, by decide +kernel⟩, List.mem_of_getElem? (i := 84) (by decide +kernel), List.mem_of_getElem? (i := 297) (by decide +kernel), List.mem_of_getElem? (i := 298) (by decide +kernel)⟩
theorem lw_p2 : lw_okq (⟨"CellPictures$TextReader", "cutsClean", "()Z"⟩, 8) := ⟨⟨by decide +kernel, by decide +kernel⟩, List.mem_of_getElem? (i := 84) (by decide +kernel), List.mem_of_getElem? (i := 301) (by decide +kernel), List.mem_of_getElem? (i := 302) (by decide +kernel)⟩
theorem lw_p3 : lw_okq (⟨"CellPictures$Tape", "byteAt", "(I)I"⟩, 2) := ⟨⟨by decide +kernel, by decide +kernel⟩, List.mem_of_getElem? (i := 24) (by decide +kernel), List.mem_of_getElem? (i := 305) (by decide +kernel), List.mem_of_getElem? (i := 306) (by decide +kernel)⟩
theorem lw_p4 : lw_okq (⟨"CellPictures$TextReader", "refuse", "(I)Z"⟩, 8) := ⟨⟨by decide +kernel, by decide +kernel⟩, List.mem_of_getElem? (i := 84) (by decide +kernel), List.mem_of_getElem? (i := 318) (by decide +kernel), List.mem_of_getElem? (i := 319) (by decide +kernel)⟩
theorem lw_p5 : lw_okq (⟨"CellPictures$TextReader", "advance", "()V"⟩, 8) := ⟨⟨by decide +kernel, by decide +kernel⟩, List.mem_of_getElem? (i := 84) (by decide +kernel), List.mem_of_getElem? (i := 322) (by decide +kernel), List.mem_of_getElem? (i := 323) (by decide +kernel)⟩
theorem lw_p6 : lw_okq (⟨"CellPictures$TextReader", "endOfDigits", "(I)I"⟩, 8) := ⟨⟨by decide +kernel, by decide +kernel⟩, List.mem_of_getElem? (i := 84) (by decide +kernel), List.mem_of_getElem? (i := 326) (by decide +kernel), List.mem_of_getElem? (i := 327) (by decide +kernel)⟩
theorem lw_p7 : lw_okq (⟨"CellPictures$TextReader", "readsHead", "()Z"⟩, 8) := ⟨⟨by decide +kernel, by decide +kernel⟩, List.mem_of_getElem? (i := 84) (by decide +kernel), List.mem_of_getElem? (i := 330) (by decide +kernel), List.mem_of_getElem? (i := 331) (by decide +kernel)⟩
theorem lw_p8 : lw_okq (⟨"CellPictures$TextReader", "sizeRead", "(I)I"⟩, 8) := ⟨⟨by decide +kernel, by decide +kernel⟩, List.mem_of_getElem? (i := 84) (by decide +kernel), List.mem_of_getElem? (i := 334) (by decide +kernel), List.mem_of_getElem? (i := 335) (by decide +kernel)⟩
theorem lw_p9 : lw_okq (⟨"CellPictures$Clues", "begin", "(III)V"⟩, 7) := ⟨⟨by decide +kernel, by decide +kernel⟩, List.mem_of_getElem? (i := 40) (by decide +kernel), List.mem_of_getElem? (i := 341) (by decide +kernel), List.mem_of_getElem? (i := 342) (by decide +kernel)⟩
theorem lw_p10 : lw_okq (⟨"CellPictures$Clues", "lines", "()I"⟩, 7) := ⟨⟨by decide +kernel, by decide +kernel⟩, List.mem_of_getElem? (i := 40) (by decide +kernel), List.mem_of_getElem? (i := 346) (by decide +kernel), List.mem_of_getElem? (i := 347) (by decide +kernel)⟩
theorem lw_p11 : lw_okq (⟨"CellPictures$TextReader", "readsLine", "(I)Z"⟩, 8) := ⟨⟨by decide +kernel, by decide +kernel⟩, List.mem_of_getElem? (i := 84) (by decide +kernel), List.mem_of_getElem? (i := 350) (by decide +kernel), List.mem_of_getElem? (i := 351) (by decide +kernel)⟩
theorem lw_p12 : lw_okq (⟨"CellPictures$TextReader", "readsRun", "(II)Z"⟩, 8) := ⟨⟨by decide +kernel, by decide +kernel⟩, List.mem_of_getElem? (i := 84) (by decide +kernel), List.mem_of_getElem? (i := 354) (by decide +kernel), List.mem_of_getElem? (i := 355) (by decide +kernel)⟩
theorem lw_p13 : lw_okq (⟨"CellPictures$Clues", "add", "(III)V"⟩, 7) := ⟨⟨by decide +kernel, by decide +kernel⟩, List.mem_of_getElem? (i := 40) (by decide +kernel), List.mem_of_getElem? (i := 358) (by decide +kernel), List.mem_of_getElem? (i := 359) (by decide +kernel)⟩
theorem lw_p14 : lw_okq (⟨"CellPictures$Clues", "fitsItsCells", "(I)Z"⟩, 7) := ⟨⟨by decide +kernel, by decide +kernel⟩, List.mem_of_getElem? (i := 40) (by decide +kernel), List.mem_of_getElem? (i := 362) (by decide +kernel), List.mem_of_getElem? (i := 363) (by decide +kernel)⟩
theorem lw_p15 : lw_okq (⟨"CellPictures$Clues", "lengthOf", "(II)I"⟩, 7) := ⟨⟨by decide +kernel, by decide +kernel⟩, List.mem_of_getElem? (i := 40) (by decide +kernel), List.mem_of_getElem? (i := 366) (by decide +kernel), List.mem_of_getElem? (i := 367) (by decide +kernel)⟩
def lw_privs_1 : List (MethodName × Nat) := [(⟨"CellPictures$Tape", "append", "(I)V"⟩, 2), (⟨"CellPictures$TextReader", "readsAll", "()Z"⟩, 8), (⟨"CellPictures$TextReader", "cutsClean", "()Z"⟩, 8), (⟨"CellPictures$Tape", "byteAt", "(I)I"⟩, 2), (⟨"CellPictures$TextReader", "refuse", "(I)Z"⟩, 8), (⟨"CellPictures$TextReader", "advance", "()V"⟩, 8), (⟨"CellPictures$TextReader", "endOfDigits", "(I)I"⟩, 8), (⟨"CellPictures$TextReader", "readsHead", "()Z"⟩, 8), (⟨"CellPictures$TextReader", "sizeRead", "(I)I"⟩, 8), (⟨"CellPictures$Clues", "begin", "(III)V"⟩, 7), (⟨"CellPictures$Clues", "lines", "()I"⟩, 7), (⟨"CellPictures$TextReader", "readsLine", "(I)Z"⟩, 8), (⟨"CellPictures$TextReader", "readsRun", "(II)Z"⟩, 8), (⟨"CellPictures$Clues", "add", "(III)V"⟩, 7), (⟨"CellPictures$Clues", "fitsItsCells", "(I)Z"⟩, 7), (⟨"CellPictures$Clues", "lengthOf", "(II)I"⟩, 7)]
theorem lw_r1 : ∀ q ∈ lw_privs_1, lw_okq q := List.forall_mem_cons.mpr ⟨lw_p0, List.forall_mem_cons.mpr ⟨lw_p1, List.forall_mem_cons.mpr ⟨lw_p2, List.forall_mem_cons.mpr ⟨lw_p3, List.forall_mem_cons.mpr ⟨lw_p4, List.forall_mem_cons.mpr ⟨lw_p5, List.forall_mem_cons.mpr ⟨lw_p6, List.forall_mem_cons.mpr ⟨lw_p7, List.forall_mem_cons.mpr ⟨lw_p8, List.forall_mem_cons.mpr ⟨lw_p9, List.forall_mem_cons.mpr ⟨lw_p10, List.forall_mem_cons.mpr ⟨lw_p11, List.forall_mem_cons.mpr ⟨lw_p12, List.forall_mem_cons.mpr ⟨lw_p13, List.forall_mem_cons.mpr ⟨lw_p14, List.forall_mem_cons.mpr ⟨lw_p15, fun _ h => absurd h List.not_mem_nil⟩⟩⟩⟩⟩⟩⟩⟩⟩⟩⟩⟩⟩⟩⟩⟩
theorem lw_p16 : lw_okq (⟨"CellPictures$Clues", "needsGapAhead", "(II)Z"⟩, 7) := ⟨⟨by decide +kernel, by decide +kernel⟩, List.mem_of_getElem? (i := 40) (by decide +kernel), List.mem_of_getElem? (i := 370) (by decide +kernel), List.mem_of_getElem? (i := 371) (by decide +kernel)⟩
theorem lw_p17 : lw_okq (⟨"CellPictures$Clues", "cellsOf", "(I)I"⟩, 7) := ⟨⟨by decide +kernel, by decide +kernel⟩, List.mem_of_getElem? (i := 40) (by decide +kernel), List.mem_of_getElem? (i := 374) (by decide +kernel), List.mem_of_getElem? (i := 375) (by decide +kernel)⟩
theorem lw_p18 : lw_okq (⟨"CellPictures$Clues", "isBalanced", "()Z"⟩, 7) := ⟨⟨by decide +kernel, by decide +kernel⟩, List.mem_of_getElem? (i := 40) (by decide +kernel), List.mem_of_getElem? (i := 378) (by decide +kernel), List.mem_of_getElem? (i := 379) (by decide +kernel)⟩
theorem lw_p19 : lw_okq (⟨"CellPictures$Clues", "cellsTold", "(III)I"⟩, 7) := ⟨⟨by decide +kernel, by decide +kernel⟩, List.mem_of_getElem? (i := 40) (by decide +kernel), List.mem_of_getElem? (i := 382) (by decide +kernel), List.mem_of_getElem? (i := 383) (by decide +kernel)⟩
theorem lw_p20 : lw_okq (⟨"CellPictures$Clues", "colourOf", "(II)I"⟩, 7) := ⟨⟨by decide +kernel, by decide +kernel⟩, List.mem_of_getElem? (i := 40) (by decide +kernel), List.mem_of_getElem? (i := 386) (by decide +kernel), List.mem_of_getElem? (i := 387) (by decide +kernel)⟩
theorem lw_p21 : lw_okq (⟨"CellPictures$Clues", "copy", "(LCellPictures$Clues;)V"⟩, 7) := ⟨⟨by decide +kernel, by decide +kernel⟩, List.mem_of_getElem? (i := 40) (by decide +kernel), List.mem_of_getElem? (i := 391) (by decide +kernel), List.mem_of_getElem? (i := 392) (by decide +kernel)⟩
theorem lw_p22 : lw_okq (⟨"CellPictures$Grid", "clear", "()V"⟩, 2) := ⟨⟨by decide +kernel, by decide +kernel⟩, List.mem_of_getElem? (i := 117) (by decide +kernel), List.mem_of_getElem? (i := 398) (by decide +kernel), List.mem_of_getElem? (i := 399) (by decide +kernel)⟩
theorem lw_p23 : lw_okq (⟨"CellPictures", "beginPuzzle", "()V"⟩, 14) := ⟨⟨by decide +kernel, by decide +kernel⟩, List.mem_of_getElem? (i := 16) (by decide +kernel), List.mem_of_getElem? (i := 402) (by decide +kernel), List.mem_of_getElem? (i := 403) (by decide +kernel)⟩
theorem lw_p24 : lw_okq (⟨"CellPictures$Found", "forgetAll", "()V"⟩, 5) := ⟨⟨by decide +kernel, by decide +kernel⟩, List.mem_of_getElem? (i := 206) (by decide +kernel), List.mem_of_getElem? (i := 406) (by decide +kernel), List.mem_of_getElem? (i := 407) (by decide +kernel)⟩
theorem lw_p25 : lw_okq (⟨"CellPictures", "hasPuzzle", "()Z"⟩, 14) := ⟨⟨by decide +kernel, by decide +kernel⟩, List.mem_of_getElem? (i := 16) (by decide +kernel), List.mem_of_getElem? (i := 424) (by decide +kernel), List.mem_of_getElem? (i := 425) (by decide +kernel)⟩
theorem lw_p26 : lw_okq (⟨"CellPictures$Sets", "countSingles", "()I"⟩, 2) := ⟨⟨by decide +kernel, by decide +kernel⟩, List.mem_of_getElem? (i := 163) (by decide +kernel), List.mem_of_getElem? (i := 429) (by decide +kernel), List.mem_of_getElem? (i := 430) (by decide +kernel)⟩
theorem lw_p27 : lw_okq (⟨"CellPictures$Sets", "valuesAt", "(II)I"⟩, 2) := ⟨⟨by decide +kernel, by decide +kernel⟩, List.mem_of_getElem? (i := 163) (by decide +kernel), List.mem_of_getElem? (i := 433) (by decide +kernel), List.mem_of_getElem? (i := 434) (by decide +kernel)⟩
theorem lw_p28 : lw_okq (⟨"CellPictures", "isLine", "(I)Z"⟩, 14) := ⟨⟨by decide +kernel, by decide +kernel⟩, List.mem_of_getElem? (i := 16) (by decide +kernel), List.mem_of_getElem? (i := 451) (by decide +kernel), List.mem_of_getElem? (i := 452) (by decide +kernel)⟩
theorem lw_p29 : lw_okq (⟨"CellPictures", "isCell", "(II)Z"⟩, 14) := ⟨⟨by decide +kernel, by decide +kernel⟩, List.mem_of_getElem? (i := 16) (by decide +kernel), List.mem_of_getElem? (i := 461) (by decide +kernel), List.mem_of_getElem? (i := 462) (by decide +kernel)⟩
theorem lw_p30 : lw_okq (⟨"CellPictures", "isValueOrNone", "(I)Z"⟩, 14) := ⟨⟨by decide +kernel, by decide +kernel⟩, List.mem_of_getElem? (i := 16) (by decide +kernel), List.mem_of_getElem? (i := 465) (by decide +kernel), List.mem_of_getElem? (i := 466) (by decide +kernel)⟩
theorem lw_p31 : lw_okq (⟨"CellPictures$Grid", "put", "(III)V"⟩, 2) := ⟨⟨by decide +kernel, by decide +kernel⟩, List.mem_of_getElem? (i := 117) (by decide +kernel), List.mem_of_getElem? (i := 469) (by decide +kernel), List.mem_of_getElem? (i := 470) (by decide +kernel)⟩
def lw_privs_2 : List (MethodName × Nat) := [(⟨"CellPictures$Clues", "needsGapAhead", "(II)Z"⟩, 7), (⟨"CellPictures$Clues", "cellsOf", "(I)I"⟩, 7), (⟨"CellPictures$Clues", "isBalanced", "()Z"⟩, 7), (⟨"CellPictures$Clues", "cellsTold", "(III)I"⟩, 7), (⟨"CellPictures$Clues", "colourOf", "(II)I"⟩, 7), (⟨"CellPictures$Clues", "copy", "(LCellPictures$Clues;)V"⟩, 7), (⟨"CellPictures$Grid", "clear", "()V"⟩, 2), (⟨"CellPictures", "beginPuzzle", "()V"⟩, 14), (⟨"CellPictures$Found", "forgetAll", "()V"⟩, 5), (⟨"CellPictures", "hasPuzzle", "()Z"⟩, 14), (⟨"CellPictures$Sets", "countSingles", "()I"⟩, 2), (⟨"CellPictures$Sets", "valuesAt", "(II)I"⟩, 2), (⟨"CellPictures", "isLine", "(I)Z"⟩, 14), (⟨"CellPictures", "isCell", "(II)Z"⟩, 14), (⟨"CellPictures", "isValueOrNone", "(I)Z"⟩, 14), (⟨"CellPictures$Grid", "put", "(III)V"⟩, 2)]
theorem lw_r2 : ∀ q ∈ lw_privs_2, lw_okq q := List.forall_mem_cons.mpr ⟨lw_p16, List.forall_mem_cons.mpr ⟨lw_p17, List.forall_mem_cons.mpr ⟨lw_p18, List.forall_mem_cons.mpr ⟨lw_p19, List.forall_mem_cons.mpr ⟨lw_p20, List.forall_mem_cons.mpr ⟨lw_p21, List.forall_mem_cons.mpr ⟨lw_p22, List.forall_mem_cons.mpr ⟨lw_p23, List.forall_mem_cons.mpr ⟨lw_p24, List.forall_mem_cons.mpr ⟨lw_p25, List.forall_mem_cons.mpr ⟨lw_p26, List.forall_mem_cons.mpr ⟨lw_p27, List.forall_mem_cons.mpr ⟨lw_p28, List.forall_mem_cons.mpr ⟨lw_p29, List.forall_mem_cons.mpr ⟨lw_p30, List.forall_mem_cons.mpr ⟨lw_p31, fun _ h => absurd h List.not_mem_nil⟩⟩⟩⟩⟩⟩⟩⟩⟩⟩⟩⟩⟩⟩⟩⟩
theorem lw_p32 : lw_okq (⟨"CellPictures$Grid", "at", "(II)I"⟩, 2) := ⟨⟨by decide +kernel, by decide +kernel⟩, List.mem_of_getElem? (i := 117) (by decide +kernel), List.mem_of_getElem? (i := 473) (by decide +kernel), List.mem_of_getElem? (i := 474) (by decide +kernel)⟩
theorem lw_p33 : lw_okq (⟨"CellPictures$Found", "forgetSolutions", "()V"⟩, 5) := ⟨⟨by decide +kernel, by decide +kernel⟩, List.mem_of_getElem? (i := 206) (by decide +kernel), List.mem_of_getElem? (i := 477) (by decide +kernel), List.mem_of_getElem? (i := 478) (by decide +kernel)⟩
theorem lw_p34 : lw_okq (⟨"CellPictures$Sets", "become", "(LCellPictures$Grid;)V"⟩, 2) := ⟨⟨by decide +kernel, by decide +kernel⟩, List.mem_of_getElem? (i := 163) (by decide +kernel), List.mem_of_getElem? (i := 490) (by decide +kernel), List.mem_of_getElem? (i := 491) (by decide +kernel)⟩
theorem lw_p35 : lw_okq (⟨"CellPictures$Sets", "fill", "()V"⟩, 2) := ⟨⟨by decide +kernel, by decide +kernel⟩, List.mem_of_getElem? (i := 163) (by decide +kernel), List.mem_of_getElem? (i := 494) (by decide +kernel), List.mem_of_getElem? (i := 495) (by decide +kernel)⟩
theorem lw_p36 : lw_okq (⟨"CellPictures$Sets", "tell", "(LCellPictures$Grid;)V"⟩, 2) := ⟨⟨by decide +kernel, by decide +kernel⟩, List.mem_of_getElem? (i := 163) (by decide +kernel), List.mem_of_getElem? (i := 500) (by decide +kernel), List.mem_of_getElem? (i := 501) (by decide +kernel)⟩
theorem lw_p37 : lw_okq (⟨"CellPictures$Sets", "fix", "(III)V"⟩, 2) := ⟨⟨by decide +kernel, by decide +kernel⟩, List.mem_of_getElem? (i := 163) (by decide +kernel), List.mem_of_getElem? (i := 505) (by decide +kernel), List.mem_of_getElem? (i := 506) (by decide +kernel)⟩
theorem lw_p38 : lw_okq (⟨"CellPictures$LineRule", "keptOf", "(IJ)J"⟩, 5) := ⟨⟨by decide +kernel, by decide +kernel⟩, List.mem_of_getElem? (i := 134) (by decide +kernel), List.mem_of_getElem? (i := 514) (by decide +kernel), List.mem_of_getElem? (i := 515) (by decide +kernel)⟩
theorem lw_p39 : lw_okq (⟨"CellPictures$Sets", "narrow", "(IJ)I"⟩, 2) := ⟨⟨by decide +kernel, by decide +kernel⟩, List.mem_of_getElem? (i := 163) (by decide +kernel), List.mem_of_getElem? (i := 537) (by decide +kernel), List.mem_of_getElem? (i := 538) (by decide +kernel)⟩
theorem lw_p40 : lw_okq (⟨"CellPictures$LineRule", "countWays", "(IJ)J"⟩, 5) := ⟨⟨by decide +kernel, by decide +kernel⟩, List.mem_of_getElem? (i := 134) (by decide +kernel), List.mem_of_getElem? (i := 547) (by decide +kernel), List.mem_of_getElem? (i := 548) (by decide +kernel)⟩
theorem lw_p41 : lw_okq (⟨"CellPictures$LineRule", "countRun", "(IIJ)V"⟩, 5) := ⟨⟨by decide +kernel, by decide +kernel⟩, List.mem_of_getElem? (i := 134) (by decide +kernel), List.mem_of_getElem? (i := 551) (by decide +kernel), List.mem_of_getElem? (i := 552) (by decide +kernel)⟩
theorem lw_p42 : lw_okq (⟨"CellPictures$Clues", "allLines", "()I"⟩, 7) := ⟨⟨by decide +kernel, by decide +kernel⟩, List.mem_of_getElem? (i := 40) (by decide +kernel), List.mem_of_getElem? (i := 561) (by decide +kernel), List.mem_of_getElem? (i := 562) (by decide +kernel)⟩
theorem lw_p43 : lw_okq (⟨"CellPictures$Solver", "settle", "(LCellPictures$Sets;I)I"⟩, 8) := ⟨⟨by decide +kernel, by decide +kernel⟩, List.mem_of_getElem? (i := 157) (by decide +kernel), List.mem_of_getElem? (i := 565) (by decide +kernel), List.mem_of_getElem? (i := 566) (by decide +kernel)⟩
theorem lw_p44 : lw_okq (⟨"CellPictures$Solver", "sift", "(LCellPictures$Sets;)I"⟩, 8) := ⟨⟨by decide +kernel, by decide +kernel⟩, List.mem_of_getElem? (i := 157) (by decide +kernel), List.mem_of_getElem? (i := 577) (by decide +kernel), List.mem_of_getElem? (i := 578) (by decide +kernel)⟩
theorem lw_p45 : lw_okq (⟨"CellPictures$Solver", "siftCell", "(LCellPictures$Sets;II)I"⟩, 8) := ⟨⟨by decide +kernel, by decide +kernel⟩, List.mem_of_getElem? (i := 157) (by decide +kernel), List.mem_of_getElem? (i := 581) (by decide +kernel), List.mem_of_getElem? (i := 582) (by decide +kernel)⟩
theorem lw_p46 : lw_okq (⟨"CellPictures$Sets", "linesThrough", "(II)I"⟩, 2) := ⟨⟨by decide +kernel, by decide +kernel⟩, List.mem_of_getElem? (i := 163) (by decide +kernel), List.mem_of_getElem? (i := 585) (by decide +kernel), List.mem_of_getElem? (i := 586) (by decide +kernel)⟩
theorem lw_p47 : lw_okq (⟨"CellPictures$Sets", "copy", "(LCellPictures$Sets;)V"⟩, 2) := ⟨⟨by decide +kernel, by decide +kernel⟩, List.mem_of_getElem? (i := 163) (by decide +kernel), List.mem_of_getElem? (i := 591) (by decide +kernel), List.mem_of_getElem? (i := 592) (by decide +kernel)⟩
def lw_privs_3 : List (MethodName × Nat) := [(⟨"CellPictures$Grid", "at", "(II)I"⟩, 2), (⟨"CellPictures$Found", "forgetSolutions", "()V"⟩, 5), (⟨"CellPictures$Sets", "become", "(LCellPictures$Grid;)V"⟩, 2), (⟨"CellPictures$Sets", "fill", "()V"⟩, 2), (⟨"CellPictures$Sets", "tell", "(LCellPictures$Grid;)V"⟩, 2), (⟨"CellPictures$Sets", "fix", "(III)V"⟩, 2), (⟨"CellPictures$LineRule", "keptOf", "(IJ)J"⟩, 5), (⟨"CellPictures$Sets", "narrow", "(IJ)I"⟩, 2), (⟨"CellPictures$LineRule", "countWays", "(IJ)J"⟩, 5), (⟨"CellPictures$LineRule", "countRun", "(IIJ)V"⟩, 5), (⟨"CellPictures$Clues", "allLines", "()I"⟩, 7), (⟨"CellPictures$Solver", "settle", "(LCellPictures$Sets;I)I"⟩, 8), (⟨"CellPictures$Solver", "sift", "(LCellPictures$Sets;)I"⟩, 8), (⟨"CellPictures$Solver", "siftCell", "(LCellPictures$Sets;II)I"⟩, 8), (⟨"CellPictures$Sets", "linesThrough", "(II)I"⟩, 2), (⟨"CellPictures$Sets", "copy", "(LCellPictures$Sets;)V"⟩, 2)]
theorem lw_r3 : ∀ q ∈ lw_privs_3, lw_okq q := List.forall_mem_cons.mpr ⟨lw_p32, List.forall_mem_cons.mpr ⟨lw_p33, List.forall_mem_cons.mpr ⟨lw_p34, List.forall_mem_cons.mpr ⟨lw_p35, List.forall_mem_cons.mpr ⟨lw_p36, List.forall_mem_cons.mpr ⟨lw_p37, List.forall_mem_cons.mpr ⟨lw_p38, List.forall_mem_cons.mpr ⟨lw_p39, List.forall_mem_cons.mpr ⟨lw_p40, List.forall_mem_cons.mpr ⟨lw_p41, List.forall_mem_cons.mpr ⟨lw_p42, List.forall_mem_cons.mpr ⟨lw_p43, List.forall_mem_cons.mpr ⟨lw_p44, List.forall_mem_cons.mpr ⟨lw_p45, List.forall_mem_cons.mpr ⟨lw_p46, List.forall_mem_cons.mpr ⟨lw_p47, fun _ h => absurd h List.not_mem_nil⟩⟩⟩⟩⟩⟩⟩⟩⟩⟩⟩⟩⟩⟩⟩⟩
theorem lw_p48 : lw_okq (⟨"CellPictures$Sets", "drop", "(III)V"⟩, 2) := ⟨⟨by decide +kernel, by decide +kernel⟩, List.mem_of_getElem? (i := 163) (by decide +kernel), List.mem_of_getElem? (i := 598) (by decide +kernel), List.mem_of_getElem? (i := 599) (by decide +kernel)⟩
theorem lw_p49 : lw_okq (⟨"CellPictures$Solver", "seek", "(LCellPictures$Grid;IILCellPictures$Found;)V"⟩, 8) := ⟨⟨by decide +kernel, by decide +kernel⟩, List.mem_of_getElem? (i := 157) (by decide +kernel), List.mem_of_getElem? (i := 611) (by decide +kernel), List.mem_of_getElem? (i := 612) (by decide +kernel)⟩
theorem lw_p50 : lw_okq (⟨"CellPictures$Found", "begin", "()V"⟩, 5) := ⟨⟨by decide +kernel, by decide +kernel⟩, List.mem_of_getElem? (i := 206) (by decide +kernel), List.mem_of_getElem? (i := 615) (by decide +kernel), List.mem_of_getElem? (i := 616) (by decide +kernel)⟩
theorem lw_p51 : lw_okq (⟨"CellPictures$Solver", "opensChoice", "()Z"⟩, 8) := ⟨⟨by decide +kernel, by decide +kernel⟩, List.mem_of_getElem? (i := 157) (by decide +kernel), List.mem_of_getElem? (i := 621) (by decide +kernel), List.mem_of_getElem? (i := 622) (by decide +kernel)⟩
theorem lw_p52 : lw_okq (⟨"CellPictures$Sets", "firstOfFewest", "()I"⟩, 2) := ⟨⟨by decide +kernel, by decide +kernel⟩, List.mem_of_getElem? (i := 163) (by decide +kernel), List.mem_of_getElem? (i := 625) (by decide +kernel), List.mem_of_getElem? (i := 626) (by decide +kernel)⟩
theorem lw_p53 : lw_okq (⟨"CellPictures$Sets", "saveTo", "([JI)V"⟩, 2) := ⟨⟨by decide +kernel, by decide +kernel⟩, List.mem_of_getElem? (i := 163) (by decide +kernel), List.mem_of_getElem? (i := 629) (by decide +kernel), List.mem_of_getElem? (i := 630) (by decide +kernel)⟩
theorem lw_p54 : lw_okq (⟨"CellPictures$Found", "add", "(LCellPictures$Sets;)V"⟩, 5) := ⟨⟨by decide +kernel, by decide +kernel⟩, List.mem_of_getElem? (i := 206) (by decide +kernel), List.mem_of_getElem? (i := 633) (by decide +kernel), List.mem_of_getElem? (i := 634) (by decide +kernel)⟩
theorem lw_p55 : lw_okq (⟨"CellPictures$Found", "kept", "(I)LCellPictures$Grid;"⟩, 5) := ⟨⟨by decide +kernel, by decide +kernel⟩, List.mem_of_getElem? (i := 206) (by decide +kernel), List.mem_of_getElem? (i := 637) (by decide +kernel), List.mem_of_getElem? (i := 638) (by decide +kernel)⟩
theorem lw_p56 : lw_okq (⟨"CellPictures$Solver", "closeEmptyChoices", "()V"⟩, 8) := ⟨⟨by decide +kernel, by decide +kernel⟩, List.mem_of_getElem? (i := 157) (by decide +kernel), List.mem_of_getElem? (i := 646) (by decide +kernel), List.mem_of_getElem? (i := 647) (by decide +kernel)⟩
theorem lw_p57 : lw_okq (⟨"CellPictures$Solver", "followsChoice", "()Z"⟩, 8) := ⟨⟨by decide +kernel, by decide +kernel⟩, List.mem_of_getElem? (i := 157) (by decide +kernel), List.mem_of_getElem? (i := 650) (by decide +kernel), List.mem_of_getElem? (i := 651) (by decide +kernel)⟩
theorem lw_p58 : lw_okq (⟨"CellPictures$Sets", "restoreFrom", "([JI)V"⟩, 2) := ⟨⟨by decide +kernel, by decide +kernel⟩, List.mem_of_getElem? (i := 163) (by decide +kernel), List.mem_of_getElem? (i := 655) (by decide +kernel), List.mem_of_getElem? (i := 656) (by decide +kernel)⟩
theorem lw_p59 : lw_okq (⟨"CellPictures$Found", "isKept", "(I)Z"⟩, 5) := ⟨⟨by decide +kernel, by decide +kernel⟩, List.mem_of_getElem? (i := 206) (by decide +kernel), List.mem_of_getElem? (i := 667) (by decide +kernel), List.mem_of_getElem? (i := 668) (by decide +kernel)⟩
theorem lw_p60 : lw_okq (⟨"CellPictures$Solver", "judge", "(LCellPictures$Grid;LCellPictures$Found;)I"⟩, 8) := ⟨⟨by decide +kernel, by decide +kernel⟩, List.mem_of_getElem? (i := 157) (by decide +kernel), List.mem_of_getElem? (i := 676) (by decide +kernel), List.mem_of_getElem? (i := 677) (by decide +kernel)⟩
theorem lw_p61 : lw_okq (⟨"CellPictures", "draftFromMarks", "()V"⟩, 14) := ⟨⟨by decide +kernel, by decide +kernel⟩, List.mem_of_getElem? (i := 16) (by decide +kernel), List.mem_of_getElem? (i := 694) (by decide +kernel), List.mem_of_getElem? (i := 695) (by decide +kernel)⟩
theorem lw_p62 : lw_okq (⟨"CellPictures$Clues", "readLine", "(ILCellPictures$Grid;)V"⟩, 7) := ⟨⟨by decide +kernel, by decide +kernel⟩, List.mem_of_getElem? (i := 40) (by decide +kernel), List.mem_of_getElem? (i := 698) (by decide +kernel), List.mem_of_getElem? (i := 699) (by decide +kernel)⟩
theorem lw_p63 : lw_okq (⟨"CellPictures$Clues", "xOf", "(II)I"⟩, 7) := ⟨⟨by decide +kernel, by decide +kernel⟩, List.mem_of_getElem? (i := 40) (by decide +kernel), List.mem_of_getElem? (i := 702) (by decide +kernel), List.mem_of_getElem? (i := 703) (by decide +kernel)⟩
def lw_privs_4 : List (MethodName × Nat) := [(⟨"CellPictures$Sets", "drop", "(III)V"⟩, 2), (⟨"CellPictures$Solver", "seek", "(LCellPictures$Grid;IILCellPictures$Found;)V"⟩, 8), (⟨"CellPictures$Found", "begin", "()V"⟩, 5), (⟨"CellPictures$Solver", "opensChoice", "()Z"⟩, 8), (⟨"CellPictures$Sets", "firstOfFewest", "()I"⟩, 2), (⟨"CellPictures$Sets", "saveTo", "([JI)V"⟩, 2), (⟨"CellPictures$Found", "add", "(LCellPictures$Sets;)V"⟩, 5), (⟨"CellPictures$Found", "kept", "(I)LCellPictures$Grid;"⟩, 5), (⟨"CellPictures$Solver", "closeEmptyChoices", "()V"⟩, 8), (⟨"CellPictures$Solver", "followsChoice", "()Z"⟩, 8), (⟨"CellPictures$Sets", "restoreFrom", "([JI)V"⟩, 2), (⟨"CellPictures$Found", "isKept", "(I)Z"⟩, 5), (⟨"CellPictures$Solver", "judge", "(LCellPictures$Grid;LCellPictures$Found;)I"⟩, 8), (⟨"CellPictures", "draftFromMarks", "()V"⟩, 14), (⟨"CellPictures$Clues", "readLine", "(ILCellPictures$Grid;)V"⟩, 7), (⟨"CellPictures$Clues", "xOf", "(II)I"⟩, 7)]
theorem lw_r4 : ∀ q ∈ lw_privs_4, lw_okq q := List.forall_mem_cons.mpr ⟨lw_p48, List.forall_mem_cons.mpr ⟨lw_p49, List.forall_mem_cons.mpr ⟨lw_p50, List.forall_mem_cons.mpr ⟨lw_p51, List.forall_mem_cons.mpr ⟨lw_p52, List.forall_mem_cons.mpr ⟨lw_p53, List.forall_mem_cons.mpr ⟨lw_p54, List.forall_mem_cons.mpr ⟨lw_p55, List.forall_mem_cons.mpr ⟨lw_p56, List.forall_mem_cons.mpr ⟨lw_p57, List.forall_mem_cons.mpr ⟨lw_p58, List.forall_mem_cons.mpr ⟨lw_p59, List.forall_mem_cons.mpr ⟨lw_p60, List.forall_mem_cons.mpr ⟨lw_p61, List.forall_mem_cons.mpr ⟨lw_p62, List.forall_mem_cons.mpr ⟨lw_p63, fun _ h => absurd h List.not_mem_nil⟩⟩⟩⟩⟩⟩⟩⟩⟩⟩⟩⟩⟩⟩⟩⟩
theorem lw_p64 : lw_okq (⟨"CellPictures$Clues", "yOf", "(II)I"⟩, 7) := ⟨⟨by decide +kernel, by decide +kernel⟩, List.mem_of_getElem? (i := 40) (by decide +kernel), List.mem_of_getElem? (i := 706) (by decide +kernel), List.mem_of_getElem? (i := 707) (by decide +kernel)⟩
theorem lw_p65 : lw_okq (⟨"CellPictures$Grid", "valueAt", "(II)I"⟩, 2) := ⟨⟨by decide +kernel, by decide +kernel⟩, List.mem_of_getElem? (i := 117) (by decide +kernel), List.mem_of_getElem? (i := 710) (by decide +kernel), List.mem_of_getElem? (i := 711) (by decide +kernel)⟩
theorem lw_p66 : lw_okq (⟨"CellPictures$Clues", "addStretch", "(III)V"⟩, 7) := ⟨⟨by decide +kernel, by decide +kernel⟩, List.mem_of_getElem? (i := 40) (by decide +kernel), List.mem_of_getElem? (i := 717) (by decide +kernel), List.mem_of_getElem? (i := 718) (by decide +kernel)⟩
theorem lw_p67 : lw_okq (⟨"CellPictures$Clues", "hasRunsOf", "(LCellPictures$Clues;)Z"⟩, 7) := ⟨⟨by decide +kernel, by decide +kernel⟩, List.mem_of_getElem? (i := 40) (by decide +kernel), List.mem_of_getElem? (i := 722) (by decide +kernel), List.mem_of_getElem? (i := 723) (by decide +kernel)⟩
theorem lw_p68 : lw_okq (⟨"CellPictures$Clues", "isLineLike", "(ILCellPictures$Clues;)Z"⟩, 7) := ⟨⟨by decide +kernel, by decide +kernel⟩, List.mem_of_getElem? (i := 40) (by decide +kernel), List.mem_of_getElem? (i := 726) (by decide +kernel), List.mem_of_getElem? (i := 727) (by decide +kernel)⟩
theorem lw_p69 : lw_okq (⟨"CellPictures", "areGivensMarked", "()Z"⟩, 14) := ⟨⟨by decide +kernel, by decide +kernel⟩, List.mem_of_getElem? (i := 16) (by decide +kernel), List.mem_of_getElem? (i := 730) (by decide +kernel), List.mem_of_getElem? (i := 731) (by decide +kernel)⟩
theorem lw_p70 : lw_okq (⟨"CellPictures", "hintOf", "(IJ)I"⟩, 14) := ⟨⟨by decide +kernel, by decide +kernel⟩, List.mem_of_getElem? (i := 16) (by decide +kernel), List.mem_of_getElem? (i := 745) (by decide +kernel), List.mem_of_getElem? (i := 746) (by decide +kernel)⟩
theorem lw_p71 : lw_okq (⟨"CellPictures", "giveFirstUnlike", "()V"⟩, 14) := ⟨⟨by decide +kernel, by decide +kernel⟩, List.mem_of_getElem? (i := 16) (by decide +kernel), List.mem_of_getElem? (i := 763) (by decide +kernel), List.mem_of_getElem? (i := 764) (by decide +kernel)⟩
theorem lw_p72 : lw_okq (⟨"CellPicturesModel", "four", "(I)V"⟩, 50) := ⟨⟨by decide +kernel, by decide +kernel⟩, List.mem_of_getElem? (i := 768) (by decide +kernel), List.mem_of_getElem? (i := 929) (by decide +kernel), List.mem_of_getElem? (i := 930) (by decide +kernel)⟩
theorem lw_p73 : lw_okq (⟨"CellPicturesModel", "cut", "()V"⟩, 50) := ⟨⟨by decide +kernel, by decide +kernel⟩, List.mem_of_getElem? (i := 768) (by decide +kernel), List.mem_of_getElem? (i := 944) (by decide +kernel), List.mem_of_getElem? (i := 945) (by decide +kernel)⟩
theorem lw_p74 : lw_okq (⟨"CellPicturesModel", "good", "()Z"⟩, 50) := ⟨⟨by decide +kernel, by decide +kernel⟩, List.mem_of_getElem? (i := 768) (by decide +kernel), List.mem_of_getElem? (i := 948) (by decide +kernel), List.mem_of_getElem? (i := 949) (by decide +kernel)⟩
theorem lw_p75 : lw_okq (⟨"CellPicturesModel", "fails", "(II)V"⟩, 50) := ⟨⟨by decide +kernel, by decide +kernel⟩, List.mem_of_getElem? (i := 768) (by decide +kernel), List.mem_of_getElem? (i := 952) (by decide +kernel), List.mem_of_getElem? (i := 953) (by decide +kernel)⟩
theorem lw_p76 : lw_okq (⟨"CellPicturesModel", "token", "(III)V"⟩, 50) := ⟨⟨by decide +kernel, by decide +kernel⟩, List.mem_of_getElem? (i := 768) (by decide +kernel), List.mem_of_getElem? (i := 956) (by decide +kernel), List.mem_of_getElem? (i := 957) (by decide +kernel)⟩
theorem lw_p77 : lw_okq (⟨"CellPicturesModel", "number", "(II)I"⟩, 50) := ⟨⟨by decide +kernel, by decide +kernel⟩, List.mem_of_getElem? (i := 768) (by decide +kernel), List.mem_of_getElem? (i := 960) (by decide +kernel), List.mem_of_getElem? (i := 961) (by decide +kernel)⟩
theorem lw_p78 : lw_okq (⟨"CellPicturesModel", "semi", "()V"⟩, 50) := ⟨⟨by decide +kernel, by decide +kernel⟩, List.mem_of_getElem? (i := 768) (by decide +kernel), List.mem_of_getElem? (i := 964) (by decide +kernel), List.mem_of_getElem? (i := 965) (by decide +kernel)⟩
theorem lw_p79 : lw_okq (⟨"CellPicturesModel", "oneLine", "(I)V"⟩, 50) := ⟨⟨by decide +kernel, by decide +kernel⟩, List.mem_of_getElem? (i := 768) (by decide +kernel), List.mem_of_getElem? (i := 968) (by decide +kernel), List.mem_of_getElem? (i := 969) (by decide +kernel)⟩
def lw_privs_5 : List (MethodName × Nat) := [(⟨"CellPictures$Clues", "yOf", "(II)I"⟩, 7), (⟨"CellPictures$Grid", "valueAt", "(II)I"⟩, 2), (⟨"CellPictures$Clues", "addStretch", "(III)V"⟩, 7), (⟨"CellPictures$Clues", "hasRunsOf", "(LCellPictures$Clues;)Z"⟩, 7), (⟨"CellPictures$Clues", "isLineLike", "(ILCellPictures$Clues;)Z"⟩, 7), (⟨"CellPictures", "areGivensMarked", "()Z"⟩, 14), (⟨"CellPictures", "hintOf", "(IJ)I"⟩, 14), (⟨"CellPictures", "giveFirstUnlike", "()V"⟩, 14), (⟨"CellPicturesModel", "four", "(I)V"⟩, 50), (⟨"CellPicturesModel", "cut", "()V"⟩, 50), (⟨"CellPicturesModel", "good", "()Z"⟩, 50), (⟨"CellPicturesModel", "fails", "(II)V"⟩, 50), (⟨"CellPicturesModel", "token", "(III)V"⟩, 50), (⟨"CellPicturesModel", "number", "(II)I"⟩, 50), (⟨"CellPicturesModel", "semi", "()V"⟩, 50), (⟨"CellPicturesModel", "oneLine", "(I)V"⟩, 50)]
theorem lw_r5 : ∀ q ∈ lw_privs_5, lw_okq q := List.forall_mem_cons.mpr ⟨lw_p64, List.forall_mem_cons.mpr ⟨lw_p65, List.forall_mem_cons.mpr ⟨lw_p66, List.forall_mem_cons.mpr ⟨lw_p67, List.forall_mem_cons.mpr ⟨lw_p68, List.forall_mem_cons.mpr ⟨lw_p69, List.forall_mem_cons.mpr ⟨lw_p70, List.forall_mem_cons.mpr ⟨lw_p71, List.forall_mem_cons.mpr ⟨lw_p72, List.forall_mem_cons.mpr ⟨lw_p73, List.forall_mem_cons.mpr ⟨lw_p74, List.forall_mem_cons.mpr ⟨lw_p75, List.forall_mem_cons.mpr ⟨lw_p76, List.forall_mem_cons.mpr ⟨lw_p77, List.forall_mem_cons.mpr ⟨lw_p78, List.forall_mem_cons.mpr ⟨lw_p79, fun _ h => absurd h List.not_mem_nil⟩⟩⟩⟩⟩⟩⟩⟩⟩⟩⟩⟩⟩⟩⟩⟩
theorem lw_p80 : lw_okq (⟨"CellPicturesModel", "oneRun", "(I)V"⟩, 50) := ⟨⟨by decide +kernel, by decide +kernel⟩, List.mem_of_getElem? (i := 768) (by decide +kernel), List.mem_of_getElem? (i := 972) (by decide +kernel), List.mem_of_getElem? (i := 973) (by decide +kernel)⟩
theorem lw_p81 : lw_okq (⟨"CellPicturesModel", "colourSumsDiffer", "()Z"⟩, 50) := ⟨⟨by decide +kernel, by decide +kernel⟩, List.mem_of_getElem? (i := 768) (by decide +kernel), List.mem_of_getElem? (i := 976) (by decide +kernel), List.mem_of_getElem? (i := 977) (by decide +kernel)⟩
theorem lw_p82 : lw_okq (⟨"CellPicturesModel", "isNew", "()V"⟩, 50) := ⟨⟨by decide +kernel, by decide +kernel⟩, List.mem_of_getElem? (i := 768) (by decide +kernel), List.mem_of_getElem? (i := 980) (by decide +kernel), List.mem_of_getElem? (i := 981) (by decide +kernel)⟩
theorem lw_p83 : lw_okq (⟨"CellPicturesModel", "noMarks", "()V"⟩, 50) := ⟨⟨by decide +kernel, by decide +kernel⟩, List.mem_of_getElem? (i := 768) (by decide +kernel), List.mem_of_getElem? (i := 984) (by decide +kernel), List.mem_of_getElem? (i := 985) (by decide +kernel)⟩
theorem lw_p84 : lw_okq (⟨"CellPicturesModel", "runMany", "()I"⟩, 50) := ⟨⟨by decide +kernel, by decide +kernel⟩, List.mem_of_getElem? (i := 768) (by decide +kernel), List.mem_of_getElem? (i := 988) (by decide +kernel), List.mem_of_getElem? (i := 989) (by decide +kernel)⟩
theorem lw_p85 : lw_okq (⟨"CellPicturesModel", "lines", "()I"⟩, 50) := ⟨⟨by decide +kernel, by decide +kernel⟩, List.mem_of_getElem? (i := 768) (by decide +kernel), List.mem_of_getElem? (i := 992) (by decide +kernel), List.mem_of_getElem? (i := 993) (by decide +kernel)⟩
theorem lw_p86 : lw_okq (⟨"CellPicturesModel", "is", "()Z"⟩, 50) := ⟨⟨by decide +kernel, by decide +kernel⟩, List.mem_of_getElem? (i := 768) (by decide +kernel), List.mem_of_getElem? (i := 1008) (by decide +kernel), List.mem_of_getElem? (i := 1009) (by decide +kernel)⟩
theorem lw_p87 : lw_okq (⟨"CellPicturesModel", "isCell", "(II)Z"⟩, 50) := ⟨⟨by decide +kernel, by decide +kernel⟩, List.mem_of_getElem? (i := 768) (by decide +kernel), List.mem_of_getElem? (i := 1012) (by decide +kernel), List.mem_of_getElem? (i := 1013) (by decide +kernel)⟩
theorem lw_p88 : lw_okq (⟨"CellPicturesModel", "isLine", "(I)Z"⟩, 50) := ⟨⟨by decide +kernel, by decide +kernel⟩, List.mem_of_getElem? (i := 768) (by decide +kernel), List.mem_of_getElem? (i := 1023) (by decide +kernel), List.mem_of_getElem? (i := 1024) (by decide +kernel)⟩
theorem lw_p89 : lw_okq (⟨"CellPicturesModel", "first", "([II)V"⟩, 50) := ⟨⟨by decide +kernel, by decide +kernel⟩, List.mem_of_getElem? (i := 768) (by decide +kernel), List.mem_of_getElem? (i := 1039) (by decide +kernel), List.mem_of_getElem? (i := 1040) (by decide +kernel)⟩
theorem lw_p90 : lw_okq (⟨"CellPicturesModel", "lineRule", "([III)I"⟩, 50) := ⟨⟨by decide +kernel, by decide +kernel⟩, List.mem_of_getElem? (i := 768) (by decide +kernel), List.mem_of_getElem? (i := 1047) (by decide +kernel), List.mem_of_getElem? (i := 1048) (by decide +kernel)⟩
theorem lw_p91 : lw_okq (⟨"CellPicturesModel", "allWays", "([III)V"⟩, 50) := ⟨⟨by decide +kernel, by decide +kernel⟩, List.mem_of_getElem? (i := 768) (by decide +kernel), List.mem_of_getElem? (i := 1051) (by decide +kernel), List.mem_of_getElem? (i := 1052) (by decide +kernel)⟩
theorem lw_p92 : lw_okq (⟨"CellPicturesModel", "lay", "(II)V"⟩, 50) := ⟨⟨by decide +kernel, by decide +kernel⟩, List.mem_of_getElem? (i := 768) (by decide +kernel), List.mem_of_getElem? (i := 1055) (by decide +kernel), List.mem_of_getElem? (i := 1056) (by decide +kernel)⟩
theorem lw_p93 : lw_okq (⟨"CellPicturesModel", "sizeOf", "(I)I"⟩, 50) := ⟨⟨by decide +kernel, by decide +kernel⟩, List.mem_of_getElem? (i := 768) (by decide +kernel), List.mem_of_getElem? (i := 1059) (by decide +kernel), List.mem_of_getElem? (i := 1060) (by decide +kernel)⟩
theorem lw_p94 : lw_okq (⟨"CellPicturesModel", "can", "(II)Z"⟩, 50) := ⟨⟨by decide +kernel, by decide +kernel⟩, List.mem_of_getElem? (i := 768) (by decide +kernel), List.mem_of_getElem? (i := 1063) (by decide +kernel), List.mem_of_getElem? (i := 1064) (by decide +kernel)⟩
theorem lw_p95 : lw_okq (⟨"CellPicturesModel", "cellOf", "(II)I"⟩, 50) := ⟨⟨by decide +kernel, by decide +kernel⟩, List.mem_of_getElem? (i := 768) (by decide +kernel), List.mem_of_getElem? (i := 1067) (by decide +kernel), List.mem_of_getElem? (i := 1068) (by decide +kernel)⟩
def lw_privs_6 : List (MethodName × Nat) := [(⟨"CellPicturesModel", "oneRun", "(I)V"⟩, 50), (⟨"CellPicturesModel", "colourSumsDiffer", "()Z"⟩, 50), (⟨"CellPicturesModel", "isNew", "()V"⟩, 50), (⟨"CellPicturesModel", "noMarks", "()V"⟩, 50), (⟨"CellPicturesModel", "runMany", "()I"⟩, 50), (⟨"CellPicturesModel", "lines", "()I"⟩, 50), (⟨"CellPicturesModel", "is", "()Z"⟩, 50), (⟨"CellPicturesModel", "isCell", "(II)Z"⟩, 50), (⟨"CellPicturesModel", "isLine", "(I)Z"⟩, 50), (⟨"CellPicturesModel", "first", "([II)V"⟩, 50), (⟨"CellPicturesModel", "lineRule", "([III)I"⟩, 50), (⟨"CellPicturesModel", "allWays", "([III)V"⟩, 50), (⟨"CellPicturesModel", "lay", "(II)V"⟩, 50), (⟨"CellPicturesModel", "sizeOf", "(I)I"⟩, 50), (⟨"CellPicturesModel", "can", "(II)Z"⟩, 50), (⟨"CellPicturesModel", "cellOf", "(II)I"⟩, 50)]
theorem lw_r6 : ∀ q ∈ lw_privs_6, lw_okq q := List.forall_mem_cons.mpr ⟨lw_p80, List.forall_mem_cons.mpr ⟨lw_p81, List.forall_mem_cons.mpr ⟨lw_p82, List.forall_mem_cons.mpr ⟨lw_p83, List.forall_mem_cons.mpr ⟨lw_p84, List.forall_mem_cons.mpr ⟨lw_p85, List.forall_mem_cons.mpr ⟨lw_p86, List.forall_mem_cons.mpr ⟨lw_p87, List.forall_mem_cons.mpr ⟨lw_p88, List.forall_mem_cons.mpr ⟨lw_p89, List.forall_mem_cons.mpr ⟨lw_p90, List.forall_mem_cons.mpr ⟨lw_p91, List.forall_mem_cons.mpr ⟨lw_p92, List.forall_mem_cons.mpr ⟨lw_p93, List.forall_mem_cons.mpr ⟨lw_p94, List.forall_mem_cons.mpr ⟨lw_p95, fun _ h => absurd h List.not_mem_nil⟩⟩⟩⟩⟩⟩⟩⟩⟩⟩⟩⟩⟩⟩⟩⟩
theorem lw_p96 : lw_okq (⟨"CellPicturesModel", "needSets", "()V"⟩, 50) := ⟨⟨by decide +kernel, by decide +kernel⟩, List.mem_of_getElem? (i := 768) (by decide +kernel), List.mem_of_getElem? (i := 1080) (by decide +kernel), List.mem_of_getElem? (i := 1081) (by decide +kernel)⟩
theorem lw_p97 : lw_okq (⟨"CellPicturesModel", "toRest", "([II)Z"⟩, 50) := ⟨⟨by decide +kernel, by decide +kernel⟩, List.mem_of_getElem? (i := 768) (by decide +kernel), List.mem_of_getElem? (i := 1084) (by decide +kernel), List.mem_of_getElem? (i := 1085) (by decide +kernel)⟩
theorem lw_p98 : lw_okq (⟨"CellPicturesModel", "trying", "([I)Z"⟩, 50) := ⟨⟨by decide +kernel, by decide +kernel⟩, List.mem_of_getElem? (i := 768) (by decide +kernel), List.mem_of_getElem? (i := 1092) (by decide +kernel), List.mem_of_getElem? (i := 1093) (by decide +kernel)⟩
theorem lw_p99 : lw_okq (⟨"CellPicturesModel", "inOrder", "(I)I"⟩, 50) := ⟨⟨by decide +kernel, by decide +kernel⟩, List.mem_of_getElem? (i := 768) (by decide +kernel), List.mem_of_getElem? (i := 1096) (by decide +kernel), List.mem_of_getElem? (i := 1097) (by decide +kernel)⟩
theorem lw_p100 : lw_okq (⟨"CellPicturesModel", "searches", "(II)V"⟩, 50) := ⟨⟨by decide +kernel, by decide +kernel⟩, List.mem_of_getElem? (i := 768) (by decide +kernel), List.mem_of_getElem? (i := 1108) (by decide +kernel), List.mem_of_getElem? (i := 1109) (by decide +kernel)⟩
theorem lw_p101 : lw_okq (⟨"CellPicturesModel", "look", "(I)V"⟩, 50) := ⟨⟨by decide +kernel, by decide +kernel⟩, List.mem_of_getElem? (i := 768) (by decide +kernel), List.mem_of_getElem? (i := 1112) (by decide +kernel), List.mem_of_getElem? (i := 1113) (by decide +kernel)⟩
theorem lw_p102 : lw_okq (⟨"CellPicturesModel", "allOne", "([II)Z"⟩, 50) := ⟨⟨by decide +kernel, by decide +kernel⟩, List.mem_of_getElem? (i := 768) (by decide +kernel), List.mem_of_getElem? (i := 1116) (by decide +kernel), List.mem_of_getElem? (i := 1117) (by decide +kernel)⟩
theorem lw_p103 : lw_okq (⟨"CellPicturesModel", "branch", "(I)I"⟩, 50) := ⟨⟨by decide +kernel, by decide +kernel⟩, List.mem_of_getElem? (i := 768) (by decide +kernel), List.mem_of_getElem? (i := 1123) (by decide +kernel), List.mem_of_getElem? (i := 1124) (by decide +kernel)⟩
theorem lw_p104 : lw_okq (⟨"CellPicturesModel", "isDone", "()Z"⟩, 50) := ⟨⟨by decide +kernel, by decide +kernel⟩, List.mem_of_getElem? (i := 768) (by decide +kernel), List.mem_of_getElem? (i := 1151) (by decide +kernel), List.mem_of_getElem? (i := 1152) (by decide +kernel)⟩
theorem lw_p105 : lw_okq (⟨"CellPicturesModel", "shown", "(I)I"⟩, 50) := ⟨⟨by decide +kernel, by decide +kernel⟩, List.mem_of_getElem? (i := 768) (by decide +kernel), List.mem_of_getElem? (i := 1155) (by decide +kernel), List.mem_of_getElem? (i := 1156) (by decide +kernel)⟩
theorem lw_p106 : lw_okq (⟨"CellPicturesModel", "readsAs", "(I)I"⟩, 50) := ⟨⟨by decide +kernel, by decide +kernel⟩, List.mem_of_getElem? (i := 768) (by decide +kernel), List.mem_of_getElem? (i := 1159) (by decide +kernel), List.mem_of_getElem? (i := 1160) (by decide +kernel)⟩
def lw_privs_7 : List (MethodName × Nat) := [(⟨"CellPicturesModel", "needSets", "()V"⟩, 50), (⟨"CellPicturesModel", "toRest", "([II)Z"⟩, 50), (⟨"CellPicturesModel", "trying", "([I)Z"⟩, 50), (⟨"CellPicturesModel", "inOrder", "(I)I"⟩, 50), (⟨"CellPicturesModel", "searches", "(II)V"⟩, 50), (⟨"CellPicturesModel", "look", "(I)V"⟩, 50), (⟨"CellPicturesModel", "allOne", "([II)Z"⟩, 50), (⟨"CellPicturesModel", "branch", "(I)I"⟩, 50), (⟨"CellPicturesModel", "isDone", "()Z"⟩, 50), (⟨"CellPicturesModel", "shown", "(I)I"⟩, 50), (⟨"CellPicturesModel", "readsAs", "(I)I"⟩, 50)]
theorem lw_r7 : ∀ q ∈ lw_privs_7, lw_okq q := List.forall_mem_cons.mpr ⟨lw_p96, List.forall_mem_cons.mpr ⟨lw_p97, List.forall_mem_cons.mpr ⟨lw_p98, List.forall_mem_cons.mpr ⟨lw_p99, List.forall_mem_cons.mpr ⟨lw_p100, List.forall_mem_cons.mpr ⟨lw_p101, List.forall_mem_cons.mpr ⟨lw_p102, List.forall_mem_cons.mpr ⟨lw_p103, List.forall_mem_cons.mpr ⟨lw_p104, List.forall_mem_cons.mpr ⟨lw_p105, List.forall_mem_cons.mpr ⟨lw_p106, fun _ h => absurd h List.not_mem_nil⟩⟩⟩⟩⟩⟩⟩⟩⟩⟩⟩
def lw_privs : List (MethodName × Nat) := lw_privs_1 ++ (lw_privs_2 ++ (lw_privs_3 ++ (lw_privs_4 ++ (lw_privs_5 ++ (lw_privs_6 ++ (lw_privs_7))))))
def lw_tbl : List Cond := k2_sels lw_privs ++ tables_1
theorem lw_privs_ok : ∀ q ∈ lw_privs, lw_okq q := by
  show ∀ q ∈ lw_privs_1 ++ (lw_privs_2 ++ (lw_privs_3 ++ (lw_privs_4 ++ (lw_privs_5 ++ (lw_privs_6 ++ (lw_privs_7)))))), lw_okq q
  exact List.forall_mem_append.mpr ⟨lw_r1, List.forall_mem_append.mpr ⟨lw_r2, List.forall_mem_append.mpr ⟨lw_r3, List.forall_mem_append.mpr ⟨lw_r4, List.forall_mem_append.mpr ⟨lw_r5, List.forall_mem_append.mpr ⟨lw_r6, lw_r7⟩⟩⟩⟩⟩⟩
end
section
def isNest (w : Cond) : Bool := match w with
  | .fieldLinkNest .. => true
  | .methodLinkNest .. => true
  | _ => false
def gtb : List Cond := lw_tbl.filter goodWord
def ntb : List Cond := lw_tbl.filter isNest
theorem gtb_lw {w : Cond} (h : w ∈ gtb) : w ∈ lw_tbl := (List.mem_filter.mp h).1
theorem ntb_lw {w : Cond} (h : w ∈ ntb) : w ∈ lw_tbl := (List.mem_filter.mp h).1
theorem mem_tb {w : Cond} (i : Nat) (h : tables_1[i]? = some w) (hg : goodWord w = true) : w ∈ gtb := List.mem_filter.mpr ⟨List.mem_append_right _ (List.mem_of_getElem? h), hg⟩
theorem mem_nt {w : Cond} (i : Nat) (h : tables_1[i]? = some w) (hg : isNest w = true) : w ∈ ntb := List.mem_filter.mpr ⟨List.mem_append_right _ (List.mem_of_getElem? h), hg⟩
theorem mem_pv {y : MethodName} {n : Nat} (h : (y, n) ∈ lw_privs) : Cond.selects y.cls y y ∈ gtb := List.mem_filter.mpr ⟨List.mem_append_left _ (List.mem_map.mpr ⟨(y, n), h, rfl⟩), rfl⟩
theorem mem_ps {ws : List Cond} (ps : List Nat) (h : ws = ps.filterMap (fun i => tables_1[i]?)) (hg : ws.all goodWord = true) : ∀ w ∈ ws, w ∈ gtb := by
  intro w hw
  have h2 := List.all_eq_true.mp hg w hw
  rw [h] at hw
  obtain ⟨i, -, hi⟩ := List.mem_filterMap.mp hw
  exact mem_tb i hi h2
def RX0 : String := "CellPictures$Clues"
def TX0 : u_T := fun k => match k with
  | 0 => ("CellPictures$Clues", "counts", "[I", true)
  | 1 => ("CellPictures$Clues", "lengths", "[I", true)
  | 2 => ("CellPictures$Clues", "hues", "[I", true)
  | 3 => ("CellPictures$Clues", "width", "I", false)
  | 4 => ("CellPictures$Clues", "height", "I", false)
  | 5 => ("CellPictures$Clues", "colours", "I", false)
  | _ => ("CellPictures$Clues", "total", "I", false)
def tyX0 : Nat → FieldType := fun k => match k with
  | 0 => .array .int
  | 1 => .array .int
  | 2 => .array .int
  | 3 => .int
  | 4 => .int
  | 5 => .int
  | _ => .int
abbrev wsX00 : List Cond := u_ws RX0 TX0 7
theorem nmX0 : ∀ a, a < 7 → ∀ b, b < 7 → a ≠ b → (TX0 a).2.1 ≠ (TX0 b).2.1 := by decide +kernel
theorem tyX0_ok : ∀ k, k < 7 → parseFieldDescriptor (TX0 k).2.2.1 = some (tyX0 k) := by decide +kernel
abbrev cX0_init : ByteArray := prog_2_method_1_code
def yX0_init : MethodName := ⟨RX0, "<init>", "()V"⟩
abbrev cX0_begin : ByteArray := prog_2_method_2_code
def yX0_begin : MethodName := ⟨RX0, "begin", "(III)V"⟩
abbrev cX0_copy : ByteArray := prog_2_method_3_code
def yX0_copy : MethodName := ⟨RX0, "copy", "(LCellPictures$Clues;)V"⟩
abbrev cX0_lines : ByteArray := prog_2_method_4_code
def yX0_lines : MethodName := ⟨RX0, "lines", "()I"⟩
abbrev cX0_allLines : ByteArray := prog_2_method_5_code
def yX0_allLines : MethodName := ⟨RX0, "allLines", "()I"⟩
abbrev cX0_cellsOf : ByteArray := prog_2_method_6_code
def yX0_cellsOf : MethodName := ⟨RX0, "cellsOf", "(I)I"⟩
abbrev cX0_xOf : ByteArray := prog_2_method_7_code
def yX0_xOf : MethodName := ⟨RX0, "xOf", "(II)I"⟩
abbrev cX0_yOf : ByteArray := prog_2_method_8_code
def yX0_yOf : MethodName := ⟨RX0, "yOf", "(II)I"⟩
abbrev cX0_lengthOf : ByteArray := prog_2_method_9_code
def yX0_lengthOf : MethodName := ⟨RX0, "lengthOf", "(II)I"⟩
abbrev cX0_colourOf : ByteArray := prog_2_method_10_code
def yX0_colourOf : MethodName := ⟨RX0, "colourOf", "(II)I"⟩
abbrev cX0_add : ByteArray := prog_2_method_11_code
def yX0_add : MethodName := ⟨RX0, "add", "(III)V"⟩
abbrev cX0_needsGapAhead : ByteArray := prog_2_method_12_code
def yX0_needsGapAhead : MethodName := ⟨RX0, "needsGapAhead", "(II)Z"⟩
abbrev cX0_fitsItsCells : ByteArray := prog_2_method_13_code
def yX0_fitsItsCells : MethodName := ⟨RX0, "fitsItsCells", "(I)Z"⟩
abbrev cX0_isBalanced : ByteArray := prog_2_method_14_code
def yX0_isBalanced : MethodName := ⟨RX0, "isBalanced", "()Z"⟩
abbrev cX0_cellsTold : ByteArray := prog_2_method_15_code
def yX0_cellsTold : MethodName := ⟨RX0, "cellsTold", "(III)I"⟩
abbrev cX0_readLine : ByteArray := prog_2_method_16_code
def yX0_readLine : MethodName := ⟨RX0, "readLine", "(ILCellPictures$Grid;)V"⟩
abbrev cX0_addStretch : ByteArray := prog_2_method_17_code
def yX0_addStretch : MethodName := ⟨RX0, "addStretch", "(III)V"⟩
abbrev cX0_hasRunsOf : ByteArray := prog_2_method_18_code
def yX0_hasRunsOf : MethodName := ⟨RX0, "hasRunsOf", "(LCellPictures$Clues;)Z"⟩
abbrev cX0_isLineLike : ByteArray := prog_2_method_19_code
def yX0_isLineLike : MethodName := ⟨RX0, "isLineLike", "(ILCellPictures$Clues;)Z"⟩
def RX1 : String := "CellPictures$Found"
def TX1 : u_T := fun k => match k with
  | 0 => ("CellPictures$Found", "first", "LCellPictures$Grid;", true)
  | 1 => ("CellPictures$Found", "second", "LCellPictures$Grid;", true)
  | 2 => ("CellPictures$Found", "count", "I", false)
  | 3 => ("CellPictures$Found", "nodes", "I", false)
  | _ => ("CellPictures$Found", "isSpent", "Z", false)
def tyX1 : Nat → FieldType := fun k => match k with
  | 0 => .object "CellPictures$Grid"
  | 1 => .object "CellPictures$Grid"
  | 2 => .int
  | 3 => .int
  | _ => .boolean
abbrev wsX10 : List Cond := u_ws RX1 TX1 5
theorem nmX1 : ∀ a, a < 5 → ∀ b, b < 5 → a ≠ b → (TX1 a).2.1 ≠ (TX1 b).2.1 := by decide +kernel
theorem tyX1_ok : ∀ k, k < 5 → parseFieldDescriptor (TX1 k).2.2.1 = some (tyX1 k) := by decide +kernel
abbrev cX1_init : ByteArray := prog_3_method_1_code
def yX1_init : MethodName := ⟨RX1, "<init>", "()V"⟩
abbrev cX1_begin : ByteArray := prog_3_method_2_code
def yX1_begin : MethodName := ⟨RX1, "begin", "()V"⟩
abbrev cX1_forgetSolutions : ByteArray := prog_3_method_3_code
def yX1_forgetSolutions : MethodName := ⟨RX1, "forgetSolutions", "()V"⟩
abbrev cX1_forgetAll : ByteArray := prog_3_method_4_code
def yX1_forgetAll : MethodName := ⟨RX1, "forgetAll", "()V"⟩
abbrev cX1_isKept : ByteArray := prog_3_method_5_code
def yX1_isKept : MethodName := ⟨RX1, "isKept", "(I)Z"⟩
abbrev cX1_kept : ByteArray := prog_3_method_6_code
def yX1_kept : MethodName := ⟨RX1, "kept", "(I)LCellPictures$Grid;"⟩
abbrev cX1_add : ByteArray := prog_3_method_7_code
def yX1_add : MethodName := ⟨RX1, "add", "(LCellPictures$Sets;)V"⟩
def RX2 : String := "CellPictures$Grid"
def TX2 : u_T := fun k => match k with
  | 0 => ("CellPictures$Grid", "values", "[I", true)
  | _ => ("CellPictures$Grid", "told", "I", false)
def tyX2 : Nat → FieldType := fun k => match k with
  | 0 => .array .int
  | _ => .int
abbrev wsX20 : List Cond := u_ws RX2 TX2 2
theorem nmX2 : ∀ a, a < 2 → ∀ b, b < 2 → a ≠ b → (TX2 a).2.1 ≠ (TX2 b).2.1 := by decide +kernel
theorem tyX2_ok : ∀ k, k < 2 → parseFieldDescriptor (TX2 k).2.2.1 = some (tyX2 k) := by decide +kernel
abbrev cX2_init : ByteArray := prog_4_method_1_code
def yX2_init : MethodName := ⟨RX2, "<init>", "()V"⟩
abbrev cX2_clear : ByteArray := prog_4_method_2_code
def yX2_clear : MethodName := ⟨RX2, "clear", "()V"⟩
abbrev cX2_at : ByteArray := prog_4_method_3_code
def yX2_at : MethodName := ⟨RX2, "at", "(II)I"⟩
abbrev cX2_valueAt : ByteArray := prog_4_method_4_code
def yX2_valueAt : MethodName := ⟨RX2, "valueAt", "(II)I"⟩
abbrev cX2_put : ByteArray := prog_4_method_5_code
def yX2_put : MethodName := ⟨RX2, "put", "(III)V"⟩
def RX3 : String := "CellPictures$LineRule"
def TX3 : u_T := fun k => match k with
  | 0 => ("CellPictures$LineRule", "clues", "LCellPictures$Clues;", true)
  | 1 => ("CellPictures$LineRule", "before", "[I", true)
  | 2 => ("CellPictures$LineRule", "starts", "[I", true)
  | 3 => ("CellPictures$LineRule", "rows", "[J", true)
  | _ => ("CellPictures$LineRule", "nextRows", "[J", true)
def tyX3 : Nat → FieldType := fun k => match k with
  | 0 => .object "CellPictures$Clues"
  | 1 => .array .int
  | 2 => .array .int
  | 3 => .array .long
  | _ => .array .long
abbrev wsX30 : List Cond := u_ws RX3 TX3 5
theorem nmX3 : ∀ a, a < 5 → ∀ b, b < 5 → a ≠ b → (TX3 a).2.1 ≠ (TX3 b).2.1 := by decide +kernel
theorem tyX3_ok : ∀ k, k < 5 → parseFieldDescriptor (TX3 k).2.2.1 = some (tyX3 k) := by decide +kernel
abbrev cX3_init : ByteArray := prog_5_method_1_code
def yX3_init : MethodName := ⟨RX3, "<init>", "(LCellPictures$Clues;)V"⟩
abbrev cX3_cellsWith : ByteArray := prog_5_method_2_code
def yX3_cellsWith : MethodName := ⟨RX3, "cellsWith", "(JI)I"⟩
abbrev cX3_keptOf : ByteArray := prog_5_method_3_code
def yX3_keptOf : MethodName := ⟨RX3, "keptOf", "(IJ)J"⟩
abbrev cX3_spreadUp : ByteArray := prog_5_method_4_code
def yX3_spreadUp : MethodName := ⟨RX3, "spreadUp", "(II)I"⟩
abbrev cX3_spreadDown : ByteArray := prog_5_method_5_code
def yX3_spreadDown : MethodName := ⟨RX3, "spreadDown", "(II)I"⟩
abbrev cX3_stretches : ByteArray := prog_5_method_6_code
def yX3_stretches : MethodName := ⟨RX3, "stretches", "(II)I"⟩
abbrev cX3_cover : ByteArray := prog_5_method_7_code
def yX3_cover : MethodName := ⟨RX3, "cover", "(II)I"⟩
abbrev cX3_countWays : ByteArray := prog_5_method_8_code
def yX3_countWays : MethodName := ⟨RX3, "countWays", "(IJ)J"⟩
abbrev cX3_countRun : ByteArray := prog_5_method_9_code
def yX3_countRun : MethodName := ⟨RX3, "countRun", "(IIJ)V"⟩
def RX4 : String := "CellPictures$Sets"
def TX4 : u_T := fun k => match k with
  | 0 => ("CellPictures$Sets", "clues", "LCellPictures$Clues;", true)
  | _ => ("CellPictures$Sets", "lines", "[J", true)
def tyX4 : Nat → FieldType := fun k => match k with
  | 0 => .object "CellPictures$Clues"
  | _ => .array .long
abbrev wsX40 : List Cond := u_ws RX4 TX4 2
theorem nmX4 : ∀ a, a < 2 → ∀ b, b < 2 → a ≠ b → (TX4 a).2.1 ≠ (TX4 b).2.1 := by decide +kernel
theorem tyX4_ok : ∀ k, k < 2 → parseFieldDescriptor (TX4 k).2.2.1 = some (tyX4 k) := by decide +kernel
abbrev cX4_init : ByteArray := prog_6_method_1_code
def yX4_init : MethodName := ⟨RX4, "<init>", "(LCellPictures$Clues;)V"⟩
abbrev cX4_become : ByteArray := prog_6_method_2_code
def yX4_become : MethodName := ⟨RX4, "become", "(LCellPictures$Grid;)V"⟩
abbrev cX4_fill : ByteArray := prog_6_method_3_code
def yX4_fill : MethodName := ⟨RX4, "fill", "()V"⟩
abbrev cX4_tell : ByteArray := prog_6_method_4_code
def yX4_tell : MethodName := ⟨RX4, "tell", "(LCellPictures$Grid;)V"⟩
abbrev cX4_copy : ByteArray := prog_6_method_5_code
def yX4_copy : MethodName := ⟨RX4, "copy", "(LCellPictures$Sets;)V"⟩
abbrev cX4_saveTo : ByteArray := prog_6_method_6_code
def yX4_saveTo : MethodName := ⟨RX4, "saveTo", "([JI)V"⟩
abbrev cX4_restoreFrom : ByteArray := prog_6_method_7_code
def yX4_restoreFrom : MethodName := ⟨RX4, "restoreFrom", "([JI)V"⟩
abbrev cX4_fix : ByteArray := prog_6_method_8_code
def yX4_fix : MethodName := ⟨RX4, "fix", "(III)V"⟩
abbrev cX4_drop : ByteArray := prog_6_method_9_code
def yX4_drop : MethodName := ⟨RX4, "drop", "(III)V"⟩
abbrev cX4_valuesAt : ByteArray := prog_6_method_10_code
def yX4_valuesAt : MethodName := ⟨RX4, "valuesAt", "(II)I"⟩
abbrev cX4_valuesIn : ByteArray := prog_6_method_11_code
def yX4_valuesIn : MethodName := ⟨RX4, "valuesIn", "(JI)I"⟩
abbrev cX4_leastOf : ByteArray := prog_6_method_12_code
def yX4_leastOf : MethodName := ⟨RX4, "leastOf", "(I)I"⟩
abbrev cX4_linesThrough : ByteArray := prog_6_method_13_code
def yX4_linesThrough : MethodName := ⟨RX4, "linesThrough", "(II)I"⟩
abbrev cX4_narrow : ByteArray := prog_6_method_14_code
def yX4_narrow : MethodName := ⟨RX4, "narrow", "(IJ)I"⟩
abbrev cX4_countSingles : ByteArray := prog_6_method_15_code
def yX4_countSingles : MethodName := ⟨RX4, "countSingles", "()I"⟩
abbrev cX4_firstOfFewest : ByteArray := prog_6_method_16_code
def yX4_firstOfFewest : MethodName := ⟨RX4, "firstOfFewest", "()I"⟩
def RX5 : String := "CellPictures$Solver"
def TX5 : u_T := fun k => match k with
  | 0 => ("CellPictures$Solver", "clues", "LCellPictures$Clues;", true)
  | 1 => ("CellPictures$Solver", "lineRule", "LCellPictures$LineRule;", true)
  | 2 => ("CellPictures$Solver", "work", "LCellPictures$Sets;", true)
  | 3 => ("CellPictures$Solver", "trial", "LCellPictures$Sets;", true)
  | 4 => ("CellPictures$Solver", "savedSets", "[J", true)
  | 5 => ("CellPictures$Solver", "chosenCell", "[I", true)
  | 6 => ("CellPictures$Solver", "untried", "[I", true)
  | _ => ("CellPictures$Solver", "depth", "I", false)
def tyX5 : Nat → FieldType := fun k => match k with
  | 0 => .object "CellPictures$Clues"
  | 1 => .object "CellPictures$LineRule"
  | 2 => .object "CellPictures$Sets"
  | 3 => .object "CellPictures$Sets"
  | 4 => .array .long
  | 5 => .array .int
  | 6 => .array .int
  | _ => .int
abbrev wsX50 : List Cond := u_ws RX5 TX5 8
theorem nmX5 : ∀ a, a < 8 → ∀ b, b < 8 → a ≠ b → (TX5 a).2.1 ≠ (TX5 b).2.1 := by decide +kernel
theorem tyX5_ok : ∀ k, k < 8 → parseFieldDescriptor (TX5 k).2.2.1 = some (tyX5 k) := by decide +kernel
abbrev cX5_init : ByteArray := prog_7_method_1_code
def yX5_init : MethodName := ⟨RX5, "<init>", "(LCellPictures$Clues;LCellPictures$LineRule;)V"⟩
abbrev cX5_settle : ByteArray := prog_7_method_2_code
def yX5_settle : MethodName := ⟨RX5, "settle", "(LCellPictures$Sets;I)I"⟩
abbrev cX5_sift : ByteArray := prog_7_method_3_code
def yX5_sift : MethodName := ⟨RX5, "sift", "(LCellPictures$Sets;)I"⟩
abbrev cX5_siftCell : ByteArray := prog_7_method_4_code
def yX5_siftCell : MethodName := ⟨RX5, "siftCell", "(LCellPictures$Sets;II)I"⟩
abbrev cX5_seek : ByteArray := prog_7_method_5_code
def yX5_seek : MethodName := ⟨RX5, "seek", "(LCellPictures$Grid;IILCellPictures$Found;)V"⟩
abbrev cX5_opensChoice : ByteArray := prog_7_method_6_code
def yX5_opensChoice : MethodName := ⟨RX5, "opensChoice", "()Z"⟩
abbrev cX5_closeEmptyChoices : ByteArray := prog_7_method_7_code
def yX5_closeEmptyChoices : MethodName := ⟨RX5, "closeEmptyChoices", "()V"⟩
abbrev cX5_followsChoice : ByteArray := prog_7_method_8_code
def yX5_followsChoice : MethodName := ⟨RX5, "followsChoice", "()Z"⟩
abbrev cX5_judge : ByteArray := prog_7_method_9_code
def yX5_judge : MethodName := ⟨RX5, "judge", "(LCellPictures$Grid;LCellPictures$Found;)I"⟩
def RX6 : String := "CellPictures$Tape"
def TX6 : u_T := fun k => match k with
  | 0 => ("CellPictures$Tape", "bytes", "[B", true)
  | _ => ("CellPictures$Tape", "size", "I", false)
def tyX6 : Nat → FieldType := fun k => match k with
  | 0 => .array .byte
  | _ => .int
abbrev wsX60 : List Cond := u_ws RX6 TX6 2
theorem nmX6 : ∀ a, a < 2 → ∀ b, b < 2 → a ≠ b → (TX6 a).2.1 ≠ (TX6 b).2.1 := by decide +kernel
theorem tyX6_ok : ∀ k, k < 2 → parseFieldDescriptor (TX6 k).2.2.1 = some (tyX6 k) := by decide +kernel
abbrev cX6_init : ByteArray := prog_8_method_1_code
def yX6_init : MethodName := ⟨RX6, "<init>", "()V"⟩
abbrev cX6_append : ByteArray := prog_8_method_2_code
def yX6_append : MethodName := ⟨RX6, "append", "(I)V"⟩
abbrev cX6_byteAt : ByteArray := prog_8_method_3_code
def yX6_byteAt : MethodName := ⟨RX6, "byteAt", "(I)I"⟩
def RX7 : String := "CellPictures$TextReader"
def TX7 : u_T := fun k => match k with
  | 0 => ("CellPictures$TextReader", "tape", "LCellPictures$Tape;", true)
  | 1 => ("CellPictures$TextReader", "draft", "LCellPictures$Clues;", true)
  | 2 => ("CellPictures$TextReader", "kind", "I", false)
  | 3 => ("CellPictures$TextReader", "place", "I", false)
  | 4 => ("CellPictures$TextReader", "token", "I", false)
  | 5 => ("CellPictures$TextReader", "start", "I", false)
  | 6 => ("CellPictures$TextReader", "value", "I", false)
  | _ => ("CellPictures$TextReader", "next", "I", false)
def tyX7 : Nat → FieldType := fun k => match k with
  | 0 => .object "CellPictures$Tape"
  | 1 => .object "CellPictures$Clues"
  | 2 => .int
  | 3 => .int
  | 4 => .int
  | 5 => .int
  | 6 => .int
  | _ => .int
abbrev wsX70 : List Cond := u_ws RX7 TX7 8
theorem nmX7 : ∀ a, a < 8 → ∀ b, b < 8 → a ≠ b → (TX7 a).2.1 ≠ (TX7 b).2.1 := by decide +kernel
theorem tyX7_ok : ∀ k, k < 8 → parseFieldDescriptor (TX7 k).2.2.1 = some (tyX7 k) := by decide +kernel
abbrev cX7_init : ByteArray := prog_9_method_1_code
def yX7_init : MethodName := ⟨RX7, "<init>", "(LCellPictures$Tape;LCellPictures$Clues;)V"⟩
abbrev cX7_readsAll : ByteArray := prog_9_method_2_code
def yX7_readsAll : MethodName := ⟨RX7, "readsAll", "()Z"⟩
abbrev cX7_refuse : ByteArray := prog_9_method_3_code
def yX7_refuse : MethodName := ⟨RX7, "refuse", "(I)Z"⟩
abbrev cX7_isDigit : ByteArray := prog_9_method_4_code
def yX7_isDigit : MethodName := ⟨RX7, "isDigit", "(I)Z"⟩
abbrev cX7_isLetter : ByteArray := prog_9_method_5_code
def yX7_isLetter : MethodName := ⟨RX7, "isLetter", "(I)Z"⟩
abbrev cX7_isSpace : ByteArray := prog_9_method_6_code
def yX7_isSpace : MethodName := ⟨RX7, "isSpace", "(I)Z"⟩
abbrev cX7_endOfDigits : ByteArray := prog_9_method_7_code
def yX7_endOfDigits : MethodName := ⟨RX7, "endOfDigits", "(I)I"⟩
abbrev cX7_cutsClean : ByteArray := prog_9_method_8_code
def yX7_cutsClean : MethodName := ⟨RX7, "cutsClean", "()Z"⟩
abbrev cX7_advance : ByteArray := prog_9_method_9_code
def yX7_advance : MethodName := ⟨RX7, "advance", "()V"⟩
abbrev cX7_readsHead : ByteArray := prog_9_method_10_code
def yX7_readsHead : MethodName := ⟨RX7, "readsHead", "()Z"⟩
abbrev cX7_sizeRead : ByteArray := prog_9_method_11_code
def yX7_sizeRead : MethodName := ⟨RX7, "sizeRead", "(I)I"⟩
abbrev cX7_readsLine : ByteArray := prog_9_method_12_code
def yX7_readsLine : MethodName := ⟨RX7, "readsLine", "(I)Z"⟩
abbrev cX7_readsRun : ByteArray := prog_9_method_13_code
def yX7_readsRun : MethodName := ⟨RX7, "readsRun", "(II)Z"⟩
def RX8 : String := "CellPictures"
def TX8 : u_T := fun k => match k with
  | 0 => ("CellPictures", "tape", "LCellPictures$Tape;", true)
  | 1 => ("CellPictures", "clues", "LCellPictures$Clues;", true)
  | 2 => ("CellPictures", "draft", "LCellPictures$Clues;", true)
  | 3 => ("CellPictures", "reader", "LCellPictures$TextReader;", true)
  | 4 => ("CellPictures", "givens", "LCellPictures$Grid;", true)
  | 5 => ("CellPictures", "marks", "LCellPictures$Grid;", true)
  | 6 => ("CellPictures", "lineRule", "LCellPictures$LineRule;", true)
  | 7 => ("CellPictures", "solver", "LCellPictures$Solver;", true)
  | 8 => ("CellPictures", "sets", "LCellPictures$Sets;", true)
  | 9 => ("CellPictures", "handSets", "LCellPictures$Sets;", true)
  | 10 => ("CellPictures", "found", "LCellPictures$Found;", true)
  | 11 => ("CellPictures", "judged", "LCellPictures$Found;", true)
  | 12 => ("CellPictures", "hasSets", "Z", false)
  | _ => ("CellPictures", "latestFault", "I", false)
def tyX8 : Nat → FieldType := fun k => match k with
  | 0 => .object "CellPictures$Tape"
  | 1 => .object "CellPictures$Clues"
  | 2 => .object "CellPictures$Clues"
  | 3 => .object "CellPictures$TextReader"
  | 4 => .object "CellPictures$Grid"
  | 5 => .object "CellPictures$Grid"
  | 6 => .object "CellPictures$LineRule"
  | 7 => .object "CellPictures$Solver"
  | 8 => .object "CellPictures$Sets"
  | 9 => .object "CellPictures$Sets"
  | 10 => .object "CellPictures$Found"
  | 11 => .object "CellPictures$Found"
  | 12 => .boolean
  | _ => .int
abbrev wsX80 : List Cond := u_ws RX8 TX8 14
theorem nmX8 : ∀ a, a < 14 → ∀ b, b < 14 → a ≠ b → (TX8 a).2.1 ≠ (TX8 b).2.1 := by decide +kernel
theorem tyX8_ok : ∀ k, k < 14 → parseFieldDescriptor (TX8 k).2.2.1 = some (tyX8 k) := by decide +kernel
abbrev cX8_init : ByteArray := prog_1_method_1_code
def yX8_init : MethodName := ⟨RX8, "<init>", "()V"⟩
abbrev cX8_feed : ByteArray := prog_1_method_2_code
def yX8_feed : MethodName := ⟨RX8, "feed", "(IIIII)I"⟩
abbrev cX8_end : ByteArray := prog_1_method_3_code
def yX8_end : MethodName := ⟨RX8, "end", "(I)I"⟩
abbrev cX8_load : ByteArray := prog_1_method_4_code
def yX8_load : MethodName := ⟨RX8, "load", "()I"⟩
abbrev cX8_fault : ByteArray := prog_1_method_5_code
def yX8_fault : MethodName := ⟨RX8, "fault", "()I"⟩
abbrev cX8_blank : ByteArray := prog_1_method_6_code
def yX8_blank : MethodName := ⟨RX8, "blank", "(III)Z"⟩
abbrev cX8_about : ByteArray := prog_1_method_7_code
def yX8_about : MethodName := ⟨RX8, "about", "(I)I"⟩
abbrev cX8_run : ByteArray := prog_1_method_8_code
def yX8_run : MethodName := ⟨RX8, "run", "(III)I"⟩
abbrev cX8_give : ByteArray := prog_1_method_9_code
def yX8_give : MethodName := ⟨RX8, "give", "(III)Z"⟩
abbrev cX8_given : ByteArray := prog_1_method_10_code
def yX8_given : MethodName := ⟨RX8, "given", "(II)I"⟩
abbrev cX8_fresh : ByteArray := prog_1_method_11_code
def yX8_fresh : MethodName := ⟨RX8, "fresh", "()Z"⟩
abbrev cX8_rule : ByteArray := prog_1_method_12_code
def yX8_rule : MethodName := ⟨RX8, "rule", "(I)I"⟩
abbrev cX8_ways : ByteArray := prog_1_method_13_code
def yX8_ways : MethodName := ⟨RX8, "ways", "(I)J"⟩
abbrev cX8_rest : ByteArray := prog_1_method_14_code
def yX8_rest : MethodName := ⟨RX8, "rest", "()I"⟩
abbrev cX8_tries : ByteArray := prog_1_method_15_code
def yX8_tries : MethodName := ⟨RX8, "tries", "()I"⟩
abbrev cX8_set : ByteArray := prog_1_method_16_code
def yX8_set : MethodName := ⟨RX8, "set", "(II)I"⟩
abbrev cX8_search : ByteArray := prog_1_method_17_code
def yX8_search : MethodName := ⟨RX8, "search", "(II)I"⟩
abbrev cX8_nodes : ByteArray := prog_1_method_18_code
def yX8_nodes : MethodName := ⟨RX8, "nodes", "()I"⟩
abbrev cX8_solution : ByteArray := prog_1_method_19_code
def yX8_solution : MethodName := ⟨RX8, "solution", "(III)I"⟩
abbrev cX8_level : ByteArray := prog_1_method_20_code
def yX8_level : MethodName := ⟨RX8, "level", "()I"⟩
abbrev cX8_mark : ByteArray := prog_1_method_21_code
def yX8_mark : MethodName := ⟨RX8, "mark", "(III)Z"⟩
abbrev cX8_marked : ByteArray := prog_1_method_22_code
def yX8_marked : MethodName := ⟨RX8, "marked", "(II)I"⟩
abbrev cX8_done : ByteArray := prog_1_method_23_code
def yX8_done : MethodName := ⟨RX8, "done", "()I"⟩
abbrev cX8_wrong : ByteArray := prog_1_method_24_code
def yX8_wrong : MethodName := ⟨RX8, "wrong", "()I"⟩
abbrev cX8_hint : ByteArray := prog_1_method_25_code
def yX8_hint : MethodName := ⟨RX8, "hint", "()I"⟩
abbrev cX8_draw : ByteArray := prog_1_method_26_code
def yX8_draw : MethodName := ⟨RX8, "draw", "()I"⟩
abbrev cX8_mend : ByteArray := prog_1_method_27_code
def yX8_mend : MethodName := ⟨RX8, "mend", "()I"⟩
abbrev cX8_hasPuzzle : ByteArray := prog_1_method_28_code
def yX8_hasPuzzle : MethodName := ⟨RX8, "hasPuzzle", "()Z"⟩
abbrev cX8_isCell : ByteArray := prog_1_method_29_code
def yX8_isCell : MethodName := ⟨RX8, "isCell", "(II)Z"⟩
abbrev cX8_isLine : ByteArray := prog_1_method_30_code
def yX8_isLine : MethodName := ⟨RX8, "isLine", "(I)Z"⟩
abbrev cX8_isValueOrNone : ByteArray := prog_1_method_31_code
def yX8_isValueOrNone : MethodName := ⟨RX8, "isValueOrNone", "(I)Z"⟩
abbrev cX8_isSize : ByteArray := prog_1_method_32_code
def yX8_isSize : MethodName := ⟨RX8, "isSize", "(II)Z"⟩
abbrev cX8_beginPuzzle : ByteArray := prog_1_method_33_code
def yX8_beginPuzzle : MethodName := ⟨RX8, "beginPuzzle", "()V"⟩
abbrev cX8_draftFromMarks : ByteArray := prog_1_method_34_code
def yX8_draftFromMarks : MethodName := ⟨RX8, "draftFromMarks", "()V"⟩
abbrev cX8_areGivensMarked : ByteArray := prog_1_method_35_code
def yX8_areGivensMarked : MethodName := ⟨RX8, "areGivensMarked", "()Z"⟩
abbrev cX8_hintOf : ByteArray := prog_1_method_36_code
def yX8_hintOf : MethodName := ⟨RX8, "hintOf", "(IJ)I"⟩
abbrev cX8_giveFirstUnlike : ByteArray := prog_1_method_37_code
def yX8_giveFirstUnlike : MethodName := ⟨RX8, "giveFirstUnlike", "()V"⟩
def RX9 : String := "CellPicturesModel"
def TX9 : u_T := fun k => match k with
  | 0 => ("CellPicturesModel", "thrown", "I", false)
  | 1 => ("CellPicturesModel", "w", "I", false)
  | 2 => ("CellPicturesModel", "h", "I", false)
  | 3 => ("CellPicturesModel", "colours", "I", false)
  | 4 => ("CellPicturesModel", "runs", "[I", true)
  | 5 => ("CellPicturesModel", "length", "[I", true)
  | 6 => ("CellPicturesModel", "colour", "[I", true)
  | 7 => ("CellPicturesModel", "given", "[I", true)
  | 8 => ("CellPicturesModel", "mark", "[I", true)
  | 9 => ("CellPicturesModel", "sets", "[I", true)
  | 10 => ("CellPicturesModel", "hasSets", "Z", false)
  | 11 => ("CellPicturesModel", "hasFound", "Z", false)
  | 12 => ("CellPicturesModel", "searched", "I", false)
  | 13 => ("CellPicturesModel", "foundMany", "I", false)
  | 14 => ("CellPicturesModel", "found", "[I", true)
  | 15 => ("CellPicturesModel", "tape", "[I", true)
  | 16 => ("CellPicturesModel", "taped", "I", false)
  | 17 => ("CellPicturesModel", "fault", "I", false)
  | 18 => ("CellPicturesModel", "faultAt", "I", false)
  | 19 => ("CellPicturesModel", "latestFault", "I", false)
  | 20 => ("CellPicturesModel", "tSort", "[I", true)
  | 21 => ("CellPicturesModel", "tAt", "[I", true)
  | 22 => ("CellPicturesModel", "tValue", "[I", true)
  | 23 => ("CellPicturesModel", "tokens", "I", false)
  | 24 => ("CellPicturesModel", "t", "I", false)
  | 25 => ("CellPicturesModel", "rW", "I", false)
  | 26 => ("CellPicturesModel", "rH", "I", false)
  | 27 => ("CellPicturesModel", "rC", "I", false)
  | 28 => ("CellPicturesModel", "rRuns", "[I", true)
  | 29 => ("CellPicturesModel", "rLength", "[I", true)
  | 30 => ("CellPicturesModel", "rColour", "[I", true)
  | 31 => ("CellPicturesModel", "of", "[I", false)
  | 32 => ("CellPicturesModel", "base", "I", false)
  | 33 => ("CellPicturesModel", "line", "I", false)
  | 34 => ("CellPicturesModel", "way", "[I", true)
  | 35 => ("CellPicturesModel", "union", "[I", true)
  | 36 => ("CellPicturesModel", "wayMany", "J", false)
  | 37 => ("CellPicturesModel", "uses", "I", false)
  | 38 => ("CellPicturesModel", "trial", "[I", true)
  | 39 => ("CellPicturesModel", "left", "I", false)
  | 40 => ("CellPicturesModel", "pile", "[I", true)
  | 41 => ("CellPicturesModel", "nodes", "I", false)
  | 42 => ("CellPicturesModel", "mostNodes", "I", false)
  | 43 => ("CellPicturesModel", "wanted", "I", false)
  | 44 => ("CellPicturesModel", "solutions", "I", false)
  | 45 => ("CellPicturesModel", "isSpent", "Z", false)
  | 46 => ("CellPicturesModel", "solved", "[I", true)
  | 47 => ("CellPicturesModel", "own", "[I", true)
  | 48 => ("CellPicturesModel", "readLength", "[I", true)
  | _ => ("CellPicturesModel", "readColour", "[I", true)
def tyX9 : Nat → FieldType := fun k => match k with
  | 0 => .int
  | 1 => .int
  | 2 => .int
  | 3 => .int
  | 4 => .array .int
  | 5 => .array .int
  | 6 => .array .int
  | 7 => .array .int
  | 8 => .array .int
  | 9 => .array .int
  | 10 => .boolean
  | 11 => .boolean
  | 12 => .int
  | 13 => .int
  | 14 => .array .int
  | 15 => .array .int
  | 16 => .int
  | 17 => .int
  | 18 => .int
  | 19 => .int
  | 20 => .array .int
  | 21 => .array .int
  | 22 => .array .int
  | 23 => .int
  | 24 => .int
  | 25 => .int
  | 26 => .int
  | 27 => .int
  | 28 => .array .int
  | 29 => .array .int
  | 30 => .array .int
  | 31 => .array .int
  | 32 => .int
  | 33 => .int
  | 34 => .array .int
  | 35 => .array .int
  | 36 => .long
  | 37 => .int
  | 38 => .array .int
  | 39 => .int
  | 40 => .array .int
  | 41 => .int
  | 42 => .int
  | 43 => .int
  | 44 => .int
  | 45 => .boolean
  | 46 => .array .int
  | 47 => .array .int
  | 48 => .array .int
  | _ => .array .int
abbrev wsX90 : List Cond := u_ws RX9 TX9 50
theorem nmX9 : ∀ a, a < 50 → ∀ b, b < 50 → a ≠ b → (TX9 a).2.1 ≠ (TX9 b).2.1 := by decide +kernel
theorem tyX9_ok : ∀ k, k < 50 → parseFieldDescriptor (TX9 k).2.2.1 = some (tyX9 k) := by decide +kernel
abbrev cX9_init : ByteArray := prog_11_method_1_code
def yX9_init : MethodName := ⟨RX9, "<init>", "()V"⟩
abbrev cX9_in : ByteArray := prog_11_method_3_code
def yX9_in : MethodName := ⟨RX9, "in", "(III)Z"⟩
abbrev cX9_is : ByteArray := prog_11_method_4_code
def yX9_is : MethodName := ⟨RX9, "is", "()Z"⟩
abbrev cX9_lines : ByteArray := prog_11_method_5_code
def yX9_lines : MethodName := ⟨RX9, "lines", "()I"⟩
abbrev cX9_isLine : ByteArray := prog_11_method_6_code
def yX9_isLine : MethodName := ⟨RX9, "isLine", "(I)Z"⟩
abbrev cX9_isCell : ByteArray := prog_11_method_7_code
def yX9_isCell : MethodName := ⟨RX9, "isCell", "(II)Z"⟩
abbrev cX9_sizeOf : ByteArray := prog_11_method_8_code
def yX9_sizeOf : MethodName := ⟨RX9, "sizeOf", "(I)I"⟩
abbrev cX9_cellOf : ByteArray := prog_11_method_9_code
def yX9_cellOf : MethodName := ⟨RX9, "cellOf", "(II)I"⟩
abbrev cX9_inOrder : ByteArray := prog_11_method_10_code
def yX9_inOrder : MethodName := ⟨RX9, "inOrder", "(I)I"⟩
abbrev cX9_isNew : ByteArray := prog_11_method_11_code
def yX9_isNew : MethodName := ⟨RX9, "isNew", "()V"⟩
abbrev cX9_noMarks : ByteArray := prog_11_method_12_code
def yX9_noMarks : MethodName := ⟨RX9, "noMarks", "()V"⟩
abbrev cX9_runMany : ByteArray := prog_11_method_13_code
def yX9_runMany : MethodName := ⟨RX9, "runMany", "()I"⟩
abbrev cX9_four : ByteArray := prog_11_method_14_code
def yX9_four : MethodName := ⟨RX9, "four", "(I)V"⟩
abbrev cX9_feed : ByteArray := prog_11_method_15_code
def yX9_feed : MethodName := ⟨RX9, "feed", "(IIIII)I"⟩
abbrev cX9_end : ByteArray := prog_11_method_16_code
def yX9_end : MethodName := ⟨RX9, "end", "(I)I"⟩
abbrev cX9_fails : ByteArray := prog_11_method_17_code
def yX9_fails : MethodName := ⟨RX9, "fails", "(II)V"⟩
abbrev cX9_good : ByteArray := prog_11_method_18_code
def yX9_good : MethodName := ⟨RX9, "good", "()Z"⟩
abbrev cX9_token : ByteArray := prog_11_method_19_code
def yX9_token : MethodName := ⟨RX9, "token", "(III)V"⟩
abbrev cX9_cut : ByteArray := prog_11_method_20_code
def yX9_cut : MethodName := ⟨RX9, "cut", "()V"⟩
abbrev cX9_number : ByteArray := prog_11_method_21_code
def yX9_number : MethodName := ⟨RX9, "number", "(II)I"⟩
abbrev cX9_semi : ByteArray := prog_11_method_22_code
def yX9_semi : MethodName := ⟨RX9, "semi", "()V"⟩
abbrev cX9_oneRun : ByteArray := prog_11_method_23_code
def yX9_oneRun : MethodName := ⟨RX9, "oneRun", "(I)V"⟩
abbrev cX9_oneLine : ByteArray := prog_11_method_24_code
def yX9_oneLine : MethodName := ⟨RX9, "oneLine", "(I)V"⟩
abbrev cX9_colourSumsDiffer : ByteArray := prog_11_method_25_code
def yX9_colourSumsDiffer : MethodName := ⟨RX9, "colourSumsDiffer", "()Z"⟩
abbrev cX9_load : ByteArray := prog_11_method_26_code
def yX9_load : MethodName := ⟨RX9, "load", "()I"⟩
abbrev cX9_fault : ByteArray := prog_11_method_27_code
def yX9_fault : MethodName := ⟨RX9, "fault", "()I"⟩
abbrev cX9_blank : ByteArray := prog_11_method_28_code
def yX9_blank : MethodName := ⟨RX9, "blank", "(III)Z"⟩
abbrev cX9_many : ByteArray := prog_11_method_29_code
def yX9_many : MethodName := ⟨RX9, "many", "(I)I"⟩
abbrev cX9_about : ByteArray := prog_11_method_30_code
def yX9_about : MethodName := ⟨RX9, "about", "(I)I"⟩
abbrev cX9_run : ByteArray := prog_11_method_31_code
def yX9_run : MethodName := ⟨RX9, "run", "(III)I"⟩
abbrev cX9_give : ByteArray := prog_11_method_32_code
def yX9_give : MethodName := ⟨RX9, "give", "(III)Z"⟩
abbrev cX9_given : ByteArray := prog_11_method_33_code
def yX9_given : MethodName := ⟨RX9, "given", "(II)I"⟩
abbrev cX9_first : ByteArray := prog_11_method_34_code
def yX9_first : MethodName := ⟨RX9, "first", "([II)V"⟩
abbrev cX9_fresh : ByteArray := prog_11_method_35_code
def yX9_fresh : MethodName := ⟨RX9, "fresh", "()Z"⟩
abbrev cX9_can : ByteArray := prog_11_method_36_code
def yX9_can : MethodName := ⟨RX9, "can", "(II)Z"⟩
abbrev cX9_lay : ByteArray := prog_11_method_37_code
def yX9_lay : MethodName := ⟨RX9, "lay", "(II)V"⟩
abbrev cX9_allWays : ByteArray := prog_11_method_38_code
def yX9_allWays : MethodName := ⟨RX9, "allWays", "([III)V"⟩
abbrev cX9_lineRule : ByteArray := prog_11_method_39_code
def yX9_lineRule : MethodName := ⟨RX9, "lineRule", "([III)I"⟩
abbrev cX9_toRest : ByteArray := prog_11_method_40_code
def yX9_toRest : MethodName := ⟨RX9, "toRest", "([II)Z"⟩
abbrev cX9_trying : ByteArray := prog_11_method_41_code
def yX9_trying : MethodName := ⟨RX9, "trying", "([I)Z"⟩
abbrev cX9_rule : ByteArray := prog_11_method_42_code
def yX9_rule : MethodName := ⟨RX9, "rule", "(I)I"⟩
abbrev cX9_ways : ByteArray := prog_11_method_43_code
def yX9_ways : MethodName := ⟨RX9, "ways", "(I)J"⟩
abbrev cX9_needSets : ByteArray := prog_11_method_44_code
def yX9_needSets : MethodName := ⟨RX9, "needSets", "()V"⟩
abbrev cX9_rest : ByteArray := prog_11_method_45_code
def yX9_rest : MethodName := ⟨RX9, "rest", "()I"⟩
abbrev cX9_tries : ByteArray := prog_11_method_46_code
def yX9_tries : MethodName := ⟨RX9, "tries", "()I"⟩
abbrev cX9_set : ByteArray := prog_11_method_47_code
def yX9_set : MethodName := ⟨RX9, "set", "(II)I"⟩
abbrev cX9_allOne : ByteArray := prog_11_method_48_code
def yX9_allOne : MethodName := ⟨RX9, "allOne", "([II)Z"⟩
abbrev cX9_least : ByteArray := prog_11_method_49_code
def yX9_least : MethodName := ⟨RX9, "least", "(I)I"⟩
abbrev cX9_branch : ByteArray := prog_11_method_50_code
def yX9_branch : MethodName := ⟨RX9, "branch", "(I)I"⟩
abbrev cX9_look : ByteArray := prog_11_method_51_code
def yX9_look : MethodName := ⟨RX9, "look", "(I)V"⟩
abbrev cX9_searches : ByteArray := prog_11_method_52_code
def yX9_searches : MethodName := ⟨RX9, "searches", "(II)V"⟩
abbrev cX9_search : ByteArray := prog_11_method_53_code
def yX9_search : MethodName := ⟨RX9, "search", "(II)I"⟩
abbrev cX9_nodes : ByteArray := prog_11_method_54_code
def yX9_nodes : MethodName := ⟨RX9, "nodes", "()I"⟩
abbrev cX9_solution : ByteArray := prog_11_method_55_code
def yX9_solution : MethodName := ⟨RX9, "solution", "(III)I"⟩
abbrev cX9_level : ByteArray := prog_11_method_56_code
def yX9_level : MethodName := ⟨RX9, "level", "()I"⟩
abbrev cX9_mark : ByteArray := prog_11_method_57_code
def yX9_mark : MethodName := ⟨RX9, "mark", "(III)Z"⟩
abbrev cX9_marked : ByteArray := prog_11_method_58_code
def yX9_marked : MethodName := ⟨RX9, "marked", "(II)I"⟩
abbrev cX9_shown : ByteArray := prog_11_method_59_code
def yX9_shown : MethodName := ⟨RX9, "shown", "(I)I"⟩
abbrev cX9_readsAs : ByteArray := prog_11_method_60_code
def yX9_readsAs : MethodName := ⟨RX9, "readsAs", "(I)I"⟩
abbrev cX9_isDone : ByteArray := prog_11_method_61_code
def yX9_isDone : MethodName := ⟨RX9, "isDone", "()Z"⟩
abbrev cX9_done : ByteArray := prog_11_method_62_code
def yX9_done : MethodName := ⟨RX9, "done", "()I"⟩
abbrev cX9_wrong : ByteArray := prog_11_method_63_code
def yX9_wrong : MethodName := ⟨RX9, "wrong", "()I"⟩
abbrev cX9_hint : ByteArray := prog_11_method_64_code
def yX9_hint : MethodName := ⟨RX9, "hint", "()I"⟩
abbrev cX9_draw : ByteArray := prog_11_method_65_code
def yX9_draw : MethodName := ⟨RX9, "draw", "()I"⟩
abbrev cX9_mend : ByteArray := prog_11_method_66_code
def yX9_mend : MethodName := ⟨RX9, "mend", "()I"⟩
def RJ6 : String := "java/lang/Integer"
def TJ6 : u_T := fun k => match k with
  | _ => ("", "", "", false)
def tyJ6 : Nat → FieldType := fun k => match k with
  | _ => .int
abbrev wsJ60 : List Cond := u_ws RJ6 TJ6 0
theorem nmJ6 : ∀ a, a < 0 → ∀ b, b < 0 → a ≠ b → (TJ6 a).2.1 ≠ (TJ6 b).2.1 := by decide +kernel
theorem tyJ6_ok : ∀ k, k < 0 → parseFieldDescriptor (TJ6 k).2.2.1 = some (tyJ6 k) := by decide +kernel
abbrev cJ6_bitCount_0f7a4 : ByteArray := prog_12_method_49_code
def yJ6_bitCount_0f7a4 : MethodName := ⟨RJ6, "bitCount", "(I)I"⟩
def RJ9 : String := "java/lang/Math"
def TJ9 : u_T := fun k => match k with
  | _ => ("", "", "", false)
def tyJ9 : Nat → FieldType := fun k => match k with
  | _ => .int
abbrev wsJ90 : List Cond := u_ws RJ9 TJ9 0
theorem nmJ9 : ∀ a, a < 0 → ∀ b, b < 0 → a ≠ b → (TJ9 a).2.1 ≠ (TJ9 b).2.1 := by decide +kernel
theorem tyJ9_ok : ∀ k, k < 0 → parseFieldDescriptor (TJ9 k).2.2.1 = some (tyJ9 k) := by decide +kernel
abbrev cJ9_max_7cf53 : ByteArray := prog_13_method_65_code
def yJ9_max_7cf53 : MethodName := ⟨RJ9, "max", "(II)I"⟩
def RJ10 : String := "java/lang/System"
def TJ10 : u_T := fun k => match k with
  | _ => ("", "", "", false)
def tyJ10 : Nat → FieldType := fun k => match k with
  | _ => .int
abbrev wsJ100 : List Cond := u_ws RJ10 TJ10 0
theorem nmJ10 : ∀ a, a < 0 → ∀ b, b < 0 → a ≠ b → (TJ10 a).2.1 ≠ (TJ10 b).2.1 := by decide +kernel
theorem tyJ10_ok : ∀ k, k < 0 → parseFieldDescriptor (TJ10 k).2.2.1 = some (tyJ10 k) := by decide +kernel
def RJ7 : String := "java/util/Arrays"
def TJ7 : u_T := fun k => match k with
  | _ => ("", "", "", false)
def tyJ7 : Nat → FieldType := fun k => match k with
  | _ => .int
abbrev wsJ70 : List Cond := u_ws RJ7 TJ7 0
theorem nmJ7 : ∀ a, a < 0 → ∀ b, b < 0 → a ≠ b → (TJ7 a).2.1 ≠ (TJ7 b).2.1 := by decide +kernel
theorem tyJ7_ok : ∀ k, k < 0 → parseFieldDescriptor (TJ7 k).2.2.1 = some (tyJ7 k) := by decide +kernel
abbrev cJ7_fill_53178 : ByteArray := prog_15_method_103_code
def yJ7_fill_53178 : MethodName := ⟨RJ7, "fill", "([II)V"⟩
def RL : String := "CellPicturesLaw"
abbrev cL_law : ByteArray := code
theorem inX0 : ∀ w ∈ u_ws RX0 TX0 7, w ∈ gtb := mem_ps [67, 69, 71, 73, 75, 77, 79] (by decide +kernel) (by decide +kernel)
theorem inX1 : ∀ w ∈ u_ws RX1 TX1 5, w ∈ gtb := mem_ps [226, 228, 230, 232, 234] (by decide +kernel) (by decide +kernel)
theorem inX2 : ∀ w ∈ u_ws RX2 TX2 2, w ∈ gtb := mem_ps [128, 130] (by decide +kernel) (by decide +kernel)
theorem inX3 : ∀ w ∈ u_ws RX3 TX3 5, w ∈ gtb := mem_ps [144, 146, 148, 150, 152] (by decide +kernel) (by decide +kernel)
theorem inX4 : ∀ w ∈ u_ws RX4 TX4 2, w ∈ gtb := mem_ps [173, 175] (by decide +kernel) (by decide +kernel)
theorem inX5 : ∀ w ∈ u_ws RX5 TX5 8, w ∈ gtb := mem_ps [186, 188, 190, 192, 194, 196, 198, 200] (by decide +kernel) (by decide +kernel)
theorem inX6 : ∀ w ∈ u_ws RX6 TX6 2, w ∈ gtb := mem_ps [33, 35] (by decide +kernel) (by decide +kernel)
theorem inX7 : ∀ w ∈ u_ws RX7 TX7 8, w ∈ gtb := mem_ps [99, 101, 103, 105, 107, 109, 111, 113] (by decide +kernel) (by decide +kernel)
theorem inX8 : ∀ w ∈ u_ws RX8 TX8 14, w ∈ gtb := mem_ps [251, 253, 255, 257, 259, 261, 263, 265, 267, 269, 271, 273, 275, 277] (by decide +kernel) (by decide +kernel)
theorem inX9 : ∀ w ∈ u_ws RX9 TX9 50, w ∈ gtb := mem_ps [823, 825, 827, 829, 831, 833, 835, 837, 839, 841, 843, 845, 847, 849, 851, 853, 855, 857, 859, 861, 863, 865, 867, 869, 871, 873, 875, 877, 879, 881, 883, 885, 887, 889, 891, 893, 895, 897, 899, 901, 903, 905, 907, 909, 911, 913, 915, 917, 919, 921] (by decide +kernel) (by decide +kernel)
abbrev vwCl : List vw_C := [(RX0, TX0, 7), (RX1, TX1, 5), (RX2, TX2, 2), (RX3, TX3, 5), (RX4, TX4, 2), (RX5, TX5, 8), (RX6, TX6, 2), (RX7, TX7, 8), (RX8, TX8, 14), (RX9, TX9, 50)]
def shp : List (Nat × Nat × List Nat) := [
  (0, 8, [4, 6, 10, 14, 15, 17, 19, 24, 32, 34, 36, 41, 0, 0]),
  (0, 6, [5, 0]),
  (2, 900, []),
  (0, 0, [7, 8, 9, 0, 0, 0, 0]),
  (1, 24, []),
  (1, 288, []),
  (1, 288, []),
  (0, 0, [11, 12, 13, 0, 0, 0, 0]),
  (1, 24, []),
  (1, 288, []),
  (1, 288, []),
  (0, 7, [4, 10, 0, 0, 0, 0, 0, 0]),
  (0, 2, [16, 0]),
  (1, 144, []),
  (0, 2, [18, 0]),
  (1, 144, []),
  (0, 3, [6, 20, 21, 22, 23]),
  (1, 13, []),
  (1, 12, []),
  (3, 13, []),
  (3, 13, []),
  (0, 5, [6, 19, 28, 30, 25, 26, 27, 0]),
  (3, 3456, []),
  (1, 144, []),
  (1, 144, []),
  (0, 4, [6, 29]),
  (3, 24, []),
  (0, 4, [6, 31]),
  (3, 24, []),
  (0, 4, [6, 33]),
  (3, 24, []),
  (0, 4, [6, 35]),
  (3, 24, []),
  (0, 1, [37, 39, 0, 0, 0]),
  (0, 2, [38, 0]),
  (1, 144, []),
  (0, 2, [40, 0]),
  (1, 144, []),
  (0, 1, [42, 44, 0, 0, 0]),
  (0, 2, [43, 0]),
  (1, 144, []),
  (0, 2, [45, 0]),
  (1, 144, []),
  (0, 9, [0, 0, 0, 0, 47, 48, 49, 50, 51, 52, 0, 0, 0, 0, 53, 54, 0, 0, 0, 0, 55, 56, 57, 0, 0, 0, 0, 0, 58, 59, 60, 2, 0, 0, 61, 62, 1, 0, 63, 0, 64, 0, 0, 0, 0, 0, 65, 66, 67, 68]),
  (1, 24, []),
  (1, 288, []),
  (1, 288, []),
  (1, 144, []),
  (1, 144, []),
  (1, 144, []),
  (1, 288, []),
  (1, 900, []),
  (1, 901, []),
  (1, 901, []),
  (1, 901, []),
  (1, 24, []),
  (1, 288, []),
  (1, 288, []),
  (1, 12, []),
  (1, 12, []),
  (1, 144, []),
  (1, 21024, []),
  (1, 288, []),
  (1, 144, []),
  (1, 12, []),
  (1, 12, [])]
end
section
/-! THE ENGINE: a static world of cells (shape 'shp'), its state St, and the judgement Wp (the machine at a frame over that world), a row an instruction -/
abbrev St : Type := (Nat → Nat → Int32) × (Nat → Nat → Int64) × Option Nat
abbrev MD : Type := MethodName × ByteArray × Nat × Option FieldType
def kdO (g j : Nat) : Option Nat := match shp[g]? with
  | some (0, _, ks) => ks[j]?
  | _ => none
def clO (g : Nat) : Nat := match shp[g]? with
  | some (0, ci, _) => ci
  | _ => 99
def arT (k : Nat) : Nat := match shp[k]? with
  | some (t, _, _) => t
  | _ => 0
def arN (k : Nat) : Nat := match shp[k]? with
  | some (_, n, _) => n
  | _ => 0
def rf (g j : Nat) : Nat := match kdO g j with
  | some k => k - 3
  | none => 0
def cv (ad : Nat → Nat) (v : Value) : Value := match v with
  | .ref k => .ref (ad k)
  | v => v
def fv (ad : Nat → Nat) (σ : St) (k j kd : Nat) : Value := match kd with
  | 0 => .int (σ.1 k j)
  | 1 => .long (σ.2.1 k j)
  | 2 => va_rf (σ.2.2.map ad)
  | t + 3 => .ref (ad t)
def cel (ad : Nat → Nat) (ca : Nat → ClassId) (σ : St) (k : Nat) (s : Nat × Nat × List Nat) : va_E := match s.1 with
  | 0 => .inr (s.2.1, s.2.2.mapIdx (fun j kd => fv ad σ k j kd))
  | 1 => .inl (ca k, s.2.1, .inl (σ.1 k))
  | 2 => .inl (ca k, s.2.1, .inl (σ.1 k))
  | _ => .inl (ca k, s.2.1, .inr (.inl (σ.2.1 k)))
def wld (ad : Nat → Nat) (ca : Nat → ClassId) (σ : St) : va_W := shp.mapIdx (fun k s => (ad k, cel ad ca σ k s))
def u2 {α : Type} (f : Nat → Nat → α) (k j : Nat) (v : α) : Nat → Nat → α := fun a b => if a = k ∧ b = j then v else f a b
def sF (σ : St) (k j : Nat) (v : Int32) : St := (u2 σ.1 k j v, σ.2)
def sL (σ : St) (k j : Nat) (v : Int64) : St := (σ.1, u2 σ.2.1 k j v, σ.2.2)
def sD (σ : St) (q : Nat) : St := (σ.1, σ.2.1, some q)
def rw1 {α : Type} (f : Nat → Nat → α) (k : Nat) (g : Nat → α) : Nat → Nat → α := fun a => if a = k then g else f a
def sRow (σ : St) (k : Nat) (g : Nat → Int32) : St := (rw1 σ.1 k g, σ.2)
def sRowL (σ : St) (k : Nat) (g : Nat → Int64) : St := (σ.1, rw1 σ.2.1 k g, σ.2.2)
theorem wld_get {ad : Nat → Nat} {ca : Nat → ClassId} {σ : St} {k : Nat} {s : Nat × Nat × List Nat} (h : shp[k]? = some s) : (wld ad ca σ)[k]? = some (ad k, cel ad ca σ k s) := by
  simp [wld, List.getElem?_mapIdx, h]
theorem wld_len {ad : Nat → Nat} {ca : Nat → ClassId} {σ : St} : (wld ad ca σ).length = shp.length := by simp [wld]
theorem wld_set {ad : Nat → Nat} {ca : Nat → ClassId} {σ σ' : St} {k : Nat} {s : Nat × Nat × List Nat} (h : shp[k]? = some s) (ho : ∀ i s', i ≠ k → shp[i]? = some s' → cel ad ca σ' i s' = cel ad ca σ i s') {E : va_E} (hE : cel ad ca σ' k s = E) : (wld ad ca σ).set k (ad k, E) = wld ad ca σ' := by
  have hk : k < shp.length := (List.getElem?_eq_some_iff.mp h).1
  apply List.ext_getElem?
  intro i
  rw [List.getElem?_set]
  by_cases hi : k = i
  · subst hi
    rw [wld_get (σ := σ') h, hE, wld_len]
    simp [hk]
  · simp only [hi, if_false]
    simp only [wld, List.getElem?_mapIdx]
    cases hs : shp[i]? with
    | none => rfl
    | some s' => simp [ho i s' (fun q => hi q.symm) hs]
theorem kdO_sp {g j kd : Nat} (h : kdO g j = some kd) : ∃ ci ks, shp[g]? = some (0, ci, ks) ∧ ks[j]? = some kd ∧ clO g = ci := by
  unfold kdO at h
  split at h
  · rename_i ci ks hs
    exact ⟨ci, ks, hs, h, by simp [clO, hs]⟩
  · cases h
theorem arT_sp {k t : Nat} (h : arT k = t) (h0 : t ≠ 0) : shp[k]? = some (t, arN k, (shp[k]?.getD (0, 0, [])).2.2) := by
  unfold arT at h
  split at h
  · rename_i t' n ks hs
    subst h
    simp [arN, hs]
  · exact absurd h.symm h0
theorem fv_congr {ad : Nat → Nat} {σ σ' : St} {k j : Nat} (h1 : σ'.1 k j = σ.1 k j) (h2 : σ'.2.1 k j = σ.2.1 k j) (h3 : σ'.2.2 = σ.2.2) (kd : Nat) : fv ad σ' k j kd = fv ad σ k j kd := by
  match kd with
  | 0 => simp only [fv, h1]
  | 1 => simp only [fv, h2]
  | 2 => simp only [fv, h3]
  | t + 3 => rfl
theorem cel_congr {ad : Nat → Nat} {ca : Nat → ClassId} {σ σ' : St} {k : Nat} (h1 : σ'.1 k = σ.1 k) (h2 : σ'.2.1 k = σ.2.1 k) (h3 : σ'.2.2 = σ.2.2) (s : Nat × Nat × List Nat) : cel ad ca σ' k s = cel ad ca σ k s := by
  obtain ⟨t, n, ks⟩ := s
  match t with
  | 0 =>
    simp only [cel]
    congr 3
    funext a b
    exact fv_congr (by rw [h1]) (by rw [h2]) h3 b
  | 1 => simp only [cel, h1]
  | 2 => simp only [cel, h1]
  | t + 3 => simp only [cel, h2]

/-! the writes -/
theorem set_i {ad : Nat → Nat} {ca : Nat → ClassId} {σ : St} {g j ci : Nat} {ks : List Nat} (h : shp[g]? = some (0, ci, ks)) (hk : ks[j]? = some 0) (v : Int32) :
    (wld ad ca σ).set g (ad g, .inr (ci, (ks.mapIdx (fun j kd => fv ad σ g j kd)).set j (.int v))) = wld ad ca (sF σ g j v) := by
  refine wld_set (σ' := sF σ g j v) h (fun i s' hi _ => cel_congr (σ := σ) (σ' := sF σ g j v) (by funext b; simp [sF, u2, hi]) rfl rfl s') ?_
  simp only [cel]
  congr 2
  apply List.ext_getElem?
  intro i
  rw [List.getElem?_set, List.getElem?_mapIdx, List.getElem?_mapIdx]
  by_cases hi : j = i
  · subst hi
    have hl : j < ks.length := (List.getElem?_eq_some_iff.mp hk).1
    rw [hk]
    simp [fv, sF, u2, hl]
  · simp only [hi, if_false]
    cases hs : ks[i]? with
    | none => rfl
    | some kd => simp only [Option.map_some]; exact congrArg some (fv_congr (σ := σ) (σ' := sF σ g j v) (by have q := fun q : i = j => hi q.symm; simp [sF, u2]; exact fun z => absurd z q) rfl rfl kd)
theorem set_l {ad : Nat → Nat} {ca : Nat → ClassId} {σ : St} {g j ci : Nat} {ks : List Nat} (h : shp[g]? = some (0, ci, ks)) (hk : ks[j]? = some 1) (v : Int64) :
    (wld ad ca σ).set g (ad g, .inr (ci, (ks.mapIdx (fun j kd => fv ad σ g j kd)).set j (.long v))) = wld ad ca (sL σ g j v) := by
  refine wld_set (σ' := sL σ g j v) h (fun i s' hi _ => cel_congr (σ := σ) (σ' := sL σ g j v) rfl (by funext b; simp [sL, u2, hi]) rfl s') ?_
  simp only [cel]
  congr 2
  apply List.ext_getElem?
  intro i
  rw [List.getElem?_set, List.getElem?_mapIdx, List.getElem?_mapIdx]
  by_cases hi : j = i
  · subst hi
    have hl : j < ks.length := (List.getElem?_eq_some_iff.mp hk).1
    rw [hk]
    simp [fv, sL, u2, hl]
  · simp only [hi, if_false]
    cases hs : ks[i]? with
    | none => rfl
    | some kd => simp only [Option.map_some]; exact congrArg some (fv_congr (σ := σ) (σ' := sL σ g j v) rfl (by have q := fun q : i = j => hi q.symm; simp [sL, u2]; exact fun z => absurd z q) rfl kd)
/-- the one field that holds a changing reference: of cell 43, place 31 -/
theorem dyn_one : ∀ g, g < shp.length → ∀ j, j < 50 → kdO g j = some 2 → g = 43 ∧ j = 31 := by decide +kernel
theorem dyn_len : ∀ s ∈ shp, s.2.2.length ≤ 50 := by decide +kernel
theorem fv_dyn {ad : Nat → Nat} {σ : St} {q k j kd : Nat} (h : kd ≠ 2) : fv ad (sD σ q) k j kd = fv ad σ k j kd := by
  match kd, h with
  | 0, _ => rfl
  | 1, _ => rfl
  | 2, h => exact absurd rfl h
  | t + 3, _ => rfl
theorem dyn_at {g j ci : Nat} {ks : List Nat} (h : shp[g]? = some (0, ci, ks)) (hk : ks[j]? = some 2) : g = 43 ∧ j = 31 := by
  have hl := dyn_len _ (List.mem_of_getElem? h)
  have hj : j < ks.length := (List.getElem?_eq_some_iff.mp hk).1
  exact dyn_one g (List.getElem?_eq_some_iff.mp h).1 j (by simp only at hl; omega) (by simp [kdO, h, hk])
theorem set_d {ad : Nat → Nat} {ca : Nat → ClassId} {σ : St} {g j ci : Nat} {ks : List Nat} (h : shp[g]? = some (0, ci, ks)) (hk : ks[j]? = some 2) (q : Nat) :
    (wld ad ca σ).set g (ad g, .inr (ci, (ks.mapIdx (fun j kd => fv ad σ g j kd)).set j (.ref (ad q)))) = wld ad ca (sD σ q) := by
  have h43 := dyn_at h hk
  refine wld_set (σ' := sD σ q) h (fun i s' hi hs => ?_) ?_
  · obtain ⟨t, n, ks'⟩ := s'
    match t with
    | 0 =>
      simp only [cel]
      congr 2
      apply List.ext_getElem?
      intro a
      rw [List.getElem?_mapIdx, List.getElem?_mapIdx]
      cases hz : ks'[a]? with
      | none => rfl
      | some kd =>
        simp only [Option.map_some]
        rw [fv_dyn]
        intro e
        subst e
        exact hi ((dyn_at hs hz).1.trans h43.1.symm)
    | 1 => rfl
    | 2 => rfl
    | t + 3 => rfl
  simp only [cel]
  congr 2
  apply List.ext_getElem?
  intro i
  rw [List.getElem?_set, List.getElem?_mapIdx, List.getElem?_mapIdx]
  by_cases hi : j = i
  · subst hi
    have hl : j < ks.length := (List.getElem?_eq_some_iff.mp hk).1
    rw [hk]
    simp [fv, sD, va_rf, hl]
  · simp only [hi, if_false]
    cases hs : ks[i]? with
    | none => rfl
    | some kd =>
      simp only [Option.map_some]
      rw [fv_dyn]
      intro e
      subst e
      exact hi ((h43.2).trans (dyn_at h hs).2.symm)
theorem set_ai {ad : Nat → Nat} {ca : Nat → ClassId} {σ : St} {k t : Nat} (h : arT k = t) (ht : t = 1 ∨ t = 2) (f : Nat → Int32) :
    (wld ad ca σ).set k (ad k, .inl (ca k, arN k, .inl f)) = wld ad ca (sRow σ k f) := by
  refine wld_set (σ' := sRow σ k f) (arT_sp h (by omega)) (fun i s' hi _ => cel_congr (σ := σ) (σ' := sRow σ k f) (by simp [sRow, rw1, hi]) rfl rfl s') ?_
  rcases ht with rfl | rfl <;> simp [cel, sRow, rw1]
theorem set_al {ad : Nat → Nat} {ca : Nat → ClassId} {σ : St} {k : Nat} (h : arT k = 3) (f : Nat → Int64) :
    (wld ad ca σ).set k (ad k, .inl (ca k, arN k, .inr (.inl f))) = wld ad ca (sRowL σ k f) := by
  refine wld_set (σ' := sRowL σ k f) (arT_sp h (by omega)) (fun i s' hi _ => cel_congr (σ := σ) (σ' := sRowL σ k f) rfl (by simp [sRowL, rw1, hi]) rfl s') ?_
  simp [cel, sRowL, rw1]
theorem sRow_upd {σ : St} {k i : Nat} {v : Int32} : sRow σ k (upd (σ.1 k) i v) = sF σ k i v := by
  simp only [sRow, sF]
  congr 1
  funext a b
  by_cases h : a = k
  · subst h
    by_cases hb : b = i <;> simp [rw1, u2, upd, hb]
  · simp [rw1, u2, h]
theorem sRowL_upd {σ : St} {k i : Nat} {v : Int64} : sRowL σ k (vp_updL (σ.2.1 k) i v) = sL σ k i v := by
  simp only [sRowL, sL]
  congr 2
  funext a b
  by_cases h : a = k
  · subst h
    by_cases hb : b = i <;> simp [rw1, u2, vp_updL, hb]
  · simp [rw1, u2, h]
theorem get_o {ad : Nat → Nat} {ca : Nat → ClassId} {σ : St} {g ci : Nat} {ks : List Nat} (h : shp[g]? = some (0, ci, ks)) : (wld ad ca σ)[g]? = some (ad g, .inr (ci, ks.mapIdx (fun j kd => fv ad σ g j kd))) := wld_get h
theorem get_ai {ad : Nat → Nat} {ca : Nat → ClassId} {σ : St} {k t : Nat} (h : arT k = t) (ht : t = 1 ∨ t = 2) : (wld ad ca σ)[k]? = some (ad k, .inl (ca k, arN k, .inl (σ.1 k))) := by
  rw [wld_get (arT_sp h (by omega))]
  rcases ht with rfl | rfl <;> rfl
theorem get_al {ad : Nat → Nat} {ca : Nat → ClassId} {σ : St} {k : Nat} (h : arT k = 3) : (wld ad ca σ)[k]? = some (ad k, .inl (ca k, arN k, .inr (.inl (σ.2.1 k)))) := by
  rw [wld_get (arT_sp h (by omega))]
  rfl
end
section
/-! the judgement: the machine at a frame over the static world -/
abbrev Am : Type := Program × Launch × Env × Room × State × MethodId × Array Value × List Frame × Method × Code × Nat × Nat × (State → Prop) × (Nat → Nat) × (Nat → ClassId) × va_G × List (ClassId × FieldType) × (Nat → Prop) × Heap
abbrev a_p (a : Am) : Program := a.1
abbrev a_l (a : Am) : Launch := a.2.1
abbrev a_e (a : Am) : Env := a.2.2.1
abbrev a_R (a : Am) : Room := a.2.2.2.1
abbrev a_s (a : Am) : State := a.2.2.2.2.1
abbrev a_m (a : Am) : MethodId := a.2.2.2.2.2.1
abbrev a_args (a : Am) : Array Value := a.2.2.2.2.2.2.1
abbrev a_below (a : Am) : List Frame := a.2.2.2.2.2.2.2.1
abbrev a_meth (a : Am) : Method := a.2.2.2.2.2.2.2.2.1
abbrev a_c (a : Am) : Code := a.2.2.2.2.2.2.2.2.2.1
abbrev a_cells (a : Am) : Nat := a.2.2.2.2.2.2.2.2.2.2.1
abbrev a_slots (a : Am) : Nat := a.2.2.2.2.2.2.2.2.2.2.2.1
abbrev a_Q (a : Am) : State → Prop := a.2.2.2.2.2.2.2.2.2.2.2.2.1
abbrev a_ad (a : Am) : Nat → Nat := a.2.2.2.2.2.2.2.2.2.2.2.2.2.1
abbrev a_ca (a : Am) : Nat → ClassId := a.2.2.2.2.2.2.2.2.2.2.2.2.2.2.1
abbrev a_D (a : Am) : va_G := a.2.2.2.2.2.2.2.2.2.2.2.2.2.2.2.1
abbrev a_tys (a : Am) : List (ClassId × FieldType) := a.2.2.2.2.2.2.2.2.2.2.2.2.2.2.2.2.1
abbrev a_A (a : Am) : Nat → Prop := a.2.2.2.2.2.2.2.2.2.2.2.2.2.2.2.2.2.1
abbrev a_H0 (a : Am) : Heap := a.2.2.2.2.2.2.2.2.2.2.2.2.2.2.2.2.2.2
def tyc (t : Nat) : FieldType := match t with
  | 1 => .int
  | 2 => .byte
  | _ => .long
def tyOK (ca : Nat → ClassId) (tys : List (ClassId × FieldType)) : Prop := ∀ k, arT k ≠ 0 → ∃ t0 : Nat, tys[t0]? = some (ca k, tyc (arT k))
def injA (ad : Nat → Nat) : Prop := ∀ i j, i < shp.length → j < shp.length → ad i = ad j → i = j
def Aw (ad : Nat → Nat) (sz : Nat) : Nat → Prop := fun q => (∃ k, k < shp.length ∧ q = ad k) ∨ sz ≤ q
def nOK (U : State) : Prop := ∀ w ∈ ntb, va_Nw w U
theorem nest_of {w : Cond} (h : w ∈ ntb) : isNest w = true := (List.mem_filter.mp h).2
theorem nOK.same {u U : State} (h : u.vm = U.vm) (hN : nOK u) : nOK U := by
  intro w hw
  have h1 := hN w hw
  have h2 := nest_of hw
  cases w <;> first | (simp [isNest] at h2; done) | exact va_Nw.same rfl h h1
theorem nOK.warm {s U : State} (hW : s.WarmedH U.vm) (hN : nOK s) : nOK U := by
  intro w hw
  have h1 := hN w hw
  have h2 := nest_of hw
  cases w <;> first | (simp [isNest] at h2; done) | exact va_Nw.warmF hW h1 | exact va_Nw.warmM hW h1
/-- what stands around a frame of method M with d frames free for calls -/
def Cx (M : MD) (d : Nat) (a : Am) : Prop :=
  (a_p a).tables.exec = Jvm.exec ∧ (a_c a).code = M.2.1 ∧ (a_c a).maxLocals = M.2.2.1 ∧ (a_s a).vm.findClass M.1.cls = some (a_m a).cls ∧ (∀ w ∈ gtb, w.before (a_args a) (a_s a) = true) ∧ nOK (a_s a) ∧ va_K (a_D a) vwCl (a_tys a) (a_s a) ∧ tyOK (a_ca a) (a_tys a) ∧ injA (a_ad a) ∧ (∀ k, k < shp.length → a_A a (a_ad a k)) ∧ (∀ q, (a_H0 a).size ≤ q → a_A a q) ∧ d ≤ (a_R a).frames ∧ 60 * d ≤ (a_R a).locals ∧ a_cells a ≤ (a_R a).cells ∧ a_slots a ≤ (a_R a).slots ∧ (a_meth a).sig.returnType = M.2.2.2 ∧ (a_meth a).locks = false
theorem Cx.D {M : MD} {d : Nat} {a : Am} (X : Cx M d a) (σ : St) : va_D (a_A a) (wld (a_ad a) (a_ca a) σ) := by
  obtain ⟨-, -, -, -, -, -, -, -, hi, hA, -⟩ := X
  have hk : ∀ (i : Nat) (q : Nat × va_E), (wld (a_ad a) (a_ca a) σ)[i]? = some q → i < shp.length ∧ q.1 = a_ad a i := by
    intro i q h
    have hl : i < shp.length := by
      have h2 := (List.getElem?_eq_some_iff.mp h).1
      rwa [wld_len] at h2
    refine ⟨hl, ?_⟩
    rw [wld_get (List.getElem?_eq_getElem hl)] at h
    cases h
    rfl
  refine ⟨fun i j p q hp hq e => ?_, fun k q h => ?_⟩
  · obtain ⟨a1, a2⟩ := hk i p hp
    obtain ⟨b1, b2⟩ := hk j q hq
    exact hi i j a1 b1 (by rw [← a2, ← b2, e])
  · obtain ⟨a1, a2⟩ := hk k q h
    rw [a2]
    exact hA k a1
def Lok (ad : Nat → Nat) (lsA : Array Slot) (nL : Nat) (ls : List (Option Value)) : Prop := lsA.size = nL ∧ lv_wf lsA ∧ ∀ (i : Nat) (v : Value), ls[i]? = some (some v) → lsA[i]? = some (.val (cv ad v))
def Wp (M : MD) (d : Nat) (P : Am → Prop) (pc : Nat) (ls : List (Option Value)) (st : List Value) (σ : St) : Prop :=
  ∀ a : Am, Cx M d a → P a → ∀ (H : Heap) (locs : List Loc) (lsA : Array Slot), va_P (a_D a) vwCl (wld (a_ad a) (a_ca a) σ) H → va_S (a_A a) (a_H0 a) H locs → Lok (a_ad a) lsA M.2.2.1 ls →
    W (a_p a) (a_l a) (a_e a) (a_R a) (a_s a) (a_m a) (a_args a) (a_below a) (a_meth a) (a_c a) H locs (a_cells a) (a_slots a) (a_Q a) (F0 (a_m a) pc lsA (st.map (cv (a_ad a))))
def Qcv (A : Nat → Prop) (D : va_G) (ad : Nat → Nat) (ca : Nat → ClassId) (r : Option Value) (σ' : St) : Array Value → State → Outcome → State → Prop := fun _ st oc t => oc = .returned (r.map (cv ad)) ∧ va_P D vwCl (wld ad ca σ') t.heap ∧ va_F A st t
def Pcv (D : va_G) (ad : Nat → Nat) (ca : Nat → ClassId) (tys : List (ClassId × FieldType)) (sz : Nat) (vs : List Value) (σ : St) : Array Value → State → Prop := va_Pc (vs.map (cv ad)) (fun U => U.heap.size = sz ∧ va_P D vwCl (wld ad ca σ) U.heap ∧ va_K D vwCl tys U ∧ nOK U)
def PR (r : Option Value) (σ' : St) (a : Am) : Prop := a_Q a = MQ (a_below a) (Qcv (a_A a) (a_D a) (a_ad a) (a_ca a) r σ') (a_args a) (a_s a) (a_cells a) (a_slots a) (a_A a) ∧ a_H0 a = (a_s a).heap
def wsM (M : MD) : List Cond := Cond.code M.1 M.2.1 M.2.2.1 M.2.2.2 :: gtb
/-- method M, called with vs in state σ, answers r and leaves σ', with d frames free below it -/
def Ct (d : Nat) (M : MD) (vs : List Value) (σ : St) (r : Option Value) (σ' : St) : Prop :=
  ∀ (l : Launch) (D : va_G) (ad : Nat → Nat) (ca : Nat → ClassId) (tys : List (ClassId × FieldType)) (sz fr lo : Nat), d ≤ fr → 60 * d ≤ lo → injA ad → tyOK ca tys →
    Met l M.1 (wsM M) { frames := fr, cells := 0, slots := 0, locals := lo } (Pcv D ad ca tys sz vs σ) (Qcv (Aw ad sz) D ad ca r σ') 0 0 (Aw ad sz)
def ent : List Value → List (Option Value)
  | [] => []
  | .long x :: vs => some (.long x) :: none :: ent vs
  | .double x :: vs => some (.double x) :: none :: ent vs
  | v :: vs => some v :: ent vs
theorem cv_cat (ad : Nat → Nat) (v : Value) : (cv ad v).category = v.category := by cases v <;> rfl
theorem ent_cons (v : Value) (vs : List Value) : ent (v :: vs) = some v :: ((if v.category = 2 then [none] else []) ++ ent vs) := by cases v <;> rfl
theorem ent_at (ad : Nat → Nat) (vs : List Value) : ∀ (k i : Nat) (v : Value), (ent vs)[i]? = some (some v) → (k + i, cv ad v) ∈ lv_args k (vs.map (cv ad)) := by
  induction vs with
  | nil => intro k i v h; simp [ent] at h
  | cons w vs ih =>
    intro k i v h
    rw [ent_cons] at h
    simp only [List.map_cons, lv_args, List.mem_cons, cv_cat]
    cases i with
    | zero =>
      simp at h
      exact Or.inl (by rw [h]; rfl)
    | succ i =>
      right
      simp only [List.getElem?_cons_succ] at h
      by_cases hc : w.category = 2
      · simp only [hc, if_true] at h ⊢
        cases i with
        | zero => simp at h
        | succ i =>
          have h2 := ih (k + 2) i v (by simpa using h)
          rw [show k + (i + 1 + 1) = k + 2 + i by omega]
          exact h2
      · simp only [hc, if_false] at h ⊢
        have h2 := ih (k + 1) i v (by simpa using h)
        rw [show k + (i + 1) = k + 1 + i by omega]
        exact h2
theorem ent_len (ad : Nat → Nat) (vs : List Value) : (lg_sl (vs.map (cv ad))).length = (ent vs).length := by
  induction vs with
  | nil => rfl
  | cons w vs ih =>
    rw [ent_cons]
    simp only [List.map_cons, lg_sl, List.flatMap_cons, List.length_append, cv_cat]
    have h2 : (List.flatMap (fun v : Value => if v.category = 2 then [Slot.val v, Slot.second] else [Slot.val v]) (vs.map (cv ad))).length = (ent vs).length := ih
    rw [h2]
    by_cases hc : w.category = 2 <;> simp [hc] <;> omega
/-- a contract out of a walk from the entry -/
theorem ct_of {d : Nat} {M : MD} {vs : List Value} {σ σ' : St} {r : Option Value} (ls0 : List (Option Value)) (n : Nat) (hy : plainName M.1.cls = true) (hls : ent vs ++ List.replicate n none = ls0) (hlen : (ent vs).length ≤ M.2.2.1) (k : Wp M d (PR r σ') 0 ls0 [] σ) : Ct d M vs σ r σ' := by
  intro l D ad ca tys sz fr lo hfr hlo hinj hty
  refine Met.ofW (cc := M.2.1) (maxL := M.2.2.1) (ret := M.2.2.2) (ws' := gtb) hy rfl ?_
  intro p e s m args below meth c s₁ B hml hv
  obtain ⟨rfl, hsz, hP, hK, hN⟩ := hv
  have hts := atoms_spec (ws := wsM M) B.pre
  subst hsz
  have hl := lv_entry (vs.map (cv ad)) (n := M.2.2.1) (by rw [ent_len]; exact hlen)
  rw [lg_entry_eq]
  generalize (lg_sl (vs.map (cv ad)) ++ List.replicate (M.2.2.1 - (lg_sl (vs.map (cv ad))).length) Slot.unset).toArray = lsA at hl ⊢
  refine k (p, l, e, (headSpec (wsM M) { frames := fr, cells := 0, slots := 0, locals := lo }).room, s, m, (vs.map (cv ad)).toArray, below, meth, c, 0, 0, _, ad, ca, D, tys, Aw ad s.heap.size, s.heap) ⟨B.exec, B.bytes, hml, findClass_of_methodNamed B.named, fun w hw => hts w (List.mem_cons_of_mem _ hw), hN, hK, hty, hinj, fun k hk => Or.inl ⟨k, hk, rfl⟩, fun q h => Or.inr h, hfr, hlo, Nat.zero_le _, Nat.zero_le _, B.returns, B.notSynchronized⟩ ⟨rfl, rfl⟩ s.heap [] lsA hP va_S.rf ⟨hl.1, hl.2.1, fun i v h => ?_⟩
  have h2 : (ent vs)[i]? = some (some v) := by
    rw [← hls] at h
    rcases Nat.lt_or_ge i (ent vs).length with q | q
    · rwa [List.getElem?_append_left q] at h
    · rw [List.getElem?_append_right q, List.getElem?_replicate] at h
      split at h <;> cases h
  have h3 := ent_at ad vs 0 i v h2
  have h4 := hl.2.2 _ h3
  simpa using h4
end
section
/-! a row an instruction (written by wip/gen/rows.py) -/
theorem wp_iadd {M : MD} {d : Nat} {P : Am → Prop} {pc : Nat} {ls : List (Option Value)} {st : List Value} {σ : St} {x y : Int32} (hd : decode M.2.1 pc = .ok (.iadd, 1)) (k : Wp M d P (pc + 1) ls (.int (x + y) :: st) σ) : Wp M d P pc ls (.int y :: .int x :: st) σ :=
  fun a X hP H locs lsA hW hS hl => lv_iadd X.1 X.2.1 hd (k a X hP H locs lsA hW hS hl)
theorem wp_isub {M : MD} {d : Nat} {P : Am → Prop} {pc : Nat} {ls : List (Option Value)} {st : List Value} {σ : St} {x y : Int32} (hd : decode M.2.1 pc = .ok (.isub, 1)) (k : Wp M d P (pc + 1) ls (.int (x - y) :: st) σ) : Wp M d P pc ls (.int y :: .int x :: st) σ :=
  fun a X hP H locs lsA hW hS hl => lv_isub X.1 X.2.1 hd (k a X hP H locs lsA hW hS hl)
theorem wp_imul {M : MD} {d : Nat} {P : Am → Prop} {pc : Nat} {ls : List (Option Value)} {st : List Value} {σ : St} {x y : Int32} (hd : decode M.2.1 pc = .ok (.imul, 1)) (k : Wp M d P (pc + 1) ls (.int (x * y) :: st) σ) : Wp M d P pc ls (.int y :: .int x :: st) σ :=
  fun a X hP H locs lsA hW hS hl => lv_imul X.1 X.2.1 hd (k a X hP H locs lsA hW hS hl)
theorem wp_iand {M : MD} {d : Nat} {P : Am → Prop} {pc : Nat} {ls : List (Option Value)} {st : List Value} {σ : St} {x y : Int32} (hd : decode M.2.1 pc = .ok (.iand, 1)) (k : Wp M d P (pc + 1) ls (.int (x &&& y) :: st) σ) : Wp M d P pc ls (.int y :: .int x :: st) σ :=
  fun a X hP H locs lsA hW hS hl => lv_iand X.1 X.2.1 hd (k a X hP H locs lsA hW hS hl)
theorem wp_ior {M : MD} {d : Nat} {P : Am → Prop} {pc : Nat} {ls : List (Option Value)} {st : List Value} {σ : St} {x y : Int32} (hd : decode M.2.1 pc = .ok (.ior, 1)) (k : Wp M d P (pc + 1) ls (.int (x ||| y) :: st) σ) : Wp M d P pc ls (.int y :: .int x :: st) σ :=
  fun a X hP H locs lsA hW hS hl => lv_ior X.1 X.2.1 hd (k a X hP H locs lsA hW hS hl)
theorem wp_ixor {M : MD} {d : Nat} {P : Am → Prop} {pc : Nat} {ls : List (Option Value)} {st : List Value} {σ : St} {x y : Int32} (hd : decode M.2.1 pc = .ok (.ixor, 1)) (k : Wp M d P (pc + 1) ls (.int (x ^^^ y) :: st) σ) : Wp M d P pc ls (.int y :: .int x :: st) σ :=
  fun a X hP H locs lsA hW hS hl => lv_ixor X.1 X.2.1 hd (k a X hP H locs lsA hW hS hl)
theorem wp_ishl {M : MD} {d : Nat} {P : Am → Prop} {pc : Nat} {ls : List (Option Value)} {st : List Value} {σ : St} {x y : Int32} (hd : decode M.2.1 pc = .ok (.ishl, 1)) (k : Wp M d P (pc + 1) ls (.int (x <<< (y &&& 31)) :: st) σ) : Wp M d P pc ls (.int y :: .int x :: st) σ :=
  fun a X hP H locs lsA hW hS hl => lv_ishl X.1 X.2.1 hd (k a X hP H locs lsA hW hS hl)
theorem wp_ishr {M : MD} {d : Nat} {P : Am → Prop} {pc : Nat} {ls : List (Option Value)} {st : List Value} {σ : St} {x y : Int32} (hd : decode M.2.1 pc = .ok (.ishr, 1)) (k : Wp M d P (pc + 1) ls (.int (x >>> (y &&& 31)) :: st) σ) : Wp M d P pc ls (.int y :: .int x :: st) σ :=
  fun a X hP H locs lsA hW hS hl => lv_ishr X.1 X.2.1 hd (k a X hP H locs lsA hW hS hl)
theorem wp_iushr {M : MD} {d : Nat} {P : Am → Prop} {pc : Nat} {ls : List (Option Value)} {st : List Value} {σ : St} {x y : Int32} (hd : decode M.2.1 pc = .ok (.iushr, 1)) (k : Wp M d P (pc + 1) ls (.int ((x.toUInt32 >>> (y.toUInt32 &&& Int32.toUInt32 31)).toInt32) :: st) σ) : Wp M d P pc ls (.int y :: .int x :: st) σ :=
  fun a X hP H locs lsA hW hS hl => lv_iushr X.1 X.2.1 hd rfl (k a X hP H locs lsA hW hS hl)
theorem wp_idiv {M : MD} {d : Nat} {P : Am → Prop} {pc : Nat} {ls : List (Option Value)} {st : List Value} {σ : St} {x y : Int32} (hd : decode M.2.1 pc = .ok (.idiv, 1)) (hn : ¬ y = 0) (k : Wp M d P (pc + 1) ls (.int (x / y) :: st) σ) : Wp M d P pc ls (.int y :: .int x :: st) σ :=
  fun a X hP H locs lsA hW hS hl => lv_idiv X.1 X.2.1 hd hn (k a X hP H locs lsA hW hS hl)
theorem wp_irem {M : MD} {d : Nat} {P : Am → Prop} {pc : Nat} {ls : List (Option Value)} {st : List Value} {σ : St} {x y : Int32} (hd : decode M.2.1 pc = .ok (.irem, 1)) (hn : ¬ y = 0) (k : Wp M d P (pc + 1) ls (.int (x - x / y * y) :: st) σ) : Wp M d P pc ls (.int y :: .int x :: st) σ :=
  fun a X hP H locs lsA hW hS hl => lv_irem X.1 X.2.1 hd hn (k a X hP H locs lsA hW hS hl)
theorem wp_ineg {M : MD} {d : Nat} {P : Am → Prop} {pc : Nat} {ls : List (Option Value)} {st : List Value} {σ : St} {x : Int32} (hd : decode M.2.1 pc = .ok (.ineg, 1)) (k : Wp M d P (pc + 1) ls (.int (-x) :: st) σ) : Wp M d P pc ls (.int x :: st) σ :=
  fun a X hP H locs lsA hW hS hl => lv_ineg X.1 X.2.1 hd (k a X hP H locs lsA hW hS hl)
theorem wp_ladd {M : MD} {d : Nat} {P : Am → Prop} {pc : Nat} {ls : List (Option Value)} {st : List Value} {σ : St} {x y : Int64} (hd : decode M.2.1 pc = .ok (.ladd, 1)) (k : Wp M d P (pc + 1) ls (.long (x + y) :: st) σ) : Wp M d P pc ls (.long y :: .long x :: st) σ :=
  fun a X hP H locs lsA hW hS hl => lv_ladd X.1 X.2.1 hd (k a X hP H locs lsA hW hS hl)
theorem wp_lsub {M : MD} {d : Nat} {P : Am → Prop} {pc : Nat} {ls : List (Option Value)} {st : List Value} {σ : St} {x y : Int64} (hd : decode M.2.1 pc = .ok (.lsub, 1)) (k : Wp M d P (pc + 1) ls (.long (x - y) :: st) σ) : Wp M d P pc ls (.long y :: .long x :: st) σ :=
  fun a X hP H locs lsA hW hS hl => lv_lsub X.1 X.2.1 hd (k a X hP H locs lsA hW hS hl)
theorem wp_land {M : MD} {d : Nat} {P : Am → Prop} {pc : Nat} {ls : List (Option Value)} {st : List Value} {σ : St} {x y : Int64} (hd : decode M.2.1 pc = .ok (.land, 1)) (k : Wp M d P (pc + 1) ls (.long (x &&& y) :: st) σ) : Wp M d P pc ls (.long y :: .long x :: st) σ :=
  fun a X hP H locs lsA hW hS hl => lv_land X.1 X.2.1 hd (k a X hP H locs lsA hW hS hl)
theorem wp_lor {M : MD} {d : Nat} {P : Am → Prop} {pc : Nat} {ls : List (Option Value)} {st : List Value} {σ : St} {x y : Int64} (hd : decode M.2.1 pc = .ok (.lor, 1)) (k : Wp M d P (pc + 1) ls (.long (x ||| y) :: st) σ) : Wp M d P pc ls (.long y :: .long x :: st) σ :=
  fun a X hP H locs lsA hW hS hl => lv_lor X.1 X.2.1 hd (k a X hP H locs lsA hW hS hl)
theorem wp_lxor {M : MD} {d : Nat} {P : Am → Prop} {pc : Nat} {ls : List (Option Value)} {st : List Value} {σ : St} {x y : Int64} (hd : decode M.2.1 pc = .ok (.lxor, 1)) (k : Wp M d P (pc + 1) ls (.long (x ^^^ y) :: st) σ) : Wp M d P pc ls (.long y :: .long x :: st) σ :=
  fun a X hP H locs lsA hW hS hl => lv_lxor X.1 X.2.1 hd (k a X hP H locs lsA hW hS hl)
theorem wp_lushr {M : MD} {d : Nat} {P : Am → Prop} {pc : Nat} {ls : List (Option Value)} {st : List Value} {σ : St} {x : Int64} {y : Int32} (hd : decode M.2.1 pc = .ok (.lushr, 1)) (k : Wp M d P (pc + 1) ls (.long ((x.toUInt64 >>> (y.toInt64.toUInt64 &&& Int64.toUInt64 63)).toInt64) :: st) σ) : Wp M d P pc ls (.int y :: .long x :: st) σ :=
  fun a X hP H locs lsA hW hS hl => lv_lushr X.1 X.2.1 hd rfl (k a X hP H locs lsA hW hS hl)
theorem wp_lshl {M : MD} {d : Nat} {P : Am → Prop} {pc : Nat} {ls : List (Option Value)} {st : List Value} {σ : St} {x : Int64} {y : Int32} (hd : decode M.2.1 pc = .ok (.lshl, 1)) (k : Wp M d P (pc + 1) ls (.long (x <<< (y.toInt64 &&& 63)) :: st) σ) : Wp M d P pc ls (.int y :: .long x :: st) σ :=
  fun a X hP H locs lsA hW hS hl => lv_lshl X.1 X.2.1 hd rfl (k a X hP H locs lsA hW hS hl)
theorem wp_lcmp {M : MD} {d : Nat} {P : Am → Prop} {pc : Nat} {ls : List (Option Value)} {st : List Value} {σ : St} {x y : Int64} (hd : decode M.2.1 pc = .ok (.lcmp, 1)) (k : Wp M d P (pc + 1) ls (.int (lg_cmp x y) :: st) σ) : Wp M d P pc ls (.long y :: .long x :: st) σ :=
  fun a X hP H locs lsA hW hS hl => W.lcmp X.1 X.2.1 hd (k a X hP H locs lsA hW hS hl)
theorem wp_i2l {M : MD} {d : Nat} {P : Am → Prop} {pc : Nat} {ls : List (Option Value)} {st : List Value} {σ : St} {x : Int32} (hd : decode M.2.1 pc = .ok (.i2l, 1)) (k : Wp M d P (pc + 1) ls (.long x.toInt64 :: st) σ) : Wp M d P pc ls (.int x :: st) σ :=
  fun a X hP H locs lsA hW hS hl => lv_i2l X.1 X.2.1 hd rfl (k a X hP H locs lsA hW hS hl)
theorem wp_l2i {M : MD} {d : Nat} {P : Am → Prop} {pc : Nat} {ls : List (Option Value)} {st : List Value} {σ : St} {x : Int64} (hd : decode M.2.1 pc = .ok (.l2i, 1)) (k : Wp M d P (pc + 1) ls (.int x.toInt32 :: st) σ) : Wp M d P pc ls (.long x :: st) σ :=
  fun a X hP H locs lsA hW hS hl => lv_l2i X.1 X.2.1 hd rfl (k a X hP H locs lsA hW hS hl)
theorem wp_i2b {M : MD} {d : Nat} {P : Am → Prop} {pc : Nat} {ls : List (Option Value)} {st : List Value} {σ : St} {x : Int32} (hd : decode M.2.1 pc = .ok (.i2b, 1)) (k : Wp M d P (pc + 1) ls (.int x.toInt8.toInt32 :: st) σ) : Wp M d P pc ls (.int x :: st) σ :=
  fun a X hP H locs lsA hW hS hl => lv_i2b X.1 X.2.1 hd rfl (k a X hP H locs lsA hW hS hl)
theorem wp_iconst {M : MD} {d : Nat} {P : Am → Prop} {pc : Nat} {ls : List (Option Value)} {st : List Value} {σ : St} {n : Int} {v : Int32} (hd : decode M.2.1 pc = .ok (.iconst n, 1)) (hv : Int32.ofInt n = v) (k : Wp M d P (pc + 1) ls (.int v :: st) σ) : Wp M d P pc ls (st) σ :=
  fun a X hP H locs lsA hW hS hl => lv_iconst X.1 X.2.1 hd hv (k a X hP H locs lsA hW hS hl)
theorem wp_bipush {M : MD} {d : Nat} {P : Am → Prop} {pc : Nat} {ls : List (Option Value)} {st : List Value} {σ : St} {n : Int} {v : Int32} (hd : decode M.2.1 pc = .ok (.bipush n, 2)) (hv : (Int8.ofInt n).toInt32 = v) (k : Wp M d P (pc + 2) ls (.int v :: st) σ) : Wp M d P pc ls (st) σ :=
  fun a X hP H locs lsA hW hS hl => lv_bipush X.1 X.2.1 hd hv (k a X hP H locs lsA hW hS hl)
theorem wp_sipush {M : MD} {d : Nat} {P : Am → Prop} {pc : Nat} {ls : List (Option Value)} {st : List Value} {σ : St} {n : Int} {v : Int32} (hd : decode M.2.1 pc = .ok (.sipush n, 3)) (hv : (Int16.ofInt n).toInt32 = v) (k : Wp M d P (pc + 3) ls (.int v :: st) σ) : Wp M d P pc ls (st) σ :=
  fun a X hP H locs lsA hW hS hl => lv_sipush X.1 X.2.1 hd hv (k a X hP H locs lsA hW hS hl)
theorem wp_lconst {M : MD} {d : Nat} {P : Am → Prop} {pc : Nat} {ls : List (Option Value)} {st : List Value} {σ : St} {n : Fin 2} {v : Int64} (hd : decode M.2.1 pc = .ok (.lconst n, 1)) (hv : Int64.ofNat (n : Nat) = v) (k : Wp M d P (pc + 1) ls (.long v :: st) σ) : Wp M d P pc ls (st) σ :=
  fun a X hP H locs lsA hW hS hl => lv_lconst X.1 X.2.1 hd hv (k a X hP H locs lsA hW hS hl)
theorem wp_dup_i {M : MD} {d : Nat} {P : Am → Prop} {pc : Nat} {ls : List (Option Value)} {st : List Value} {σ : St} {x : Int32} (hd : decode M.2.1 pc = .ok (.dup, 1)) (k : Wp M d P (pc + 1) ls (.int x :: .int x :: st) σ) : Wp M d P pc ls (.int x :: st) σ :=
  fun a X hP H locs lsA hW hS hl => lv_dup X.1 X.2.1 hd rfl (k a X hP H locs lsA hW hS hl)
theorem wp_dup_r {M : MD} {d : Nat} {P : Am → Prop} {pc : Nat} {ls : List (Option Value)} {st : List Value} {σ : St} {x : Nat} (hd : decode M.2.1 pc = .ok (.dup, 1)) (k : Wp M d P (pc + 1) ls (.ref x :: .ref x :: st) σ) : Wp M d P pc ls (.ref x :: st) σ :=
  fun a X hP H locs lsA hW hS hl => lv_dup X.1 X.2.1 hd rfl (k a X hP H locs lsA hW hS hl)
theorem wp_dup2_ir {M : MD} {d : Nat} {P : Am → Prop} {pc : Nat} {ls : List (Option Value)} {st : List Value} {σ : St} {x : Int32} {q : Nat} (hd : decode M.2.1 pc = .ok (.dup2, 1)) (k : Wp M d P (pc + 1) ls (.int x :: .ref q :: .int x :: .ref q :: st) σ) : Wp M d P pc ls (.int x :: .ref q :: st) σ :=
  fun a X hP H locs lsA hW hS hl => lv_dup2_11 X.1 X.2.1 hd rfl rfl (k a X hP H locs lsA hW hS hl)
theorem wp_pop_i {M : MD} {d : Nat} {P : Am → Prop} {pc : Nat} {ls : List (Option Value)} {st : List Value} {σ : St} {x : Int32} (hd : decode M.2.1 pc = .ok (.pop, 1)) (k : Wp M d P (pc + 1) ls (st) σ) : Wp M d P pc ls (.int x :: st) σ :=
  fun a X hP H locs lsA hW hS hl => lv_pop X.1 X.2.1 hd rfl (k a X hP H locs lsA hW hS hl)
theorem wp_ldcw {M : MD} {d : Nat} {P : Am → Prop} {pc : Nat} {ls : List (Option Value)} {st : List Value} {σ : St} {idx : Nat} {v : Int32} (hd : decode M.2.1 pc = .ok (.ldc_w idx, 3)) (hc : Cond.constant M.1.cls idx v ∈ gtb) (k : Wp M d P (pc + 3) ls (.int v :: st) σ) : Wp M d P pc ls (st) σ :=
  fun a X hP H locs lsA hW hS hl => lv_ldcw X.1 X.2.1 X.2.2.2.1 (X.2.2.2.2.1 _ hc) hd (k a X hP H locs lsA hW hS hl)
theorem wp_ldc2 {M : MD} {d : Nat} {P : Am → Prop} {pc : Nat} {ls : List (Option Value)} {st : List Value} {σ : St} {idx : Nat} {v : Int64} (hd : decode M.2.1 pc = .ok (.ldc2_w idx, 3)) (hc : Cond.constantLong M.1.cls idx v ∈ gtb) (k : Wp M d P (pc + 3) ls (.long v :: st) σ) : Wp M d P pc ls (st) σ :=
  fun a X hP H locs lsA hW hS hl => lv_ldc2 X.1 X.2.1 X.2.2.2.1 (X.2.2.2.2.1 _ hc) hd (k a X hP H locs lsA hW hS hl)
theorem wp_iload_n {M : MD} {d : Nat} {P : Am → Prop} {pc : Nat} {ls : List (Option Value)} {st : List Value} {σ : St} {q : Fin 4} {i : Nat} {x : Int32} (hd : decode M.2.1 pc = .ok (.iload_n q, 1)) (hi : (q : Nat) = i) (h : ls[i]? = some (some (.int x))) (k : Wp M d P (pc + 1) ls (.int x :: st) σ) : Wp M d P pc ls st σ :=
  fun a X hP H locs lsA hW hS hl => lv_iload_n X.1 X.2.1 hd hi (hl.2.2 i _ h) (k a X hP H locs lsA hW hS hl)
theorem wp_iload {M : MD} {d : Nat} {P : Am → Prop} {pc : Nat} {ls : List (Option Value)} {st : List Value} {σ : St} {i : Nat} {x : Int32} (hd : decode M.2.1 pc = .ok (.iload i, 2)) (h : ls[i]? = some (some (.int x))) (k : Wp M d P (pc + 2) ls (.int x :: st) σ) : Wp M d P pc ls st σ :=
  fun a X hP H locs lsA hW hS hl => lv_iload X.1 X.2.1 hd (hl.2.2 i _ h) (k a X hP H locs lsA hW hS hl)
theorem wp_lload_n {M : MD} {d : Nat} {P : Am → Prop} {pc : Nat} {ls : List (Option Value)} {st : List Value} {σ : St} {q : Fin 4} {i : Nat} {x : Int64} (hd : decode M.2.1 pc = .ok (.lload_n q, 1)) (hi : (q : Nat) = i) (h : ls[i]? = some (some (.long x))) (k : Wp M d P (pc + 1) ls (.long x :: st) σ) : Wp M d P pc ls st σ :=
  fun a X hP H locs lsA hW hS hl => lv_lload_n X.1 X.2.1 hd hi (hl.2.2 i _ h) (k a X hP H locs lsA hW hS hl)
theorem wp_lload {M : MD} {d : Nat} {P : Am → Prop} {pc : Nat} {ls : List (Option Value)} {st : List Value} {σ : St} {i : Nat} {x : Int64} (hd : decode M.2.1 pc = .ok (.lload i, 2)) (h : ls[i]? = some (some (.long x))) (k : Wp M d P (pc + 2) ls (.long x :: st) σ) : Wp M d P pc ls st σ :=
  fun a X hP H locs lsA hW hS hl => lv_lload X.1 X.2.1 hd (hl.2.2 i _ h) (k a X hP H locs lsA hW hS hl)
theorem wp_aload_n {M : MD} {d : Nat} {P : Am → Prop} {pc : Nat} {ls : List (Option Value)} {st : List Value} {σ : St} {q : Fin 4} {i : Nat} {x : Nat} (hd : decode M.2.1 pc = .ok (.aload_n q, 1)) (hi : (q : Nat) = i) (h : ls[i]? = some (some (.ref x))) (k : Wp M d P (pc + 1) ls (.ref x :: st) σ) : Wp M d P pc ls st σ :=
  fun a X hP H locs lsA hW hS hl => lv_aload_n X.1 X.2.1 hd hi (hl.2.2 i _ h) (k a X hP H locs lsA hW hS hl)
theorem wp_aload {M : MD} {d : Nat} {P : Am → Prop} {pc : Nat} {ls : List (Option Value)} {st : List Value} {σ : St} {i : Nat} {x : Nat} (hd : decode M.2.1 pc = .ok (.aload i, 2)) (h : ls[i]? = some (some (.ref x))) (k : Wp M d P (pc + 2) ls (.ref x :: st) σ) : Wp M d P pc ls st σ :=
  fun a X hP H locs lsA hW hS hl => lv_aload X.1 X.2.1 hd (hl.2.2 i _ h) (k a X hP H locs lsA hW hS hl)

def asl (ad : Nat → Nat) (ls : List (Option Value)) : List (Nat × Value) := (List.range ls.length).filterMap (fun i => match ls[i]? with
  | some (some v) => some (i, cv ad v)
  | _ => none)
theorem asl_mem {ad : Nat → Nat} {ls : List (Option Value)} {i : Nat} {v : Value} (h : ls[i]? = some (some v)) : (i, cv ad v) ∈ asl ad ls := by
  refine List.mem_filterMap.mpr ⟨i, List.mem_range.mpr (List.getElem?_eq_some_iff.mp h).1, ?_⟩
  rw [h]
theorem asl_of {ad : Nat → Nat} {ls : List (Option Value)} {q : Nat × Value} (h : q ∈ asl ad ls) : ∃ v, ls[q.1]? = some (some v) ∧ q.2 = cv ad v := by
  obtain ⟨i, -, hi⟩ := List.mem_filterMap.mp h
  split at hi
  · rename_i v hv
    cases hi
    exact ⟨v, hv, rfl⟩
  · cases hi
theorem Lok.has {ad : Nat → Nat} {lsA : Array Slot} {nL : Nat} {ls : List (Option Value)} (h : Lok ad lsA nL ls) : lv_has lsA nL (asl ad ls) := by
  refine ⟨h.1, h.2.1, fun q hq => ?_⟩
  obtain ⟨v, h1, h2⟩ := asl_of hq
  rw [h2]
  exact h.2.2 _ _ h1
def noL (ls : List (Option Value)) (i : Nat) : Bool := match i with
  | 0 => true
  | j + 1 => match ls[j]? with
    | some (some v) => v.category == 1
    | _ => true
theorem Lok.st1 {ad : Nat → Nat} {lsA : Array Slot} {nL i : Nat} {ls : List (Option Value)} {v : Value} (hn : noL ls i = true) (h : lv_has lsA nL ((i, cv ad v) :: (asl ad ls).filter (fun q => !(q.1 == i) && !(q.1 + 1 == i && q.2.category == 2)))) : Lok ad lsA nL (ls.set i (some v)) := by
  refine ⟨h.1, h.2.1, fun j w hj => ?_⟩
  rw [List.getElem?_set] at hj
  by_cases e : i = j
  · subst e
    split at hj
    · split at hj
      · cases hj
        exact h.2.2 _ List.mem_cons_self
      · cases hj
    · exact absurd rfl ‹_›
  · simp only [e, if_false] at hj
    refine h.2.2 (j, cv ad w) (List.mem_cons_of_mem _ (List.mem_filter.mpr ⟨asl_mem hj, ?_⟩))
    have e1 : (j == i) = false := by simp; exact fun q => e q.symm
    simp only [e1, Bool.not_false, Bool.true_and]
    by_cases e2 : j + 1 = i
    · subst e2
      simp only [noL, hj] at hn
      have h1 : w.category = 1 := by simpa using hn
      simp [cv_cat, h1]
    · simp [e2]
theorem Lok.st2 {ad : Nat → Nat} {lsA : Array Slot} {nL i : Nat} {ls : List (Option Value)} {v : Value} (hn : noL ls i = true) (h : lv_has lsA nL ((i, cv ad v) :: (asl ad ls).filter (fun q => !(q.1 == i) && (!(q.1 == i + 1) && !(q.1 + 1 == i && q.2.category == 2))))) : Lok ad lsA nL ((ls.set i (some v)).set (i + 1) none) := by
  refine ⟨h.1, h.2.1, fun j w hj => ?_⟩
  rw [List.getElem?_set] at hj
  by_cases e0 : i + 1 = j
  · subst e0
    split at hj
    · split at hj <;> cases hj
    · exact absurd rfl ‹_›
  simp only [e0, if_false] at hj
  rw [List.getElem?_set] at hj
  by_cases e : i = j
  · subst e
    split at hj
    · split at hj
      · cases hj
        exact h.2.2 _ List.mem_cons_self
      · cases hj
    · exact absurd rfl ‹_›
  · simp only [e, if_false] at hj
    refine h.2.2 (j, cv ad w) (List.mem_cons_of_mem _ (List.mem_filter.mpr ⟨asl_mem hj, ?_⟩))
    have e1 : (j == i) = false := by simp; exact fun q => e q.symm
    have e3 : (j == i + 1) = false := by simp; exact fun q => e0 q.symm
    simp only [e1, e3, Bool.not_false, Bool.true_and]
    by_cases e2 : j + 1 = i
    · subst e2
      simp only [noL, hj] at hn
      have h1 : w.category = 1 := by simpa using hn
      simp [cv_cat, h1]
    · simp [e2]
theorem wp_istore_n {M : MD} {d : Nat} {P : Am → Prop} {pc : Nat} {ls : List (Option Value)} {st : List Value} {σ : St} {q : Fin 4} {i : Nat} {x : Int32} {ls' : List (Option Value)} (hd : decode M.2.1 pc = .ok (.istore_n q, 1)) (hi : (q : Nat) = i) (hn : i < M.2.2.1) (hz : noL ls i = true) (hs : ls.set i (some (.int x)) = ls') (k : Wp M d P (pc + 1) ls' st σ) : Wp M d P pc ls (.int x :: st) σ :=
  fun a X hP H locs lsA hW hS hl => lv_istore_n X.1 X.2.1 hd hi hl.has hn rfl (fun lsB hB => k a X hP H locs lsB hW hS (hs ▸ Lok.st1 (v := .int x) hz hB))
theorem wp_istore {M : MD} {d : Nat} {P : Am → Prop} {pc : Nat} {ls : List (Option Value)} {st : List Value} {σ : St} {i : Nat} {x : Int32} {ls' : List (Option Value)} (hd : decode M.2.1 pc = .ok (.istore i, 2)) (hn : i < M.2.2.1) (hz : noL ls i = true) (hs : ls.set i (some (.int x)) = ls') (k : Wp M d P (pc + 2) ls' st σ) : Wp M d P pc ls (.int x :: st) σ :=
  fun a X hP H locs lsA hW hS hl => lv_istore X.1 X.2.1 hd hl.has hn rfl (fun lsB hB => k a X hP H locs lsB hW hS (hs ▸ Lok.st1 (v := .int x) hz hB))
theorem wp_astore_n {M : MD} {d : Nat} {P : Am → Prop} {pc : Nat} {ls : List (Option Value)} {st : List Value} {σ : St} {q : Fin 4} {i : Nat} {x : Nat} {ls' : List (Option Value)} (hd : decode M.2.1 pc = .ok (.astore_n q, 1)) (hi : (q : Nat) = i) (hn : i < M.2.2.1) (hz : noL ls i = true) (hs : ls.set i (some (.ref x)) = ls') (k : Wp M d P (pc + 1) ls' st σ) : Wp M d P pc ls (.ref x :: st) σ :=
  fun a X hP H locs lsA hW hS hl => lv_astore_n X.1 X.2.1 hd hi hl.has hn rfl (fun lsB hB => k a X hP H locs lsB hW hS (hs ▸ Lok.st1 (v := .ref x) hz hB))
theorem wp_astore {M : MD} {d : Nat} {P : Am → Prop} {pc : Nat} {ls : List (Option Value)} {st : List Value} {σ : St} {i : Nat} {x : Nat} {ls' : List (Option Value)} (hd : decode M.2.1 pc = .ok (.astore i, 2)) (hn : i < M.2.2.1) (hz : noL ls i = true) (hs : ls.set i (some (.ref x)) = ls') (k : Wp M d P (pc + 2) ls' st σ) : Wp M d P pc ls (.ref x :: st) σ :=
  fun a X hP H locs lsA hW hS hl => lv_astore X.1 X.2.1 hd hl.has hn rfl (fun lsB hB => k a X hP H locs lsB hW hS (hs ▸ Lok.st1 (v := .ref x) hz hB))
theorem wp_lstore_n {M : MD} {d : Nat} {P : Am → Prop} {pc : Nat} {ls : List (Option Value)} {st : List Value} {σ : St} {q : Fin 4} {i : Nat} {x : Int64} {ls' : List (Option Value)} (hd : decode M.2.1 pc = .ok (.lstore_n q, 1)) (hi : (q : Nat) = i) (hn : i + 1 < M.2.2.1) (hz : noL ls i = true) (hs : (ls.set i (some (.long x))).set (i + 1) none = ls') (k : Wp M d P (pc + 1) ls' st σ) : Wp M d P pc ls (.long x :: st) σ :=
  fun a X hP H locs lsA hW hS hl => lv_lstore_n X.1 X.2.1 hd hi hl.has hn rfl (fun lsB hB => k a X hP H locs lsB hW hS (hs ▸ Lok.st2 (v := .long x) hz hB))
theorem wp_lstore {M : MD} {d : Nat} {P : Am → Prop} {pc : Nat} {ls : List (Option Value)} {st : List Value} {σ : St} {i : Nat} {x : Int64} {ls' : List (Option Value)} (hd : decode M.2.1 pc = .ok (.lstore i, 2)) (hn : i + 1 < M.2.2.1) (hz : noL ls i = true) (hs : (ls.set i (some (.long x))).set (i + 1) none = ls') (k : Wp M d P (pc + 2) ls' st σ) : Wp M d P pc ls (.long x :: st) σ :=
  fun a X hP H locs lsA hW hS hl => lv_lstore X.1 X.2.1 hd hl.has hn rfl (fun lsB hB => k a X hP H locs lsB hW hS (hs ▸ Lok.st2 (v := .long x) hz hB))
theorem wp_iinc {M : MD} {d : Nat} {P : Am → Prop} {pc : Nat} {ls : List (Option Value)} {st : List Value} {σ : St} {i : Nat} {n : Int} {x v : Int32} {ls' : List (Option Value)} (hd : decode M.2.1 pc = .ok (.iinc i n, 3)) (h : ls[i]? = some (some (.int x))) (hv : x + Int32.ofInt n = v) (hn : i < M.2.2.1) (hz : noL ls i = true) (hs : ls.set i (some (.int v)) = ls') (k : Wp M d P (pc + 3) ls' st σ) : Wp M d P pc ls st σ := by
  intro a X hP H locs lsA hW hS hl
  obtain ⟨q, hq⟩ := List.getElem?_of_mem (asl_mem (ad := a_ad a) h)
  exact lv_iinc X.1 X.2.1 hd hl.has hq hv hn rfl (fun lsB hB => k a X hP H locs lsB hW hS (hs ▸ Lok.st1 (v := .int v) hz hB))
theorem wp_if_eq {M : MD} {d : Nat} {P : Am → Prop} {pc : Nat} {ls : List (Option Value)} {st : List Value} {σ : St} {x : Int32} {off : Int} {tgt : Nat} (hd : decode M.2.1 pc = .ok (.ifCond .eq off, 3)) (ht : (pc : Int) + off = (tgt : Int)) (kt : x = 0 → Wp M d P tgt ls st σ) (kf : ¬ x = 0 → Wp M d P (pc + 3) ls st σ) : Wp M d P pc ls (.int x :: st) σ :=
  fun a X hP H locs lsA hW hS hl => lv_if_eq X.1 X.2.1 hd ht (fun h => kt h a X hP H locs lsA hW hS hl) (fun h => kf h a X hP H locs lsA hW hS hl)
theorem wp_icmp_eq {M : MD} {d : Nat} {P : Am → Prop} {pc : Nat} {ls : List (Option Value)} {st : List Value} {σ : St} {x y : Int32} {off : Int} {tgt : Nat} (hd : decode M.2.1 pc = .ok (.if_icmp .eq off, 3)) (ht : (pc : Int) + off = (tgt : Int)) (kt : x = y → Wp M d P tgt ls st σ) (kf : ¬ x = y → Wp M d P (pc + 3) ls st σ) : Wp M d P pc ls (.int y :: .int x :: st) σ :=
  fun a X hP H locs lsA hW hS hl => lv_icmp_eq X.1 X.2.1 hd ht (fun h => kt h a X hP H locs lsA hW hS hl) (fun h => kf h a X hP H locs lsA hW hS hl)
theorem wp_if_ne {M : MD} {d : Nat} {P : Am → Prop} {pc : Nat} {ls : List (Option Value)} {st : List Value} {σ : St} {x : Int32} {off : Int} {tgt : Nat} (hd : decode M.2.1 pc = .ok (.ifCond .ne off, 3)) (ht : (pc : Int) + off = (tgt : Int)) (kt : ¬ x = 0 → Wp M d P tgt ls st σ) (kf : x = 0 → Wp M d P (pc + 3) ls st σ) : Wp M d P pc ls (.int x :: st) σ :=
  fun a X hP H locs lsA hW hS hl => lv_if_ne X.1 X.2.1 hd ht (fun h => kt h a X hP H locs lsA hW hS hl) (fun h => kf h a X hP H locs lsA hW hS hl)
theorem wp_icmp_ne {M : MD} {d : Nat} {P : Am → Prop} {pc : Nat} {ls : List (Option Value)} {st : List Value} {σ : St} {x y : Int32} {off : Int} {tgt : Nat} (hd : decode M.2.1 pc = .ok (.if_icmp .ne off, 3)) (ht : (pc : Int) + off = (tgt : Int)) (kt : ¬ x = y → Wp M d P tgt ls st σ) (kf : x = y → Wp M d P (pc + 3) ls st σ) : Wp M d P pc ls (.int y :: .int x :: st) σ :=
  fun a X hP H locs lsA hW hS hl => lv_icmp_ne X.1 X.2.1 hd ht (fun h => kt h a X hP H locs lsA hW hS hl) (fun h => kf h a X hP H locs lsA hW hS hl)
theorem wp_if_lt {M : MD} {d : Nat} {P : Am → Prop} {pc : Nat} {ls : List (Option Value)} {st : List Value} {σ : St} {x : Int32} {off : Int} {tgt : Nat} (hd : decode M.2.1 pc = .ok (.ifCond .lt off, 3)) (ht : (pc : Int) + off = (tgt : Int)) (kt : x < 0 → Wp M d P tgt ls st σ) (kf : ¬ x < 0 → Wp M d P (pc + 3) ls st σ) : Wp M d P pc ls (.int x :: st) σ :=
  fun a X hP H locs lsA hW hS hl => lv_if_lt X.1 X.2.1 hd ht (fun h => kt h a X hP H locs lsA hW hS hl) (fun h => kf h a X hP H locs lsA hW hS hl)
theorem wp_icmp_lt {M : MD} {d : Nat} {P : Am → Prop} {pc : Nat} {ls : List (Option Value)} {st : List Value} {σ : St} {x y : Int32} {off : Int} {tgt : Nat} (hd : decode M.2.1 pc = .ok (.if_icmp .lt off, 3)) (ht : (pc : Int) + off = (tgt : Int)) (kt : x < y → Wp M d P tgt ls st σ) (kf : ¬ x < y → Wp M d P (pc + 3) ls st σ) : Wp M d P pc ls (.int y :: .int x :: st) σ :=
  fun a X hP H locs lsA hW hS hl => lv_icmp_lt X.1 X.2.1 hd ht (fun h => kt h a X hP H locs lsA hW hS hl) (fun h => kf h a X hP H locs lsA hW hS hl)
theorem wp_if_ge {M : MD} {d : Nat} {P : Am → Prop} {pc : Nat} {ls : List (Option Value)} {st : List Value} {σ : St} {x : Int32} {off : Int} {tgt : Nat} (hd : decode M.2.1 pc = .ok (.ifCond .ge off, 3)) (ht : (pc : Int) + off = (tgt : Int)) (kt : 0 ≤ x → Wp M d P tgt ls st σ) (kf : ¬ 0 ≤ x → Wp M d P (pc + 3) ls st σ) : Wp M d P pc ls (.int x :: st) σ :=
  fun a X hP H locs lsA hW hS hl => lv_if_ge X.1 X.2.1 hd ht (fun h => kt h a X hP H locs lsA hW hS hl) (fun h => kf h a X hP H locs lsA hW hS hl)
theorem wp_icmp_ge {M : MD} {d : Nat} {P : Am → Prop} {pc : Nat} {ls : List (Option Value)} {st : List Value} {σ : St} {x y : Int32} {off : Int} {tgt : Nat} (hd : decode M.2.1 pc = .ok (.if_icmp .ge off, 3)) (ht : (pc : Int) + off = (tgt : Int)) (kt : y ≤ x → Wp M d P tgt ls st σ) (kf : ¬ y ≤ x → Wp M d P (pc + 3) ls st σ) : Wp M d P pc ls (.int y :: .int x :: st) σ :=
  fun a X hP H locs lsA hW hS hl => lv_icmp_ge X.1 X.2.1 hd ht (fun h => kt h a X hP H locs lsA hW hS hl) (fun h => kf h a X hP H locs lsA hW hS hl)
theorem wp_if_gt {M : MD} {d : Nat} {P : Am → Prop} {pc : Nat} {ls : List (Option Value)} {st : List Value} {σ : St} {x : Int32} {off : Int} {tgt : Nat} (hd : decode M.2.1 pc = .ok (.ifCond .gt off, 3)) (ht : (pc : Int) + off = (tgt : Int)) (kt : 0 < x → Wp M d P tgt ls st σ) (kf : ¬ 0 < x → Wp M d P (pc + 3) ls st σ) : Wp M d P pc ls (.int x :: st) σ :=
  fun a X hP H locs lsA hW hS hl => lv_if_gt X.1 X.2.1 hd ht (fun h => kt h a X hP H locs lsA hW hS hl) (fun h => kf h a X hP H locs lsA hW hS hl)
theorem wp_icmp_gt {M : MD} {d : Nat} {P : Am → Prop} {pc : Nat} {ls : List (Option Value)} {st : List Value} {σ : St} {x y : Int32} {off : Int} {tgt : Nat} (hd : decode M.2.1 pc = .ok (.if_icmp .gt off, 3)) (ht : (pc : Int) + off = (tgt : Int)) (kt : y < x → Wp M d P tgt ls st σ) (kf : ¬ y < x → Wp M d P (pc + 3) ls st σ) : Wp M d P pc ls (.int y :: .int x :: st) σ :=
  fun a X hP H locs lsA hW hS hl => lv_icmp_gt X.1 X.2.1 hd ht (fun h => kt h a X hP H locs lsA hW hS hl) (fun h => kf h a X hP H locs lsA hW hS hl)
theorem wp_if_le {M : MD} {d : Nat} {P : Am → Prop} {pc : Nat} {ls : List (Option Value)} {st : List Value} {σ : St} {x : Int32} {off : Int} {tgt : Nat} (hd : decode M.2.1 pc = .ok (.ifCond .le off, 3)) (ht : (pc : Int) + off = (tgt : Int)) (kt : x ≤ 0 → Wp M d P tgt ls st σ) (kf : ¬ x ≤ 0 → Wp M d P (pc + 3) ls st σ) : Wp M d P pc ls (.int x :: st) σ :=
  fun a X hP H locs lsA hW hS hl => lv_if_le X.1 X.2.1 hd ht (fun h => kt h a X hP H locs lsA hW hS hl) (fun h => kf h a X hP H locs lsA hW hS hl)
theorem wp_icmp_le {M : MD} {d : Nat} {P : Am → Prop} {pc : Nat} {ls : List (Option Value)} {st : List Value} {σ : St} {x y : Int32} {off : Int} {tgt : Nat} (hd : decode M.2.1 pc = .ok (.if_icmp .le off, 3)) (ht : (pc : Int) + off = (tgt : Int)) (kt : x ≤ y → Wp M d P tgt ls st σ) (kf : ¬ x ≤ y → Wp M d P (pc + 3) ls st σ) : Wp M d P pc ls (.int y :: .int x :: st) σ :=
  fun a X hP H locs lsA hW hS hl => lv_icmp_le X.1 X.2.1 hd ht (fun h => kt h a X hP H locs lsA hW hS hl) (fun h => kf h a X hP H locs lsA hW hS hl)
theorem wp_goto {M : MD} {d : Nat} {P : Am → Prop} {pc : Nat} {ls : List (Option Value)} {st : List Value} {σ : St} {off : Int} {tgt : Nat} (hd : decode M.2.1 pc = .ok (.goto off, 3)) (ht : (pc : Int) + off = (tgt : Int)) (k : Wp M d P tgt ls st σ) : Wp M d P pc ls st σ :=
  fun a X hP H locs lsA hW hS hl => lv_goto X.1 X.2.1 hd ht (k a X hP H locs lsA hW hS hl)

theorem wp_tsw {M : MD} {d : Nat} {P : Am → Prop} {pc : Nat} {ls : List (Option Value)} {st : List Value} {σ : St} {dflt lo hi : Int} {offs : Array Int} {len : Nat} {x : Int32} (hd : decode M.2.1 pc = .ok (.tableswitch dflt lo hi offs, len)) (kin : ∀ (off : Int), ¬ x.toInt < lo → ¬ hi < x.toInt → offs[(x.toInt - lo).toNat]? = some off → ∃ tgt : Nat, (pc : Int) + off = (tgt : Int) ∧ Wp M d P tgt ls st σ) (hsz : ¬ x.toInt < lo → ¬ hi < x.toInt → (x.toInt - lo).toNat < offs.size) (kout : x.toInt < lo ∨ hi < x.toInt → ∃ tgt : Nat, (pc : Int) + dflt = (tgt : Int) ∧ Wp M d P tgt ls st σ) : Wp M d P pc ls (.int x :: st) σ := by
  intro a X hP H locs lsA hW hS hl
  by_cases h1 : x.toInt < lo
  · obtain ⟨tgt, ht, k⟩ := kout (Or.inl h1)
    exact lv_tableOut X.1 X.2.1 hd (Or.inl h1) ht (k a X hP H locs lsA hW hS hl)
  by_cases h2 : hi < x.toInt
  · obtain ⟨tgt, ht, k⟩ := kout (Or.inr h2)
    exact lv_tableOut X.1 X.2.1 hd (Or.inr h2) ht (k a X hP H locs lsA hW hS hl)
  have hq := hsz h1 h2
  obtain ⟨tgt, ht, k⟩ := kin _ h1 h2 (Array.getElem?_eq_getElem hq)
  exact lv_tableIn X.1 X.2.1 hd h1 h2 (Array.getElem?_eq_getElem hq) ht (k a X hP H locs lsA hW hS hl)
theorem wp_tIn {M : MD} {d : Nat} {P : Am → Prop} {pc : Nat} {ls : List (Option Value)} {st : List Value} {σ : St} {dflt lo hi : Int} {offs : Array Int} {len : Nat} {x : Int32} {off : Int} {tgt : Nat} (hd : decode M.2.1 pc = .ok (.tableswitch dflt lo hi offs, len)) (h1 : ¬ x.toInt < lo) (h2 : ¬ hi < x.toInt) (ho : offs[(x.toInt - lo).toNat]? = some off) (ht : (pc : Int) + off = (tgt : Int)) (k : Wp M d P tgt ls st σ) : Wp M d P pc ls (.int x :: st) σ :=
  fun a X hP H locs lsA hW hS hl => lv_tableIn X.1 X.2.1 hd h1 h2 ho ht (k a X hP H locs lsA hW hS hl)
theorem wp_tOut {M : MD} {d : Nat} {P : Am → Prop} {pc : Nat} {ls : List (Option Value)} {st : List Value} {σ : St} {dflt lo hi : Int} {offs : Array Int} {len : Nat} {x : Int32} {tgt : Nat} (hd : decode M.2.1 pc = .ok (.tableswitch dflt lo hi offs, len)) (h : x.toInt < lo ∨ hi < x.toInt) (ht : (pc : Int) + dflt = (tgt : Int)) (k : Wp M d P tgt ls st σ) : Wp M d P pc ls (.int x :: st) σ :=
  fun a X hP H locs lsA hW hS hl => lv_tableOut X.1 X.2.1 hd h ht (k a X hP H locs lsA hW hS hl)
theorem wp_lsw {M : MD} {d : Nat} {P : Am → Prop} {pc : Nat} {ls : List (Option Value)} {st : List Value} {σ : St} {dflt : Int} {ps : Array (Int × Int)} {len : Nat} {x : Int32} {off : Int} {tgt : Nat} (hd : decode M.2.1 pc = .ok (.lookupswitch dflt ps, len)) (hp : (ps.toList.zip (ps.toList.drop 1)).all (fun (a, next) => a.1 < next.1) = true) (ho : Op.lookupswitch.offset ps.toList dflt x.toInt = off) (ht : (pc : Int) + off = (tgt : Int)) (k : Wp M d P tgt ls st σ) : Wp M d P pc ls (.int x :: st) σ :=
  fun a X hP H locs lsA hW hS hl => lv_lookup X.1 X.2.1 hd hp ho ht (k a X hP H locs lsA hW hS hl)
end
section
/-! fields, arrays, calls, answers (written by wip/gen/rows2.py) -/
def cT (ci : Nat) : vw_C := vwCl.getD ci ("", TX0, 0)
def tT (ci : Nat) : Nat → FieldType := match ci with
  | 0 => tyX0
  | 1 => tyX1
  | 2 => tyX2
  | 3 => tyX3
  | 4 => tyX4
  | 5 => tyX5
  | 6 => tyX6
  | 7 => tyX7
  | 8 => tyX8
  | _ => tyX9
theorem cT_at {ci : Nat} (h : ci < 10) : vwCl[ci]? = some ((cT ci).1, (cT ci).2.1, (cT ci).2.2) := by
  match ci, h with
  | 0, _ => rfl
  | 1, _ => rfl
  | 2, _ => rfl
  | 3, _ => rfl
  | 4, _ => rfl
  | 5, _ => rfl
  | 6, _ => rfl
  | 7, _ => rfl
  | 8, _ => rfl
  | 9, _ => rfl
theorem cT_in {ci : Nat} (h : ci < 10) : ∀ w ∈ u_ws (cT ci).1 (cT ci).2.1 (cT ci).2.2, w ∈ gtb := by
  match ci, h with
  | 0, _ => exact inX0
  | 1, _ => exact inX1
  | 2, _ => exact inX2
  | 3, _ => exact inX3
  | 4, _ => exact inX4
  | 5, _ => exact inX5
  | 6, _ => exact inX6
  | 7, _ => exact inX7
  | 8, _ => exact inX8
  | 9, _ => exact inX9
theorem cT_nm {ci : Nat} (h : ci < 10) : ∀ a, a < (cT ci).2.2 → ∀ b, b < (cT ci).2.2 → a ≠ b → ((cT ci).2.1 a).2.1 ≠ ((cT ci).2.1 b).2.1 := by
  match ci, h with
  | 0, _ => exact nmX0
  | 1, _ => exact nmX1
  | 2, _ => exact nmX2
  | 3, _ => exact nmX3
  | 4, _ => exact nmX4
  | 5, _ => exact nmX5
  | 6, _ => exact nmX6
  | 7, _ => exact nmX7
  | 8, _ => exact nmX8
  | 9, _ => exact nmX9
theorem cT_ty {ci : Nat} (h : ci < 10) : ∀ k, k < (cT ci).2.2 → parseFieldDescriptor ((cT ci).2.1 k).2.2.1 = some (tT ci k) := by
  match ci, h with
  | 0, _ => exact tyX0_ok
  | 1, _ => exact tyX1_ok
  | 2, _ => exact tyX2_ok
  | 3, _ => exact tyX3_ok
  | 4, _ => exact tyX4_ok
  | 5, _ => exact tyX5_ok
  | 6, _ => exact tyX6_ok
  | 7, _ => exact tyX7_ok
  | 8, _ => exact tyX8_ok
  | 9, _ => exact tyX9_ok
def FL (own : String) (idx ci j : Nat) : Prop := ci < 10 ∧ j < (cT ci).2.2 ∧ ((cT ci).2.1 j).1 = (cT ci).1 ∧ (Cond.fieldLink own idx (cT ci).1 ((cT ci).2.1 j).2.1 ((cT ci).2.1 j).2.2.1 ∈ gtb ∨ ∃ host : String, Cond.fieldLinkNest own idx (cT ci).1 ((cT ci).2.1 j).2.1 ((cT ci).2.1 j).2.2.1 host ∈ ntb)
theorem va_W_get {M : MD} {d : Nat} {P : Am → Prop} {pc : Nat} {ls : List (Option Value)} {st : List Value} {σ : St} {idx g j ci kd : Nat} {v : Value} (hd : decode M.2.1 pc = .ok (.getfield idx, 3)) (hl : FL M.1.cls idx ci j) (hc : clO g = ci) (hk : kdO g j = some kd) (hv : ∀ ad, fv ad σ g j kd = cv ad v) (k : Wp M d P (pc + 3) ls (v :: st) σ) : Wp M d P pc ls (.ref g :: st) σ := by
  intro a X hP H locs lsA hW hS hlo
  obtain ⟨hci, hj, hsame, hlk⟩ := hl
  obtain ⟨ci', ks, hs, hks, e⟩ := kdO_sp hk
  obtain rfl : ci = ci' := hc.symm.trans e
  have hfs : (ks.mapIdx (fun j kd => fv (a_ad a) σ g j kd))[j]? = some (cv (a_ad a) v) := by rw [List.getElem?_mapIdx, hks, ← hv]; rfl
  have X2 := X
  obtain ⟨hx, hb, hml, hown, hts, hN, hK, -⟩ := X2
  rcases hlk with hlk | ⟨host, hlk⟩
  · exact va_get hx hb hts (cT_in hci) hown hK hW g (get_o hs) (cT_at hci) j hj (hts _ hlk) (fun x h => by rw [← hsame]; exact h) hfs hd (k a X hP H locs lsA hW hS hlo)
  · exact va_getN hx hb hts (cT_in hci) hown hK hW g (get_o hs) (cT_at hci) j hj ((hN _ hlk).use rfl) (fun x h => by rw [← hsame]; exact h) hfs hd (k a X hP H locs lsA hW hS hlo)
theorem wp_getI {M : MD} {d : Nat} {P : Am → Prop} {pc : Nat} {ls : List (Option Value)} {st : List Value} {σ : St} {idx g j ci : Nat} (hd : decode M.2.1 pc = .ok (.getfield idx, 3)) (hl : FL M.1.cls idx ci j) (hc : clO g = ci) (hk : kdO g j = some 0) (k : Wp M d P (pc + 3) ls (.int (σ.1 g j) :: st) σ) : Wp M d P pc ls (.ref g :: st) σ := va_W_get hd hl hc hk (fun _ => rfl) k
theorem wp_getJ {M : MD} {d : Nat} {P : Am → Prop} {pc : Nat} {ls : List (Option Value)} {st : List Value} {σ : St} {idx g j ci : Nat} (hd : decode M.2.1 pc = .ok (.getfield idx, 3)) (hl : FL M.1.cls idx ci j) (hc : clO g = ci) (hk : kdO g j = some 1) (k : Wp M d P (pc + 3) ls (.long (σ.2.1 g j) :: st) σ) : Wp M d P pc ls (.ref g :: st) σ := va_W_get hd hl hc hk (fun _ => rfl) k
theorem wp_getR {M : MD} {d : Nat} {P : Am → Prop} {pc : Nat} {ls : List (Option Value)} {st : List Value} {σ : St} {idx g j ci t : Nat} (hd : decode M.2.1 pc = .ok (.getfield idx, 3)) (hl : FL M.1.cls idx ci j) (hc : clO g = ci) (hk : kdO g j = some (t + 3)) (k : Wp M d P (pc + 3) ls (.ref t :: st) σ) : Wp M d P pc ls (.ref g :: st) σ := va_W_get hd hl hc hk (fun _ => rfl) k
theorem wp_getD {M : MD} {d : Nat} {P : Am → Prop} {pc : Nat} {ls : List (Option Value)} {st : List Value} {σ : St} {idx g j ci q : Nat} (hd : decode M.2.1 pc = .ok (.getfield idx, 3)) (hl : FL M.1.cls idx ci j) (hc : clO g = ci) (hk : kdO g j = some 2) (hq : σ.2.2 = some q) (k : Wp M d P (pc + 3) ls (.ref q :: st) σ) : Wp M d P pc ls (.ref g :: st) σ := va_W_get hd hl hc hk (fun ad => by simp [fv, hq, va_rf, cv]) k
theorem va_W_put {M : MD} {d : Nat} {P : Am → Prop} {pc : Nat} {ls : List (Option Value)} {st : List Value} {σ : St} {idx g j ci kd : Nat} {v : Value} {σ1 : St} (hd : decode M.2.1 pc = .ok (.putfield idx, 3)) (hl : FL M.1.cls idx ci j) (hc : clO g = ci) (hk : kdO g j = some kd) (hfin : ((cT ci).2.1 j).2.2.2 = false) (hn : ∀ ad, narrow (tT ci j) (cv ad v) = cv ad v) (hfit : ∀ ad, fits (tT ci j) (cv ad v) = true)
    (hset : ∀ ad ca ks, shp[g]? = some (0, ci, ks) → ks[j]? = some kd → (wld ad ca σ).set g (ad g, .inr (ci, (ks.mapIdx (fun j kd => fv ad σ g j kd)).set j (cv ad v))) = wld ad ca σ1) (k : Wp M d P (pc + 3) ls st σ1) : Wp M d P pc ls (v :: .ref g :: st) σ := by
  intro a X hP H locs lsA hW hS hlo
  obtain ⟨hci, hj, hsame, hlk⟩ := hl
  obtain ⟨ci', ks, hs, hks, e⟩ := kdO_sp hk
  obtain rfl : ci = ci' := hc.symm.trans e
  have hlen : j < (ks.mapIdx (fun j kd => fv (a_ad a) σ g j kd)).length := by rw [List.length_mapIdx]; exact (List.getElem?_eq_some_iff.mp hks).1
  have hD := X.D σ
  have hse := hset (a_ad a) (a_ca a) ks hs hks
  have X2 := X
  obtain ⟨hx, hb, hml, hown, hts, hN, hK, -⟩ := X2
  rcases hlk with hlk | ⟨host, hlk⟩
  · exact va_put hx hb hts (cT_in hci) (tT ci) (cT_ty hci) (cT_nm hci) hown hK hW hD hS g (get_o hs) (cT_at hci) j hj (hts _ hlk) (fun x h => by rw [← hsame]; exact h) hfin (cT_ty hci j hj) (hn _) (hfit _) hlen hd (fun H1 locs1 h1 _ h3 => k a X hP H1 locs1 lsA (hse ▸ h1) h3 hlo)
  · exact va_putN hx hb hts (cT_in hci) (tT ci) (cT_ty hci) (cT_nm hci) hown hK hW hD hS g (get_o hs) (cT_at hci) j hj ((hN _ hlk).use rfl) (fun x h => by rw [← hsame]; exact h) hfin (cT_ty hci j hj) (hn _) (hfit _) hlen hd (fun H1 locs1 h1 _ h3 => k a X hP H1 locs1 lsA (hse ▸ h1) h3 hlo)
theorem wp_putI {M : MD} {d : Nat} {P : Am → Prop} {pc : Nat} {ls : List (Option Value)} {st : List Value} {σ : St} {idx g j ci : Nat} {v : Int32} (hd : decode M.2.1 pc = .ok (.putfield idx, 3)) (hl : FL M.1.cls idx ci j) (hc : clO g = ci) (hk : kdO g j = some 0) (hfin : ((cT ci).2.1 j).2.2.2 = false) (hty : tT ci j = .int) (k : Wp M d P (pc + 3) ls st (sF σ g j v)) : Wp M d P pc ls (.int v :: .ref g :: st) σ :=
  va_W_put hd hl hc hk hfin (fun _ => by rw [hty]; rfl) (fun _ => by rw [hty]; rfl) (fun ad ca ks h1 h2 => set_i h1 h2 v) k
theorem narrow_z {v : Int32} (h : v = 0 ∨ v = 1) : narrow .boolean (.int v) = .int v ∧ fits .boolean (.int v) = true := by rcases h with rfl | rfl <;> exact ⟨by decide +kernel, by decide +kernel⟩
theorem wp_putZ {M : MD} {d : Nat} {P : Am → Prop} {pc : Nat} {ls : List (Option Value)} {st : List Value} {σ : St} {idx g j ci : Nat} {v : Int32} (hd : decode M.2.1 pc = .ok (.putfield idx, 3)) (hl : FL M.1.cls idx ci j) (hc : clO g = ci) (hk : kdO g j = some 0) (hfin : ((cT ci).2.1 j).2.2.2 = false) (hty : tT ci j = .boolean) (hz : v = 0 ∨ v = 1) (k : Wp M d P (pc + 3) ls st (sF σ g j v)) : Wp M d P pc ls (.int v :: .ref g :: st) σ :=
  va_W_put hd hl hc hk hfin (fun _ => by rw [hty]; exact (narrow_z hz).1) (fun _ => by rw [hty]; exact (narrow_z hz).2) (fun ad ca ks h1 h2 => set_i h1 h2 v) k
theorem wp_putJ {M : MD} {d : Nat} {P : Am → Prop} {pc : Nat} {ls : List (Option Value)} {st : List Value} {σ : St} {idx g j ci : Nat} {v : Int64} (hd : decode M.2.1 pc = .ok (.putfield idx, 3)) (hl : FL M.1.cls idx ci j) (hc : clO g = ci) (hk : kdO g j = some 1) (hfin : ((cT ci).2.1 j).2.2.2 = false) (hty : tT ci j = .long) (k : Wp M d P (pc + 3) ls st (sL σ g j v)) : Wp M d P pc ls (.long v :: .ref g :: st) σ :=
  va_W_put hd hl hc hk hfin (fun _ => by rw [hty]; rfl) (fun _ => by rw [hty]; rfl) (fun ad ca ks h1 h2 => set_l h1 h2 v) k
theorem wp_putD {M : MD} {d : Nat} {P : Am → Prop} {pc : Nat} {ls : List (Option Value)} {st : List Value} {σ : St} {idx g j ci q : Nat} (hd : decode M.2.1 pc = .ok (.putfield idx, 3)) (hl : FL M.1.cls idx ci j) (hc : clO g = ci) (hk : kdO g j = some 2) (hfin : ((cT ci).2.1 j).2.2.2 = false) (hty : tT ci j = .array .int) (k : Wp M d P (pc + 3) ls st (sD σ q)) : Wp M d P pc ls (.ref q :: .ref g :: st) σ :=
  va_W_put hd hl hc hk hfin (fun _ => by rw [hty]; rfl) (fun _ => by rw [hty]; rfl) (fun ad ca ks h1 h2 => set_d h1 h2 q) k
/-! arrays -/
def inB (i : Int32) (n : Nat) : Bool := decide (0 ≤ i) && decide (i.toNatClampNeg < n)
theorem inB_vp {i : Int32} {n : Nat} (h : inB i n = true) : vp_in i n := by
  simp only [inB, Bool.and_eq_true, decide_eq_true_eq] at h
  rintro (q | q)
  · exact absurd h.1 (by rw [Int32.le_iff_toInt_le]; rw [Int32.lt_iff_toInt_lt] at q; omega)
  · omega
def aI (σ : St) (k : Nat) (i : Int32) : Option Int32 := if arT k = 1 ∧ inB i (arN k) = true then some (σ.1 k i.toNatClampNeg) else none
def aB (σ : St) (k : Nat) (i : Int32) : Option Int32 := if arT k = 2 ∧ inB i (arN k) = true then some (σ.1 k i.toNatClampNeg) else none
def aJ (σ : St) (k : Nat) (i : Int32) : Option Int64 := if arT k = 3 ∧ inB i (arN k) = true then some (σ.2.1 k i.toNatClampNeg) else none
def pI (σ : St) (k : Nat) (i v : Int32) : Option St := if arT k = 1 ∧ inB i (arN k) = true then some (sF σ k i.toNatClampNeg v) else none
def pB (σ : St) (k : Nat) (i v : Int32) : Option St := if arT k = 2 ∧ inB i (arN k) = true then some (sF σ k i.toNatClampNeg (vp_nar .byte v)) else none
def pJ (σ : St) (k : Nat) (i : Int32) (v : Int64) : Option St := if arT k = 3 ∧ inB i (arN k) = true then some (sL σ k i.toNatClampNeg v) else none
def aLen (k : Nat) : Option Int32 := if arT k = 1 then some (Int32.ofNat (arN k)) else none
def cpOK (i j n : Int32) (a b : Nat) : Bool := decide (0 ≤ i) && decide (0 ≤ j) && decide (0 ≤ n) && decide (i.toNatClampNeg + n.toNatClampNeg ≤ arN a) && decide (j.toNatClampNeg + n.toNatClampNeg ≤ arN b)
def cpI (σ : St) (a : Nat) (i : Int32) (b : Nat) (j n : Int32) : Option St := if (arT a = 1 ∧ arT b = 1) ∧ cpOK i j n a b = true then some (sRow σ b (va_cpy (σ.1 a) (σ.1 b) i.toNatClampNeg j.toNatClampNeg n.toNatClampNeg)) else none
def cpJ (σ : St) (a : Nat) (i : Int32) (b : Nat) (j n : Int32) : Option St := if (arT a = 3 ∧ arT b = 3) ∧ cpOK i j n a b = true then some (sRowL σ b (va_cpy (σ.2.1 a) (σ.2.1 b) i.toNatClampNeg j.toNatClampNeg n.toNatClampNeg)) else none
theorem ite_sm {c : Prop} [Decidable c] {α : Type} {x : α} {r : α} (h : (if c then some x else none) = some r) : c ∧ x = r := by
  by_cases hc : c
  · rw [if_pos hc] at h
    exact ⟨hc, Option.some.inj h⟩
  · rw [if_neg hc] at h
    cases h
theorem tyOK.at {ca : Nat → ClassId} {tys : List (ClassId × FieldType)} (h : tyOK ca tys) {k t : Nat} (hk : arT k = t) (h0 : t ≠ 0) : ∃ t0 : Nat, tys[t0]? = some (ca k, tyc t) := by
  have h1 := h k (by rw [hk]; exact h0)
  rwa [hk] at h1
theorem wp_aI {M : MD} {d : Nat} {P : Am → Prop} {pc : Nat} {ls : List (Option Value)} {st : List Value} {σ : St} {q : Nat} {i x : Int32} (hd : decode M.2.1 pc = .ok (.iaload, 1)) (h : aI σ q i = some x) (k : Wp M d P (pc + 1) ls (.int x :: st) σ) : Wp M d P pc ls (.int i :: .ref q :: st) σ := by
  intro a X hP H locs lsA hW hS hlo
  obtain ⟨⟨h1, h2⟩, rfl⟩ := ite_sm h
  have X2 := X
  obtain ⟨hx, hb, hml, hown, hts, hN, hK, hT, -⟩ := X2
  obtain ⟨t0, ht⟩ := hT.at h1 (by decide)
  exact va_iald hx hb hK hW q t0 (get_ai h1 (Or.inl rfl)) ht (inB_vp h2) hd (k a X hP H locs lsA hW hS hlo)
theorem wp_aB {M : MD} {d : Nat} {P : Am → Prop} {pc : Nat} {ls : List (Option Value)} {st : List Value} {σ : St} {q : Nat} {i x : Int32} (hd : decode M.2.1 pc = .ok (.baload, 1)) (h : aB σ q i = some x) (k : Wp M d P (pc + 1) ls (.int x :: st) σ) : Wp M d P pc ls (.int i :: .ref q :: st) σ := by
  intro a X hP H locs lsA hW hS hlo
  obtain ⟨⟨h1, h2⟩, rfl⟩ := ite_sm h
  have X2 := X
  obtain ⟨hx, hb, hml, hown, hts, hN, hK, hT, -⟩ := X2
  obtain ⟨t0, ht⟩ := hT.at h1 (by decide)
  exact va_bald hx hb hK hW q t0 (get_ai h1 (Or.inr rfl)) ht (inB_vp h2) hd (k a X hP H locs lsA hW hS hlo)
theorem wp_aJ {M : MD} {d : Nat} {P : Am → Prop} {pc : Nat} {ls : List (Option Value)} {st : List Value} {σ : St} {q : Nat} {i : Int32} {x : Int64} (hd : decode M.2.1 pc = .ok (.laload, 1)) (h : aJ σ q i = some x) (k : Wp M d P (pc + 1) ls (.long x :: st) σ) : Wp M d P pc ls (.int i :: .ref q :: st) σ := by
  intro a X hP H locs lsA hW hS hlo
  obtain ⟨⟨h1, h2⟩, rfl⟩ := ite_sm h
  have X2 := X
  obtain ⟨hx, hb, hml, hown, hts, hN, hK, hT, -⟩ := X2
  obtain ⟨t0, ht⟩ := hT.at h1 (by decide)
  exact va_lald hx hb hK hW q t0 (get_al h1) ht (inB_vp h2) hd (k a X hP H locs lsA hW hS hlo)
theorem wp_pI {M : MD} {d : Nat} {P : Am → Prop} {pc : Nat} {ls : List (Option Value)} {st : List Value} {σ : St} {q : Nat} {i v : Int32} {σ1 : St} (hd : decode M.2.1 pc = .ok (.iastore, 1)) (h : pI σ q i v = some σ1) (k : Wp M d P (pc + 1) ls st σ1) : Wp M d P pc ls (.int v :: .int i :: .ref q :: st) σ := by
  intro a X hP H locs lsA hW hS hlo
  obtain ⟨⟨h1, h2⟩, rfl⟩ := ite_sm h
  have hD := X.D σ
  have X2 := X
  obtain ⟨hx, hb, hml, hown, hts, hN, hK, hT, -⟩ := X2
  obtain ⟨t0, ht⟩ := hT.at h1 (by decide)
  refine va_iast hx hb hK hW hD hS q t0 (get_ai h1 (Or.inl rfl)) ht (inB_vp h2) hd (fun H1 locs1 g1 _ g3 => k a X hP H1 locs1 lsA ?_ g3 hlo)
  rw [set_ai h1 (Or.inl rfl), sRow_upd] at g1
  exact g1
theorem wp_pB {M : MD} {d : Nat} {P : Am → Prop} {pc : Nat} {ls : List (Option Value)} {st : List Value} {σ : St} {q : Nat} {i v : Int32} {σ1 : St} (hd : decode M.2.1 pc = .ok (.bastore, 1)) (h : pB σ q i v = some σ1) (k : Wp M d P (pc + 1) ls st σ1) : Wp M d P pc ls (.int v :: .int i :: .ref q :: st) σ := by
  intro a X hP H locs lsA hW hS hlo
  obtain ⟨⟨h1, h2⟩, rfl⟩ := ite_sm h
  have hD := X.D σ
  have X2 := X
  obtain ⟨hx, hb, hml, hown, hts, hN, hK, hT, -⟩ := X2
  obtain ⟨t0, ht⟩ := hT.at h1 (by decide)
  refine va_bast hx hb hK hW hD hS q t0 (get_ai h1 (Or.inr rfl)) ht (inB_vp h2) hd (fun H1 locs1 g1 _ g3 => k a X hP H1 locs1 lsA ?_ g3 hlo)
  rw [set_ai h1 (Or.inr rfl), sRow_upd] at g1
  exact g1
theorem wp_pJ {M : MD} {d : Nat} {P : Am → Prop} {pc : Nat} {ls : List (Option Value)} {st : List Value} {σ : St} {q : Nat} {i : Int32} {v : Int64} {σ1 : St} (hd : decode M.2.1 pc = .ok (.lastore, 1)) (h : pJ σ q i v = some σ1) (k : Wp M d P (pc + 1) ls st σ1) : Wp M d P pc ls (.long v :: .int i :: .ref q :: st) σ := by
  intro a X hP H locs lsA hW hS hlo
  obtain ⟨⟨h1, h2⟩, rfl⟩ := ite_sm h
  have hD := X.D σ
  have X2 := X
  obtain ⟨hx, hb, hml, hown, hts, hN, hK, hT, -⟩ := X2
  obtain ⟨t0, ht⟩ := hT.at h1 (by decide)
  refine va_last hx hb hK hW hD hS q t0 (get_al h1) ht (inB_vp h2) hd (fun H1 locs1 g1 _ g3 => k a X hP H1 locs1 lsA ?_ g3 hlo)
  rw [set_al h1, sRowL_upd] at g1
  exact g1
theorem wp_aLen {M : MD} {d : Nat} {P : Am → Prop} {pc : Nat} {ls : List (Option Value)} {st : List Value} {σ : St} {q : Nat} {x : Int32} (hd : decode M.2.1 pc = .ok (.arraylength, 1)) (h : aLen q = some x) (k : Wp M d P (pc + 1) ls (.int x :: st) σ) : Wp M d P pc ls (.ref q :: st) σ := by
  intro a X hP H locs lsA hW hS hlo
  obtain ⟨h1, rfl⟩ := ite_sm h
  have X2 := X
  obtain ⟨hx, hb, hml, hown, hts, hN, hK, hT, -⟩ := X2
  obtain ⟨t0, ht⟩ := hT.at h1 (by decide)
  exact va_alen hx hb hK hW q t0 (get_ai h1 (Or.inl rfl)) ht rfl hd (k a X hP H locs lsA hW hS hlo)
def cpW (own : String) (idx : Nat) : Prop := Cond.methodLink own idx arraycopyName ∈ gtb
theorem nneg {i : Int32} (h : 0 ≤ i) : ¬ i < 0 := by rw [Int32.le_iff_toInt_le] at h; rw [Int32.lt_iff_toInt_lt]; omega
theorem cat_map (ad : Nat → Nat) (st : List Value) : ((st.map (cv ad)).map fun v => v.category).sum = (st.map fun v => v.category).sum := by
  rw [List.map_map]
  congr 1
  exact List.map_congr_left (fun v _ => cv_cat ad v)

theorem cp_nat : Cond.native arraycopyName ∈ gtb ∧ Cond.static arraycopyName ∈ gtb ∧ Cond.initialized "java/lang/System" ∈ gtb := ⟨mem_tb 396 (by decide +kernel) rfl, mem_tb 395 (by decide +kernel) rfl, mem_tb 12 (by decide +kernel) rfl⟩
theorem wp_cpI {M : MD} {d : Nat} {P : Am → Prop} {pc : Nat} {ls : List (Option Value)} {st : List Value} {σ : St} {idx q0 q1 : Nat} {i j n : Int32} {σ1 : St} (hd : decode M.2.1 pc = .ok (.invokestatic idx, 3)) (hl : cpW M.1.cls idx) (h : cpI σ q0 i q1 j n = some σ1) (h1d : 1 ≤ d) (hr : (st.map fun v => v.category).sum ≤ 8) (k : Wp M d P (pc + 3) ls st σ1) : Wp M d P pc ls (.int n :: .int j :: .ref q1 :: .int i :: .ref q0 :: st) σ := by
  intro a X hP H locs lsA hW hS hlo
  obtain ⟨⟨⟨h1, h2⟩, h3⟩, rfl⟩ := ite_sm h
  simp only [cpOK, Bool.and_eq_true, decide_eq_true_eq] at h3
  obtain ⟨⟨⟨⟨c1, c2⟩, c3⟩, c4⟩, c5⟩ := h3
  have hD := X.D σ
  have X2 := X
  obtain ⟨hx, hb, hml, hown, hts, hN, hK, hT, -, -, -, hf1, hf2, -⟩ := X2
  obtain ⟨t0, ht⟩ := hT.at h1 (by decide)
  obtain ⟨t1, ht1⟩ := hT.at h2 (by decide)
  have hwords : nativeFrameWords "java/lang/System" "arraycopy" 5 + 11 ≤ 52 := by decide +kernel
  refine va_copyi hx hb (hml.trans hlo.1.symm) hown (hts _ hl) (hts _ cp_nat.1) (hts _ cp_nat.2.1) (hts _ cp_nat.2.2) hK hW hD hS q0 q1 t0 t1 (get_ai h1 (Or.inl rfl)) (get_ai h2 (Or.inl rfl)) ht ht1 rfl (nneg c1) (nneg c2) (nneg c3) c4 c5 (fun _ _ => rfl) (by omega) (by rw [cat_map]; omega) hd (fun H1 locs1 g1 _ g3 => k a X hP H1 locs1 lsA ?_ g3 hlo)
  rw [set_ai h2 (Or.inl rfl)] at g1
  exact g1
theorem wp_cpJ {M : MD} {d : Nat} {P : Am → Prop} {pc : Nat} {ls : List (Option Value)} {st : List Value} {σ : St} {idx q0 q1 : Nat} {i j n : Int32} {σ1 : St} (hd : decode M.2.1 pc = .ok (.invokestatic idx, 3)) (hl : cpW M.1.cls idx) (h : cpJ σ q0 i q1 j n = some σ1) (h1d : 1 ≤ d) (hr : (st.map fun v => v.category).sum ≤ 8) (k : Wp M d P (pc + 3) ls st σ1) : Wp M d P pc ls (.int n :: .int j :: .ref q1 :: .int i :: .ref q0 :: st) σ := by
  intro a X hP H locs lsA hW hS hlo
  obtain ⟨⟨⟨h1, h2⟩, h3⟩, rfl⟩ := ite_sm h
  simp only [cpOK, Bool.and_eq_true, decide_eq_true_eq] at h3
  obtain ⟨⟨⟨⟨c1, c2⟩, c3⟩, c4⟩, c5⟩ := h3
  have hD := X.D σ
  have X2 := X
  obtain ⟨hx, hb, hml, hown, hts, hN, hK, hT, -, -, -, hf1, hf2, -⟩ := X2
  obtain ⟨t0, ht⟩ := hT.at h1 (by decide)
  obtain ⟨t1, ht1⟩ := hT.at h2 (by decide)
  have hwords : nativeFrameWords "java/lang/System" "arraycopy" 5 + 11 ≤ 52 := by decide +kernel
  refine va_copyl hx hb (hml.trans hlo.1.symm) hown (hts _ hl) (hts _ cp_nat.1) (hts _ cp_nat.2.1) (hts _ cp_nat.2.2) hK hW hD hS q0 q1 t0 t1 (get_al h1) (get_al h2) ht ht1 rfl (nneg c1) (nneg c2) (nneg c3) c4 c5 (fun _ _ => rfl) (by omega) (by rw [cat_map]; omega) hd (fun H1 locs1 g1 _ g3 => k a X hP H1 locs1 lsA ?_ g3 hlo)
  rw [set_al h2] at g1
  exact g1
/-! answers -/
theorem wp_iret {M : MD} {d : Nat} {pc : Nat} {ls : List (Option Value)} {σ : St} {v : Int32} {ty : FieldType} (hd : decode M.2.1 pc = .ok (.ireturn, 1)) (hr : M.2.2.2 = some ty) (hn : narrow ty (.int v) = .int v) : Wp M d (PR (some (.int v)) σ) pc ls [.int v] σ := by
  intro a X hP H locs lsA hW hS hlo
  obtain ⟨hx, hb, hml, hown, hts, hN, hK, hT, -, -, -, -, -, -, -, hret, hlocks⟩ := X
  obtain ⟨hQ, h0⟩ := hP
  rw [hQ]
  rw [h0] at hS
  exact W.zret hx hb (hret.trans hr) hn (fun t ht _ => ⟨rfl, by rw [ht]; exact hW, hS.F ht⟩) hS.2.2 hd hlocks
theorem wp_lret {M : MD} {d : Nat} {pc : Nat} {ls : List (Option Value)} {σ : St} {v : Int64} (hd : decode M.2.1 pc = .ok (.lreturn, 1)) (hr : M.2.2.2 = some .long) : Wp M d (PR (some (.long v)) σ) pc ls [.long v] σ := by
  intro a X hP H locs lsA hW hS hlo
  obtain ⟨hx, hb, hml, hown, hts, hN, hK, hT, -, -, -, -, -, -, -, hret, hlocks⟩ := X
  obtain ⟨hQ, h0⟩ := hP
  rw [hQ]
  rw [h0] at hS
  exact W.lret hx hb (hret.trans hr) (fun t ht _ => ⟨rfl, by rw [ht]; exact hW, hS.F ht⟩) hS.2.2 hd hlocks
theorem wp_vret {M : MD} {d : Nat} {pc : Nat} {ls : List (Option Value)} {σ : St} (hd : decode M.2.1 pc = .ok (.return_, 1)) (hr : M.2.2.2 = none) : Wp M d (PR none σ) pc ls [] σ := by
  intro a X hP H locs lsA hW hS hlo
  obtain ⟨hx, hb, hml, hown, hts, hN, hK, hT, -, -, -, -, -, -, -, hret, hlocks⟩ := X
  obtain ⟨hQ, h0⟩ := hP
  rw [hQ]
  rw [h0] at hS
  exact W.vret hx hb (hret.trans hr) (fun t ht _ => ⟨rfl, by rw [ht]; exact hW, hS.F ht⟩) hS.2.2 hd hlocks
theorem wp_aret {M : MD} {d : Nat} {pc : Nat} {ls : List (Option Value)} {σ : St} {q : Nat} {C : String} (hd : decode M.2.1 pc = .ok (.areturn, 1)) (hr : M.2.2.2 = some (.object C)) : Wp M d (PR (some (.ref q)) σ) pc ls [.ref q] σ := by
  intro a X hP H locs lsA hW hS hlo
  obtain ⟨hx, hb, hml, hown, hts, hN, hK, hT, -, -, -, -, -, -, -, hret, hlocks⟩ := X
  obtain ⟨hQ, h0⟩ := hP
  rw [hQ]
  rw [h0] at hS
  exact W.aret hx hb (hret.trans hr) (Or.inl ⟨C, rfl⟩) (Or.inr ⟨_, rfl⟩) (fun t ht _ => ⟨rfl, by rw [ht]; exact hW, hS.F ht⟩) hS.2.2 hd hlocks
/-! calls -/
theorem gtb_good : ∀ w ∈ gtb, (w.onTables && w.keeps) = true ∨ ∃ ty, w = .arrayClass ty := fun w hw => good_of_word (List.mem_filter.mp hw).2
def MOk (N : MD) (n : Nat) : Prop := Cond.code N.1 N.2.1 N.2.2.1 N.2.2.2 ∈ gtb ∧ Cond.initialized N.1.cls ∈ gtb ∧ (N.1.cls ≠ "java/lang/invoke/MethodHandle" ∧ N.1.cls ≠ "java/lang/invoke/VarHandle" ∧ (parseMethodDescriptor N.1.desc).map (fun d => d.parameters.length) = some n) ∧ N.2.2.1 ≤ 41
theorem MOk.good {N : MD} {n : Nat} (h : MOk N n) : GoodIn gtb (wsM N) := by
  intro w hw
  have hm : w ∈ gtb := by
    rcases List.mem_cons.mp hw with rfl | q
    · exact h.1
    · exact q
  exact ⟨hm, gtb_good w hm⟩
def ML (own : String) (idx : Nat) (y : MethodName) : Prop := Cond.methodLink own idx y ∈ gtb ∨ ∃ host : String, Cond.methodLinkNest own idx y host ∈ ntb
def VOk (y : MethodName) (ci : Nat) : Prop := Cond.instanceMethod y ∈ gtb ∧ Cond.selects y.cls y y ∈ gtb ∧ ci < 10 ∧ (cT ci).1 = y.cls
theorem Pcv.blind {D : va_G} {ad : Nat → Nat} {ca : Nat → ClassId} {tys : List (ClassId × FieldType)} {sz : Nat} {vs : List Value} {σ : St} : FrameBlind (Pcv D ad ca tys sz vs σ) :=
  fun v U g mk q => ⟨q.1, q.2.1, q.2.2.1, va_K.moved (u := U) (U := U.calling g mk v) (Vm.Alike.refl U.vm) q.2.2.2.1, nOK.same (u := U) (U := U.calling g mk v) rfl q.2.2.2.2⟩
theorem wp_run {M : MD} {d : Nat} {P : Am → Prop} {pc : Nat} {ls : List (Option Value)} {rest : List Value} {r : Option Value} {σ1 : St} {a : Am} (X : Cx M d a) (hP : P a) {H : Heap} {locs : List Loc} {lsA : Array Slot} {st0 : List Value} {av : Array Value}
    (hr : va_Run (a_p a) (a_l a) (a_e a) (a_R a) (a_s a) (a_m a) (a_args a) (a_below a) (a_meth a) (a_c a) H locs (a_cells a) (a_slots a) 0 0 (F0 (a_m a) pc lsA st0) (rest.map (cv (a_ad a))) (Qcv (Aw (a_ad a) H.size) (a_D a) (a_ad a) (a_ca a) r σ1 av) (Aw (a_ad a) H.size))
    (hS : va_S (a_A a) (a_H0 a) H locs) (hlo : Lok (a_ad a) lsA M.2.2.1 ls) (k : Wp M d P (pc + 3) ls (r.toList ++ rest) σ1) : W (a_p a) (a_l a) (a_e a) (a_R a) (a_s a) (a_m a) (a_args a) (a_below a) (a_meth a) (a_c a) H locs (a_cells a) (a_slots a) (a_Q a) (F0 (a_m a) pc lsA st0) := by
  have X2 := X
  obtain ⟨hx, hb, hml, hown, hts, hN, hK, hT, hin, hA1, hA2, -⟩ := X2
  have hAw : ∀ q, Aw (a_ad a) H.size q → a_A a q := by
    rintro q (⟨j, hj, rfl⟩ | h)
    · exact hA1 j hj
    · exact hA2 q (Nat.le_trans hS.1 h)
  intro T hT X1
  obtain ⟨v, st₀, t, T', L, h0, X', hL, e1, e2, ⟨hv, hp, hz, hk⟩, stp⟩ := hr T hT X1
  cases hv
  rw [h0] at hz hk
  have hS' : va_S (a_A a) (a_H0 a) T'.heap (locs ++ L) := ⟨Nat.le_trans hS.1 (by rw [e1]; exact hz), fun q h1 h2 => by rw [e1, hk q (Nat.lt_of_lt_of_le h1 hS.1) (fun z => h2 (hAw q z))]; exact hS.2.1 q h1 h2, fun q hq => by
      rcases List.mem_append.mp hq with h | h
      · exact hS.2.2 q h
      · exact hAw _ (hL q h)⟩
  have kk := k a X hP T'.heap (locs ++ L) lsA (by rw [e1]; exact hp) hS' hlo
  have e3 : (r.toList ++ rest).map (cv (a_ad a)) = (r.map (cv (a_ad a))).toList ++ rest.map (cv (a_ad a)) := by cases r <;> rfl
  rw [e3] at kk
  obtain ⟨t2, a1, b1⟩ := kk T' rfl X'
  exact ⟨t2, stp t2 a1, b1⟩
theorem wp_cV {M : MD} {d : Nat} {P : Am → Prop} {pc : Nat} {ls : List (Option Value)} {st : List Value} {σ : St} {idx g d' ci : Nat} {N : MD} {As rest : List Value} {r : Option Value} {σ1 : St} (hd : decode M.2.1 pc = .ok (.invokevirtual idx, 3)) (hl : ML M.1.cls idx N.1) (hm : MOk N As.length) (hv : VOk N.1 ci) (hg : clO g = ci) (hst : st = As.reverse ++ .ref g :: rest) (hct : Ct d' N (.ref g :: As) σ r σ1) (hdd : d' + 1 ≤ d) (hrs : (rest.map fun v => v.category).sum ≤ 8) (k : Wp M d P (pc + 3) ls (r.toList ++ rest) σ1) : Wp M d P pc ls st σ := by
  intro a X hP H locs lsA hW hS hlo
  obtain ⟨hi, hsel, hci, hcn⟩ := hv
  have X2 := X
  obtain ⟨hx, hb, hml, hown, hts, hN, hK, hT, hin, hA1, hA2, hf1, hf2, hf3, hf4, -⟩ := X2
  have hsh : ∃ ks, shp[g]? = some (0, ci, ks) := by
    unfold clO at hg
    split at hg
    · rename_i ci' ks hs
      subst hg
      exact ⟨ks, hs⟩
    · omega
  obtain ⟨ks, hks⟩ := hsh
  have hM := hct (a_l a) (a_D a) (a_ad a) (a_ca a) (a_tys a) H.size d' (60 * d') (Nat.le_refl _) (Nat.le_refl _) hin hT
  have hrec := va_recv hK hW (cT_at hci) (get_o hks)
  rw [show ((cT ci).1, (cT ci).2.1, (cT ci).2.2).1 = N.1.cls from hcn] at hrec
  have hG := hm.good
  obtain ⟨m1, m2, m3, m4⟩ := hm
  have hstk : (st.map (cv (a_ad a))) = (As.map (cv (a_ad a))).reverse ++ .ref (a_ad a g) :: rest.map (cv (a_ad a)) := by rw [hst]; simp [cv]
  have hpre : PreV (a_s a) H N.1.cls (a_ad a g) (Pcv (a_D a) (a_ad a) (a_ca a) (a_tys a) H.size (.ref g :: As) σ) (As.map (cv (a_ad a))) := ⟨Pcv.blind, hrec, fun U hU hWm => ⟨rfl, by rw [hU], by rw [hU]; exact hW, va_K.moved hWm.alike hK, nOK.warm hWm hN⟩⟩
  rcases hl with hl | ⟨host, hl⟩
  · refine wp_run X hP (va_runV (n := As.length) (index := idx) (Ts := gtb) (own := M.1.cls) (C := N.1.cls) (bytes := N.2.1) (maxL := N.2.2.1) (ret := N.2.2.2) ⟨hx, hb, hml, hown, hts⟩ hM ⟨callB_of As.length hts hG rfl rfl rfl (hts _ m2) (hts _ hl) m3 ⟨by show d' + 1 ≤ _; omega, by show 8 + (N.2.2.1 + 11) + 60 * d' ≤ _; omega⟩, hts _ hi, hts _ hsel⟩ hpre rfl (by simp) hlo.1 hstk (lv_room (by rw [cat_map]; exact hrs)) hd ⟨by omega, by omega⟩) hS hlo k
  · refine wp_run X hP (va_runVN (n := As.length) (index := idx) (Ts := gtb) (own := M.1.cls) (C := N.1.cls) (host := host) (bytes := N.2.1) (maxL := N.2.2.1) (ret := N.2.2.2) ⟨hx, hb, hml, hown, hts⟩ hM ⟨va_cnB As.length hts hG rfl rfl rfl (hN _ hl) (hts _ m2) m3 ⟨by show d' + 1 ≤ _; omega, by show 8 + (N.2.2.1 + 11) + 60 * d' ≤ _; omega⟩, hts _ hi, hts _ hsel⟩ hpre rfl (by simp) hlo.1 hstk (lv_room (by rw [cat_map]; exact hrs)) hd ⟨by omega, by omega⟩) hS hlo k
theorem wp_cS {M : MD} {d : Nat} {P : Am → Prop} {pc : Nat} {ls : List (Option Value)} {st : List Value} {σ : St} {idx d' : Nat} {N : MD} {As rest : List Value} {r : Option Value} {σ1 : St} (hd : decode M.2.1 pc = .ok (.invokestatic idx, 3)) (hl : ML M.1.cls idx N.1) (hm : MOk N As.length) (hv : Cond.static N.1 ∈ gtb) (hst : st = As.reverse ++ rest) (hct : Ct d' N As σ r σ1) (hdd : d' + 1 ≤ d) (hrs : (rest.map fun v => v.category).sum ≤ 8) (k : Wp M d P (pc + 3) ls (r.toList ++ rest) σ1) : Wp M d P pc ls st σ := by
  intro a X hP H locs lsA hW hS hlo
  have X2 := X
  obtain ⟨hx, hb, hml, hown, hts, hN, hK, hT, hin, hA1, hA2, hf1, hf2, hf3, hf4, -⟩ := X2
  have hM := hct (a_l a) (a_D a) (a_ad a) (a_ca a) (a_tys a) H.size d' (60 * d') (Nat.le_refl _) (Nat.le_refl _) hin hT
  have hG := hm.good
  obtain ⟨m1, m2, m3, m4⟩ := hm
  have hstk : (st.map (cv (a_ad a))) = (As.map (cv (a_ad a))).reverse ++ rest.map (cv (a_ad a)) := by rw [hst]; simp
  have hpre : PreS (a_s a) H (Pcv (a_D a) (a_ad a) (a_ca a) (a_tys a) H.size As σ) (As.map (cv (a_ad a))) := ⟨Pcv.blind, fun U hU hWm => ⟨rfl, by rw [hU], by rw [hU]; exact hW, va_K.moved hWm.alike hK, nOK.warm hWm hN⟩⟩
  rcases hl with hl | ⟨host, hl⟩
  · refine wp_run X hP (va_runS (n := As.length) (index := idx) (Ts := gtb) (own := M.1.cls) (bytes := N.2.1) (maxL := N.2.2.1) (ret := N.2.2.2) ⟨hx, hb, hml, hown, hts⟩ hM ⟨callB_of As.length hts hG rfl rfl rfl (hts _ m2) (hts _ hl) m3 ⟨by show d' + 1 ≤ _; omega, by show 8 + (N.2.2.1 + 11) + 60 * d' ≤ _; omega⟩, hts _ hv⟩ hpre rfl (by simp) hlo.1 hstk (lv_room (by rw [cat_map]; exact hrs)) hd ⟨by omega, by omega⟩) hS hlo k
  · refine wp_run X hP (va_runSN (n := As.length) (index := idx) (Ts := gtb) (own := M.1.cls) (host := host) (bytes := N.2.1) (maxL := N.2.2.1) (ret := N.2.2.2) ⟨hx, hb, hml, hown, hts⟩ hM ⟨va_cnB As.length hts hG rfl rfl rfl (hN _ hl) (hts _ m2) m3 ⟨by show d' + 1 ≤ _; omega, by show 8 + (N.2.2.1 + 11) + 60 * d' ≤ _; omega⟩, hts _ hv, trivial⟩ hpre rfl (by simp) hlo.1 hstk (lv_room (by rw [cat_map]; exact hrs)) hd ⟨by omega, by omega⟩) hS hlo k
end
