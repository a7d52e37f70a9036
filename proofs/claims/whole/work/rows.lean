section
-- ===== PART A: goes FIRST, ahead of the names: the tables' words, and 'selects' of the private methods out of them =====
/-- a private method of a class that the tables say can be made, by its rows of tables_1 -/
def lw_okq (q : MethodName × Nat) : Prop := (q.1.cls ≠ "java/lang/invoke/MethodHandle" ∧ q.1.cls ≠ "java/lang/invoke/VarHandle") ∧ Cond.instantiable q.1.cls q.2 ∈ tables_1 ∧ Cond.privateMethod q.1 ∈ tables_1 ∧ Cond.instanceMethod q.1 ∈ tables_1
theorem lw_p0 : lw_okq (⟨"CellPictures$Tape", "append", "(I)V"⟩, 2) := ⟨⟨by decide +kernel, by decide +kernel⟩, List.mem_of_getElem? (i := 24) (by decide +kernel), List.mem_of_getElem? (i := 285) (by decide +kernel), List.mem_of_getElem? (i := 286) (by decide +kernel)⟩
theorem lw_p1 : lw_okq (⟨"CellPictures$TextReader", "readsAll", "()Z"⟩, 8) := ⟨⟨by decide +kernel, by decide +kernel⟩, List.mem_of_getElem? (i := 84) (by decide +kernel), List.mem_of_getElem? (i := 297) (by decide +kernel), List.mem_of_getElem? (i := 298) (by decide +kernel)⟩
theorem lw_p2 : lw_okq (⟨"CellPictures$TextReader", "cutsClean", "()Z"⟩, 8) := ⟨⟨by decide +kernel, by decide +kernel⟩, List.mem_of_getElem? (i := 84) (by decide +kernel), List.mem_of_getElem? (i := 301) (by decide +kernel), List.mem_of_getElem? (i := 302) (by decide +kernel)⟩
theorem lw_p3 : lw_okq (⟨"CellPictures$Tape", "byteAt", "(I)I"⟩, 2) := ⟨⟨by decide +kernel, by decide +kernel⟩, List.mem_of_getElem? (i := 24) (by decide +kernel), List.mem_of_getElem? (i := 305) (by decide +kernel), List.mem_of_getElem? (i := 306) (by decide +kernel)⟩
theorem lw_p4 : lw_okq (⟨"CellPictures$TextReader", "refuse", "(I)Z"⟩, 8) := ⟨⟨by decide +kernel, by decide +kernel⟩, List.mem_of_getElem? (i := 84) (by decide +kernel), List.mem_of_getElem? (i := 318) (by decide +kernel), List.mem_of_getElem? (i := 319) (by decide +kernel)⟩
theorem lw_p5 : lw_okq (⟨"CellPictures$TextReader", "advance", "()V"⟩, 8) := ⟨⟨by decide +kernel, by decide +kernel⟩, List.mem_of_getElem? (i := 84) (by decide +kernel), List.mem_of_getElem? (i := 322) (by decide +kernel), List.mem_of_getElem? (i := 323) (by decide +kernel)⟩
theorem lw_p6 : lw_okq (⟨"CellPictures$TextReader", "endOfDigits", "(I)I"⟩, 8) := ⟨⟨by decide +kernel, by decide +kernel⟩, List.mem_of_getElem? (i := 84) (by decide +kernel), List.mem_of_getElem? (i := 326) (by decide +kernel), List.mem_of_getElem? (i := 327) (by decide +kernel)⟩
theorem lw_p7 : lw_okq (⟨"CellPictures$TextReader", "readsHead", "()Z"⟩, 8) := ⟨⟨by decide +kernel, by decide +kernel⟩, List.mem_of_getElem? (i := 84) (by decide +kernel), List.mem_of_getElem? (i := 330) (by decide +kernel), List.mem_of_getElem? (i := 331) (by decide +kernel)⟩
theorem lw_p8 : lw_okq (⟨"CellPictures$TextReader", "sizeRead", "(I)I"⟩, 8) := ⟨⟨by decide +kernel, by decide +kernel⟩, List.mem_of_getElem? (i := 84) (by decide +kernel), List.mem_of_getElem? (i := 334) (by decide +kernel), List.mem_of_getElem? (i := 335) (by decide +kernel)⟩
theorem lw_p9 : lw_okq (⟨"CellPictures$Clues", "begin", "(III)V"⟩, 7) := ⟨⟨by decide +kernel, by decide +kernel⟩, List.mem_of_getElem? (i := 40) (by decide +kernel), List.mem_of_getElem? (i := 341) (by decide +kernel), List.mem_of_getElem? (i := 342) (by decide +kernel)⟩
theorem lw_p10 : lw_okq (⟨"CellPictures$Clues", "lines", "()I"⟩, 7) := ⟨⟨by decide +kernel, by decide +kernel⟩, List.mem_of_getElem? (i := 40) (by decide +kernel), List.mem_of_getElem? (i := 346) (by decide +kernel), List.mem_of_getElem? (i := 347) (by decide +kernel)⟩
theorem lw_p11 : lw_okq (⟨"CellPictures$TextReader", "readsLine", "(I)Z"⟩, 8) := ⟨⟨by decide +kernel, by decide +kernel⟩, List.mem_of_getElem? (i := 84) (by decide +kernel), List.mem_of_getElem? (i := 350) (by decide +kernel), List.mem_of_getElem? (i := 351) (by decide +kernel)⟩
theorem lw_p12 : lw_okq (⟨"CellPictures$TextReader", "readsRun", "(II)Z"⟩, 8) := ⟨⟨by decide +kernel, by decide +kernel⟩, List.mem_of_getElem? (i := 84) (by decide +kernel), List.mem_of_getElem? (i := 354) (by decide +kernel), List.mem_of_getElem? (i := 355) (by decide +kernel)⟩
theorem lw_p13 : lw_okq (⟨"CellPictures$Clues", "add", "(III)V"⟩, 7) := ⟨⟨by decide +kernel, by decide +kernel⟩, List.mem_of_getElem? (i := 40) (by decide +kernel), List.mem_of_getElem? (i := 358) (by decide +kernel), List.mem_of_getElem? (i := 359) (by decide +kernel)⟩
theorem lw_p14 : lw_okq (⟨"CellPictures$Clues", "fitsItsCells", "(I)Z"⟩, 7) := ⟨⟨by decide +kernel, by decide +kernel⟩, List.mem_of_getElem? (i := 40) (by decide +kernel), List.mem_of_getElem? (i := 362) (by decide +kernel), List.mem_of_getElem? (i := 363) (by decide +kernel)⟩
theorem lw_p15 : lw_okq (⟨"CellPictures$Clues", "lengthOf", "(II)I"⟩, 7) := ⟨⟨by decide +kernel, by decide +kernel⟩, List.mem_of_getElem? (i := 40) (by decide +kernel), List.mem_of_getElem? (i := 366) (by decide +kernel), List.mem_of_getElem? (i := 367) (by decide +kernel)⟩
def lw_privs_1 : List (MethodName × Nat) := [(⟨"CellPictures$Tape", "append", "(I)V"⟩, 2), (⟨"CellPictures$TextReader", "readsAll", "()Z"⟩, 8), (⟨"CellPictures$TextReader", "cutsClean", "()Z"⟩, 8), (⟨"CellPictures$Tape", "byteAt", "(I)I"⟩, 2), (⟨"CellPictures$TextReader", "refuse", "(I)Z"⟩, 8), (⟨"CellPictures$TextReader", "advance", "()V"⟩, 8), (⟨"CellPictures$TextReader", "endOfDigits", "(I)I"⟩, 8), (⟨"CellPictures$TextReader", "readsHead", "()Z"⟩, 8), (⟨"CellPictures$TextReader", "sizeRead", "(I)I"⟩, 8), (⟨"CellPictures$Clues", "begin", "(III)V"⟩, 7), (⟨"CellPictures$Clues", "lines", "()I"⟩, 7), (⟨"CellPictures$TextReader", "readsLine", "(I)Z"⟩, 8), (⟨"CellPictures$TextReader", "readsRun", "(II)Z"⟩, 8), (⟨"CellPictures$Clues", "add", "(III)V"⟩, 7), (⟨"CellPictures$Clues", "fitsItsCells", "(I)Z"⟩, 7), (⟨"CellPictures$Clues", "lengthOf", "(II)I"⟩, 7)]
theorem lw_r1 : ∀ q ∈ lw_privs_1, lw_okq q := List.forall_mem_cons.mpr ⟨lw_p0, List.forall_mem_cons.mpr ⟨lw_p1, List.forall_mem_cons.mpr ⟨lw_p2, List.forall_mem_cons.mpr ⟨lw_p3, List.forall_mem_cons.mpr ⟨lw_p4, List.forall_mem_cons.mpr ⟨lw_p5, List.forall_mem_cons.mpr ⟨lw_p6, List.forall_mem_cons.mpr ⟨lw_p7, List.forall_mem_cons.mpr ⟨lw_p8, List.forall_mem_cons.mpr ⟨lw_p9, List.forall_mem_cons.mpr ⟨lw_p10, List.forall_mem_cons.mpr ⟨lw_p11, List.forall_mem_cons.mpr ⟨lw_p12, List.forall_mem_cons.mpr ⟨lw_p13, List.forall_mem_cons.mpr ⟨lw_p14, List.forall_mem_cons.mpr ⟨lw_p15, fun _ h => absurd h List.not_mem_nil⟩⟩⟩⟩⟩⟩⟩⟩⟩⟩⟩⟩⟩⟩⟩⟩
theorem lw_p16 : lw_okq (⟨"CellPictures$Clues", "needsGapAhead", "(II)Z"⟩, 7) := ⟨⟨by decide +kernel, by decide +kernel⟩, List.mem_of_getElem? (i := 40) (by decide +kernel), List.mem_of_getElem? (i := 370) (by decide +kernel), List.mem_of_getElem? (i := 371) (by decide +kernel)⟩
theorem lw_p17 : lw_okq (⟨"CellPictures$Clues", "cellsOf", "(I)I"⟩, 7) := ⟨⟨by decide +kernel, by decide +kernel⟩, List.mem_of_getElem? (i := 40) (by decide +kernel), List.mem_of_getElem? (i := 374) (by decide +kernel), List.mem_of_getElem? (i := 375) (by decide +kernel)⟩
theorem lw_p18 : lw_okq (⟨"CellPictures$Clues", "isBalanced", "()Z"⟩, 7) := ⟨⟨by decide +kernel, by decide +kernel⟩, List.mem_of_getElem? (i := 40) (by decide +kernel), List.mem_of_getElem? (i := 378) (by decide +kernel), List.mem_of_getElem? (i := 379) (by decide +kernel)⟩
theorem lw_p19 : lw_okq (⟨"CellPictures$Clues", "cellsTold", "(III)I"⟩, 7) := ⟨⟨by decide +kernel, by decide +kernel⟩, List.mem_of_getElem? (i := 40) (by decide +kernel), List.mem_of_getElem? (i := 382) (by decide +kernel), List.mem_of_getElem? (i := 383) (by decide +kernel)⟩
theorem lw_p20 : lw_okq (⟨"CellPictures$Clues", "colourOf", "(II)I"⟩, 7) := ⟨⟨by decide +kernel, by decide +kernel⟩, List.mem_of_getElem? (i := 40) (by decide +kernel), List.mem_of_getElem? (i := 386) (by decide +kernel), List.mem_of_getElem? (i := 387) (by decide +kernel)⟩
theorem lw_p21 : lw_okq (⟨"CellPictures$Clues", "copy", "(LCellPictures$Clues;)V"⟩, 7) := ⟨⟨by decide +kernel, by decide +kernel⟩, List.mem_of_getElem? (i := 40) (by decide +kernel), List.mem_of_getElem? (i := 391) (by decide +kernel), List.mem_of_getElem? (i := 392) (by decide +kernel)⟩
theorem lw_p22 : lw_okq (⟨"CellPictures$Grid", "clear", "()V"⟩, 2) := ⟨⟨by decide +kernel, by decide +kernel⟩, List.mem_of_getElem? (i := 117) (by decide +kernel), List.mem_of_getElem? (i := 398) (by decide +kernel), List.mem_of_getElem? (i := 399) (by decide +kernel)⟩
theorem lw_p23 : lw_okq (⟨"CellPictures", "beginPuzzle", "()V"⟩, 14) := ⟨⟨by decide +kernel, by decide +kernel⟩, List.mem_of_getElem? (i := 16) (by decide +kernel), List.mem_of_getElem? (i := 402) (by decide +kernel), List.mem_of_getElem? (i := 403) (by decide +kernel)⟩
theorem lw_p24 : lw_okq (⟨"CellPictures$Found", "forgetAll", "()V"⟩, 5) := ⟨⟨by decide +kernel, by decide +kernel⟩, List.mem_of_getElem? (i := 206) (by decide +kernel), List.mem_of_getElem? (i := 406) (by decide +kernel), List.mem_of_getElem? (i := 407) (by decide +kernel)⟩
theorem lw_p25 : lw_okq (⟨"CellPictures", "hasPuzzle", "()Z"⟩, 14) := ⟨⟨by decide +kernel, by decide +kernel⟩, List.mem_of_getElem? (i := 16) (by decide +kernel), List.mem_of_getElem? (i := 424) (by decide +kernel), List.mem_of_getElem? (i := 425) (by decide +kernel)⟩
theorem lw_p26 : lw_okq (⟨"CellPictures$Sets", "countSingles", "()I"⟩, 2) := ⟨⟨by decide +kernel, by decide +kernel⟩, List.mem_of_getElem? (i := 163) (by decide +kernel), List.mem_of_getElem? (i := 429) (by decide +kernel), List.mem_of_getElem? (i := 430) (by decide +kernel)⟩
theorem lw_p27 : lw_okq (⟨"CellPictures$Sets", "valuesAt", "(II)I"⟩, 2) := ⟨⟨by decide +kernel, by decide +kernel⟩, List.mem_of_getElem? (i := 163) (by decide +kernel), List.mem_of_getElem? (i := 433) (by decide +kernel), List.mem_of_getElem? (i := 434) (by decide +kernel)⟩
theorem lw_p28 : lw_okq (⟨"CellPictures", "isLine", "(I)Z"⟩, 14) := ⟨⟨by decide +kernel, by decide +kernel⟩, List.mem_of_getElem? (i := 16) (by decide +kernel), List.mem_of_getElem? (i := 451) (by decide +kernel), List.mem_of_getElem? (i := 452) (by decide +kernel)⟩
theorem lw_p29 : lw_okq (⟨"CellPictures", "isCell", "(II)Z"⟩, 14) := ⟨⟨by decide +kernel, by decide +kernel⟩, List.mem_of_getElem? (i := 16) (by decide +kernel), List.mem_of_getElem? (i := 461) (by decide +kernel), List.mem_of_getElem? (i := 462) (by decide +kernel)⟩
theorem lw_p30 : lw_okq (⟨"CellPictures", "isValueOrNone", "(I)Z"⟩, 14) := ⟨⟨by decide +kernel, by decide +kernel⟩, List.mem_of_getElem? (i := 16) (by decide +kernel), List.mem_of_getElem? (i := 465) (by decide +kernel), List.mem_of_getElem? (i := 466) (by decide +kernel)⟩
theorem lw_p31 : lw_okq (⟨"CellPictures$Grid", "put", "(III)V"⟩, 2) := ⟨⟨by decide +kernel, by decide +kernel⟩, List.mem_of_getElem? (i := 117) (by decide +kernel), List.mem_of_getElem? (i := 469) (by decide +kernel), List.mem_of_getElem? (i := 470) (by decide +kernel)⟩
def lw_privs_2 : List (MethodName × Nat) := [(⟨"CellPictures$Clues", "needsGapAhead", "(II)Z"⟩, 7), (⟨"CellPictures$Clues", "cellsOf", "(I)I"⟩, 7), (⟨"CellPictures$Clues", "isBalanced", "()Z"⟩, 7), (⟨"CellPictures$Clues", "cellsTold", "(III)I"⟩, 7), (⟨"CellPictures$Clues", "colourOf", "(II)I"⟩, 7), (⟨"CellPictures$Clues", "copy", "(LCellPictures$Clues;)V"⟩, 7), (⟨"CellPictures$Grid", "clear", "()V"⟩, 2), (⟨"CellPictures", "beginPuzzle", "()V"⟩, 14), (⟨"CellPictures$Found", "forgetAll", "()V"⟩, 5), (⟨"CellPictures", "hasPuzzle", "()Z"⟩, 14), (⟨"CellPictures$Sets", "countSingles", "()I"⟩, 2), (⟨"CellPictures$Sets", "valuesAt", "(II)I"⟩, 2), (⟨"CellPictures", "isLine", "(I)Z"⟩, 14), (⟨"CellPictures", "isCell", "(II)Z"⟩, 14), (⟨"CellPictures", "isValueOrNone", "(I)Z"⟩, 14), (⟨"CellPictures$Grid", "put", "(III)V"⟩, 2)]
theorem lw_r2 : ∀ q ∈ lw_privs_2, lw_okq q := List.forall_mem_cons.mpr ⟨lw_p16, List.forall_mem_cons.mpr ⟨lw_p17, List.forall_mem_cons.mpr ⟨lw_p18, List.forall_mem_cons.mpr ⟨lw_p19, List.forall_mem_cons.mpr ⟨lw_p20, List.forall_mem_cons.mpr ⟨lw_p21, List.forall_mem_cons.mpr ⟨lw_p22, List.forall_mem_cons.mpr ⟨lw_p23, List.forall_mem_cons.mpr ⟨lw_p24, List.forall_mem_cons.mpr ⟨lw_p25, List.forall_mem_cons.mpr ⟨lw_p26, List.forall_mem_cons.mpr ⟨lw_p27, List.forall_mem_cons.mpr ⟨lw_p28, List.forall_mem_cons.mpr ⟨lw_p29, List.forall_mem_cons.mpr ⟨lw_p30, List.forall_mem_cons.mpr ⟨lw_p31, fun _ h => absurd h List.not_mem_nil⟩⟩⟩⟩⟩⟩⟩⟩⟩⟩⟩⟩⟩⟩⟩⟩
theorem lw_p32 : lw_okq (⟨"CellPictures$Grid", "at", "(II)I"⟩, 2) := ⟨⟨by decide +kernel, by decide +kernel⟩, List.mem_of_getElem? (i := 117) (by decide +kernel), List.mem_of_getElem? (i := 473) (by decide +kernel), List.mem_of_getElem? (i := 474) (by decide +kernel)⟩
theorem lw_p33 : lw_okq (⟨"CellPictures$Found", "forgetSolutions", "()V"⟩, 5) := ⟨⟨by decide +kernel, by decide +kernel⟩, List.mem_of_getElem? (i := 206) (by decide +kernel), List.mem_of_getElem? (i := 477) (by decide +kernel), List.mem_of_getElem? (i := 478) (by decide +kernel)⟩
theorem lw_p34 : lw_okq (⟨"CellPictures$Sets", "become", "(LCellPictures$Grid;)V"⟩, 2) := ⟨⟨by decide +kernel, by decide +kernel⟩, List.mem_of_getElem? (i := 163) (by decide +kernel), List.mem_of_getElem? (i := 490) (by decide +kernel), List.mem_of_getElem? (i := 491) (by decide +kernel)⟩
theorem lw_p35 : lw_okq (⟨"CellPictures$Sets", "fill", "()V"⟩, 2) := ⟨⟨by decide +kernel, by decide +kernel⟩, List.mem_of_getElem? (i := 163) (by decide +kernel), List.mem_of_getElem? (i := 494) (by decide +kernel), List.mem_of_getElem? (i := 495) (by decide +kernel)⟩
theorem lw_p36 : lw_okq (⟨"CellPictures$Sets", "tell", "(LCellPictures$Grid;)V"⟩, 2) := ⟨⟨by decide +kernel, by decide +kernel⟩, List.mem_of_getElem? (i := 163) (by decide +kernel), List.mem_of_getElem? (i := 500) (by decide +kernel), List.mem_of_getElem? (i := 501) (by decide +kernel)⟩
theorem lw_p37 : lw_okq (⟨"CellPictures$Sets", "fix", "(III)V"⟩, 2) := ⟨⟨by decide +kernel, by decide +kernel⟩, List.mem_of_getElem? (i := 163) (by decide +kernel), List.mem_of_getElem? (i := 505) (by decide +kernel), List.mem_of_getElem? (i := 506) (by decide +kernel)⟩
theorem lw_p38 : lw_okq (⟨"CellPictures$LineRule", "keptOf", "(IJ)J"⟩, 5) := ⟨⟨by decide +kernel, by decide +kernel⟩, List.mem_of_getElem? (i := 134) (by decide +kernel), List.mem_of_getElem? (i := 514) (by decide +kernel), List.mem_of_getElem? (i := 515) (by decide +kernel)⟩
theorem lw_p39 : lw_okq (⟨"CellPictures$Sets", "narrow", "(IJ)I"⟩, 2) := ⟨⟨by decide +kernel, by decide +kernel⟩, List.mem_of_getElem? (i := 163) (by decide +kernel), List.mem_of_getElem? (i := 537) (by decide +kernel), List.mem_of_getElem? (i := 538) (by decide +kernel)⟩
theorem lw_p40 : lw_okq (⟨"CellPictures$LineRule", "countWays", "(IJ)J"⟩, 5) := ⟨⟨by decide +kernel, by decide +kernel⟩, List.mem_of_getElem? (i := 134) (by decide +kernel), List.mem_of_getElem? (i := 547) (by decide +kernel), List.mem_of_getElem? (i := 548) (by decide +kernel)⟩
theorem lw_p41 : lw_okq (⟨"CellPictures$LineRule", "countRun", "(IIJ)V"⟩, 5) := ⟨⟨by decide +kernel, by decide +kernel⟩, List.mem_of_getElem? (i := 134) (by decide +kernel), List.mem_of_getElem? (i := 551) (by decide +kernel), List.mem_of_getElem? (i := 552) (by decide +kernel)⟩
theorem lw_p42 : lw_okq (⟨"CellPictures$Clues", "allLines", "()I"⟩, 7) := ⟨⟨by decide +kernel, by decide +kernel⟩, List.mem_of_getElem? (i := 40) (by decide +kernel), List.mem_of_getElem? (i := 561) (by decide +kernel), List.mem_of_getElem? (i := 562) (by decide +kernel)⟩
theorem lw_p43 : lw_okq (⟨"CellPictures$Solver", "settle", "(LCellPictures$Sets;I)I"⟩, 8) := ⟨⟨by decide +kernel, by decide +kernel⟩, List.mem_of_getElem? (i := 157) (by decide +kernel), List.mem_of_getElem? (i := 565) (by decide +kernel), List.mem_of_getElem? (i := 566) (by decide +kernel)⟩
theorem lw_p44 : lw_okq (⟨"CellPictures$Solver", "sift", "(LCellPictures$Sets;)I"⟩, 8) := ⟨⟨by decide +kernel, by decide +kernel⟩, List.mem_of_getElem? (i := 157) (by decide +kernel), List.mem_of_getElem? (i := 577) (by decide +kernel), List.mem_of_getElem? (i := 578) (by decide +kernel)⟩
theorem lw_p45 : lw_okq (⟨"CellPictures$Solver", "siftCell", "(LCellPictures$Sets;II)I"⟩, 8) := ⟨⟨by decide +kernel, by decide +kernel⟩, List.mem_of_getElem? (i := 157) (by decide +kernel), List.mem_of_getElem? (i := 581) (by decide +kernel), List.mem_of_getElem? (i := 582) (by decide +kernel)⟩
theorem lw_p46 : lw_okq (⟨"CellPictures$Sets", "linesThrough", "(II)I"⟩, 2) := ⟨⟨by decide +kernel, by decide +kernel⟩, List.mem_of_getElem? (i := 163) (by decide +kernel), List.mem_of_getElem? (i := 585) (by decide +kernel), List.mem_of_getElem? (i := 586) (by decide +kernel)⟩
theorem lw_p47 : lw_okq (⟨"CellPictures$Sets", "copy", "(LCellPictures$Sets;)V"⟩, 2) := ⟨⟨by decide +kernel, by decide +kernel⟩, List.mem_of_getElem? (i := 163) (by decide +kernel), List.mem_of_getElem? (i := 591) (by decide +kernel), List.mem_of_getElem? (i := 592) (by decide +kernel)⟩
def lw_privs_3 : List (MethodName × Nat) := [(⟨"CellPictures$Grid", "at", "(II)I"⟩, 2), (⟨"CellPictures$Found", "forgetSolutions", "()V"⟩, 5), (⟨"CellPictures$Sets", "become", "(LCellPictures$Grid;)V"⟩, 2), (⟨"CellPictures$Sets", "fill", "()V"⟩, 2), (⟨"CellPictures$Sets", "tell", "(LCellPictures$Grid;)V"⟩, 2), (⟨"CellPictures$Sets", "fix", "(III)V"⟩, 2), (⟨"CellPictures$LineRule", "keptOf", "(IJ)J"⟩, 5), (⟨"CellPictures$Sets", "narrow", "(IJ)I"⟩, 2), (⟨"CellPictures$LineRule", "countWays", "(IJ)J"⟩, 5), (⟨"CellPictures$LineRule", "countRun", "(IIJ)V"⟩, 5), (⟨"CellPictures$Clues", "allLines", "()I"⟩, 7), (⟨"CellPictures$Solver", "settle", "(LCellPictures$Sets;I)I"⟩, 8), (⟨"CellPictures$Solver", "sift", "(LCellPictures$Sets;)I"⟩, 8), (⟨"CellPictures$Solver", "siftCell", "(LCellPictures$Sets;II)I"⟩, 8), (⟨"CellPictures$Sets", "linesThrough", "(II)I"⟩, 2), (⟨"CellPictures$Sets", "copy", "(LCellPictures$Sets;)V"⟩, 2)]
theorem lw_r3 : ∀ q ∈ lw_privs_3, lw_okq q := List.forall_mem_cons.mpr ⟨lw_p32, List.forall_mem_cons.mpr ⟨lw_p33, List.forall_mem_cons.mpr ⟨lw_p34, List.forall_mem_cons.mpr ⟨lw_p35, List.forall_mem_cons.mpr ⟨lw_p36, List.forall_mem_cons.mpr ⟨lw_p37, List.forall_mem_cons.mpr ⟨lw_p38, List.forall_mem_cons.mpr ⟨lw_p39, List.forall_mem_cons.mpr ⟨lw_p40, List.forall_mem_cons.mpr ⟨lw_p41, List.forall_mem_cons.mpr ⟨lw_p42, List.forall_mem_cons.mpr ⟨lw_p43, List.forall_mem_cons.mpr ⟨lw_p44, List.forall_mem_cons.mpr ⟨lw_p45, List.forall_mem_cons.mpr ⟨lw_p46, List.forall_mem_cons.mpr ⟨lw_p47, fun _ h => absurd h List.not_mem_nil⟩⟩⟩⟩⟩⟩⟩⟩⟩⟩⟩⟩⟩⟩⟩⟩
theorem lw_p48 : lw_okq (⟨"CellPictures$Sets", "drop", "(III)V"⟩, 2) := ⟨⟨by decide +kernel, by decide +kernel⟩, List.mem_of_getElem? (i := 163) (by decide +kernel), List.mem_of_getElem? (i := 598) (by decide +kernel), List.mem_of_getElem? (i := 599) (by decide +kernel)⟩
theorem lw_p49 : lw_okq (⟨"CellPictures$Solver", "seek", "(LCellPictures$Grid;IILCellPictures$Found;)V"⟩, 8) := ⟨⟨by decide +kernel, by decide +kernel⟩, List.mem_of_getElem? (i := 157) (by decide +kernel), List.mem_of_getElem? (i := 611) (by decide +kernel), List.mem_of_getElem? (i := 612) (by decide +kernel)⟩
theorem lw_p50 : lw_okq (⟨"CellPictures$Found", "begin", "()V"⟩, 5) := ⟨⟨by decide +kernel, by decide +kernel⟩, List.mem_of_getElem? (i := 206) (by decide +kernel), List.mem_of_getElem? (i := 615) (by decide +kernel), List.mem_of_getElem? (i := 616) (by decide +kernel)⟩
theorem lw_p51 : lw_okq (⟨"CellPictures$Solver", "opensChoice", "()Z"⟩, 8) := ⟨⟨by decide +kernel, by decide +kernel⟩, List.mem_of_getElem? (i := 157) (by decide +kernel), List.mem_of_getElem? (i := 621) (by decide +kernel), List.mem_of_getElem? (i := 622) (by decide +kernel)⟩
theorem lw_p52 : lw_okq (⟨"CellPictures$Sets", "firstOfFewest", "()I"⟩, 2) := ⟨⟨by decide +kernel, by decide +kernel⟩, List.mem_of_getElem? (i := 163) (by decide +kernel), List.mem_of_getElem? (i := 625) (by decide +kernel), List.mem_of_getElem? (i := 626) (by decide +kernel)⟩
theorem lw_p53 : lw_okq (⟨"CellPictures$Sets", "saveTo", "([JI)V"⟩, 2) := ⟨⟨by decide +kernel, by decide +kernel⟩, List.mem_of_getElem? (i := 163) (by decide +kernel), List.mem_of_getElem? (i := 629) (by decide +kernel), List.mem_of_getElem? (i := 630) (by decide +kernel)⟩
theorem lw_p54 : lw_okq (⟨"CellPictures$Found", "add", "(LCellPictures$Sets;)V"⟩, 5) := ⟨⟨by decide +kernel, by decide +kernel⟩, List.mem_of_getElem? (i := 206) (by decide +kernel), List.mem_of_getElem? (i := 633) (by decide +kernel), List.mem_of_getElem? (i := 634) (by decide +kernel)⟩
theorem lw_p55 : lw_okq (⟨"CellPictures$Found", "kept", "(I)LCellPictures$Grid;"⟩, 5) := ⟨⟨by decide +kernel, by decide +kernel⟩, List.mem_of_getElem? (i := 206) (by decide +kernel), List.mem_of_getElem? (i := 637) (by decide +kernel), List.mem_of_getElem? (i := 638) (by decide +kernel)⟩
theorem lw_p56 : lw_okq (⟨"CellPictures$Solver", "closeEmptyChoices", "()V"⟩, 8) := ⟨⟨by decide +kernel, by decide +kernel⟩, List.mem_of_getElem? (i := 157) (by decide +kernel), List.mem_of_getElem? (i := 646) (by decide +kernel), List.mem_of_getElem? (i := 647) (by decide +kernel)⟩
theorem lw_p57 : lw_okq (⟨"CellPictures$Solver", "followsChoice", "()Z"⟩, 8) := ⟨⟨by decide +kernel, by decide +kernel⟩, List.mem_of_getElem? (i := 157) (by decide +kernel), List.mem_of_getElem? (i := 650) (by decide +kernel), List.mem_of_getElem? (i := 651) (by decide +kernel)⟩
theorem lw_p58 : lw_okq (⟨"CellPictures$Sets", "restoreFrom", "([JI)V"⟩, 2) := ⟨⟨by decide +kernel, by decide +kernel⟩, List.mem_of_getElem? (i := 163) (by decide +kernel), List.mem_of_getElem? (i := 655) (by decide +kernel), List.mem_of_getElem? (i := 656) (by decide +kernel)⟩
theorem lw_p59 : lw_okq (⟨"CellPictures$Found", "isKept", "(I)Z"⟩, 5) := ⟨⟨by decide +kernel, by decide +kernel⟩, List.mem_of_getElem? (i := 206) (by decide +kernel), List.mem_of_getElem? (i := 667) (by decide +kernel), List.mem_of_getElem? (i := 668) (by decide +kernel)⟩
theorem lw_p60 : lw_okq (⟨"CellPictures$Solver", "judge", "(LCellPictures$Grid;LCellPictures$Found;)I"⟩, 8) := ⟨⟨by decide +kernel, by decide +kernel⟩, List.mem_of_getElem? (i := 157) (by decide +kernel), List.mem_of_getElem? (i := 676) (by decide +kernel), List.mem_of_getElem? (i := 677) (by decide +kernel)⟩
theorem lw_p61 : lw_okq (⟨"CellPictures", "draftFromMarks", "()V"⟩, 14) := ⟨⟨by decide +kernel, by decide +kernel⟩, List.mem_of_getElem? (i := 16) (by decide +kernel), List.mem_of_getElem? (i := 694) (by decide +kernel), List.mem_of_getElem? (i := 695) (by decide +kernel)⟩
theorem lw_p62 : lw_okq (⟨"CellPictures$Clues", "readLine", "(ILCellPictures$Grid;)V"⟩, 7) := ⟨⟨by decide +kernel, by decide +kernel⟩, List.mem_of_getElem? (i := 40) (by decide +kernel), List.mem_of_getElem? (i := 698) (by decide +kernel), List.mem_of_getElem? (i := 699) (by decide +kernel)⟩
theorem lw_p63 : lw_okq (⟨"CellPictures$Clues", "xOf", "(II)I"⟩, 7) := ⟨⟨by decide +kernel, by decide +kernel⟩, List.mem_of_getElem? (i := 40) (by decide +kernel), List.mem_of_getElem? (i := 702) (by decide +kernel), List.mem_of_getElem? (i := 703) (by decide +kernel)⟩
def lw_privs_4 : List (MethodName × Nat) := [(⟨"CellPictures$Sets", "drop", "(III)V"⟩, 2), (⟨"CellPictures$Solver", "seek", "(LCellPictures$Grid;IILCellPictures$Found;)V"⟩, 8), (⟨"CellPictures$Found", "begin", "()V"⟩, 5), (⟨"CellPictures$Solver", "opensChoice", "()Z"⟩, 8), (⟨"CellPictures$Sets", "firstOfFewest", "()I"⟩, 2), (⟨"CellPictures$Sets", "saveTo", "([JI)V"⟩, 2), (⟨"CellPictures$Found", "add", "(LCellPictures$Sets;)V"⟩, 5), (⟨"CellPictures$Found", "kept", "(I)LCellPictures$Grid;"⟩, 5), (⟨"CellPictures$Solver", "closeEmptyChoices", "()V"⟩, 8), (⟨"CellPictures$Solver", "followsChoice", "()Z"⟩, 8), (⟨"CellPictures$Sets", "restoreFrom", "([JI)V"⟩, 2), (⟨"CellPictures$Found", "isKept", "(I)Z"⟩, 5), (⟨"CellPictures$Solver", "judge", "(LCellPictures$Grid;LCellPictures$Found;)I"⟩, 8), (⟨"CellPictures", "draftFromMarks", "()V"⟩, 14), (⟨"CellPictures$Clues", "readLine", "(ILCellPictures$Grid;)V"⟩, 7), (⟨"CellPictures$Clues", "xOf", "(II)I"⟩, 7)]
theorem lw_r4 : ∀ q ∈ lw_privs_4, lw_okq q := List.forall_mem_cons.mpr ⟨lw_p48, List.forall_mem_cons.mpr ⟨lw_p49, List.forall_mem_cons.mpr ⟨lw_p50, List.forall_mem_cons.mpr ⟨lw_p51, List.forall_mem_cons.mpr ⟨lw_p52, List.forall_mem_cons.mpr ⟨lw_p53, List.forall_mem_cons.mpr ⟨lw_p54, List.forall_mem_cons.mpr ⟨lw_p55, List.forall_mem_cons.mpr ⟨lw_p56, List.forall_mem_cons.mpr ⟨lw_p57, List.forall_mem_cons.mpr ⟨lw_p58, List.forall_mem_cons.mpr ⟨lw_p59, List.forall_mem_cons.mpr ⟨lw_p60, List.forall_mem_cons.mpr ⟨lw_p61, List.forall_mem_cons.mpr ⟨lw_p62, List.forall_mem_cons.mpr ⟨lw_p63, fun _ h => absurd h List.not_mem_nil⟩⟩⟩⟩⟩⟩⟩⟩⟩⟩⟩⟩⟩⟩⟩⟩
theorem lw_p64 : lw_okq (⟨"CellPictures$Clues", "yOf", "(II)I"⟩, 7) := ⟨⟨by decide +kernel, by decide +kernel⟩, List.mem_of_getElem? (i := 40) (by decide +kernel), List.mem_of_getElem? (i := 706) (by decide +kernel), List.mem_of_getElem? (i := 707) (by decide +kernel)⟩
theorem lw_p65 : lw_okq (⟨"CellPictures$Grid", "valueAt", "(II)I"⟩, 2) := ⟨⟨by decide +kernel, by decide +kernel⟩, List.mem_of_getElem? (i := 117) (by decide +kernel), List.mem_of_getElem? (i := 710) (by decide +kernel), List.mem_of_getElem? (i := 711) (by decide +kernel)⟩
theorem lw_p66 : lw_okq (⟨"CellPictures$Clues", "addStretch", "(III)V"⟩, 7) := ⟨⟨by decide +kernel, by decide +kernel⟩, List.mem_of_getElem? (i := 40) (by decide +kernel), List.mem_of_getElem? (i := 717) (by decide +kernel), List.mem_of_getElem? (i := 718) (by decide +kernel)⟩
theorem lw_p67 : lw_okq (⟨"CellPictures$Clues", "hasRunsOf", "(LCellPictures$Clues;)Z"⟩, 7) := ⟨⟨by decide +kernel, by decide +kernel⟩, List.mem_of_getElem? (i := 40) (by decide +kernel), List.mem_of_getElem? (i := 722) (by decide +kernel), List.mem_of_getElem? (i := 723) (by decide +kernel)⟩
theorem lw_p68 : lw_okq (⟨"CellPictures$Clues", "isLineLike", "(ILCellPictures$Clues;)Z"⟩, 7) := ⟨⟨by decide +kernel, by decide +kernel⟩, List.mem_of_getElem? (i := 40) (by decide +kernel), List.mem_of_getElem? (i := 726) (by decide +kernel), List.mem_of_getElem? (i := 727) (by decide +kernel)⟩
theorem lw_p69 : lw_okq (⟨"CellPictures", "areGivensMarked", "()Z"⟩, 14) := ⟨⟨by decide +kernel, by decide +kernel⟩, List.mem_of_getElem? (i := 16) (by decide +kernel), List.mem_of_getElem? (i := 730) (by decide +kernel), List.mem_of_getElem? (i := 731) (by decide +kernel)⟩
theorem lw_p70 : lw_okq (⟨"CellPictures", "hintOf", "(IJ)I"⟩, 14) := ⟨⟨by decide +kernel, by decide +kernel⟩, List.mem_of_getElem? (i := 16) (by decide +kernel), List.mem_of_getElem? (i := 745) (by decide +kernel), List.mem_of_getElem? (i := 746) (by decide +kernel)⟩
theorem lw_p71 : lw_okq (⟨"CellPictures", "giveFirstUnlike", "()V"⟩, 14) := ⟨⟨by decide +kernel, by decide +kernel⟩, List.mem_of_getElem? (i := 16) (by decide +kernel), List.mem_of_getElem? (i := 763) (by decide +kernel), List.mem_of_getElem? (i := 764) (by decide +kernel)⟩
theorem lw_p72 : lw_okq (⟨"CellPicturesModel", "four", "(I)V"⟩, 50) := ⟨⟨by decide +kernel, by decide +kernel⟩, List.mem_of_getElem? (i := 768) (by decide +kernel), List.mem_of_getElem? (i := 929) (by decide +kernel), List.mem_of_getElem? (i := 930) (by decide +kernel)⟩
theorem lw_p73 : lw_okq (⟨"CellPicturesModel", "cut", "()V"⟩, 50) := ⟨⟨by decide +kernel, by decide +kernel⟩, List.mem_of_getElem? (i := 768) (by decide +kernel), List.mem_of_getElem? (i := 944) (by decide +kernel), List.mem_of_getElem? (i := 945) (by decide +kernel)⟩
theorem lw_p74 : lw_okq (⟨"CellPicturesModel", "good", "()Z"⟩, 50) := ⟨⟨by decide +kernel, by decide +kernel⟩, List.mem_of_getElem? (i := 768) (by decide +kernel), List.mem_of_getElem? (i := 948) (by decide +kernel), List.mem_of_getElem? (i := 949) (by decide +kernel)⟩
theorem lw_p75 : lw_okq (⟨"CellPicturesModel", "fails", "(II)V"⟩, 50) := ⟨⟨by decide +kernel, by decide +kernel⟩, List.mem_of_getElem? (i := 768) (by decide +kernel), List.mem_of_getElem? (i := 952) (by decide +kernel), List.mem_of_getElem? (i := 953) (by decide +kernel)⟩
theorem lw_p76 : lw_okq (⟨"CellPicturesModel", "token", "(III)V"⟩, 50) := ⟨⟨by decide +kernel, by decide +kernel⟩, List.mem_of_getElem? (i := 768) (by decide +kernel), List.mem_of_getElem? (i := 956) (by decide +kernel), List.mem_of_getElem? (i := 957) (by decide +kernel)⟩
theorem lw_p77 : lw_okq (⟨"CellPicturesModel", "number", "(II)I"⟩, 50) := ⟨⟨by decide +kernel, by decide +kernel⟩, List.mem_of_getElem? (i := 768) (by decide +kernel), List.mem_of_getElem? (i := 960) (by decide +kernel), List.mem_of_getElem? (i := 961) (by decide +kernel)⟩
theorem lw_p78 : lw_okq (⟨"CellPicturesModel", "semi", "()V"⟩, 50) := ⟨⟨by decide +kernel, by decide +kernel⟩, List.mem_of_getElem? (i := 768) (by decide +kernel), List.mem_of_getElem? (i := 964) (by decide +kernel), List.mem_of_getElem? (i := 965) (by decide +kernel)⟩
theorem lw_p79 : lw_okq (⟨"CellPicturesModel", "oneLine", "(I)V"⟩, 50) := ⟨⟨by decide +kernel, by decide +kernel⟩, List.mem_of_getElem? (i := 768) (by decide +kernel), List.mem_of_getElem? (i := 968) (by decide +kernel), List.mem_of_getElem? (i := 969) (by decide +kernel)⟩
def lw_privs_5 : List (MethodName × Nat) := [(⟨"CellPictures$Clues", "yOf", "(II)I"⟩, 7), (⟨"CellPictures$Grid", "valueAt", "(II)I"⟩, 2), (⟨"CellPictures$Clues", "addStretch", "(III)V"⟩, 7), (⟨"CellPictures$Clues", "hasRunsOf", "(LCellPictures$Clues;)Z"⟩, 7), (⟨"CellPictures$Clues", "isLineLike", "(ILCellPictures$Clues;)Z"⟩, 7), (⟨"CellPictures", "areGivensMarked", "()Z"⟩, 14), (⟨"CellPictures", "hintOf", "(IJ)I"⟩, 14), (⟨"CellPictures", "giveFirstUnlike", "()V"⟩, 14), (⟨"CellPicturesModel", "four", "(I)V"⟩, 50), (⟨"CellPicturesModel", "cut", "()V"⟩, 50), (⟨"CellPicturesModel", "good", "()Z"⟩, 50), (⟨"CellPicturesModel", "fails", "(II)V"⟩, 50), (⟨"CellPicturesModel", "token", "(III)V"⟩, 50), (⟨"CellPicturesModel", "number", "(II)I"⟩, 50), (⟨"CellPicturesModel", "semi", "()V"⟩, 50), (⟨"CellPicturesModel", "oneLine", "(I)V"⟩, 50)]
theorem lw_r5 : ∀ q ∈ lw_privs_5, lw_okq q := List.forall_mem_cons.mpr ⟨lw_p64, List.forall_mem_cons.mpr ⟨lw_p65, List.forall_mem_cons.mpr ⟨lw_p66, List.forall_mem_cons.mpr ⟨lw_p67, List.forall_mem_cons.mpr ⟨lw_p68, List.forall_mem_cons.mpr ⟨lw_p69, List.forall_mem_cons.mpr ⟨lw_p70, List.forall_mem_cons.mpr ⟨lw_p71, List.forall_mem_cons.mpr ⟨lw_p72, List.forall_mem_cons.mpr ⟨lw_p73, List.forall_mem_cons.mpr ⟨lw_p74, List.forall_mem_cons.mpr ⟨lw_p75, List.forall_mem_cons.mpr ⟨lw_p76, List.forall_mem_cons.mpr ⟨lw_p77, List.forall_mem_cons.mpr ⟨lw_p78, List.forall_mem_cons.mpr ⟨lw_p79, fun _ h => absurd h List.not_mem_nil⟩⟩⟩⟩⟩⟩⟩⟩⟩⟩⟩⟩⟩⟩⟩⟩
theorem lw_p80 : lw_okq (⟨"CellPicturesModel", "oneRun", "(I)V"⟩, 50) := ⟨⟨by decide +kernel, by decide +kernel⟩, List.mem_of_getElem? (i := 768) (by decide +kernel), List.mem_of_getElem? (i := 972) (by decide +kernel), List.mem_of_getElem? (i := 973) (by decide +kernel)⟩
theorem lw_p81 : lw_okq (⟨"CellPicturesModel", "colourSumsDiffer", "()Z"⟩, 50) := ⟨⟨by decide +kernel, by decide +kernel⟩, List.mem_of_getElem? (i := 768) (by decide +kernel), List.mem_of_getElem? (i := 976) (by decide +kernel), List.mem_of_getElem? (i := 977) (by decide +kernel)⟩
theorem lw_p82 : lw_okq (⟨"CellPicturesModel", "isNew", "()V"⟩, 50) := ⟨⟨by decide +kernel, by decide +kernel⟩, List.mem_of_getElem? (i := 768) (by decide +kernel), List.mem_of_getElem? (i := 980) (by decide +kernel), List.mem_of_getElem? (i := 981) (by decide +kernel)⟩
theorem lw_p83 : lw_okq (⟨"CellPicturesModel", "noMarks", "()V"⟩, 50) := ⟨⟨by decide +kernel, by decide +kernel⟩, List.mem_of_getElem? (i := 768) (by decide +kernel), List.mem_of_getElem? (i := 984) (by decide +kernel), List.mem_of_getElem? (i := 985) (by decide +kernel)⟩
theorem lw_p84 : lw_okq (⟨"CellPicturesModel", "runMany", "()I"⟩, 50) := ⟨⟨by decide +kernel, by decide +kernel⟩, List.mem_of_getElem? (i := 768) (by decide +kernel), List.mem_of_getElem? (i := 988) (by decide +kernel), List.mem_of_getElem? (i := 989) (by decide +kernel)⟩
theorem lw_p85 : lw_okq (⟨"CellPicturesModel", "lines", "()I"⟩, 50) := ⟨⟨by decide +kernel, by decide +kernel⟩, List.mem_of_getElem? (i := 768) (by decide +kernel), List.mem_of_getElem? (i := 992) (by decide +kernel), List.mem_of_getElem? (i := 993) (by decide +kernel)⟩
theorem lw_p86 : lw_okq (⟨"CellPicturesModel", "is", "()Z"⟩, 50) := ⟨⟨by decide +kernel, by decide +kernel⟩, List.mem_of_getElem? (i := 768) (by decide +kernel), List.mem_of_getElem? (i := 1008) (by decide +kernel), List.mem_of_getElem? (i := 1009) (by decide +kernel)⟩
theorem lw_p87 : lw_okq (⟨"CellPicturesModel", "isCell", "(II)Z"⟩, 50) := ⟨⟨by decide +kernel, by decide +kernel⟩, List.mem_of_getElem? (i := 768) (by decide +kernel), List.mem_of_getElem? (i := 1012) (by decide +kernel), List.mem_of_getElem? (i := 1013) (by decide +kernel)⟩
theorem lw_p88 : lw_okq (⟨"CellPicturesModel", "isLine", "(I)Z"⟩, 50) := ⟨⟨by decide +kernel, by decide +kernel⟩, List.mem_of_getElem? (i := 768) (by decide +kernel), List.mem_of_getElem? (i := 1023) (by decide +kernel), List.mem_of_getElem? (i := 1024) (by decide +kernel)⟩
theorem lw_p89 : lw_okq (⟨"CellPicturesModel", "first", "([II)V"⟩, 50) := ⟨⟨by decide +kernel, by decide +kernel⟩, List.mem_of_getElem? (i := 768) (by decide +kernel), List.mem_of_getElem? (i := 1039) (by decide +kernel), List.mem_of_getElem? (i := 1040) (by decide +kernel)⟩
theorem lw_p90 : lw_okq (⟨"CellPicturesModel", "lineRule", "([III)I"⟩, 50) := ⟨⟨by decide +kernel, by decide +kernel⟩, List.mem_of_getElem? (i := 768) (by decide +kernel), List.mem_of_getElem? (i := 1047) (by decide +kernel), List.mem_of_getElem? (i := 1048) (by decide +kernel)⟩
theorem lw_p91 : lw_okq (⟨"CellPicturesModel", "allWays", "([III)V"⟩, 50) := ⟨⟨by decide +kernel, by decide +kernel⟩, List.mem_of_getElem? (i := 768) (by decide +kernel), List.mem_of_getElem? (i := 1051) (by decide +kernel), List.mem_of_getElem? (i := 1052) (by decide +kernel)⟩
theorem lw_p92 : lw_okq (⟨"CellPicturesModel", "lay", "(II)V"⟩, 50) := ⟨⟨by decide +kernel, by decide +kernel⟩, List.mem_of_getElem? (i := 768) (by decide +kernel), List.mem_of_getElem? (i := 1055) (by decide +kernel), List.mem_of_getElem? (i := 1056) (by decide +kernel)⟩
theorem lw_p93 : lw_okq (⟨"CellPicturesModel", "sizeOf", "(I)I"⟩, 50) := ⟨⟨by decide +kernel, by decide +kernel⟩, List.mem_of_getElem? (i := 768) (by decide +kernel), List.mem_of_getElem? (i := 1059) (by decide +kernel), List.mem_of_getElem? (i := 1060) (by decide +kernel)⟩
theorem lw_p94 : lw_okq (⟨"CellPicturesModel", "can", "(II)Z"⟩, 50) := ⟨⟨by decide +kernel, by decide +kernel⟩, List.mem_of_getElem? (i := 768) (by decide +kernel), List.mem_of_getElem? (i := 1063) (by decide +kernel), List.mem_of_getElem? (i := 1064) (by decide +kernel)⟩
theorem lw_p95 : lw_okq (⟨"CellPicturesModel", "cellOf", "(II)I"⟩, 50) := ⟨⟨by decide +kernel, by decide +kernel⟩, List.mem_of_getElem? (i := 768) (by decide +kernel), List.mem_of_getElem? (i := 1067) (by decide +kernel), List.mem_of_getElem? (i := 1068) (by decide +kernel)⟩
def lw_privs_6 : List (MethodName × Nat) := [(⟨"CellPicturesModel", "oneRun", "(I)V"⟩, 50), (⟨"CellPicturesModel", "colourSumsDiffer", "()Z"⟩, 50), (⟨"CellPicturesModel", "isNew", "()V"⟩, 50), (⟨"CellPicturesModel", "noMarks", "()V"⟩, 50), (⟨"CellPicturesModel", "runMany", "()I"⟩, 50), (⟨"CellPicturesModel", "lines", "()I"⟩, 50), (⟨"CellPicturesModel", "is", "()Z"⟩, 50), (⟨"CellPicturesModel", "isCell", "(II)Z"⟩, 50), (⟨"CellPicturesModel", "isLine", "(I)Z"⟩, 50), (⟨"CellPicturesModel", "first", "([II)V"⟩, 50), (⟨"CellPicturesModel", "lineRule", "([III)I"⟩, 50), (⟨"CellPicturesModel", "allWays", "([III)V"⟩, 50), (⟨"CellPicturesModel", "lay", "(II)V"⟩, 50), (⟨"CellPicturesModel", "sizeOf", "(I)I"⟩, 50), (⟨"CellPicturesModel", "can", "(II)Z"⟩, 50), (⟨"CellPicturesModel", "cellOf", "(II)I"⟩, 50)]
theorem lw_r6 : ∀ q ∈ lw_privs_6, lw_okq q := List.forall_mem_cons.mpr ⟨lw_p80, List.forall_mem_cons.mpr ⟨lw_p81, List.forall_mem_cons.mpr ⟨lw_p82, List.forall_mem_cons.mpr ⟨lw_p83, List.forall_mem_cons.mpr ⟨lw_p84, List.forall_mem_cons.mpr ⟨lw_p85, List.forall_mem_cons.mpr ⟨lw_p86, List.forall_mem_cons.mpr ⟨lw_p87, List.forall_mem_cons.mpr ⟨lw_p88, List.forall_mem_cons.mpr ⟨lw_p89, List.forall_mem_cons.mpr ⟨lw_p90, List.forall_mem_cons.mpr ⟨lw_p91, List.forall_mem_cons.mpr ⟨lw_p92, List.forall_mem_cons.mpr ⟨lw_p93, List.forall_mem_cons.mpr ⟨lw_p94, List.forall_mem_cons.mpr ⟨lw_p95, fun _ h => absurd h List.not_mem_nil⟩⟩⟩⟩⟩⟩⟩⟩⟩⟩⟩⟩⟩⟩⟩⟩
theorem lw_p96 : lw_okq (⟨"CellPicturesModel", "needSets", "()V"⟩, 50) := ⟨⟨by decide +kernel, by decide +kernel⟩, List.mem_of_getElem? (i := 768) (by decide +kernel), List.mem_of_getElem? (i := 1080) (by decide +kernel), List.mem_of_getElem? (i := 1081) (by decide +kernel)⟩
theorem lw_p97 : lw_okq (⟨"CellPicturesModel", "toRest", "([II)Z"⟩, 50) := ⟨⟨by decide +kernel, by decide +kernel⟩, List.mem_of_getElem? (i := 768) (by decide +kernel), List.mem_of_getElem? (i := 1084) (by decide +kernel), List.mem_of_getElem? (i := 1085) (by decide +kernel)⟩
theorem lw_p98 : lw_okq (⟨"CellPicturesModel", "trying", "([I)Z"⟩, 50) := ⟨⟨by decide +kernel, by decide +kernel⟩, List.mem_of_getElem? (i := 768) (by decide +kernel), List.mem_of_getElem? (i := 1092) (by decide +kernel), List.mem_of_getElem? (i := 1093) (by decide +kernel)⟩
theorem lw_p99 : lw_okq (⟨"CellPicturesModel", "inOrder", "(I)I"⟩, 50) := ⟨⟨by decide +kernel, by decide +kernel⟩, List.mem_of_getElem? (i := 768) (by decide +kernel), List.mem_of_getElem? (i := 1096) (by decide +kernel), List.mem_of_getElem? (i := 1097) (by decide +kernel)⟩
theorem lw_p100 : lw_okq (⟨"CellPicturesModel", "searches", "(II)V"⟩, 50) := ⟨⟨by decide +kernel, by decide +kernel⟩, List.mem_of_getElem? (i := 768) (by decide +kernel), List.mem_of_getElem? (i := 1108) (by decide +kernel), List.mem_of_getElem? (i := 1109) (by decide +kernel)⟩
theorem lw_p101 : lw_okq (⟨"CellPicturesModel", "look", "(I)V"⟩, 50) := ⟨⟨by decide +kernel, by decide +kernel⟩, List.mem_of_getElem? (i := 768) (by decide +kernel), List.mem_of_getElem? (i := 1112) (by decide +kernel), List.mem_of_getElem? (i := 1113) (by decide +kernel)⟩
theorem lw_p102 : lw_okq (⟨"CellPicturesModel", "allOne", "([II)Z"⟩, 50) := ⟨⟨by decide +kernel, by decide +kernel⟩, List.mem_of_getElem? (i := 768) (by decide +kernel), List.mem_of_getElem? (i := 1116) (by decide +kernel), List.mem_of_getElem? (i := 1117) (by decide +kernel)⟩
theorem lw_p103 : lw_okq (⟨"CellPicturesModel", "branch", "(I)I"⟩, 50) := ⟨⟨by decide +kernel, by decide +kernel⟩, List.mem_of_getElem? (i := 768) (by decide +kernel), List.mem_of_getElem? (i := 1123) (by decide +kernel), List.mem_of_getElem? (i := 1124) (by decide +kernel)⟩
theorem lw_p104 : lw_okq (⟨"CellPicturesModel", "isDone", "()Z"⟩, 50) := ⟨⟨by decide +kernel, by decide +kernel⟩, List.mem_of_getElem? (i := 768) (by decide +kernel), List.mem_of_getElem? (i := 1151) (by decide +kernel), List.mem_of_getElem? (i := 1152) (by decide +kernel)⟩
theorem lw_p105 : lw_okq (⟨"CellPicturesModel", "shown", "(I)I"⟩, 50) := ⟨⟨by decide +kernel, by decide +kernel⟩, List.mem_of_getElem? (i := 768) (by decide +kernel), List.mem_of_getElem? (i := 1155) (by decide +kernel), List.mem_of_getElem? (i := 1156) (by decide +kernel)⟩
theorem lw_p106 : lw_okq (⟨"CellPicturesModel", "readsAs", "(I)I"⟩, 50) := ⟨⟨by decide +kernel, by decide +kernel⟩, List.mem_of_getElem? (i := 768) (by decide +kernel), List.mem_of_getElem? (i := 1159) (by decide +kernel), List.mem_of_getElem? (i := 1160) (by decide +kernel)⟩
def lw_privs_7 : List (MethodName × Nat) := [(⟨"CellPicturesModel", "needSets", "()V"⟩, 50), (⟨"CellPicturesModel", "toRest", "([II)Z"⟩, 50), (⟨"CellPicturesModel", "trying", "([I)Z"⟩, 50), (⟨"CellPicturesModel", "inOrder", "(I)I"⟩, 50), (⟨"CellPicturesModel", "searches", "(II)V"⟩, 50), (⟨"CellPicturesModel", "look", "(I)V"⟩, 50), (⟨"CellPicturesModel", "allOne", "([II)Z"⟩, 50), (⟨"CellPicturesModel", "branch", "(I)I"⟩, 50), (⟨"CellPicturesModel", "isDone", "()Z"⟩, 50), (⟨"CellPicturesModel", "shown", "(I)I"⟩, 50), (⟨"CellPicturesModel", "readsAs", "(I)I"⟩, 50)]
theorem lw_r7 : ∀ q ∈ lw_privs_7, lw_okq q := List.forall_mem_cons.mpr ⟨lw_p96, List.forall_mem_cons.mpr ⟨lw_p97, List.forall_mem_cons.mpr ⟨lw_p98, List.forall_mem_cons.mpr ⟨lw_p99, List.forall_mem_cons.mpr ⟨lw_p100, List.forall_mem_cons.mpr ⟨lw_p101, List.forall_mem_cons.mpr ⟨lw_p102, List.forall_mem_cons.mpr ⟨lw_p103, List.forall_mem_cons.mpr ⟨lw_p104, List.forall_mem_cons.mpr ⟨lw_p105, List.forall_mem_cons.mpr ⟨lw_p106, fun _ h => absurd h List.not_mem_nil⟩⟩⟩⟩⟩⟩⟩⟩⟩⟩⟩
def lw_privs : List (MethodName × Nat) := lw_privs_1 ++ (lw_privs_2 ++ (lw_privs_3 ++ (lw_privs_4 ++ (lw_privs_5 ++ (lw_privs_6 ++ (lw_privs_7))))))
def lw_tbl : List Cond := k2_sels lw_privs ++ tables_1
theorem lw_privs_ok : ∀ q ∈ lw_privs, lw_okq q := by
  show ∀ q ∈ lw_privs_1 ++ (lw_privs_2 ++ (lw_privs_3 ++ (lw_privs_4 ++ (lw_privs_5 ++ (lw_privs_6 ++ (lw_privs_7)))))), lw_okq q
  exact List.forall_mem_append.mpr ⟨lw_r1, List.forall_mem_append.mpr ⟨lw_r2, List.forall_mem_append.mpr ⟨lw_r3, List.forall_mem_append.mpr ⟨lw_r4, List.forall_mem_append.mpr ⟨lw_r5, List.forall_mem_append.mpr ⟨lw_r6, lw_r7⟩⟩⟩⟩⟩⟩
end
section
def isNest (w : Cond) : Bool := match w with
  | .fieldLinkNest .. => true
  | .methodLinkNest .. => true
  | _ => false
def gtb : List Cond := lw_tbl.filter goodWord
def ntb : List Cond := lw_tbl.filter isNest
theorem gtb_lw {w : Cond} (h : w ∈ gtb) : w ∈ lw_tbl := (List.mem_filter.mp h).1
theorem ntb_lw {w : Cond} (h : w ∈ ntb) : w ∈ lw_tbl := (List.mem_filter.mp h).1
theorem mem_tb {w : Cond} (i : Nat) (h : tables_1[i]? = some w) (hg : goodWord w = true) : w ∈ gtb := List.mem_filter.mpr ⟨List.mem_append_right _ (List.mem_of_getElem? h), hg⟩
theorem mem_nt {w : Cond} (i : Nat) (h : tables_1[i]? = some w) (hg : isNest w = true) : w ∈ ntb := List.mem_filter.mpr ⟨List.mem_append_right _ (List.mem_of_getElem? h), hg⟩
theorem tb_1 {w : Cond} (h : w ∈ tables_1_1) : w ∈ tables_1 := List.mem_append_left _ h
theorem mem_t1 {w : Cond} (i : Nat) (h : tables_1_1[i]? = some w) (hg : goodWord w = true) : w ∈ gtb := List.mem_filter.mpr ⟨List.mem_append_right _ (tb_1 (List.mem_of_getElem? h)), hg⟩
theorem mem_n1 {w : Cond} (i : Nat) (h : tables_1_1[i]? = some w) (hg : isNest w = true) : w ∈ ntb := List.mem_filter.mpr ⟨List.mem_append_right _ (tb_1 (List.mem_of_getElem? h)), hg⟩
theorem tb_2 {w : Cond} (h : w ∈ tables_1_2) : w ∈ tables_1 := List.mem_append_right _ (List.mem_append_left _ h)
theorem mem_t2 {w : Cond} (i : Nat) (h : tables_1_2[i]? = some w) (hg : goodWord w = true) : w ∈ gtb := List.mem_filter.mpr ⟨List.mem_append_right _ (tb_2 (List.mem_of_getElem? h)), hg⟩
theorem mem_n2 {w : Cond} (i : Nat) (h : tables_1_2[i]? = some w) (hg : isNest w = true) : w ∈ ntb := List.mem_filter.mpr ⟨List.mem_append_right _ (tb_2 (List.mem_of_getElem? h)), hg⟩
theorem tb_3 {w : Cond} (h : w ∈ tables_1_3) : w ∈ tables_1 := List.mem_append_right _ (List.mem_append_right _ (List.mem_append_left _ h))
theorem mem_t3 {w : Cond} (i : Nat) (h : tables_1_3[i]? = some w) (hg : goodWord w = true) : w ∈ gtb := List.mem_filter.mpr ⟨List.mem_append_right _ (tb_3 (List.mem_of_getElem? h)), hg⟩
theorem mem_n3 {w : Cond} (i : Nat) (h : tables_1_3[i]? = some w) (hg : isNest w = true) : w ∈ ntb := List.mem_filter.mpr ⟨List.mem_append_right _ (tb_3 (List.mem_of_getElem? h)), hg⟩
theorem tb_4 {w : Cond} (h : w ∈ tables_1_4) : w ∈ tables_1 := List.mem_append_right _ (List.mem_append_right _ (List.mem_append_right _ (List.mem_append_left _ h)))
theorem mem_t4 {w : Cond} (i : Nat) (h : tables_1_4[i]? = some w) (hg : goodWord w = true) : w ∈ gtb := List.mem_filter.mpr ⟨List.mem_append_right _ (tb_4 (List.mem_of_getElem? h)), hg⟩
theorem mem_n4 {w : Cond} (i : Nat) (h : tables_1_4[i]? = some w) (hg : isNest w = true) : w ∈ ntb := List.mem_filter.mpr ⟨List.mem_append_right _ (tb_4 (List.mem_of_getElem? h)), hg⟩
theorem tb_5 {w : Cond} (h : w ∈ tables_1_5) : w ∈ tables_1 := List.mem_append_right _ (List.mem_append_right _ (List.mem_append_right _ (List.mem_append_right _ (h))))
theorem mem_t5 {w : Cond} (i : Nat) (h : tables_1_5[i]? = some w) (hg : goodWord w = true) : w ∈ gtb := List.mem_filter.mpr ⟨List.mem_append_right _ (tb_5 (List.mem_of_getElem? h)), hg⟩
theorem mem_n5 {w : Cond} (i : Nat) (h : tables_1_5[i]? = some w) (hg : isNest w = true) : w ∈ ntb := List.mem_filter.mpr ⟨List.mem_append_right _ (tb_5 (List.mem_of_getElem? h)), hg⟩
theorem mem_pv {y : MethodName} {n : Nat} (h : (y, n) ∈ lw_privs) : Cond.selects y.cls y y ∈ gtb := List.mem_filter.mpr ⟨List.mem_append_left _ (List.mem_map.mpr ⟨(y, n), h, rfl⟩), rfl⟩
theorem mem_ps {ws : List Cond} (ps : List Nat) (h : ws = ps.filterMap (fun i => tables_1[i]?)) (hg : ws.all goodWord = true) : ∀ w ∈ ws, w ∈ gtb := by
  intro w hw
  have h2 := List.all_eq_true.mp hg w hw
  rw [h] at hw
  obtain ⟨i, -, hi⟩ := List.mem_filterMap.mp hw
  exact mem_tb i hi h2
def RX0 : String := "CellPictures$Clues"
def TX0 : u_T := fun k => match k with
  | 0 => ("CellPictures$Clues", "counts", "[I", true)
  | 1 => ("CellPictures$Clues", "lengths", "[I", true)
  | 2 => ("CellPictures$Clues", "hues", "[I", true)
  | 3 => ("CellPictures$Clues", "width", "I", false)
  | 4 => ("CellPictures$Clues", "height", "I", false)
  | 5 => ("CellPictures$Clues", "colours", "I", false)
  | _ => ("CellPictures$Clues", "total", "I", false)
def tyX0 : Nat → FieldType := fun k => match k with
  | 0 => .array .int
  | 1 => .array .int
  | 2 => .array .int
  | 3 => .int
  | 4 => .int
  | 5 => .int
  | _ => .int
abbrev wsX00 : List Cond := u_ws RX0 TX0 7
theorem nmX0 : ∀ a, a < 7 → ∀ b, b < 7 → a ≠ b → (TX0 a).2.1 ≠ (TX0 b).2.1 := by decide +kernel
theorem tyX0_ok : ∀ k, k < 7 → parseFieldDescriptor (TX0 k).2.2.1 = some (tyX0 k) := by decide +kernel
abbrev cX0_init : ByteArray := prog_2_method_1_code
def yX0_init : MethodName := ⟨RX0, "<init>", "()V"⟩
abbrev cX0_begin : ByteArray := prog_2_method_2_code
def yX0_begin : MethodName := ⟨RX0, "begin", "(III)V"⟩
abbrev cX0_copy : ByteArray := prog_2_method_3_code
def yX0_copy : MethodName := ⟨RX0, "copy", "(LCellPictures$Clues;)V"⟩
abbrev cX0_lines : ByteArray := prog_2_method_4_code
def yX0_lines : MethodName := ⟨RX0, "lines", "()I"⟩
abbrev cX0_allLines : ByteArray := prog_2_method_5_code
def yX0_allLines : MethodName := ⟨RX0, "allLines", "()I"⟩
abbrev cX0_cellsOf : ByteArray := prog_2_method_6_code
def yX0_cellsOf : MethodName := ⟨RX0, "cellsOf", "(I)I"⟩
abbrev cX0_xOf : ByteArray := prog_2_method_7_code
def yX0_xOf : MethodName := ⟨RX0, "xOf", "(II)I"⟩
abbrev cX0_yOf : ByteArray := prog_2_method_8_code
def yX0_yOf : MethodName := ⟨RX0, "yOf", "(II)I"⟩
abbrev cX0_lengthOf : ByteArray := prog_2_method_9_code
def yX0_lengthOf : MethodName := ⟨RX0, "lengthOf", "(II)I"⟩
abbrev cX0_colourOf : ByteArray := prog_2_method_10_code
def yX0_colourOf : MethodName := ⟨RX0, "colourOf", "(II)I"⟩
abbrev cX0_add : ByteArray := prog_2_method_11_code
def yX0_add : MethodName := ⟨RX0, "add", "(III)V"⟩
abbrev cX0_needsGapAhead : ByteArray := prog_2_method_12_code
def yX0_needsGapAhead : MethodName := ⟨RX0, "needsGapAhead", "(II)Z"⟩
abbrev cX0_fitsItsCells : ByteArray := prog_2_method_13_code
def yX0_fitsItsCells : MethodName := ⟨RX0, "fitsItsCells", "(I)Z"⟩
abbrev cX0_isBalanced : ByteArray := prog_2_method_14_code
def yX0_isBalanced : MethodName := ⟨RX0, "isBalanced", "()Z"⟩
abbrev cX0_cellsTold : ByteArray := prog_2_method_15_code
def yX0_cellsTold : MethodName := ⟨RX0, "cellsTold", "(III)I"⟩
abbrev cX0_readLine : ByteArray := prog_2_method_16_code
def yX0_readLine : MethodName := ⟨RX0, "readLine", "(ILCellPictures$Grid;)V"⟩
abbrev cX0_addStretch : ByteArray := prog_2_method_17_code
def yX0_addStretch : MethodName := ⟨RX0, "addStretch", "(III)V"⟩
abbrev cX0_hasRunsOf : ByteArray := prog_2_method_18_code
def yX0_hasRunsOf : MethodName := ⟨RX0, "hasRunsOf", "(LCellPictures$Clues;)Z"⟩
abbrev cX0_isLineLike : ByteArray := prog_2_method_19_code
def yX0_isLineLike : MethodName := ⟨RX0, "isLineLike", "(ILCellPictures$Clues;)Z"⟩
def RX1 : String := "CellPictures$Found"
def TX1 : u_T := fun k => match k with
  | 0 => ("CellPictures$Found", "first", "LCellPictures$Grid;", true)
  | 1 => ("CellPictures$Found", "second", "LCellPictures$Grid;", true)
  | 2 => ("CellPictures$Found", "count", "I", false)
  | 3 => ("CellPictures$Found", "nodes", "I", false)
  | _ => ("CellPictures$Found", "isSpent", "Z", false)
def tyX1 : Nat → FieldType := fun k => match k with
  | 0 => .object "CellPictures$Grid"
  | 1 => .object "CellPictures$Grid"
  | 2 => .int
  | 3 => .int
  | _ => .boolean
abbrev wsX10 : List Cond := u_ws RX1 TX1 5
theorem nmX1 : ∀ a, a < 5 → ∀ b, b < 5 → a ≠ b → (TX1 a).2.1 ≠ (TX1 b).2.1 := by decide +kernel
theorem tyX1_ok : ∀ k, k < 5 → parseFieldDescriptor (TX1 k).2.2.1 = some (tyX1 k) := by decide +kernel
abbrev cX1_init : ByteArray := prog_3_method_1_code
def yX1_init : MethodName := ⟨RX1, "<init>", "()V"⟩
abbrev cX1_begin : ByteArray := prog_3_method_2_code
def yX1_begin : MethodName := ⟨RX1, "begin", "()V"⟩
abbrev cX1_forgetSolutions : ByteArray := prog_3_method_3_code
def yX1_forgetSolutions : MethodName := ⟨RX1, "forgetSolutions", "()V"⟩
abbrev cX1_forgetAll : ByteArray := prog_3_method_4_code
def yX1_forgetAll : MethodName := ⟨RX1, "forgetAll", "()V"⟩
abbrev cX1_isKept : ByteArray := prog_3_method_5_code
def yX1_isKept : MethodName := ⟨RX1, "isKept", "(I)Z"⟩
abbrev cX1_kept : ByteArray := prog_3_method_6_code
def yX1_kept : MethodName := ⟨RX1, "kept", "(I)LCellPictures$Grid;"⟩
abbrev cX1_add : ByteArray := prog_3_method_7_code
def yX1_add : MethodName := ⟨RX1, "add", "(LCellPictures$Sets;)V"⟩
def RX2 : String := "CellPictures$Grid"
def TX2 : u_T := fun k => match k with
  | 0 => ("CellPictures$Grid", "values", "[I", true)
  | _ => ("CellPictures$Grid", "told", "I", false)
def tyX2 : Nat → FieldType := fun k => match k with
  | 0 => .array .int
  | _ => .int
abbrev wsX20 : List Cond := u_ws RX2 TX2 2
theorem nmX2 : ∀ a, a < 2 → ∀ b, b < 2 → a ≠ b → (TX2 a).2.1 ≠ (TX2 b).2.1 := by decide +kernel
theorem tyX2_ok : ∀ k, k < 2 → parseFieldDescriptor (TX2 k).2.2.1 = some (tyX2 k) := by decide +kernel
abbrev cX2_init : ByteArray := prog_4_method_1_code
def yX2_init : MethodName := ⟨RX2, "<init>", "()V"⟩
abbrev cX2_clear : ByteArray := prog_4_method_2_code
def yX2_clear : MethodName := ⟨RX2, "clear", "()V"⟩
abbrev cX2_at : ByteArray := prog_4_method_3_code
def yX2_at : MethodName := ⟨RX2, "at", "(II)I"⟩
abbrev cX2_valueAt : ByteArray := prog_4_method_4_code
def yX2_valueAt : MethodName := ⟨RX2, "valueAt", "(II)I"⟩
abbrev cX2_put : ByteArray := prog_4_method_5_code
def yX2_put : MethodName := ⟨RX2, "put", "(III)V"⟩
def RX3 : String := "CellPictures$LineRule"
def TX3 : u_T := fun k => match k with
  | 0 => ("CellPictures$LineRule", "clues", "LCellPictures$Clues;", true)
  | 1 => ("CellPictures$LineRule", "before", "[I", true)
  | 2 => ("CellPictures$LineRule", "starts", "[I", true)
  | 3 => ("CellPictures$LineRule", "rows", "[J", true)
  | _ => ("CellPictures$LineRule", "nextRows", "[J", true)
def tyX3 : Nat → FieldType := fun k => match k with
  | 0 => .object "CellPictures$Clues"
  | 1 => .array .int
  | 2 => .array .int
  | 3 => .array .long
  | _ => .array .long
abbrev wsX30 : List Cond := u_ws RX3 TX3 5
theorem nmX3 : ∀ a, a < 5 → ∀ b, b < 5 → a ≠ b → (TX3 a).2.1 ≠ (TX3 b).2.1 := by decide +kernel
theorem tyX3_ok : ∀ k, k < 5 → parseFieldDescriptor (TX3 k).2.2.1 = some (tyX3 k) := by decide +kernel
abbrev cX3_init : ByteArray := prog_5_method_1_code
def yX3_init : MethodName := ⟨RX3, "<init>", "(LCellPictures$Clues;)V"⟩
abbrev cX3_cellsWith : ByteArray := prog_5_method_2_code
def yX3_cellsWith : MethodName := ⟨RX3, "cellsWith", "(JI)I"⟩
abbrev cX3_keptOf : ByteArray := prog_5_method_3_code
def yX3_keptOf : MethodName := ⟨RX3, "keptOf", "(IJ)J"⟩
abbrev cX3_spreadUp : ByteArray := prog_5_method_4_code
def yX3_spreadUp : MethodName := ⟨RX3, "spreadUp", "(II)I"⟩
abbrev cX3_spreadDown : ByteArray := prog_5_method_5_code
def yX3_spreadDown : MethodName := ⟨RX3, "spreadDown", "(II)I"⟩
abbrev cX3_stretches : ByteArray := prog_5_method_6_code
def yX3_stretches : MethodName := ⟨RX3, "stretches", "(II)I"⟩
abbrev cX3_cover : ByteArray := prog_5_method_7_code
def yX3_cover : MethodName := ⟨RX3, "cover", "(II)I"⟩
abbrev cX3_countWays : ByteArray := prog_5_method_8_code
def yX3_countWays : MethodName := ⟨RX3, "countWays", "(IJ)J"⟩
abbrev cX3_countRun : ByteArray := prog_5_method_9_code
def yX3_countRun : MethodName := ⟨RX3, "countRun", "(IIJ)V"⟩
def RX4 : String := "CellPictures$Sets"
def TX4 : u_T := fun k => match k with
  | 0 => ("CellPictures$Sets", "clues", "LCellPictures$Clues;", true)
  | _ => ("CellPictures$Sets", "lines", "[J", true)
def tyX4 : Nat → FieldType := fun k => match k with
  | 0 => .object "CellPictures$Clues"
  | _ => .array .long
abbrev wsX40 : List Cond := u_ws RX4 TX4 2
theorem nmX4 : ∀ a, a < 2 → ∀ b, b < 2 → a ≠ b → (TX4 a).2.1 ≠ (TX4 b).2.1 := by decide +kernel
theorem tyX4_ok : ∀ k, k < 2 → parseFieldDescriptor (TX4 k).2.2.1 = some (tyX4 k) := by decide +kernel
abbrev cX4_init : ByteArray := prog_6_method_1_code
def yX4_init : MethodName := ⟨RX4, "<init>", "(LCellPictures$Clues;)V"⟩
abbrev cX4_become : ByteArray := prog_6_method_2_code
def yX4_become : MethodName := ⟨RX4, "become", "(LCellPictures$Grid;)V"⟩
abbrev cX4_fill : ByteArray := prog_6_method_3_code
def yX4_fill : MethodName := ⟨RX4, "fill", "()V"⟩
abbrev cX4_tell : ByteArray := prog_6_method_4_code
def yX4_tell : MethodName := ⟨RX4, "tell", "(LCellPictures$Grid;)V"⟩
abbrev cX4_copy : ByteArray := prog_6_method_5_code
def yX4_copy : MethodName := ⟨RX4, "copy", "(LCellPictures$Sets;)V"⟩
abbrev cX4_saveTo : ByteArray := prog_6_method_6_code
def yX4_saveTo : MethodName := ⟨RX4, "saveTo", "([JI)V"⟩
abbrev cX4_restoreFrom : ByteArray := prog_6_method_7_code
def yX4_restoreFrom : MethodName := ⟨RX4, "restoreFrom", "([JI)V"⟩
abbrev cX4_fix : ByteArray := prog_6_method_8_code
def yX4_fix : MethodName := ⟨RX4, "fix", "(III)V"⟩
abbrev cX4_drop : ByteArray := prog_6_method_9_code
def yX4_drop : MethodName := ⟨RX4, "drop", "(III)V"⟩
abbrev cX4_valuesAt : ByteArray := prog_6_method_10_code
def yX4_valuesAt : MethodName := ⟨RX4, "valuesAt", "(II)I"⟩
abbrev cX4_valuesIn : ByteArray := prog_6_method_11_code
def yX4_valuesIn : MethodName := ⟨RX4, "valuesIn", "(JI)I"⟩
abbrev cX4_leastOf : ByteArray := prog_6_method_12_code
def yX4_leastOf : MethodName := ⟨RX4, "leastOf", "(I)I"⟩
abbrev cX4_linesThrough : ByteArray := prog_6_method_13_code
def yX4_linesThrough : MethodName := ⟨RX4, "linesThrough", "(II)I"⟩
abbrev cX4_narrow : ByteArray := prog_6_method_14_code
def yX4_narrow : MethodName := ⟨RX4, "narrow", "(IJ)I"⟩
abbrev cX4_countSingles : ByteArray := prog_6_method_15_code
def yX4_countSingles : MethodName := ⟨RX4, "countSingles", "()I"⟩
abbrev cX4_firstOfFewest : ByteArray := prog_6_method_16_code
def yX4_firstOfFewest : MethodName := ⟨RX4, "firstOfFewest", "()I"⟩
def RX5 : String := "CellPictures$Solver"
def TX5 : u_T := fun k => match k with
  | 0 => ("CellPictures$Solver", "clues", "LCellPictures$Clues;", true)
  | 1 => ("CellPictures$Solver", "lineRule", "LCellPictures$LineRule;", true)
  | 2 => ("CellPictures$Solver", "work", "LCellPictures$Sets;", true)
  | 3 => ("CellPictures$Solver", "trial", "LCellPictures$Sets;", true)
  | 4 => ("CellPictures$Solver", "savedSets", "[J", true)
  | 5 => ("CellPictures$Solver", "chosenCell", "[I", true)
  | 6 => ("CellPictures$Solver", "untried", "[I", true)
  | _ => ("CellPictures$Solver", "depth", "I", false)
def tyX5 : Nat → FieldType := fun k => match k with
  | 0 => .object "CellPictures$Clues"
  | 1 => .object "CellPictures$LineRule"
  | 2 => .object "CellPictures$Sets"
  | 3 => .object "CellPictures$Sets"
  | 4 => .array .long
  | 5 => .array .int
  | 6 => .array .int
  | _ => .int
abbrev wsX50 : List Cond := u_ws RX5 TX5 8
theorem nmX5 : ∀ a, a < 8 → ∀ b, b < 8 → a ≠ b → (TX5 a).2.1 ≠ (TX5 b).2.1 := by decide +kernel
theorem tyX5_ok : ∀ k, k < 8 → parseFieldDescriptor (TX5 k).2.2.1 = some (tyX5 k) := by decide +kernel
abbrev cX5_init : ByteArray := prog_7_method_1_code
def yX5_init : MethodName := ⟨RX5, "<init>", "(LCellPictures$Clues;LCellPictures$LineRule;)V"⟩
abbrev cX5_settle : ByteArray := prog_7_method_2_code
def yX5_settle : MethodName := ⟨RX5, "settle", "(LCellPictures$Sets;I)I"⟩
abbrev cX5_sift : ByteArray := prog_7_method_3_code
def yX5_sift : MethodName := ⟨RX5, "sift", "(LCellPictures$Sets;)I"⟩
abbrev cX5_siftCell : ByteArray := prog_7_method_4_code
def yX5_siftCell : MethodName := ⟨RX5, "siftCell", "(LCellPictures$Sets;II)I"⟩
abbrev cX5_seek : ByteArray := prog_7_method_5_code
def yX5_seek : MethodName := ⟨RX5, "seek", "(LCellPictures$Grid;IILCellPictures$Found;)V"⟩
abbrev cX5_opensChoice : ByteArray := prog_7_method_6_code
def yX5_opensChoice : MethodName := ⟨RX5, "opensChoice", "()Z"⟩
abbrev cX5_closeEmptyChoices : ByteArray := prog_7_method_7_code
def yX5_closeEmptyChoices : MethodName := ⟨RX5, "closeEmptyChoices", "()V"⟩
abbrev cX5_followsChoice : ByteArray := prog_7_method_8_code
def yX5_followsChoice : MethodName := ⟨RX5, "followsChoice", "()Z"⟩
abbrev cX5_judge : ByteArray := prog_7_method_9_code
def yX5_judge : MethodName := ⟨RX5, "judge", "(LCellPictures$Grid;LCellPictures$Found;)I"⟩
def RX6 : String := "CellPictures$Tape"
def TX6 : u_T := fun k => match k with
  | 0 => ("CellPictures$Tape", "bytes", "[B", true)
  | _ => ("CellPictures$Tape", "size", "I", false)
def tyX6 : Nat → FieldType := fun k => match k with
  | 0 => .array .byte
  | _ => .int
abbrev wsX60 : List Cond := u_ws RX6 TX6 2
theorem nmX6 : ∀ a, a < 2 → ∀ b, b < 2 → a ≠ b → (TX6 a).2.1 ≠ (TX6 b).2.1 := by decide +kernel
theorem tyX6_ok : ∀ k, k < 2 → parseFieldDescriptor (TX6 k).2.2.1 = some (tyX6 k) := by decide +kernel
abbrev cX6_init : ByteArray := prog_8_method_1_code
def yX6_init : MethodName := ⟨RX6, "<init>", "()V"⟩
abbrev cX6_append : ByteArray := prog_8_method_2_code
def yX6_append : MethodName := ⟨RX6, "append", "(I)V"⟩
abbrev cX6_byteAt : ByteArray := prog_8_method_3_code
def yX6_byteAt : MethodName := ⟨RX6, "byteAt", "(I)I"⟩
def RX7 : String := "CellPictures$TextReader"
def TX7 : u_T := fun k => match k with
  | 0 => ("CellPictures$TextReader", "tape", "LCellPictures$Tape;", true)
  | 1 => ("CellPictures$TextReader", "draft", "LCellPictures$Clues;", true)
  | 2 => ("CellPictures$TextReader", "kind", "I", false)
  | 3 => ("CellPictures$TextReader", "place", "I", false)
  | 4 => ("CellPictures$TextReader", "token", "I", false)
  | 5 => ("CellPictures$TextReader", "start", "I", false)
  | 6 => ("CellPictures$TextReader", "value", "I", false)
  | _ => ("CellPictures$TextReader", "next", "I", false)
def tyX7 : Nat → FieldType := fun k => match k with
  | 0 => .object "CellPictures$Tape"
  | 1 => .object "CellPictures$Clues"
  | 2 => .int
  | 3 => .int
  | 4 => .int
  | 5 => .int
  | 6 => .int
  | _ => .int
abbrev wsX70 : List Cond := u_ws RX7 TX7 8
theorem nmX7 : ∀ a, a < 8 → ∀ b, b < 8 → a ≠ b → (TX7 a).2.1 ≠ (TX7 b).2.1 := by decide +kernel
theorem tyX7_ok : ∀ k, k < 8 → parseFieldDescriptor (TX7 k).2.2.1 = some (tyX7 k) := by decide +kernel
abbrev cX7_init : ByteArray := prog_9_method_1_code
def yX7_init : MethodName := ⟨RX7, "<init>", "(LCellPictures$Tape;LCellPictures$Clues;)V"⟩
abbrev cX7_readsAll : ByteArray := prog_9_method_2_code
def yX7_readsAll : MethodName := ⟨RX7, "readsAll", "()Z"⟩
abbrev cX7_refuse : ByteArray := prog_9_method_3_code
def yX7_refuse : MethodName := ⟨RX7, "refuse", "(I)Z"⟩
abbrev cX7_isDigit : ByteArray := prog_9_method_4_code
def yX7_isDigit : MethodName := ⟨RX7, "isDigit", "(I)Z"⟩
abbrev cX7_isLetter : ByteArray := prog_9_method_5_code
def yX7_isLetter : MethodName := ⟨RX7, "isLetter", "(I)Z"⟩
abbrev cX7_isSpace : ByteArray := prog_9_method_6_code
def yX7_isSpace : MethodName := ⟨RX7, "isSpace", "(I)Z"⟩
abbrev cX7_endOfDigits : ByteArray := prog_9_method_7_code
def yX7_endOfDigits : MethodName := ⟨RX7, "endOfDigits", "(I)I"⟩
abbrev cX7_cutsClean : ByteArray := prog_9_method_8_code
def yX7_cutsClean : MethodName := ⟨RX7, "cutsClean", "()Z"⟩
abbrev cX7_advance : ByteArray := prog_9_method_9_code
def yX7_advance : MethodName := ⟨RX7, "advance", "()V"⟩
abbrev cX7_readsHead : ByteArray := prog_9_method_10_code
def yX7_readsHead : MethodName := ⟨RX7, "readsHead", "()Z"⟩
abbrev cX7_sizeRead : ByteArray := prog_9_method_11_code
def yX7_sizeRead : MethodName := ⟨RX7, "sizeRead", "(I)I"⟩
abbrev cX7_readsLine : ByteArray := prog_9_method_12_code
def yX7_readsLine : MethodName := ⟨RX7, "readsLine", "(I)Z"⟩
abbrev cX7_readsRun : ByteArray := prog_9_method_13_code
def yX7_readsRun : MethodName := ⟨RX7, "readsRun", "(II)Z"⟩
def RX8 : String := "CellPictures"
def TX8 : u_T := fun k => match k with
  | 0 => ("CellPictures", "tape", "LCellPictures$Tape;", true)
  | 1 => ("CellPictures", "clues", "LCellPictures$Clues;", true)
  | 2 => ("CellPictures", "draft", "LCellPictures$Clues;", true)
  | 3 => ("CellPictures", "reader", "LCellPictures$TextReader;", true)
  | 4 => ("CellPictures", "givens", "LCellPictures$Grid;", true)
  | 5 => ("CellPictures", "marks", "LCellPictures$Grid;", true)
  | 6 => ("CellPictures", "lineRule", "LCellPictures$LineRule;", true)
  | 7 => ("CellPictures", "solver", "LCellPictures$Solver;", true)
  | 8 => ("CellPictures", "sets", "LCellPictures$Sets;", true)
  | 9 => ("CellPictures", "handSets", "LCellPictures$Sets;", true)
  | 10 => ("CellPictures", "found", "LCellPictures$Found;", true)
  | 11 => ("CellPictures", "judged", "LCellPictures$Found;", true)
  | 12 => ("CellPictures", "hasSets", "Z", false)
  | _ => ("CellPictures", "latestFault", "I", false)
def tyX8 : Nat → FieldType := fun k => match k with
  | 0 => .object "CellPictures$Tape"
  | 1 => .object "CellPictures$Clues"
  | 2 => .object "CellPictures$Clues"
  | 3 => .object "CellPictures$TextReader"
  | 4 => .object "CellPictures$Grid"
  | 5 => .object "CellPictures$Grid"
  | 6 => .object "CellPictures$LineRule"
  | 7 => .object "CellPictures$Solver"
  | 8 => .object "CellPictures$Sets"
  | 9 => .object "CellPictures$Sets"
  | 10 => .object "CellPictures$Found"
  | 11 => .object "CellPictures$Found"
  | 12 => .boolean
  | _ => .int
abbrev wsX80 : List Cond := u_ws RX8 TX8 14
theorem nmX8 : ∀ a, a < 14 → ∀ b, b < 14 → a ≠ b → (TX8 a).2.1 ≠ (TX8 b).2.1 := by decide +kernel
theorem tyX8_ok : ∀ k, k < 14 → parseFieldDescriptor (TX8 k).2.2.1 = some (tyX8 k) := by decide +kernel
abbrev cX8_init : ByteArray := prog_1_method_1_code
def yX8_init : MethodName := ⟨RX8, "<init>", "()V"⟩
abbrev cX8_feed : ByteArray := prog_1_method_2_code
def yX8_feed : MethodName := ⟨RX8, "feed", "(IIIII)I"⟩
abbrev cX8_end : ByteArray := prog_1_method_3_code
def yX8_end : MethodName := ⟨RX8, "end", "(I)I"⟩
abbrev cX8_load : ByteArray := prog_1_method_4_code
def yX8_load : MethodName := ⟨RX8, "load", "()I"⟩
abbrev cX8_fault : ByteArray := prog_1_method_5_code
def yX8_fault : MethodName := ⟨RX8, "fault", "()I"⟩
abbrev cX8_blank : ByteArray := prog_1_method_6_code
def yX8_blank : MethodName := ⟨RX8, "blank", "(III)Z"⟩
abbrev cX8_about : ByteArray := prog_1_method_7_code
def yX8_about : MethodName := ⟨RX8, "about", "(I)I"⟩
abbrev cX8_run : ByteArray := prog_1_method_8_code
def yX8_run : MethodName := ⟨RX8, "run", "(III)I"⟩
abbrev cX8_give : ByteArray := prog_1_method_9_code
def yX8_give : MethodName := ⟨RX8, "give", "(III)Z"⟩
abbrev cX8_given : ByteArray := prog_1_method_10_code
def yX8_given : MethodName := ⟨RX8, "given", "(II)I"⟩
abbrev cX8_fresh : ByteArray := prog_1_method_11_code
def yX8_fresh : MethodName := ⟨RX8, "fresh", "()Z"⟩
abbrev cX8_rule : ByteArray := prog_1_method_12_code
def yX8_rule : MethodName := ⟨RX8, "rule", "(I)I"⟩
abbrev cX8_ways : ByteArray := prog_1_method_13_code
def yX8_ways : MethodName := ⟨RX8, "ways", "(I)J"⟩
abbrev cX8_rest : ByteArray := prog_1_method_14_code
def yX8_rest : MethodName := ⟨RX8, "rest", "()I"⟩
abbrev cX8_tries : ByteArray := prog_1_method_15_code
def yX8_tries : MethodName := ⟨RX8, "tries", "()I"⟩
abbrev cX8_set : ByteArray := prog_1_method_16_code
def yX8_set : MethodName := ⟨RX8, "set", "(II)I"⟩
abbrev cX8_search : ByteArray := prog_1_method_17_code
def yX8_search : MethodName := ⟨RX8, "search", "(II)I"⟩
abbrev cX8_nodes : ByteArray := prog_1_method_18_code
def yX8_nodes : MethodName := ⟨RX8, "nodes", "()I"⟩
abbrev cX8_solution : ByteArray := prog_1_method_19_code
def yX8_solution : MethodName := ⟨RX8, "solution", "(III)I"⟩
abbrev cX8_level : ByteArray := prog_1_method_20_code
def yX8_level : MethodName := ⟨RX8, "level", "()I"⟩
abbrev cX8_mark : ByteArray := prog_1_method_21_code
def yX8_mark : MethodName := ⟨RX8, "mark", "(III)Z"⟩
abbrev cX8_marked : ByteArray := prog_1_method_22_code
def yX8_marked : MethodName := ⟨RX8, "marked", "(II)I"⟩
abbrev cX8_done : ByteArray := prog_1_method_23_code
def yX8_done : MethodName := ⟨RX8, "done", "()I"⟩
abbrev cX8_wrong : ByteArray := prog_1_method_24_code
def yX8_wrong : MethodName := ⟨RX8, "wrong", "()I"⟩
abbrev cX8_hint : ByteArray := prog_1_method_25_code
def yX8_hint : MethodName := ⟨RX8, "hint", "()I"⟩
abbrev cX8_draw : ByteArray := prog_1_method_26_code
def yX8_draw : MethodName := ⟨RX8, "draw", "()I"⟩
abbrev cX8_mend : ByteArray := prog_1_method_27_code
def yX8_mend : MethodName := ⟨RX8, "mend", "()I"⟩
abbrev cX8_hasPuzzle : ByteArray := prog_1_method_28_code
def yX8_hasPuzzle : MethodName := ⟨RX8, "hasPuzzle", "()Z"⟩
abbrev cX8_isCell : ByteArray := prog_1_method_29_code
def yX8_isCell : MethodName := ⟨RX8, "isCell", "(II)Z"⟩
abbrev cX8_isLine : ByteArray := prog_1_method_30_code
def yX8_isLine : MethodName := ⟨RX8, "isLine", "(I)Z"⟩
abbrev cX8_isValueOrNone : ByteArray := prog_1_method_31_code
def yX8_isValueOrNone : MethodName := ⟨RX8, "isValueOrNone", "(I)Z"⟩
abbrev cX8_isSize : ByteArray := prog_1_method_32_code
def yX8_isSize : MethodName := ⟨RX8, "isSize", "(II)Z"⟩
abbrev cX8_beginPuzzle : ByteArray := prog_1_method_33_code
def yX8_beginPuzzle : MethodName := ⟨RX8, "beginPuzzle", "()V"⟩
abbrev cX8_draftFromMarks : ByteArray := prog_1_method_34_code
def yX8_draftFromMarks : MethodName := ⟨RX8, "draftFromMarks", "()V"⟩
abbrev cX8_areGivensMarked : ByteArray := prog_1_method_35_code
def yX8_areGivensMarked : MethodName := ⟨RX8, "areGivensMarked", "()Z"⟩
abbrev cX8_hintOf : ByteArray := prog_1_method_36_code
def yX8_hintOf : MethodName := ⟨RX8, "hintOf", "(IJ)I"⟩
abbrev cX8_giveFirstUnlike : ByteArray := prog_1_method_37_code
def yX8_giveFirstUnlike : MethodName := ⟨RX8, "giveFirstUnlike", "()V"⟩
def RX9 : String := "CellPicturesModel"
def TX9 : u_T := fun k => match k with
  | 0 => ("CellPicturesModel", "thrown", "I", false)
  | 1 => ("CellPicturesModel", "w", "I", false)
  | 2 => ("CellPicturesModel", "h", "I", false)
  | 3 => ("CellPicturesModel", "colours", "I", false)
  | 4 => ("CellPicturesModel", "runs", "[I", true)
  | 5 => ("CellPicturesModel", "length", "[I", true)
  | 6 => ("CellPicturesModel", "colour", "[I", true)
  | 7 => ("CellPicturesModel", "given", "[I", true)
  | 8 => ("CellPicturesModel", "mark", "[I", true)
  | 9 => ("CellPicturesModel", "sets", "[I", true)
  | 10 => ("CellPicturesModel", "hasSets", "Z", false)
  | 11 => ("CellPicturesModel", "hasFound", "Z", false)
  | 12 => ("CellPicturesModel", "searched", "I", false)
  | 13 => ("CellPicturesModel", "foundMany", "I", false)
  | 14 => ("CellPicturesModel", "found", "[I", true)
  | 15 => ("CellPicturesModel", "tape", "[I", true)
  | 16 => ("CellPicturesModel", "taped", "I", false)
  | 17 => ("CellPicturesModel", "fault", "I", false)
  | 18 => ("CellPicturesModel", "faultAt", "I", false)
  | 19 => ("CellPicturesModel", "latestFault", "I", false)
  | 20 => ("CellPicturesModel", "tSort", "[I", true)
  | 21 => ("CellPicturesModel", "tAt", "[I", true)
  | 22 => ("CellPicturesModel", "tValue", "[I", true)
  | 23 => ("CellPicturesModel", "tokens", "I", false)
  | 24 => ("CellPicturesModel", "t", "I", false)
  | 25 => ("CellPicturesModel", "rW", "I", false)
  | 26 => ("CellPicturesModel", "rH", "I", false)
  | 27 => ("CellPicturesModel", "rC", "I", false)
  | 28 => ("CellPicturesModel", "rRuns", "[I", true)
  | 29 => ("CellPicturesModel", "rLength", "[I", true)
  | 30 => ("CellPicturesModel", "rColour", "[I", true)
  | 31 => ("CellPicturesModel", "of", "[I", false)
  | 32 => ("CellPicturesModel", "base", "I", false)
  | 33 => ("CellPicturesModel", "line", "I", false)
  | 34 => ("CellPicturesModel", "way", "[I", true)
  | 35 => ("CellPicturesModel", "union", "[I", true)
  | 36 => ("CellPicturesModel", "wayMany", "J", false)
  | 37 => ("CellPicturesModel", "uses", "I", false)
  | 38 => ("CellPicturesModel", "trial", "[I", true)
  | 39 => ("CellPicturesModel", "left", "I", false)
  | 40 => ("CellPicturesModel", "pile", "[I", true)
  | 41 => ("CellPicturesModel", "nodes", "I", false)
  | 42 => ("CellPicturesModel", "mostNodes", "I", false)
  | 43 => ("CellPicturesModel", "wanted", "I", false)
  | 44 => ("CellPicturesModel", "solutions", "I", false)
  | 45 => ("CellPicturesModel", "isSpent", "Z", false)
  | 46 => ("CellPicturesModel", "solved", "[I", true)
  | 47 => ("CellPicturesModel", "own", "[I", true)
  | 48 => ("CellPicturesModel", "readLength", "[I", true)
  | _ => ("CellPicturesModel", "readColour", "[I", true)
def tyX9 : Nat → FieldType := fun k => match k with
  | 0 => .int
  | 1 => .int
  | 2 => .int
  | 3 => .int
  | 4 => .array .int
  | 5 => .array .int
  | 6 => .array .int
  | 7 => .array .int
  | 8 => .array .int
  | 9 => .array .int
  | 10 => .boolean
  | 11 => .boolean
  | 12 => .int
  | 13 => .int
  | 14 => .array .int
  | 15 => .array .int
  | 16 => .int
  | 17 => .int
  | 18 => .int
  | 19 => .int
  | 20 => .array .int
  | 21 => .array .int
  | 22 => .array .int
  | 23 => .int
  | 24 => .int
  | 25 => .int
  | 26 => .int
  | 27 => .int
  | 28 => .array .int
  | 29 => .array .int
  | 30 => .array .int
  | 31 => .array .int
  | 32 => .int
  | 33 => .int
  | 34 => .array .int
  | 35 => .array .int
  | 36 => .long
  | 37 => .int
  | 38 => .array .int
  | 39 => .int
  | 40 => .array .int
  | 41 => .int
  | 42 => .int
  | 43 => .int
  | 44 => .int
  | 45 => .boolean
  | 46 => .array .int
  | 47 => .array .int
  | 48 => .array .int
  | _ => .array .int
abbrev wsX90 : List Cond := u_ws RX9 TX9 50
theorem nmX9 : ∀ a, a < 50 → ∀ b, b < 50 → a ≠ b → (TX9 a).2.1 ≠ (TX9 b).2.1 := by decide +kernel
theorem tyX9_ok : ∀ k, k < 50 → parseFieldDescriptor (TX9 k).2.2.1 = some (tyX9 k) := by decide +kernel
abbrev cX9_init : ByteArray := prog_11_method_1_code
def yX9_init : MethodName := ⟨RX9, "<init>", "()V"⟩
abbrev cX9_in : ByteArray := prog_11_method_3_code
def yX9_in : MethodName := ⟨RX9, "in", "(III)Z"⟩
abbrev cX9_is : ByteArray := prog_11_method_4_code
def yX9_is : MethodName := ⟨RX9, "is", "()Z"⟩
abbrev cX9_lines : ByteArray := prog_11_method_5_code
def yX9_lines : MethodName := ⟨RX9, "lines", "()I"⟩
abbrev cX9_isLine : ByteArray := prog_11_method_6_code
def yX9_isLine : MethodName := ⟨RX9, "isLine", "(I)Z"⟩
abbrev cX9_isCell : ByteArray := prog_11_method_7_code
def yX9_isCell : MethodName := ⟨RX9, "isCell", "(II)Z"⟩
abbrev cX9_sizeOf : ByteArray := prog_11_method_8_code
def yX9_sizeOf : MethodName := ⟨RX9, "sizeOf", "(I)I"⟩
abbrev cX9_cellOf : ByteArray := prog_11_method_9_code
def yX9_cellOf : MethodName := ⟨RX9, "cellOf", "(II)I"⟩
abbrev cX9_inOrder : ByteArray := prog_11_method_10_code
def yX9_inOrder : MethodName := ⟨RX9, "inOrder", "(I)I"⟩
abbrev cX9_isNew : ByteArray := prog_11_method_11_code
def yX9_isNew : MethodName := ⟨RX9, "isNew", "()V"⟩
abbrev cX9_noMarks : ByteArray := prog_11_method_12_code
def yX9_noMarks : MethodName := ⟨RX9, "noMarks", "()V"⟩
abbrev cX9_runMany : ByteArray := prog_11_method_13_code
def yX9_runMany : MethodName := ⟨RX9, "runMany", "()I"⟩
abbrev cX9_four : ByteArray := prog_11_method_14_code
def yX9_four : MethodName := ⟨RX9, "four", "(I)V"⟩
abbrev cX9_feed : ByteArray := prog_11_method_15_code
def yX9_feed : MethodName := ⟨RX9, "feed", "(IIIII)I"⟩
abbrev cX9_end : ByteArray := prog_11_method_16_code
def yX9_end : MethodName := ⟨RX9, "end", "(I)I"⟩
abbrev cX9_fails : ByteArray := prog_11_method_17_code
def yX9_fails : MethodName := ⟨RX9, "fails", "(II)V"⟩
abbrev cX9_good : ByteArray := prog_11_method_18_code
def yX9_good : MethodName := ⟨RX9, "good", "()Z"⟩
abbrev cX9_token : ByteArray := prog_11_method_19_code
def yX9_token : MethodName := ⟨RX9, "token", "(III)V"⟩
abbrev cX9_cut : ByteArray := prog_11_method_20_code
def yX9_cut : MethodName := ⟨RX9, "cut", "()V"⟩
abbrev cX9_number : ByteArray := prog_11_method_21_code
def yX9_number : MethodName := ⟨RX9, "number", "(II)I"⟩
abbrev cX9_semi : ByteArray := prog_11_method_22_code
def yX9_semi : MethodName := ⟨RX9, "semi", "()V"⟩
abbrev cX9_oneRun : ByteArray := prog_11_method_23_code
def yX9_oneRun : MethodName := ⟨RX9, "oneRun", "(I)V"⟩
abbrev cX9_oneLine : ByteArray := prog_11_method_24_code
def yX9_oneLine : MethodName := ⟨RX9, "oneLine", "(I)V"⟩
abbrev cX9_colourSumsDiffer : ByteArray := prog_11_method_25_code
def yX9_colourSumsDiffer : MethodName := ⟨RX9, "colourSumsDiffer", "()Z"⟩
abbrev cX9_load : ByteArray := prog_11_method_26_code
def yX9_load : MethodName := ⟨RX9, "load", "()I"⟩
abbrev cX9_fault : ByteArray := prog_11_method_27_code
def yX9_fault : MethodName := ⟨RX9, "fault", "()I"⟩
abbrev cX9_blank : ByteArray := prog_11_method_28_code
def yX9_blank : MethodName := ⟨RX9, "blank", "(III)Z"⟩
abbrev cX9_many : ByteArray := prog_11_method_29_code
def yX9_many : MethodName := ⟨RX9, "many", "(I)I"⟩
abbrev cX9_about : ByteArray := prog_11_method_30_code
def yX9_about : MethodName := ⟨RX9, "about", "(I)I"⟩
abbrev cX9_run : ByteArray := prog_11_method_31_code
def yX9_run : MethodName := ⟨RX9, "run", "(III)I"⟩
abbrev cX9_give : ByteArray := prog_11_method_32_code
def yX9_give : MethodName := ⟨RX9, "give", "(III)Z"⟩
abbrev cX9_given : ByteArray := prog_11_method_33_code
def yX9_given : MethodName := ⟨RX9, "given", "(II)I"⟩
abbrev cX9_first : ByteArray := prog_11_method_34_code
def yX9_first : MethodName := ⟨RX9, "first", "([II)V"⟩
abbrev cX9_fresh : ByteArray := prog_11_method_35_code
def yX9_fresh : MethodName := ⟨RX9, "fresh", "()Z"⟩
abbrev cX9_can : ByteArray := prog_11_method_36_code
def yX9_can : MethodName := ⟨RX9, "can", "(II)Z"⟩
abbrev cX9_lay : ByteArray := prog_11_method_37_code
def yX9_lay : MethodName := ⟨RX9, "lay", "(II)V"⟩
abbrev cX9_allWays : ByteArray := prog_11_method_38_code
def yX9_allWays : MethodName := ⟨RX9, "allWays", "([III)V"⟩
abbrev cX9_lineRule : ByteArray := prog_11_method_39_code
def yX9_lineRule : MethodName := ⟨RX9, "lineRule", "([III)I"⟩
abbrev cX9_toRest : ByteArray := prog_11_method_40_code
def yX9_toRest : MethodName := ⟨RX9, "toRest", "([II)Z"⟩
abbrev cX9_trying : ByteArray := prog_11_method_41_code
def yX9_trying : MethodName := ⟨RX9, "trying", "([I)Z"⟩
abbrev cX9_rule : ByteArray := prog_11_method_42_code
def yX9_rule : MethodName := ⟨RX9, "rule", "(I)I"⟩
abbrev cX9_ways : ByteArray := prog_11_method_43_code
def yX9_ways : MethodName := ⟨RX9, "ways", "(I)J"⟩
abbrev cX9_needSets : ByteArray := prog_11_method_44_code
def yX9_needSets : MethodName := ⟨RX9, "needSets", "()V"⟩
abbrev cX9_rest : ByteArray := prog_11_method_45_code
def yX9_rest : MethodName := ⟨RX9, "rest", "()I"⟩
abbrev cX9_tries : ByteArray := prog_11_method_46_code
def yX9_tries : MethodName := ⟨RX9, "tries", "()I"⟩
abbrev cX9_set : ByteArray := prog_11_method_47_code
def yX9_set : MethodName := ⟨RX9, "set", "(II)I"⟩
abbrev cX9_allOne : ByteArray := prog_11_method_48_code
def yX9_allOne : MethodName := ⟨RX9, "allOne", "([II)Z"⟩
abbrev cX9_least : ByteArray := prog_11_method_49_code
def yX9_least : MethodName := ⟨RX9, "least", "(I)I"⟩
abbrev cX9_branch : ByteArray := prog_11_method_50_code
def yX9_branch : MethodName := ⟨RX9, "branch", "(I)I"⟩
abbrev cX9_look : ByteArray := prog_11_method_51_code
def yX9_look : MethodName := ⟨RX9, "look", "(I)V"⟩
abbrev cX9_searches : ByteArray := prog_11_method_52_code
def yX9_searches : MethodName := ⟨RX9, "searches", "(II)V"⟩
abbrev cX9_search : ByteArray := prog_11_method_53_code
def yX9_search : MethodName := ⟨RX9, "search", "(II)I"⟩
abbrev cX9_nodes : ByteArray := prog_11_method_54_code
def yX9_nodes : MethodName := ⟨RX9, "nodes", "()I"⟩
abbrev cX9_solution : ByteArray := prog_11_method_55_code
def yX9_solution : MethodName := ⟨RX9, "solution", "(III)I"⟩
abbrev cX9_level : ByteArray := prog_11_method_56_code
def yX9_level : MethodName := ⟨RX9, "level", "()I"⟩
abbrev cX9_mark : ByteArray := prog_11_method_57_code
def yX9_mark : MethodName := ⟨RX9, "mark", "(III)Z"⟩
abbrev cX9_marked : ByteArray := prog_11_method_58_code
def yX9_marked : MethodName := ⟨RX9, "marked", "(II)I"⟩
abbrev cX9_shown : ByteArray := prog_11_method_59_code
def yX9_shown : MethodName := ⟨RX9, "shown", "(I)I"⟩
abbrev cX9_readsAs : ByteArray := prog_11_method_60_code
def yX9_readsAs : MethodName := ⟨RX9, "readsAs", "(I)I"⟩
abbrev cX9_isDone : ByteArray := prog_11_method_61_code
def yX9_isDone : MethodName := ⟨RX9, "isDone", "()Z"⟩
abbrev cX9_done : ByteArray := prog_11_method_62_code
def yX9_done : MethodName := ⟨RX9, "done", "()I"⟩
abbrev cX9_wrong : ByteArray := prog_11_method_63_code
def yX9_wrong : MethodName := ⟨RX9, "wrong", "()I"⟩
abbrev cX9_hint : ByteArray := prog_11_method_64_code
def yX9_hint : MethodName := ⟨RX9, "hint", "()I"⟩
abbrev cX9_draw : ByteArray := prog_11_method_65_code
def yX9_draw : MethodName := ⟨RX9, "draw", "()I"⟩
abbrev cX9_mend : ByteArray := prog_11_method_66_code
def yX9_mend : MethodName := ⟨RX9, "mend", "()I"⟩
def RJ6 : String := "java/lang/Integer"
def TJ6 : u_T := fun k => match k with
  | _ => ("", "", "", false)
def tyJ6 : Nat → FieldType := fun k => match k with
  | _ => .int
abbrev wsJ60 : List Cond := u_ws RJ6 TJ6 0
theorem nmJ6 : ∀ a, a < 0 → ∀ b, b < 0 → a ≠ b → (TJ6 a).2.1 ≠ (TJ6 b).2.1 := by decide +kernel
theorem tyJ6_ok : ∀ k, k < 0 → parseFieldDescriptor (TJ6 k).2.2.1 = some (tyJ6 k) := by decide +kernel
abbrev cJ6_bitCount_0f7a4 : ByteArray := prog_12_method_49_code
def yJ6_bitCount_0f7a4 : MethodName := ⟨RJ6, "bitCount", "(I)I"⟩
def RJ9 : String := "java/lang/Math"
def TJ9 : u_T := fun k => match k with
  | _ => ("", "", "", false)
def tyJ9 : Nat → FieldType := fun k => match k with
  | _ => .int
abbrev wsJ90 : List Cond := u_ws RJ9 TJ9 0
theorem nmJ9 : ∀ a, a < 0 → ∀ b, b < 0 → a ≠ b → (TJ9 a).2.1 ≠ (TJ9 b).2.1 := by decide +kernel
theorem tyJ9_ok : ∀ k, k < 0 → parseFieldDescriptor (TJ9 k).2.2.1 = some (tyJ9 k) := by decide +kernel
abbrev cJ9_max_7cf53 : ByteArray := prog_13_method_65_code
def yJ9_max_7cf53 : MethodName := ⟨RJ9, "max", "(II)I"⟩
def RJ10 : String := "java/lang/System"
def TJ10 : u_T := fun k => match k with
  | _ => ("", "", "", false)
def tyJ10 : Nat → FieldType := fun k => match k with
  | _ => .int
abbrev wsJ100 : List Cond := u_ws RJ10 TJ10 0
theorem nmJ10 : ∀ a, a < 0 → ∀ b, b < 0 → a ≠ b → (TJ10 a).2.1 ≠ (TJ10 b).2.1 := by decide +kernel
theorem tyJ10_ok : ∀ k, k < 0 → parseFieldDescriptor (TJ10 k).2.2.1 = some (tyJ10 k) := by decide +kernel
def RJ7 : String := "java/util/Arrays"
def TJ7 : u_T := fun k => match k with
  | _ => ("", "", "", false)
def tyJ7 : Nat → FieldType := fun k => match k with
  | _ => .int
abbrev wsJ70 : List Cond := u_ws RJ7 TJ7 0
theorem nmJ7 : ∀ a, a < 0 → ∀ b, b < 0 → a ≠ b → (TJ7 a).2.1 ≠ (TJ7 b).2.1 := by decide +kernel
theorem tyJ7_ok : ∀ k, k < 0 → parseFieldDescriptor (TJ7 k).2.2.1 = some (tyJ7 k) := by decide +kernel
abbrev cJ7_fill_53178 : ByteArray := prog_15_method_103_code
def yJ7_fill_53178 : MethodName := ⟨RJ7, "fill", "([II)V"⟩
def RL : String := "CellPicturesLaw"
abbrev cL_law : ByteArray := code
theorem inX0 : ∀ w ∈ u_ws RX0 TX0 7, w ∈ gtb := mem_ps [67, 69, 71, 73, 75, 77, 79] (by decide +kernel) (by decide +kernel)
theorem inX1 : ∀ w ∈ u_ws RX1 TX1 5, w ∈ gtb := mem_ps [226, 228, 230, 232, 234] (by decide +kernel) (by decide +kernel)
theorem inX2 : ∀ w ∈ u_ws RX2 TX2 2, w ∈ gtb := mem_ps [128, 130] (by decide +kernel) (by decide +kernel)
theorem inX3 : ∀ w ∈ u_ws RX3 TX3 5, w ∈ gtb := mem_ps [144, 146, 148, 150, 152] (by decide +kernel) (by decide +kernel)
theorem inX4 : ∀ w ∈ u_ws RX4 TX4 2, w ∈ gtb := mem_ps [173, 175] (by decide +kernel) (by decide +kernel)
theorem inX5 : ∀ w ∈ u_ws RX5 TX5 8, w ∈ gtb := mem_ps [186, 188, 190, 192, 194, 196, 198, 200] (by decide +kernel) (by decide +kernel)
theorem inX6 : ∀ w ∈ u_ws RX6 TX6 2, w ∈ gtb := mem_ps [33, 35] (by decide +kernel) (by decide +kernel)
theorem inX7 : ∀ w ∈ u_ws RX7 TX7 8, w ∈ gtb := mem_ps [99, 101, 103, 105, 107, 109, 111, 113] (by decide +kernel) (by decide +kernel)
theorem inX8 : ∀ w ∈ u_ws RX8 TX8 14, w ∈ gtb := mem_ps [251, 253, 255, 257, 259, 261, 263, 265, 267, 269, 271, 273, 275, 277] (by decide +kernel) (by decide +kernel)
theorem inX9 : ∀ w ∈ u_ws RX9 TX9 50, w ∈ gtb := mem_ps [823, 825, 827, 829, 831, 833, 835, 837, 839, 841, 843, 845, 847, 849, 851, 853, 855, 857, 859, 861, 863, 865, 867, 869, 871, 873, 875, 877, 879, 881, 883, 885, 887, 889, 891, 893, 895, 897, 899, 901, 903, 905, 907, 909, 911, 913, 915, 917, 919, 921] (by decide +kernel) (by decide +kernel)
abbrev vwCl : List vw_C := [(RX0, TX0, 7), (RX1, TX1, 5), (RX2, TX2, 2), (RX3, TX3, 5), (RX4, TX4, 2), (RX5, TX5, 8), (RX6, TX6, 2), (RX7, TX7, 8), (RX8, TX8, 14), (RX9, TX9, 50)]
def shp : List (Nat × Nat × List Nat) := [
  (0, 8, [4, 6, 10, 14, 15, 17, 19, 24, 32, 34, 36, 41, 0, 0]),
  (0, 6, [5, 0]),
  (2, 900, []),
  (0, 0, [7, 8, 9, 0, 0, 0, 0]),
  (1, 24, []),
  (1, 288, []),
  (1, 288, []),
  (0, 0, [11, 12, 13, 0, 0, 0, 0]),
  (1, 24, []),
  (1, 288, []),
  (1, 288, []),
  (0, 7, [4, 10, 0, 0, 0, 0, 0, 0]),
  (0, 2, [16, 0]),
  (1, 144, []),
  (0, 2, [18, 0]),
  (1, 144, []),
  (0, 3, [6, 20, 21, 22, 23]),
  (1, 13, []),
  (1, 12, []),
  (3, 13, []),
  (3, 13, []),
  (0, 5, [6, 19, 28, 30, 25, 26, 27, 0]),
  (3, 3456, []),
  (1, 144, []),
  (1, 144, []),
  (0, 4, [6, 29]),
  (3, 24, []),
  (0, 4, [6, 31]),
  (3, 24, []),
  (0, 4, [6, 33]),
  (3, 24, []),
  (0, 4, [6, 35]),
  (3, 24, []),
  (0, 1, [37, 39, 0, 0, 0]),
  (0, 2, [38, 0]),
  (1, 144, []),
  (0, 2, [40, 0]),
  (1, 144, []),
  (0, 1, [42, 44, 0, 0, 0]),
  (0, 2, [43, 0]),
  (1, 144, []),
  (0, 2, [45, 0]),
  (1, 144, []),
  (0, 9, [0, 0, 0, 0, 47, 48, 49, 50, 51, 52, 0, 0, 0, 0, 53, 54, 0, 0, 0, 0, 55, 56, 57, 0, 0, 0, 0, 0, 58, 59, 60, 2, 0, 0, 61, 62, 1, 0, 63, 0, 64, 0, 0, 0, 0, 0, 65, 66, 67, 68]),
  (1, 24, []),
  (1, 288, []),
  (1, 288, []),
  (1, 144, []),
  (1, 144, []),
  (1, 144, []),
  (1, 288, []),
  (1, 900, []),
  (1, 901, []),
  (1, 901, []),
  (1, 901, []),
  (1, 24, []),
  (1, 288, []),
  (1, 288, []),
  (1, 12, []),
  (1, 12, []),
  (1, 144, []),
  (1, 21024, []),
  (1, 288, []),
  (1, 144, []),
  (1, 12, []),
  (1, 12, [])]
end
section
/-! THE ENGINE: a static world of cells (shape 'shp'), its state St, and the judgement Wp (the machine at a frame over that world), a row an instruction -/
abbrev St : Type := (Nat → Nat → Int32) × (Nat → Nat → Int64) × Option Nat
abbrev MD : Type := MethodName × ByteArray × Nat × Option FieldType
def kdO (g j : Nat) : Option Nat := match shp[g]? with
  | some (0, _, ks) => ks[j]?
  | _ => none
def clO (g : Nat) : Nat := match shp[g]? with
  | some (0, ci, _) => ci
  | _ => 99
def arT (k : Nat) : Nat := match shp[k]? with
  | some (t, _, _) => t
  | _ => 0
def arN (k : Nat) : Nat := match shp[k]? with
  | some (_, n, _) => n
  | _ => 0
def rf (g j : Nat) : Nat := match kdO g j with
  | some k => k - 3
  | none => 0
def cv (ad : Nat → Nat) (v : Value) : Value := match v with
  | .ref k => .ref (ad k)
  | v => v
def fv (ad : Nat → Nat) (σ : St) (k j kd : Nat) : Value := match kd with
  | 0 => .int (σ.1 k j)
  | 1 => .long (σ.2.1 k j)
  | 2 => va_rf (σ.2.2.map ad)
  | t + 3 => .ref (ad t)
def cel (ad : Nat → Nat) (ca : Nat → ClassId) (σ : St) (k : Nat) (s : Nat × Nat × List Nat) : va_E := match s.1 with
  | 0 => .inr (s.2.1, s.2.2.mapIdx (fun j kd => fv ad σ k j kd))
  | 1 => .inl (ca k, s.2.1, .inl (σ.1 k))
  | 2 => .inl (ca k, s.2.1, .inl (σ.1 k))
  | _ => .inl (ca k, s.2.1, .inr (.inl (σ.2.1 k)))
def wld (ad : Nat → Nat) (ca : Nat → ClassId) (σ : St) : va_W := shp.mapIdx (fun k s => (ad k, cel ad ca σ k s))
def u2 {α : Type} (f : Nat → Nat → α) (k j : Nat) (v : α) : Nat → Nat → α := fun a b => if a = k ∧ b = j then v else f a b
def sF (σ : St) (k j : Nat) (v : Int32) : St := (u2 σ.1 k j v, σ.2)
def sL (σ : St) (k j : Nat) (v : Int64) : St := (σ.1, u2 σ.2.1 k j v, σ.2.2)
def sD (σ : St) (q : Nat) : St := (σ.1, σ.2.1, some q)
def rw1 {α : Type} (f : Nat → Nat → α) (k : Nat) (g : Nat → α) : Nat → Nat → α := fun a => if a = k then g else f a
def sRow (σ : St) (k : Nat) (g : Nat → Int32) : St := (rw1 σ.1 k g, σ.2)
def sRowL (σ : St) (k : Nat) (g : Nat → Int64) : St := (σ.1, rw1 σ.2.1 k g, σ.2.2)
theorem wld_get {ad : Nat → Nat} {ca : Nat → ClassId} {σ : St} {k : Nat} {s : Nat × Nat × List Nat} (h : shp[k]? = some s) : (wld ad ca σ)[k]? = some (ad k, cel ad ca σ k s) := by
  simp [wld, List.getElem?_mapIdx, h]
theorem wld_len {ad : Nat → Nat} {ca : Nat → ClassId} {σ : St} : (wld ad ca σ).length = shp.length := by simp [wld]
theorem wld_set {ad : Nat → Nat} {ca : Nat → ClassId} {σ σ' : St} {k : Nat} {s : Nat × Nat × List Nat} (h : shp[k]? = some s) (ho : ∀ i s', i ≠ k → shp[i]? = some s' → cel ad ca σ' i s' = cel ad ca σ i s') {E : va_E} (hE : cel ad ca σ' k s = E) : (wld ad ca σ).set k (ad k, E) = wld ad ca σ' := by
  have hk : k < shp.length := (List.getElem?_eq_some_iff.mp h).1
  apply List.ext_getElem?
  intro i
  rw [List.getElem?_set]
  by_cases hi : k = i
  · subst hi
    rw [wld_get (σ := σ') h, hE, wld_len]
    simp [hk]
  · simp only [hi, if_false]
    simp only [wld, List.getElem?_mapIdx]
    cases hs : shp[i]? with
    | none => rfl
    | some s' => simp [ho i s' (fun q => hi q.symm) hs]
theorem kdO_sp {g j kd : Nat} (h : kdO g j = some kd) : ∃ ci ks, shp[g]? = some (0, ci, ks) ∧ ks[j]? = some kd ∧ clO g = ci := by
  unfold kdO at h
  split at h
  · rename_i ci ks hs
    exact ⟨ci, ks, hs, h, by simp [clO, hs]⟩
  · cases h
theorem arT_sp {k t : Nat} (h : arT k = t) (h0 : t ≠ 0) : shp[k]? = some (t, arN k, (shp[k]?.getD (0, 0, [])).2.2) := by
  unfold arT at h
  split at h
  · rename_i t' n ks hs
    subst h
    simp [arN, hs]
  · exact absurd h.symm h0
theorem fv_congr {ad : Nat → Nat} {σ σ' : St} {k j : Nat} (h1 : σ'.1 k j = σ.1 k j) (h2 : σ'.2.1 k j = σ.2.1 k j) (h3 : σ'.2.2 = σ.2.2) (kd : Nat) : fv ad σ' k j kd = fv ad σ k j kd := by
  match kd with
  | 0 => simp only [fv, h1]
  | 1 => simp only [fv, h2]
  | 2 => simp only [fv, h3]
  | t + 3 => rfl
theorem cel_congr {ad : Nat → Nat} {ca : Nat → ClassId} {σ σ' : St} {k : Nat} (h1 : σ'.1 k = σ.1 k) (h2 : σ'.2.1 k = σ.2.1 k) (h3 : σ'.2.2 = σ.2.2) (s : Nat × Nat × List Nat) : cel ad ca σ' k s = cel ad ca σ k s := by
  obtain ⟨t, n, ks⟩ := s
  match t with
  | 0 =>
    simp only [cel]
    congr 3
    funext a b
    exact fv_congr (by rw [h1]) (by rw [h2]) h3 b
  | 1 => simp only [cel, h1]
  | 2 => simp only [cel, h1]
  | t + 3 => simp only [cel, h2]

/-! the writes -/
theorem set_i {ad : Nat → Nat} {ca : Nat → ClassId} {σ : St} {g j ci : Nat} {ks : List Nat} (h : shp[g]? = some (0, ci, ks)) (hk : ks[j]? = some 0) (v : Int32) :
    (wld ad ca σ).set g (ad g, .inr (ci, (ks.mapIdx (fun j kd => fv ad σ g j kd)).set j (.int v))) = wld ad ca (sF σ g j v) := by
  refine wld_set (σ' := sF σ g j v) h (fun i s' hi _ => cel_congr (σ := σ) (σ' := sF σ g j v) (by funext b; simp [sF, u2, hi]) rfl rfl s') ?_
  simp only [cel]
  congr 2
  apply List.ext_getElem?
  intro i
  rw [List.getElem?_set, List.getElem?_mapIdx, List.getElem?_mapIdx]
  by_cases hi : j = i
  · subst hi
    have hl : j < ks.length := (List.getElem?_eq_some_iff.mp hk).1
    rw [hk]
    simp [fv, sF, u2, hl]
  · simp only [hi, if_false]
    cases hs : ks[i]? with
    | none => rfl
    | some kd => simp only [Option.map_some]; exact congrArg some (fv_congr (σ := σ) (σ' := sF σ g j v) (by have q := fun q : i = j => hi q.symm; simp [sF, u2]; exact fun z => absurd z q) rfl rfl kd)
theorem set_l {ad : Nat → Nat} {ca : Nat → ClassId} {σ : St} {g j ci : Nat} {ks : List Nat} (h : shp[g]? = some (0, ci, ks)) (hk : ks[j]? = some 1) (v : Int64) :
    (wld ad ca σ).set g (ad g, .inr (ci, (ks.mapIdx (fun j kd => fv ad σ g j kd)).set j (.long v))) = wld ad ca (sL σ g j v) := by
  refine wld_set (σ' := sL σ g j v) h (fun i s' hi _ => cel_congr (σ := σ) (σ' := sL σ g j v) rfl (by funext b; simp [sL, u2, hi]) rfl s') ?_
  simp only [cel]
  congr 2
  apply List.ext_getElem?
  intro i
  rw [List.getElem?_set, List.getElem?_mapIdx, List.getElem?_mapIdx]
  by_cases hi : j = i
  · subst hi
    have hl : j < ks.length := (List.getElem?_eq_some_iff.mp hk).1
    rw [hk]
    simp [fv, sL, u2, hl]
  · simp only [hi, if_false]
    cases hs : ks[i]? with
    | none => rfl
    | some kd => simp only [Option.map_some]; exact congrArg some (fv_congr (σ := σ) (σ' := sL σ g j v) rfl (by have q := fun q : i = j => hi q.symm; simp [sL, u2]; exact fun z => absurd z q) rfl kd)
/-- the one field that holds a changing reference: of cell 43, place 31 -/
theorem dyn_one : ∀ g, g < shp.length → ∀ j, j < 50 → kdO g j = some 2 → g = 43 ∧ j = 31 := by decide +kernel
theorem dyn_len : ∀ s ∈ shp, s.2.2.length ≤ 50 := by decide +kernel
theorem fv_dyn {ad : Nat → Nat} {σ : St} {q k j kd : Nat} (h : kd ≠ 2) : fv ad (sD σ q) k j kd = fv ad σ k j kd := by
  match kd, h with
  | 0, _ => rfl
  | 1, _ => rfl
  | 2, h => exact absurd rfl h
  | t + 3, _ => rfl
theorem dyn_at {g j ci : Nat} {ks : List Nat} (h : shp[g]? = some (0, ci, ks)) (hk : ks[j]? = some 2) : g = 43 ∧ j = 31 := by
  have hl := dyn_len _ (List.mem_of_getElem? h)
  have hj : j < ks.length := (List.getElem?_eq_some_iff.mp hk).1
  exact dyn_one g (List.getElem?_eq_some_iff.mp h).1 j (by simp only at hl; omega) (by simp [kdO, h, hk])
theorem set_d {ad : Nat → Nat} {ca : Nat → ClassId} {σ : St} {g j ci : Nat} {ks : List Nat} (h : shp[g]? = some (0, ci, ks)) (hk : ks[j]? = some 2) (q : Nat) :
    (wld ad ca σ).set g (ad g, .inr (ci, (ks.mapIdx (fun j kd => fv ad σ g j kd)).set j (.ref (ad q)))) = wld ad ca (sD σ q) := by
  have h43 := dyn_at h hk
  refine wld_set (σ' := sD σ q) h (fun i s' hi hs => ?_) ?_
  · obtain ⟨t, n, ks'⟩ := s'
    match t with
    | 0 =>
      simp only [cel]
      congr 2
      apply List.ext_getElem?
      intro a
      rw [List.getElem?_mapIdx, List.getElem?_mapIdx]
      cases hz : ks'[a]? with
      | none => rfl
      | some kd =>
        simp only [Option.map_some]
        rw [fv_dyn]
        intro e
        subst e
        exact hi ((dyn_at hs hz).1.trans h43.1.symm)
    | 1 => rfl
    | 2 => rfl
    | t + 3 => rfl
  simp only [cel]
  congr 2
  apply List.ext_getElem?
  intro i
  rw [List.getElem?_set, List.getElem?_mapIdx, List.getElem?_mapIdx]
  by_cases hi : j = i
  · subst hi
    have hl : j < ks.length := (List.getElem?_eq_some_iff.mp hk).1
    rw [hk]
    simp [fv, sD, va_rf, hl]
  · simp only [hi, if_false]
    cases hs : ks[i]? with
    | none => rfl
    | some kd =>
      simp only [Option.map_some]
      rw [fv_dyn]
      intro e
      subst e
      exact hi ((h43.2).trans (dyn_at h hs).2.symm)
theorem set_ai {ad : Nat → Nat} {ca : Nat → ClassId} {σ : St} {k t : Nat} (h : arT k = t) (ht : t = 1 ∨ t = 2) (f : Nat → Int32) :
    (wld ad ca σ).set k (ad k, .inl (ca k, arN k, .inl f)) = wld ad ca (sRow σ k f) := by
  refine wld_set (σ' := sRow σ k f) (arT_sp h (by omega)) (fun i s' hi _ => cel_congr (σ := σ) (σ' := sRow σ k f) (by simp [sRow, rw1, hi]) rfl rfl s') ?_
  rcases ht with rfl | rfl <;> simp [cel, sRow, rw1]
theorem set_al {ad : Nat → Nat} {ca : Nat → ClassId} {σ : St} {k : Nat} (h : arT k = 3) (f : Nat → Int64) :
    (wld ad ca σ).set k (ad k, .inl (ca k, arN k, .inr (.inl f))) = wld ad ca (sRowL σ k f) := by
  refine wld_set (σ' := sRowL σ k f) (arT_sp h (by omega)) (fun i s' hi _ => cel_congr (σ := σ) (σ' := sRowL σ k f) rfl (by simp [sRowL, rw1, hi]) rfl s') ?_
  simp [cel, sRowL, rw1]
theorem sRow_upd {σ : St} {k i : Nat} {v : Int32} : sRow σ k (upd (σ.1 k) i v) = sF σ k i v := by
  simp only [sRow, sF]
  congr 1
  funext a b
  by_cases h : a = k
  · subst h
    by_cases hb : b = i <;> simp [rw1, u2, upd, hb]
  · simp [rw1, u2, h]
theorem sRowL_upd {σ : St} {k i : Nat} {v : Int64} : sRowL σ k (vp_updL (σ.2.1 k) i v) = sL σ k i v := by
  simp only [sRowL, sL]
  congr 2
  funext a b
  by_cases h : a = k
  · subst h
    by_cases hb : b = i <;> simp [rw1, u2, vp_updL, hb]
  · simp [rw1, u2, h]
theorem get_o {ad : Nat → Nat} {ca : Nat → ClassId} {σ : St} {g ci : Nat} {ks : List Nat} (h : shp[g]? = some (0, ci, ks)) : (wld ad ca σ)[g]? = some (ad g, .inr (ci, ks.mapIdx (fun j kd => fv ad σ g j kd))) := wld_get h
theorem get_ai {ad : Nat → Nat} {ca : Nat → ClassId} {σ : St} {k t : Nat} (h : arT k = t) (ht : t = 1 ∨ t = 2) : (wld ad ca σ)[k]? = some (ad k, .inl (ca k, arN k, .inl (σ.1 k))) := by
  rw [wld_get (arT_sp h (by omega))]
  rcases ht with rfl | rfl <;> rfl
theorem get_al {ad : Nat → Nat} {ca : Nat → ClassId} {σ : St} {k : Nat} (h : arT k = 3) : (wld ad ca σ)[k]? = some (ad k, .inl (ca k, arN k, .inr (.inl (σ.2.1 k)))) := by
  rw [wld_get (arT_sp h (by omega))]
  rfl
end
section
/-! the judgement: the machine at a frame over the static world -/
abbrev Am : Type := Program × Launch × Env × Room × State × MethodId × Array Value × List Frame × Method × Code × Nat × Nat × (State → Prop) × (Nat → Nat) × (Nat → ClassId) × va_G × List (ClassId × FieldType) × (Nat → Prop) × Heap
abbrev a_p (a : Am) : Program := a.1
abbrev a_l (a : Am) : Launch := a.2.1
abbrev a_e (a : Am) : Env := a.2.2.1
abbrev a_R (a : Am) : Room := a.2.2.2.1
abbrev a_s (a : Am) : State := a.2.2.2.2.1
abbrev a_m (a : Am) : MethodId := a.2.2.2.2.2.1
abbrev a_args (a : Am) : Array Value := a.2.2.2.2.2.2.1
abbrev a_below (a : Am) : List Frame := a.2.2.2.2.2.2.2.1
abbrev a_meth (a : Am) : Method := a.2.2.2.2.2.2.2.2.1
abbrev a_c (a : Am) : Code := a.2.2.2.2.2.2.2.2.2.1
abbrev a_cells (a : Am) : Nat := a.2.2.2.2.2.2.2.2.2.2.1
abbrev a_slots (a : Am) : Nat := a.2.2.2.2.2.2.2.2.2.2.2.1
abbrev a_Q (a : Am) : State → Prop := a.2.2.2.2.2.2.2.2.2.2.2.2.1
abbrev a_ad (a : Am) : Nat → Nat := a.2.2.2.2.2.2.2.2.2.2.2.2.2.1
abbrev a_ca (a : Am) : Nat → ClassId := a.2.2.2.2.2.2.2.2.2.2.2.2.2.2.1
abbrev a_D (a : Am) : va_G := a.2.2.2.2.2.2.2.2.2.2.2.2.2.2.2.1
abbrev a_tys (a : Am) : List (ClassId × FieldType) := a.2.2.2.2.2.2.2.2.2.2.2.2.2.2.2.2.1
abbrev a_A (a : Am) : Nat → Prop := a.2.2.2.2.2.2.2.2.2.2.2.2.2.2.2.2.2.1
abbrev a_H0 (a : Am) : Heap := a.2.2.2.2.2.2.2.2.2.2.2.2.2.2.2.2.2.2
def tyc (t : Nat) : FieldType := match t with
  | 1 => .int
  | 2 => .byte
  | _ => .long
def tyOK (ca : Nat → ClassId) (tys : List (ClassId × FieldType)) : Prop := ∀ k, arT k ≠ 0 → ∃ t0 : Nat, tys[t0]? = some (ca k, tyc (arT k))
def injA (ad : Nat → Nat) : Prop := ∀ i j, i < shp.length → j < shp.length → ad i = ad j → i = j
def Aw (ad : Nat → Nat) (sz : Nat) : Nat → Prop := fun q => (∃ k, k < shp.length ∧ q = ad k) ∨ sz ≤ q
def nOK (U : State) : Prop := ∀ w ∈ ntb, va_Nw w U
theorem nest_of {w : Cond} (h : w ∈ ntb) : isNest w = true := (List.mem_filter.mp h).2
theorem nOK.same {u U : State} (h : u.vm = U.vm) (hN : nOK u) : nOK U := by
  intro w hw
  have h1 := hN w hw
  have h2 := nest_of hw
  cases w <;> first | (simp [isNest] at h2; done) | exact va_Nw.same rfl h h1
theorem nOK.warm {s U : State} (hW : s.WarmedH U.vm) (hN : nOK s) : nOK U := by
  intro w hw
  have h1 := hN w hw
  have h2 := nest_of hw
  cases w <;> first | (simp [isNest] at h2; done) | exact va_Nw.warmF hW h1 | exact va_Nw.warmM hW h1
/-- what stands around a frame of method M with d frames free for calls -/
def Cx (M : MD) (d : Nat) (a : Am) : Prop :=
  (a_p a).tables.exec = Jvm.exec ∧ (a_c a).code = M.2.1 ∧ (a_c a).maxLocals = M.2.2.1 ∧ (a_s a).vm.findClass M.1.cls = some (a_m a).cls ∧ (∀ w ∈ gtb, w.before (a_args a) (a_s a) = true) ∧ nOK (a_s a) ∧ va_K (a_D a) vwCl (a_tys a) (a_s a) ∧ tyOK (a_ca a) (a_tys a) ∧ injA (a_ad a) ∧ (∀ k, k < shp.length → a_A a (a_ad a k)) ∧ (∀ q, (a_H0 a).size ≤ q → a_A a q) ∧ d ≤ (a_R a).frames ∧ 60 * d ≤ (a_R a).locals ∧ a_cells a ≤ (a_R a).cells ∧ a_slots a ≤ (a_R a).slots ∧ (a_meth a).sig.returnType = M.2.2.2 ∧ (a_meth a).locks = false
theorem Cx.D {M : MD} {d : Nat} {a : Am} (X : Cx M d a) (σ : St) : va_D (a_A a) (wld (a_ad a) (a_ca a) σ) := by
  obtain ⟨-, -, -, -, -, -, -, -, hi, hA, -⟩ := X
  have hk : ∀ (i : Nat) (q : Nat × va_E), (wld (a_ad a) (a_ca a) σ)[i]? = some q → i < shp.length ∧ q.1 = a_ad a i := by
    intro i q h
    have hl : i < shp.length := by
      have h2 := (List.getElem?_eq_some_iff.mp h).1
      rwa [wld_len] at h2
    refine ⟨hl, ?_⟩
    rw [wld_get (List.getElem?_eq_getElem hl)] at h
    cases h
    rfl
  refine ⟨fun i j p q hp hq e => ?_, fun k q h => ?_⟩
  · obtain ⟨a1, a2⟩ := hk i p hp
    obtain ⟨b1, b2⟩ := hk j q hq
    exact hi i j a1 b1 (by rw [← a2, ← b2, e])
  · obtain ⟨a1, a2⟩ := hk k q h
    rw [a2]
    exact hA k a1
def Lok (ad : Nat → Nat) (lsA : Array Slot) (nL : Nat) (ls : List (Option Value)) : Prop := lsA.size = nL ∧ lv_wf lsA ∧ ∀ (i : Nat) (v : Value), ls[i]? = some (some v) → lsA[i]? = some (.val (cv ad v))
def Wp (M : MD) (d : Nat) (P : Am → Prop) (pc : Nat) (ls : List (Option Value)) (st : List Value) (σ : St) : Prop :=
  ∀ a : Am, Cx M d a → P a → ∀ (H : Heap) (locs : List Loc) (lsA : Array Slot), va_P (a_D a) vwCl (wld (a_ad a) (a_ca a) σ) H → va_S (a_A a) (a_H0 a) H locs → Lok (a_ad a) lsA M.2.2.1 ls →
    W (a_p a) (a_l a) (a_e a) (a_R a) (a_s a) (a_m a) (a_args a) (a_below a) (a_meth a) (a_c a) H locs (a_cells a) (a_slots a) (a_Q a) (F0 (a_m a) pc lsA (st.map (cv (a_ad a))))
def Qcv (A : Nat → Prop) (D : va_G) (ad : Nat → Nat) (ca : Nat → ClassId) (r : Option Value) (σ' : St) : Array Value → State → Outcome → State → Prop := fun _ st oc t => oc = .returned (r.map (cv ad)) ∧ va_P D vwCl (wld ad ca σ') t.heap ∧ va_F A st t
def Pcv (D : va_G) (ad : Nat → Nat) (ca : Nat → ClassId) (tys : List (ClassId × FieldType)) (sz : Nat) (vs : List Value) (σ : St) : Array Value → State → Prop := va_Pc (vs.map (cv ad)) (fun U => U.heap.size = sz ∧ va_P D vwCl (wld ad ca σ) U.heap ∧ va_K D vwCl tys U ∧ nOK U)
def PR (r : Option Value) (σ' : St) (a : Am) : Prop := a_Q a = MQ (a_below a) (Qcv (a_A a) (a_D a) (a_ad a) (a_ca a) r σ') (a_args a) (a_s a) (a_cells a) (a_slots a) (a_A a) ∧ a_H0 a = (a_s a).heap
def wsM (M : MD) : List Cond := Cond.code M.1 M.2.1 M.2.2.1 M.2.2.2 :: gtb
/-- method M, called with vs in state σ, answers r and leaves σ', with d frames free below it -/
def Ct (d : Nat) (M : MD) (vs : List Value) (σ : St) (r : Option Value) (σ' : St) : Prop :=
  ∀ (l : Launch) (D : va_G) (ad : Nat → Nat) (ca : Nat → ClassId) (tys : List (ClassId × FieldType)) (sz fr lo : Nat), d ≤ fr → 60 * d ≤ lo → injA ad → tyOK ca tys →
    Met l M.1 (wsM M) { frames := fr, cells := 0, slots := 0, locals := lo } (Pcv D ad ca tys sz vs σ) (Qcv (Aw ad sz) D ad ca r σ') 0 0 (Aw ad sz)
def ent : List Value → List (Option Value)
  | [] => []
  | .long x :: vs => some (.long x) :: none :: ent vs
  | .double x :: vs => some (.double x) :: none :: ent vs
  | v :: vs => some v :: ent vs
theorem cv_cat (ad : Nat → Nat) (v : Value) : (cv ad v).category = v.category := by cases v <;> rfl
theorem ent_cons (v : Value) (vs : List Value) : ent (v :: vs) = some v :: ((if v.category = 2 then [none] else []) ++ ent vs) := by cases v <;> rfl
theorem ent_at (ad : Nat → Nat) (vs : List Value) : ∀ (k i : Nat) (v : Value), (ent vs)[i]? = some (some v) → (k + i, cv ad v) ∈ lv_args k (vs.map (cv ad)) := by
  induction vs with
  | nil => intro k i v h; simp [ent] at h
  | cons w vs ih =>
    intro k i v h
    rw [ent_cons] at h
    simp only [List.map_cons, lv_args, List.mem_cons, cv_cat]
    cases i with
    | zero =>
      simp at h
      exact Or.inl (by rw [h]; rfl)
    | succ i =>
      right
      simp only [List.getElem?_cons_succ] at h
      by_cases hc : w.category = 2
      · simp only [hc, if_true] at h ⊢
        cases i with
        | zero => simp at h
        | succ i =>
          have h2 := ih (k + 2) i v (by simpa using h)
          rw [show k + (i + 1 + 1) = k + 2 + i by omega]
          exact h2
      · simp only [hc, if_false] at h ⊢
        have h2 := ih (k + 1) i v (by simpa using h)
        rw [show k + (i + 1) = k + 1 + i by omega]
        exact h2
theorem ent_len (ad : Nat → Nat) (vs : List Value) : (lg_sl (vs.map (cv ad))).length = (ent vs).length := by
  induction vs with
  | nil => rfl
  | cons w vs ih =>
    rw [ent_cons]
    simp only [List.map_cons, lg_sl, List.flatMap_cons, List.length_append, cv_cat]
    have h2 : (List.flatMap (fun v : Value => if v.category = 2 then [Slot.val v, Slot.second] else [Slot.val v]) (vs.map (cv ad))).length = (ent vs).length := ih
    rw [h2]
    by_cases hc : w.category = 2 <;> simp [hc] <;> omega
/-- a contract out of a walk from the entry -/
theorem ct_of {d : Nat} {M : MD} {vs : List Value} {σ σ' : St} {r : Option Value} (ls0 : List (Option Value)) (n : Nat) (hy : plainName M.1.cls = true) (hls : ent vs ++ List.replicate n none = ls0) (hlen : (ent vs).length ≤ M.2.2.1) (k : Wp M d (PR r σ') 0 ls0 [] σ) : Ct d M vs σ r σ' := by
  intro l D ad ca tys sz fr lo hfr hlo hinj hty
  refine Met.ofW (cc := M.2.1) (maxL := M.2.2.1) (ret := M.2.2.2) (ws' := gtb) hy rfl ?_
  intro p e s m args below meth c s₁ B hml hv
  obtain ⟨rfl, hsz, hP, hK, hN⟩ := hv
  have hts := atoms_spec (ws := wsM M) B.pre
  subst hsz
  have hl := lv_entry (vs.map (cv ad)) (n := M.2.2.1) (by rw [ent_len]; exact hlen)
  rw [lg_entry_eq]
  generalize (lg_sl (vs.map (cv ad)) ++ List.replicate (M.2.2.1 - (lg_sl (vs.map (cv ad))).length) Slot.unset).toArray = lsA at hl ⊢
  refine k (p, l, e, (headSpec (wsM M) { frames := fr, cells := 0, slots := 0, locals := lo }).room, s, m, (vs.map (cv ad)).toArray, below, meth, c, 0, 0, _, ad, ca, D, tys, Aw ad s.heap.size, s.heap) ⟨B.exec, B.bytes, hml, findClass_of_methodNamed B.named, fun w hw => hts w (List.mem_cons_of_mem _ hw), hN, hK, hty, hinj, fun k hk => Or.inl ⟨k, hk, rfl⟩, fun q h => Or.inr h, hfr, hlo, Nat.zero_le _, Nat.zero_le _, B.returns, B.notSynchronized⟩ ⟨rfl, rfl⟩ s.heap [] lsA hP va_S.rf ⟨hl.1, hl.2.1, fun i v h => ?_⟩
  have h2 : (ent vs)[i]? = some (some v) := by
    rw [← hls] at h
    rcases Nat.lt_or_ge i (ent vs).length with q | q
    · rwa [List.getElem?_append_left q] at h
    · rw [List.getElem?_append_right q, List.getElem?_replicate] at h
      split at h <;> cases h
  have h3 := ent_at ad vs 0 i v h2
  have h4 := hl.2.2 _ h3
  simpa using h4
end
section
/-! a row an instruction (written by wip/gen/rows.py) -/
theorem wp_iadd {M : MD} {d : Nat} {P : Am → Prop} {pc : Nat} {ls : List (Option Value)} {st : List Value} {σ : St} {x y : Int32} (hd : decode M.2.1 pc = .ok (.iadd, 1)) (k : Wp M d P (pc + 1) ls (.int (x + y) :: st) σ) : Wp M d P pc ls (.int y :: .int x :: st) σ :=
  fun a X hP H locs lsA hW hS hl => lv_iadd X.1 X.2.1 hd (k a X hP H locs lsA hW hS hl)
theorem wp_isub {M : MD} {d : Nat} {P : Am → Prop} {pc : Nat} {ls : List (Option Value)} {st : List Value} {σ : St} {x y : Int32} (hd : decode M.2.1 pc = .ok (.isub, 1)) (k : Wp M d P (pc + 1) ls (.int (x - y) :: st) σ) : Wp M d P pc ls (.int y :: .int x :: st) σ :=
  fun a X hP H locs lsA hW hS hl => lv_isub X.1 X.2.1 hd (k a X hP H locs lsA hW hS hl)
theorem wp_imul {M : MD} {d : Nat} {P : Am → Prop} {pc : Nat} {ls : List (Option Value)} {st : List Value} {σ : St} {x y : Int32} (hd : decode M.2.1 pc = .ok (.imul, 1)) (k : Wp M d P (pc + 1) ls (.int (x * y) :: st) σ) : Wp M d P pc ls (.int y :: .int x :: st) σ :=
  fun a X hP H locs lsA hW hS hl => lv_imul X.1 X.2.1 hd (k a X hP H locs lsA hW hS hl)
theorem wp_iand {M : MD} {d : Nat} {P : Am → Prop} {pc : Nat} {ls : List (Option Value)} {st : List Value} {σ : St} {x y : Int32} (hd : decode M.2.1 pc = .ok (.iand, 1)) (k : Wp M d P (pc + 1) ls (.int (x &&& y) :: st) σ) : Wp M d P pc ls (.int y :: .int x :: st) σ :=
  fun a X hP H locs lsA hW hS hl => lv_iand X.1 X.2.1 hd (k a X hP H locs lsA hW hS hl)
theorem wp_ior {M : MD} {d : Nat} {P : Am → Prop} {pc : Nat} {ls : List (Option Value)} {st : List Value} {σ : St} {x y : Int32} (hd : decode M.2.1 pc = .ok (.ior, 1)) (k : Wp M d P (pc + 1) ls (.int (x ||| y) :: st) σ) : Wp M d P pc ls (.int y :: .int x :: st) σ :=
  fun a X hP H locs lsA hW hS hl => lv_ior X.1 X.2.1 hd (k a X hP H locs lsA hW hS hl)
theorem wp_ixor {M : MD} {d : Nat} {P : Am → Prop} {pc : Nat} {ls : List (Option Value)} {st : List Value} {σ : St} {x y : Int32} (hd : decode M.2.1 pc = .ok (.ixor, 1)) (k : Wp M d P (pc + 1) ls (.int (x ^^^ y) :: st) σ) : Wp M d P pc ls (.int y :: .int x :: st) σ :=
  fun a X hP H locs lsA hW hS hl => lv_ixor X.1 X.2.1 hd (k a X hP H locs lsA hW hS hl)
theorem wp_ishl {M : MD} {d : Nat} {P : Am → Prop} {pc : Nat} {ls : List (Option Value)} {st : List Value} {σ : St} {x y : Int32} (hd : decode M.2.1 pc = .ok (.ishl, 1)) (k : Wp M d P (pc + 1) ls (.int (x <<< (y &&& 31)) :: st) σ) : Wp M d P pc ls (.int y :: .int x :: st) σ :=
  fun a X hP H locs lsA hW hS hl => lv_ishl X.1 X.2.1 hd (k a X hP H locs lsA hW hS hl)
theorem wp_ishr {M : MD} {d : Nat} {P : Am → Prop} {pc : Nat} {ls : List (Option Value)} {st : List Value} {σ : St} {x y : Int32} (hd : decode M.2.1 pc = .ok (.ishr, 1)) (k : Wp M d P (pc + 1) ls (.int (x >>> (y &&& 31)) :: st) σ) : Wp M d P pc ls (.int y :: .int x :: st) σ :=
  fun a X hP H locs lsA hW hS hl => lv_ishr X.1 X.2.1 hd (k a X hP H locs lsA hW hS hl)
theorem wp_iushr {M : MD} {d : Nat} {P : Am → Prop} {pc : Nat} {ls : List (Option Value)} {st : List Value} {σ : St} {x y : Int32} (hd : decode M.2.1 pc = .ok (.iushr, 1)) (k : Wp M d P (pc + 1) ls (.int ((x.toUInt32 >>> (y.toUInt32 &&& Int32.toUInt32 31)).toInt32) :: st) σ) : Wp M d P pc ls (.int y :: .int x :: st) σ :=
  fun a X hP H locs lsA hW hS hl => lv_iushr X.1 X.2.1 hd rfl (k a X hP H locs lsA hW hS hl)
theorem wp_idiv {M : MD} {d : Nat} {P : Am → Prop} {pc : Nat} {ls : List (Option Value)} {st : List Value} {σ : St} {x y : Int32} (hd : decode M.2.1 pc = .ok (.idiv, 1)) (hn : ¬ y = 0) (k : Wp M d P (pc + 1) ls (.int (x / y) :: st) σ) : Wp M d P pc ls (.int y :: .int x :: st) σ :=
  fun a X hP H locs lsA hW hS hl => lv_idiv X.1 X.2.1 hd hn (k a X hP H locs lsA hW hS hl)
theorem wp_irem {M : MD} {d : Nat} {P : Am → Prop} {pc : Nat} {ls : List (Option Value)} {st : List Value} {σ : St} {x y : Int32} (hd : decode M.2.1 pc = .ok (.irem, 1)) (hn : ¬ y = 0) (k : Wp M d P (pc + 1) ls (.int (x - x / y * y) :: st) σ) : Wp M d P pc ls (.int y :: .int x :: st) σ :=
  fun a X hP H locs lsA hW hS hl => lv_irem X.1 X.2.1 hd hn (k a X hP H locs lsA hW hS hl)
theorem wp_ineg {M : MD} {d : Nat} {P : Am → Prop} {pc : Nat} {ls : List (Option Value)} {st : List Value} {σ : St} {x : Int32} (hd : decode M.2.1 pc = .ok (.ineg, 1)) (k : Wp M d P (pc + 1) ls (.int (-x) :: st) σ) : Wp M d P pc ls (.int x :: st) σ :=
  fun a X hP H locs lsA hW hS hl => lv_ineg X.1 X.2.1 hd (k a X hP H locs lsA hW hS hl)
theorem wp_ladd {M : MD} {d : Nat} {P : Am → Prop} {pc : Nat} {ls : List (Option Value)} {st : List Value} {σ : St} {x y : Int64} (hd : decode M.2.1 pc = .ok (.ladd, 1)) (k : Wp M d P (pc + 1) ls (.long (x + y) :: st) σ) : Wp M d P pc ls (.long y :: .long x :: st) σ :=
  fun a X hP H locs lsA hW hS hl => lv_ladd X.1 X.2.1 hd (k a X hP H locs lsA hW hS hl)
theorem wp_lsub {M : MD} {d : Nat} {P : Am → Prop} {pc : Nat} {ls : List (Option Value)} {st : List Value} {σ : St} {x y : Int64} (hd : decode M.2.1 pc = .ok (.lsub, 1)) (k : Wp M d P (pc + 1) ls (.long (x - y) :: st) σ) : Wp M d P pc ls (.long y :: .long x :: st) σ :=
  fun a X hP H locs lsA hW hS hl => lv_lsub X.1 X.2.1 hd (k a X hP H locs lsA hW hS hl)
theorem wp_land {M : MD} {d : Nat} {P : Am → Prop} {pc : Nat} {ls : List (Option Value)} {st : List Value} {σ : St} {x y : Int64} (hd : decode M.2.1 pc = .ok (.land, 1)) (k : Wp M d P (pc + 1) ls (.long (x &&& y) :: st) σ) : Wp M d P pc ls (.long y :: .long x :: st) σ :=
  fun a X hP H locs lsA hW hS hl => lv_land X.1 X.2.1 hd (k a X hP H locs lsA hW hS hl)
theorem wp_lor {M : MD} {d : Nat} {P : Am → Prop} {pc : Nat} {ls : List (Option Value)} {st : List Value} {σ : St} {x y : Int64} (hd : decode M.2.1 pc = .ok (.lor, 1)) (k : Wp M d P (pc + 1) ls (.long (x ||| y) :: st) σ) : Wp M d P pc ls (.long y :: .long x :: st) σ :=
  fun a X hP H locs lsA hW hS hl => lv_lor X.1 X.2.1 hd (k a X hP H locs lsA hW hS hl)
theorem wp_lxor {M : MD} {d : Nat} {P : Am → Prop} {pc : Nat} {ls : List (Option Value)} {st : List Value} {σ : St} {x y : Int64} (hd : decode M.2.1 pc = .ok (.lxor, 1)) (k : Wp M d P (pc + 1) ls (.long (x ^^^ y) :: st) σ) : Wp M d P pc ls (.long y :: .long x :: st) σ :=
  fun a X hP H locs lsA hW hS hl => lv_lxor X.1 X.2.1 hd (k a X hP H locs lsA hW hS hl)
theorem wp_lushr {M : MD} {d : Nat} {P : Am → Prop} {pc : Nat} {ls : List (Option Value)} {st : List Value} {σ : St} {x : Int64} {y : Int32} (hd : decode M.2.1 pc = .ok (.lushr, 1)) (k : Wp M d P (pc + 1) ls (.long ((x.toUInt64 >>> (y.toInt64.toUInt64 &&& Int64.toUInt64 63)).toInt64) :: st) σ) : Wp M d P pc ls (.int y :: .long x :: st) σ :=
  fun a X hP H locs lsA hW hS hl => lv_lushr X.1 X.2.1 hd rfl (k a X hP H locs lsA hW hS hl)
theorem wp_lshl {M : MD} {d : Nat} {P : Am → Prop} {pc : Nat} {ls : List (Option Value)} {st : List Value} {σ : St} {x : Int64} {y : Int32} (hd : decode M.2.1 pc = .ok (.lshl, 1)) (k : Wp M d P (pc + 1) ls (.long (x <<< (y.toInt64 &&& 63)) :: st) σ) : Wp M d P pc ls (.int y :: .long x :: st) σ :=
  fun a X hP H locs lsA hW hS hl => lv_lshl X.1 X.2.1 hd rfl (k a X hP H locs lsA hW hS hl)
theorem wp_lcmp {M : MD} {d : Nat} {P : Am → Prop} {pc : Nat} {ls : List (Option Value)} {st : List Value} {σ : St} {x y : Int64} (hd : decode M.2.1 pc = .ok (.lcmp, 1)) (k : Wp M d P (pc + 1) ls (.int (lg_cmp x y) :: st) σ) : Wp M d P pc ls (.long y :: .long x :: st) σ :=
  fun a X hP H locs lsA hW hS hl => W.lcmp X.1 X.2.1 hd (k a X hP H locs lsA hW hS hl)
theorem wp_i2l {M : MD} {d : Nat} {P : Am → Prop} {pc : Nat} {ls : List (Option Value)} {st : List Value} {σ : St} {x : Int32} (hd : decode M.2.1 pc = .ok (.i2l, 1)) (k : Wp M d P (pc + 1) ls (.long x.toInt64 :: st) σ) : Wp M d P pc ls (.int x :: st) σ :=
  fun a X hP H locs lsA hW hS hl => lv_i2l X.1 X.2.1 hd rfl (k a X hP H locs lsA hW hS hl)
theorem wp_l2i {M : MD} {d : Nat} {P : Am → Prop} {pc : Nat} {ls : List (Option Value)} {st : List Value} {σ : St} {x : Int64} (hd : decode M.2.1 pc = .ok (.l2i, 1)) (k : Wp M d P (pc + 1) ls (.int x.toInt32 :: st) σ) : Wp M d P pc ls (.long x :: st) σ :=
  fun a X hP H locs lsA hW hS hl => lv_l2i X.1 X.2.1 hd rfl (k a X hP H locs lsA hW hS hl)
theorem wp_i2b {M : MD} {d : Nat} {P : Am → Prop} {pc : Nat} {ls : List (Option Value)} {st : List Value} {σ : St} {x : Int32} (hd : decode M.2.1 pc = .ok (.i2b, 1)) (k : Wp M d P (pc + 1) ls (.int x.toInt8.toInt32 :: st) σ) : Wp M d P pc ls (.int x :: st) σ :=
  fun a X hP H locs lsA hW hS hl => lv_i2b X.1 X.2.1 hd rfl (k a X hP H locs lsA hW hS hl)
theorem wp_iconst {M : MD} {d : Nat} {P : Am → Prop} {pc : Nat} {ls : List (Option Value)} {st : List Value} {σ : St} {n : Int} {v : Int32} (hd : decode M.2.1 pc = .ok (.iconst n, 1)) (hv : Int32.ofInt n = v) (k : Wp M d P (pc + 1) ls (.int v :: st) σ) : Wp M d P pc ls (st) σ :=
  fun a X hP H locs lsA hW hS hl => lv_iconst X.1 X.2.1 hd hv (k a X hP H locs lsA hW hS hl)
theorem wp_bipush {M : MD} {d : Nat} {P : Am → Prop} {pc : Nat} {ls : List (Option Value)} {st : List Value} {σ : St} {n : Int} {v : Int32} (hd : decode M.2.1 pc = .ok (.bipush n, 2)) (hv : (Int8.ofInt n).toInt32 = v) (k : Wp M d P (pc + 2) ls (.int v :: st) σ) : Wp M d P pc ls (st) σ :=
  fun a X hP H locs lsA hW hS hl => lv_bipush X.1 X.2.1 hd hv (k a X hP H locs lsA hW hS hl)
theorem wp_sipush {M : MD} {d : Nat} {P : Am → Prop} {pc : Nat} {ls : List (Option Value)} {st : List Value} {σ : St} {n : Int} {v : Int32} (hd : decode M.2.1 pc = .ok (.sipush n, 3)) (hv : (Int16.ofInt n).toInt32 = v) (k : Wp M d P (pc + 3) ls (.int v :: st) σ) : Wp M d P pc ls (st) σ :=
  fun a X hP H locs lsA hW hS hl => lv_sipush X.1 X.2.1 hd hv (k a X hP H locs lsA hW hS hl)
theorem wp_lconst {M : MD} {d : Nat} {P : Am → Prop} {pc : Nat} {ls : List (Option Value)} {st : List Value} {σ : St} {n : Fin 2} {v : Int64} (hd : decode M.2.1 pc = .ok (.lconst n, 1)) (hv : Int64.ofNat (n : Nat) = v) (k : Wp M d P (pc + 1) ls (.long v :: st) σ) : Wp M d P pc ls (st) σ :=
  fun a X hP H locs lsA hW hS hl => lv_lconst X.1 X.2.1 hd hv (k a X hP H locs lsA hW hS hl)
theorem wp_dup_i {M : MD} {d : Nat} {P : Am → Prop} {pc : Nat} {ls : List (Option Value)} {st : List Value} {σ : St} {x : Int32} (hd : decode M.2.1 pc = .ok (.dup, 1)) (k : Wp M d P (pc + 1) ls (.int x :: .int x :: st) σ) : Wp M d P pc ls (.int x :: st) σ :=
  fun a X hP H locs lsA hW hS hl => lv_dup X.1 X.2.1 hd rfl (k a X hP H locs lsA hW hS hl)
theorem wp_dup_r {M : MD} {d : Nat} {P : Am → Prop} {pc : Nat} {ls : List (Option Value)} {st : List Value} {σ : St} {x : Nat} (hd : decode M.2.1 pc = .ok (.dup, 1)) (k : Wp M d P (pc + 1) ls (.ref x :: .ref x :: st) σ) : Wp M d P pc ls (.ref x :: st) σ :=
  fun a X hP H locs lsA hW hS hl => lv_dup X.1 X.2.1 hd rfl (k a X hP H locs lsA hW hS hl)
theorem wp_dup2_ir {M : MD} {d : Nat} {P : Am → Prop} {pc : Nat} {ls : List (Option Value)} {st : List Value} {σ : St} {x : Int32} {q : Nat} (hd : decode M.2.1 pc = .ok (.dup2, 1)) (k : Wp M d P (pc + 1) ls (.int x :: .ref q :: .int x :: .ref q :: st) σ) : Wp M d P pc ls (.int x :: .ref q :: st) σ :=
  fun a X hP H locs lsA hW hS hl => lv_dup2_11 X.1 X.2.1 hd rfl rfl (k a X hP H locs lsA hW hS hl)
theorem wp_pop_i {M : MD} {d : Nat} {P : Am → Prop} {pc : Nat} {ls : List (Option Value)} {st : List Value} {σ : St} {x : Int32} (hd : decode M.2.1 pc = .ok (.pop, 1)) (k : Wp M d P (pc + 1) ls (st) σ) : Wp M d P pc ls (.int x :: st) σ :=
  fun a X hP H locs lsA hW hS hl => lv_pop X.1 X.2.1 hd rfl (k a X hP H locs lsA hW hS hl)
theorem wp_ldcw {M : MD} {d : Nat} {P : Am → Prop} {pc : Nat} {ls : List (Option Value)} {st : List Value} {σ : St} {idx : Nat} {v : Int32} (hd : decode M.2.1 pc = .ok (.ldc_w idx, 3)) (hc : Cond.constant M.1.cls idx v ∈ gtb) (k : Wp M d P (pc + 3) ls (.int v :: st) σ) : Wp M d P pc ls (st) σ :=
  fun a X hP H locs lsA hW hS hl => lv_ldcw X.1 X.2.1 X.2.2.2.1 (X.2.2.2.2.1 _ hc) hd (k a X hP H locs lsA hW hS hl)
theorem wp_ldc2 {M : MD} {d : Nat} {P : Am → Prop} {pc : Nat} {ls : List (Option Value)} {st : List Value} {σ : St} {idx : Nat} {v : Int64} (hd : decode M.2.1 pc = .ok (.ldc2_w idx, 3)) (hc : Cond.constantLong M.1.cls idx v ∈ gtb) (k : Wp M d P (pc + 3) ls (.long v :: st) σ) : Wp M d P pc ls (st) σ :=
  fun a X hP H locs lsA hW hS hl => lv_ldc2 X.1 X.2.1 X.2.2.2.1 (X.2.2.2.2.1 _ hc) hd (k a X hP H locs lsA hW hS hl)
theorem wp_iload_n {M : MD} {d : Nat} {P : Am → Prop} {pc : Nat} {ls : List (Option Value)} {st : List Value} {σ : St} {q : Fin 4} {i : Nat} {x : Int32} (hd : decode M.2.1 pc = .ok (.iload_n q, 1)) (hi : (q : Nat) = i) (h : ls[i]? = some (some (.int x))) (k : Wp M d P (pc + 1) ls (.int x :: st) σ) : Wp M d P pc ls st σ :=
  fun a X hP H locs lsA hW hS hl => lv_iload_n X.1 X.2.1 hd hi (hl.2.2 i _ h) (k a X hP H locs lsA hW hS hl)
theorem wp_iload {M : MD} {d : Nat} {P : Am → Prop} {pc : Nat} {ls : List (Option Value)} {st : List Value} {σ : St} {i : Nat} {x : Int32} (hd : decode M.2.1 pc = .ok (.iload i, 2)) (h : ls[i]? = some (some (.int x))) (k : Wp M d P (pc + 2) ls (.int x :: st) σ) : Wp M d P pc ls st σ :=
  fun a X hP H locs lsA hW hS hl => lv_iload X.1 X.2.1 hd (hl.2.2 i _ h) (k a X hP H locs lsA hW hS hl)
theorem wp_lload_n {M : MD} {d : Nat} {P : Am → Prop} {pc : Nat} {ls : List (Option Value)} {st : List Value} {σ : St} {q : Fin 4} {i : Nat} {x : Int64} (hd : decode M.2.1 pc = .ok (.lload_n q, 1)) (hi : (q : Nat) = i) (h : ls[i]? = some (some (.long x))) (k : Wp M d P (pc + 1) ls (.long x :: st) σ) : Wp M d P pc ls st σ :=
  fun a X hP H locs lsA hW hS hl => lv_lload_n X.1 X.2.1 hd hi (hl.2.2 i _ h) (k a X hP H locs lsA hW hS hl)
theorem wp_lload {M : MD} {d : Nat} {P : Am → Prop} {pc : Nat} {ls : List (Option Value)} {st : List Value} {σ : St} {i : Nat} {x : Int64} (hd : decode M.2.1 pc = .ok (.lload i, 2)) (h : ls[i]? = some (some (.long x))) (k : Wp M d P (pc + 2) ls (.long x :: st) σ) : Wp M d P pc ls st σ :=
  fun a X hP H locs lsA hW hS hl => lv_lload X.1 X.2.1 hd (hl.2.2 i _ h) (k a X hP H locs lsA hW hS hl)
theorem wp_aload_n {M : MD} {d : Nat} {P : Am → Prop} {pc : Nat} {ls : List (Option Value)} {st : List Value} {σ : St} {q : Fin 4} {i : Nat} {x : Nat} (hd : decode M.2.1 pc = .ok (.aload_n q, 1)) (hi : (q : Nat) = i) (h : ls[i]? = some (some (.ref x))) (k : Wp M d P (pc + 1) ls (.ref x :: st) σ) : Wp M d P pc ls st σ :=
  fun a X hP H locs lsA hW hS hl => lv_aload_n X.1 X.2.1 hd hi (hl.2.2 i _ h) (k a X hP H locs lsA hW hS hl)
theorem wp_aload {M : MD} {d : Nat} {P : Am → Prop} {pc : Nat} {ls : List (Option Value)} {st : List Value} {σ : St} {i : Nat} {x : Nat} (hd : decode M.2.1 pc = .ok (.aload i, 2)) (h : ls[i]? = some (some (.ref x))) (k : Wp M d P (pc + 2) ls (.ref x :: st) σ) : Wp M d P pc ls st σ :=
  fun a X hP H locs lsA hW hS hl => lv_aload X.1 X.2.1 hd (hl.2.2 i _ h) (k a X hP H locs lsA hW hS hl)

def asl (ad : Nat → Nat) (ls : List (Option Value)) : List (Nat × Value) := (List.range ls.length).filterMap (fun i => match ls[i]? with
  | some (some v) => some (i, cv ad v)
  | _ => none)
theorem asl_mem {ad : Nat → Nat} {ls : List (Option Value)} {i : Nat} {v : Value} (h : ls[i]? = some (some v)) : (i, cv ad v) ∈ asl ad ls := by
  refine List.mem_filterMap.mpr ⟨i, List.mem_range.mpr (List.getElem?_eq_some_iff.mp h).1, ?_⟩
  rw [h]
theorem asl_of {ad : Nat → Nat} {ls : List (Option Value)} {q : Nat × Value} (h : q ∈ asl ad ls) : ∃ v, ls[q.1]? = some (some v) ∧ q.2 = cv ad v := by
  obtain ⟨i, -, hi⟩ := List.mem_filterMap.mp h
  split at hi
  · rename_i v hv
    cases hi
    exact ⟨v, hv, rfl⟩
  · cases hi
theorem Lok.has {ad : Nat → Nat} {lsA : Array Slot} {nL : Nat} {ls : List (Option Value)} (h : Lok ad lsA nL ls) : lv_has lsA nL (asl ad ls) := by
  refine ⟨h.1, h.2.1, fun q hq => ?_⟩
  obtain ⟨v, h1, h2⟩ := asl_of hq
  rw [h2]
  exact h.2.2 _ _ h1
def noL (ls : List (Option Value)) (i : Nat) : Bool := match i with
  | 0 => true
  | j + 1 => match ls[j]? with
    | some (some v) => v.category == 1
    | _ => true
theorem Lok.st1 {ad : Nat → Nat} {lsA : Array Slot} {nL i : Nat} {ls : List (Option Value)} {v : Value} (hn : noL ls i = true) (h : lv_has lsA nL ((i, cv ad v) :: (asl ad ls).filter (fun q => !(q.1 == i) && !(q.1 + 1 == i && q.2.category == 2)))) : Lok ad lsA nL (ls.set i (some v)) := by
  refine ⟨h.1, h.2.1, fun j w hj => ?_⟩
  rw [List.getElem?_set] at hj
  by_cases e : i = j
  · subst e
    split at hj
    · split at hj
      · cases hj
        exact h.2.2 _ List.mem_cons_self
      · cases hj
    · exact absurd rfl ‹_›
  · simp only [e, if_false] at hj
    refine h.2.2 (j, cv ad w) (List.mem_cons_of_mem _ (List.mem_filter.mpr ⟨asl_mem hj, ?_⟩))
    have e1 : (j == i) = false := by simp; exact fun q => e q.symm
    simp only [e1, Bool.not_false, Bool.true_and]
    by_cases e2 : j + 1 = i
    · subst e2
      simp only [noL, hj] at hn
      have h1 : w.category = 1 := by simpa using hn
      simp [cv_cat, h1]
    · simp [e2]
theorem Lok.st2 {ad : Nat → Nat} {lsA : Array Slot} {nL i : Nat} {ls : List (Option Value)} {v : Value} (hn : noL ls i = true) (h : lv_has lsA nL ((i, cv ad v) :: (asl ad ls).filter (fun q => !(q.1 == i) && (!(q.1 == i + 1) && !(q.1 + 1 == i && q.2.category == 2))))) : Lok ad lsA nL ((ls.set i (some v)).set (i + 1) none) := by
  refine ⟨h.1, h.2.1, fun j w hj => ?_⟩
  rw [List.getElem?_set] at hj
  by_cases e0 : i + 1 = j
  · subst e0
    split at hj
    · split at hj <;> cases hj
    · exact absurd rfl ‹_›
  simp only [e0, if_false] at hj
  rw [List.getElem?_set] at hj
  by_cases e : i = j
  · subst e
    split at hj
    · split at hj
      · cases hj
        exact h.2.2 _ List.mem_cons_self
      · cases hj
    · exact absurd rfl ‹_›
  · simp only [e, if_false] at hj
    refine h.2.2 (j, cv ad w) (List.mem_cons_of_mem _ (List.mem_filter.mpr ⟨asl_mem hj, ?_⟩))
    have e1 : (j == i) = false := by simp; exact fun q => e q.symm
    have e3 : (j == i + 1) = false := by simp; exact fun q => e0 q.symm
    simp only [e1, e3, Bool.not_false, Bool.true_and]
    by_cases e2 : j + 1 = i
    · subst e2
      simp only [noL, hj] at hn
      have h1 : w.category = 1 := by simpa using hn
      simp [cv_cat, h1]
    · simp [e2]
theorem wp_istore_n {M : MD} {d : Nat} {P : Am → Prop} {pc : Nat} {ls : List (Option Value)} {st : List Value} {σ : St} {q : Fin 4} {i : Nat} {x : Int32} {ls' : List (Option Value)} (hd : decode M.2.1 pc = .ok (.istore_n q, 1)) (hi : (q : Nat) = i) (hn : i < M.2.2.1) (hz : noL ls i = true) (hs : ls.set i (some (.int x)) = ls') (k : Wp M d P (pc + 1) ls' st σ) : Wp M d P pc ls (.int x :: st) σ :=
  fun a X hP H locs lsA hW hS hl => lv_istore_n X.1 X.2.1 hd hi hl.has hn rfl (fun lsB hB => k a X hP H locs lsB hW hS (hs ▸ Lok.st1 (v := .int x) hz hB))
theorem wp_istore {M : MD} {d : Nat} {P : Am → Prop} {pc : Nat} {ls : List (Option Value)} {st : List Value} {σ : St} {i : Nat} {x : Int32} {ls' : List (Option Value)} (hd : decode M.2.1 pc = .ok (.istore i, 2)) (hn : i < M.2.2.1) (hz : noL ls i = true) (hs : ls.set i (some (.int x)) = ls') (k : Wp M d P (pc + 2) ls' st σ) : Wp M d P pc ls (.int x :: st) σ :=
  fun a X hP H locs lsA hW hS hl => lv_istore X.1 X.2.1 hd hl.has hn rfl (fun lsB hB => k a X hP H locs lsB hW hS (hs ▸ Lok.st1 (v := .int x) hz hB))
theorem wp_astore_n {M : MD} {d : Nat} {P : Am → Prop} {pc : Nat} {ls : List (Option Value)} {st : List Value} {σ : St} {q : Fin 4} {i : Nat} {x : Nat} {ls' : List (Option Value)} (hd : decode M.2.1 pc = .ok (.astore_n q, 1)) (hi : (q : Nat) = i) (hn : i < M.2.2.1) (hz : noL ls i = true) (hs : ls.set i (some (.ref x)) = ls') (k : Wp M d P (pc + 1) ls' st σ) : Wp M d P pc ls (.ref x :: st) σ :=
  fun a X hP H locs lsA hW hS hl => lv_astore_n X.1 X.2.1 hd hi hl.has hn rfl (fun lsB hB => k a X hP H locs lsB hW hS (hs ▸ Lok.st1 (v := .ref x) hz hB))
theorem wp_astore {M : MD} {d : Nat} {P : Am → Prop} {pc : Nat} {ls : List (Option Value)} {st : List Value} {σ : St} {i : Nat} {x : Nat} {ls' : List (Option Value)} (hd : decode M.2.1 pc = .ok (.astore i, 2)) (hn : i < M.2.2.1) (hz : noL ls i = true) (hs : ls.set i (some (.ref x)) = ls') (k : Wp M d P (pc + 2) ls' st σ) : Wp M d P pc ls (.ref x :: st) σ :=
  fun a X hP H locs lsA hW hS hl => lv_astore X.1 X.2.1 hd hl.has hn rfl (fun lsB hB => k a X hP H locs lsB hW hS (hs ▸ Lok.st1 (v := .ref x) hz hB))
theorem wp_lstore_n {M : MD} {d : Nat} {P : Am → Prop} {pc : Nat} {ls : List (Option Value)} {st : List Value} {σ : St} {q : Fin 4} {i : Nat} {x : Int64} {ls' : List (Option Value)} (hd : decode M.2.1 pc = .ok (.lstore_n q, 1)) (hi : (q : Nat) = i) (hn : i + 1 < M.2.2.1) (hz : noL ls i = true) (hs : (ls.set i (some (.long x))).set (i + 1) none = ls') (k : Wp M d P (pc + 1) ls' st σ) : Wp M d P pc ls (.long x :: st) σ :=
  fun a X hP H locs lsA hW hS hl => lv_lstore_n X.1 X.2.1 hd hi hl.has hn rfl (fun lsB hB => k a X hP H locs lsB hW hS (hs ▸ Lok.st2 (v := .long x) hz hB))
theorem wp_lstore {M : MD} {d : Nat} {P : Am → Prop} {pc : Nat} {ls : List (Option Value)} {st : List Value} {σ : St} {i : Nat} {x : Int64} {ls' : List (Option Value)} (hd : decode M.2.1 pc = .ok (.lstore i, 2)) (hn : i + 1 < M.2.2.1) (hz : noL ls i = true) (hs : (ls.set i (some (.long x))).set (i + 1) none = ls') (k : Wp M d P (pc + 2) ls' st σ) : Wp M d P pc ls (.long x :: st) σ :=
  fun a X hP H locs lsA hW hS hl => lv_lstore X.1 X.2.1 hd hl.has hn rfl (fun lsB hB => k a X hP H locs lsB hW hS (hs ▸ Lok.st2 (v := .long x) hz hB))
theorem wp_iinc {M : MD} {d : Nat} {P : Am → Prop} {pc : Nat} {ls : List (Option Value)} {st : List Value} {σ : St} {i : Nat} {n : Int} {x v : Int32} {ls' : List (Option Value)} (hd : decode M.2.1 pc = .ok (.iinc i n, 3)) (h : ls[i]? = some (some (.int x))) (hv : x + Int32.ofInt n = v) (hn : i < M.2.2.1) (hz : noL ls i = true) (hs : ls.set i (some (.int v)) = ls') (k : Wp M d P (pc + 3) ls' st σ) : Wp M d P pc ls st σ := by
  intro a X hP H locs lsA hW hS hl
  obtain ⟨q, hq⟩ := List.getElem?_of_mem (asl_mem (ad := a_ad a) h)
  exact lv_iinc X.1 X.2.1 hd hl.has hq hv hn rfl (fun lsB hB => k a X hP H locs lsB hW hS (hs ▸ Lok.st1 (v := .int v) hz hB))
theorem wp_if_eq {M : MD} {d : Nat} {P : Am → Prop} {pc : Nat} {ls : List (Option Value)} {st : List Value} {σ : St} {x : Int32} {off : Int} {tgt : Nat} (hd : decode M.2.1 pc = .ok (.ifCond .eq off, 3)) (ht : (pc : Int) + off = (tgt : Int)) (kt : x = 0 → Wp M d P tgt ls st σ) (kf : ¬ x = 0 → Wp M d P (pc + 3) ls st σ) : Wp M d P pc ls (.int x :: st) σ :=
  fun a X hP H locs lsA hW hS hl => lv_if_eq X.1 X.2.1 hd ht (fun h => kt h a X hP H locs lsA hW hS hl) (fun h => kf h a X hP H locs lsA hW hS hl)
theorem wp_icmp_eq {M : MD} {d : Nat} {P : Am → Prop} {pc : Nat} {ls : List (Option Value)} {st : List Value} {σ : St} {x y : Int32} {off : Int} {tgt : Nat} (hd : decode M.2.1 pc = .ok (.if_icmp .eq off, 3)) (ht : (pc : Int) + off = (tgt : Int)) (kt : x = y → Wp M d P tgt ls st σ) (kf : ¬ x = y → Wp M d P (pc + 3) ls st σ) : Wp M d P pc ls (.int y :: .int x :: st) σ :=
  fun a X hP H locs lsA hW hS hl => lv_icmp_eq X.1 X.2.1 hd ht (fun h => kt h a X hP H locs lsA hW hS hl) (fun h => kf h a X hP H locs lsA hW hS hl)
theorem wp_if_ne {M : MD} {d : Nat} {P : Am → Prop} {pc : Nat} {ls : List (Option Value)} {st : List Value} {σ : St} {x : Int32} {off : Int} {tgt : Nat} (hd : decode M.2.1 pc = .ok (.ifCond .ne off, 3)) (ht : (pc : Int) + off = (tgt : Int)) (kt : ¬ x = 0 → Wp M d P tgt ls st σ) (kf : x = 0 → Wp M d P (pc + 3) ls st σ) : Wp M d P pc ls (.int x :: st) σ :=
  fun a X hP H locs lsA hW hS hl => lv_if_ne X.1 X.2.1 hd ht (fun h => kt h a X hP H locs lsA hW hS hl) (fun h => kf h a X hP H locs lsA hW hS hl)
theorem wp_icmp_ne {M : MD} {d : Nat} {P : Am → Prop} {pc : Nat} {ls : List (Option Value)} {st : List Value} {σ : St} {x y : Int32} {off : Int} {tgt : Nat} (hd : decode M.2.1 pc = .ok (.if_icmp .ne off, 3)) (ht : (pc : Int) + off = (tgt : Int)) (kt : ¬ x = y → Wp M d P tgt ls st σ) (kf : x = y → Wp M d P (pc + 3) ls st σ) : Wp M d P pc ls (.int y :: .int x :: st) σ :=
  fun a X hP H locs lsA hW hS hl => lv_icmp_ne X.1 X.2.1 hd ht (fun h => kt h a X hP H locs lsA hW hS hl) (fun h => kf h a X hP H locs lsA hW hS hl)
theorem wp_if_lt {M : MD} {d : Nat} {P : Am → Prop} {pc : Nat} {ls : List (Option Value)} {st : List Value} {σ : St} {x : Int32} {off : Int} {tgt : Nat} (hd : decode M.2.1 pc = .ok (.ifCond .lt off, 3)) (ht : (pc : Int) + off = (tgt : Int)) (kt : x < 0 → Wp M d P tgt ls st σ) (kf : ¬ x < 0 → Wp M d P (pc + 3) ls st σ) : Wp M d P pc ls (.int x :: st) σ :=
  fun a X hP H locs lsA hW hS hl => lv_if_lt X.1 X.2.1 hd ht (fun h => kt h a X hP H locs lsA hW hS hl) (fun h => kf h a X hP H locs lsA hW hS hl)
theorem wp_icmp_lt {M : MD} {d : Nat} {P : Am → Prop} {pc : Nat} {ls : List (Option Value)} {st : List Value} {σ : St} {x y : Int32} {off : Int} {tgt : Nat} (hd : decode M.2.1 pc = .ok (.if_icmp .lt off, 3)) (ht : (pc : Int) + off = (tgt : Int)) (kt : x < y → Wp M d P tgt ls st σ) (kf : ¬ x < y → Wp M d P (pc + 3) ls st σ) : Wp M d P pc ls (.int y :: .int x :: st) σ :=
  fun a X hP H locs lsA hW hS hl => lv_icmp_lt X.1 X.2.1 hd ht (fun h => kt h a X hP H locs lsA hW hS hl) (fun h => kf h a X hP H locs lsA hW hS hl)
theorem wp_if_ge {M : MD} {d : Nat} {P : Am → Prop} {pc : Nat} {ls : List (Option Value)} {st : List Value} {σ : St} {x : Int32} {off : Int} {tgt : Nat} (hd : decode M.2.1 pc = .ok (.ifCond .ge off, 3)) (ht : (pc : Int) + off = (tgt : Int)) (kt : 0 ≤ x → Wp M d P tgt ls st σ) (kf : ¬ 0 ≤ x → Wp M d P (pc + 3) ls st σ) : Wp M d P pc ls (.int x :: st) σ :=
  fun a X hP H locs lsA hW hS hl => lv_if_ge X.1 X.2.1 hd ht (fun h => kt h a X hP H locs lsA hW hS hl) (fun h => kf h a X hP H locs lsA hW hS hl)
theorem wp_icmp_ge {M : MD} {d : Nat} {P : Am → Prop} {pc : Nat} {ls : List (Option Value)} {st : List Value} {σ : St} {x y : Int32} {off : Int} {tgt : Nat} (hd : decode M.2.1 pc = .ok (.if_icmp .ge off, 3)) (ht : (pc : Int) + off = (tgt : Int)) (kt : y ≤ x → Wp M d P tgt ls st σ) (kf : ¬ y ≤ x → Wp M d P (pc + 3) ls st σ) : Wp M d P pc ls (.int y :: .int x :: st) σ :=
  fun a X hP H locs lsA hW hS hl => lv_icmp_ge X.1 X.2.1 hd ht (fun h => kt h a X hP H locs lsA hW hS hl) (fun h => kf h a X hP H locs lsA hW hS hl)
theorem wp_if_gt {M : MD} {d : Nat} {P : Am → Prop} {pc : Nat} {ls : List (Option Value)} {st : List Value} {σ : St} {x : Int32} {off : Int} {tgt : Nat} (hd : decode M.2.1 pc = .ok (.ifCond .gt off, 3)) (ht : (pc : Int) + off = (tgt : Int)) (kt : 0 < x → Wp M d P tgt ls st σ) (kf : ¬ 0 < x → Wp M d P (pc + 3) ls st σ) : Wp M d P pc ls (.int x :: st) σ :=
  fun a X hP H locs lsA hW hS hl => lv_if_gt X.1 X.2.1 hd ht (fun h => kt h a X hP H locs lsA hW hS hl) (fun h => kf h a X hP H locs lsA hW hS hl)
theorem wp_icmp_gt {M : MD} {d : Nat} {P : Am → Prop} {pc : Nat} {ls : List (Option Value)} {st : List Value} {σ : St} {x y : Int32} {off : Int} {tgt : Nat} (hd : decode M.2.1 pc = .ok (.if_icmp .gt off, 3)) (ht : (pc : Int) + off = (tgt : Int)) (kt : y < x → Wp M d P tgt ls st σ) (kf : ¬ y < x → Wp M d P (pc + 3) ls st σ) : Wp M d P pc ls (.int y :: .int x :: st) σ :=
  fun a X hP H locs lsA hW hS hl => lv_icmp_gt X.1 X.2.1 hd ht (fun h => kt h a X hP H locs lsA hW hS hl) (fun h => kf h a X hP H locs lsA hW hS hl)
theorem wp_if_le {M : MD} {d : Nat} {P : Am → Prop} {pc : Nat} {ls : List (Option Value)} {st : List Value} {σ : St} {x : Int32} {off : Int} {tgt : Nat} (hd : decode M.2.1 pc = .ok (.ifCond .le off, 3)) (ht : (pc : Int) + off = (tgt : Int)) (kt : x ≤ 0 → Wp M d P tgt ls st σ) (kf : ¬ x ≤ 0 → Wp M d P (pc + 3) ls st σ) : Wp M d P pc ls (.int x :: st) σ :=
  fun a X hP H locs lsA hW hS hl => lv_if_le X.1 X.2.1 hd ht (fun h => kt h a X hP H locs lsA hW hS hl) (fun h => kf h a X hP H locs lsA hW hS hl)
theorem wp_icmp_le {M : MD} {d : Nat} {P : Am → Prop} {pc : Nat} {ls : List (Option Value)} {st : List Value} {σ : St} {x y : Int32} {off : Int} {tgt : Nat} (hd : decode M.2.1 pc = .ok (.if_icmp .le off, 3)) (ht : (pc : Int) + off = (tgt : Int)) (kt : x ≤ y → Wp M d P tgt ls st σ) (kf : ¬ x ≤ y → Wp M d P (pc + 3) ls st σ) : Wp M d P pc ls (.int y :: .int x :: st) σ :=
  fun a X hP H locs lsA hW hS hl => lv_icmp_le X.1 X.2.1 hd ht (fun h => kt h a X hP H locs lsA hW hS hl) (fun h => kf h a X hP H locs lsA hW hS hl)
theorem wp_goto {M : MD} {d : Nat} {P : Am → Prop} {pc : Nat} {ls : List (Option Value)} {st : List Value} {σ : St} {off : Int} {tgt : Nat} (hd : decode M.2.1 pc = .ok (.goto off, 3)) (ht : (pc : Int) + off = (tgt : Int)) (k : Wp M d P tgt ls st σ) : Wp M d P pc ls st σ :=
  fun a X hP H locs lsA hW hS hl => lv_goto X.1 X.2.1 hd ht (k a X hP H locs lsA hW hS hl)

theorem wp_tsw {M : MD} {d : Nat} {P : Am → Prop} {pc : Nat} {ls : List (Option Value)} {st : List Value} {σ : St} {dflt lo hi : Int} {offs : Array Int} {len : Nat} {x : Int32} (hd : decode M.2.1 pc = .ok (.tableswitch dflt lo hi offs, len)) (kin : ∀ (off : Int), ¬ x.toInt < lo → ¬ hi < x.toInt → offs[(x.toInt - lo).toNat]? = some off → ∃ tgt : Nat, (pc : Int) + off = (tgt : Int) ∧ Wp M d P tgt ls st σ) (hsz : ¬ x.toInt < lo → ¬ hi < x.toInt → (x.toInt - lo).toNat < offs.size) (kout : x.toInt < lo ∨ hi < x.toInt → ∃ tgt : Nat, (pc : Int) + dflt = (tgt : Int) ∧ Wp M d P tgt ls st σ) : Wp M d P pc ls (.int x :: st) σ := by
  intro a X hP H locs lsA hW hS hl
  by_cases h1 : x.toInt < lo
  · obtain ⟨tgt, ht, k⟩ := kout (Or.inl h1)
    exact lv_tableOut X.1 X.2.1 hd (Or.inl h1) ht (k a X hP H locs lsA hW hS hl)
  by_cases h2 : hi < x.toInt
  · obtain ⟨tgt, ht, k⟩ := kout (Or.inr h2)
    exact lv_tableOut X.1 X.2.1 hd (Or.inr h2) ht (k a X hP H locs lsA hW hS hl)
  have hq := hsz h1 h2
  obtain ⟨tgt, ht, k⟩ := kin _ h1 h2 (Array.getElem?_eq_getElem hq)
  exact lv_tableIn X.1 X.2.1 hd h1 h2 (Array.getElem?_eq_getElem hq) ht (k a X hP H locs lsA hW hS hl)
theorem wp_tIn {M : MD} {d : Nat} {P : Am → Prop} {pc : Nat} {ls : List (Option Value)} {st : List Value} {σ : St} {dflt lo hi : Int} {offs : Array Int} {len : Nat} {x : Int32} {off : Int} {tgt : Nat} (hd : decode M.2.1 pc = .ok (.tableswitch dflt lo hi offs, len)) (h1 : ¬ x.toInt < lo) (h2 : ¬ hi < x.toInt) (ho : offs[(x.toInt - lo).toNat]? = some off) (ht : (pc : Int) + off = (tgt : Int)) (k : Wp M d P tgt ls st σ) : Wp M d P pc ls (.int x :: st) σ :=
  fun a X hP H locs lsA hW hS hl => lv_tableIn X.1 X.2.1 hd h1 h2 ho ht (k a X hP H locs lsA hW hS hl)
theorem wp_tOut {M : MD} {d : Nat} {P : Am → Prop} {pc : Nat} {ls : List (Option Value)} {st : List Value} {σ : St} {dflt lo hi : Int} {offs : Array Int} {len : Nat} {x : Int32} {tgt : Nat} (hd : decode M.2.1 pc = .ok (.tableswitch dflt lo hi offs, len)) (h : x.toInt < lo ∨ hi < x.toInt) (ht : (pc : Int) + dflt = (tgt : Int)) (k : Wp M d P tgt ls st σ) : Wp M d P pc ls (.int x :: st) σ :=
  fun a X hP H locs lsA hW hS hl => lv_tableOut X.1 X.2.1 hd h ht (k a X hP H locs lsA hW hS hl)
theorem wp_lsw {M : MD} {d : Nat} {P : Am → Prop} {pc : Nat} {ls : List (Option Value)} {st : List Value} {σ : St} {dflt : Int} {ps : Array (Int × Int)} {len : Nat} {x : Int32} {off : Int} {tgt : Nat} (hd : decode M.2.1 pc = .ok (.lookupswitch dflt ps, len)) (hp : (ps.toList.zip (ps.toList.drop 1)).all (fun (a, next) => a.1 < next.1) = true) (ho : Op.lookupswitch.offset ps.toList dflt x.toInt = off) (ht : (pc : Int) + off = (tgt : Int)) (k : Wp M d P tgt ls st σ) : Wp M d P pc ls (.int x :: st) σ :=
  fun a X hP H locs lsA hW hS hl => lv_lookup X.1 X.2.1 hd hp ho ht (k a X hP H locs lsA hW hS hl)
end
section
/-! fields, arrays, calls, answers (written by wip/gen/rows2.py) -/
def cT (ci : Nat) : vw_C := vwCl.getD ci ("", TX0, 0)
def tT (ci : Nat) : Nat → FieldType := match ci with
  | 0 => tyX0
  | 1 => tyX1
  | 2 => tyX2
  | 3 => tyX3
  | 4 => tyX4
  | 5 => tyX5
  | 6 => tyX6
  | 7 => tyX7
  | 8 => tyX8
  | _ => tyX9
theorem cT_at {ci : Nat} (h : ci < 10) : vwCl[ci]? = some ((cT ci).1, (cT ci).2.1, (cT ci).2.2) := by
  match ci, h with
  | 0, _ => rfl
  | 1, _ => rfl
  | 2, _ => rfl
  | 3, _ => rfl
  | 4, _ => rfl
  | 5, _ => rfl
  | 6, _ => rfl
  | 7, _ => rfl
  | 8, _ => rfl
  | 9, _ => rfl
theorem cT_in {ci : Nat} (h : ci < 10) : ∀ w ∈ u_ws (cT ci).1 (cT ci).2.1 (cT ci).2.2, w ∈ gtb := by
  match ci, h with
  | 0, _ => exact inX0
  | 1, _ => exact inX1
  | 2, _ => exact inX2
  | 3, _ => exact inX3
  | 4, _ => exact inX4
  | 5, _ => exact inX5
  | 6, _ => exact inX6
  | 7, _ => exact inX7
  | 8, _ => exact inX8
  | 9, _ => exact inX9
theorem cT_nm {ci : Nat} (h : ci < 10) : ∀ a, a < (cT ci).2.2 → ∀ b, b < (cT ci).2.2 → a ≠ b → ((cT ci).2.1 a).2.1 ≠ ((cT ci).2.1 b).2.1 := by
  match ci, h with
  | 0, _ => exact nmX0
  | 1, _ => exact nmX1
  | 2, _ => exact nmX2
  | 3, _ => exact nmX3
  | 4, _ => exact nmX4
  | 5, _ => exact nmX5
  | 6, _ => exact nmX6
  | 7, _ => exact nmX7
  | 8, _ => exact nmX8
  | 9, _ => exact nmX9
theorem cT_ty {ci : Nat} (h : ci < 10) : ∀ k, k < (cT ci).2.2 → parseFieldDescriptor ((cT ci).2.1 k).2.2.1 = some (tT ci k) := by
  match ci, h with
  | 0, _ => exact tyX0_ok
  | 1, _ => exact tyX1_ok
  | 2, _ => exact tyX2_ok
  | 3, _ => exact tyX3_ok
  | 4, _ => exact tyX4_ok
  | 5, _ => exact tyX5_ok
  | 6, _ => exact tyX6_ok
  | 7, _ => exact tyX7_ok
  | 8, _ => exact tyX8_ok
  | 9, _ => exact tyX9_ok
def FL (own : String) (idx ci j : Nat) : Prop := ci < 10 ∧ j < (cT ci).2.2 ∧ ((cT ci).2.1 j).1 = (cT ci).1 ∧ (Cond.fieldLink own idx (cT ci).1 ((cT ci).2.1 j).2.1 ((cT ci).2.1 j).2.2.1 ∈ gtb ∨ ∃ host : String, Cond.fieldLinkNest own idx (cT ci).1 ((cT ci).2.1 j).2.1 ((cT ci).2.1 j).2.2.1 host ∈ ntb)
theorem va_W_get {M : MD} {d : Nat} {P : Am → Prop} {pc : Nat} {ls : List (Option Value)} {st : List Value} {σ : St} {idx g j ci kd : Nat} {v : Value} (hd : decode M.2.1 pc = .ok (.getfield idx, 3)) (hl : FL M.1.cls idx ci j) (hc : clO g = ci) (hk : kdO g j = some kd) (hv : ∀ ad, fv ad σ g j kd = cv ad v) (k : Wp M d P (pc + 3) ls (v :: st) σ) : Wp M d P pc ls (.ref g :: st) σ := by
  intro a X hP H locs lsA hW hS hlo
  obtain ⟨hci, hj, hsame, hlk⟩ := hl
  obtain ⟨ci', ks, hs, hks, e⟩ := kdO_sp hk
  obtain rfl : ci = ci' := hc.symm.trans e
  have hfs : (ks.mapIdx (fun j kd => fv (a_ad a) σ g j kd))[j]? = some (cv (a_ad a) v) := by rw [List.getElem?_mapIdx, hks, ← hv]; rfl
  have X2 := X
  obtain ⟨hx, hb, hml, hown, hts, hN, hK, -⟩ := X2
  rcases hlk with hlk | ⟨host, hlk⟩
  · exact va_get hx hb hts (cT_in hci) hown hK hW g (get_o hs) (cT_at hci) j hj (hts _ hlk) (fun x h => by rw [← hsame]; exact h) hfs hd (k a X hP H locs lsA hW hS hlo)
  · exact va_getN hx hb hts (cT_in hci) hown hK hW g (get_o hs) (cT_at hci) j hj ((hN _ hlk).use rfl) (fun x h => by rw [← hsame]; exact h) hfs hd (k a X hP H locs lsA hW hS hlo)
theorem wp_getI {M : MD} {d : Nat} {P : Am → Prop} {pc : Nat} {ls : List (Option Value)} {st : List Value} {σ : St} {idx g j ci : Nat} (hd : decode M.2.1 pc = .ok (.getfield idx, 3)) (hl : FL M.1.cls idx ci j) (hc : clO g = ci) (hk : kdO g j = some 0) (k : Wp M d P (pc + 3) ls (.int (σ.1 g j) :: st) σ) : Wp M d P pc ls (.ref g :: st) σ := va_W_get hd hl hc hk (fun _ => rfl) k
theorem wp_getJ {M : MD} {d : Nat} {P : Am → Prop} {pc : Nat} {ls : List (Option Value)} {st : List Value} {σ : St} {idx g j ci : Nat} (hd : decode M.2.1 pc = .ok (.getfield idx, 3)) (hl : FL M.1.cls idx ci j) (hc : clO g = ci) (hk : kdO g j = some 1) (k : Wp M d P (pc + 3) ls (.long (σ.2.1 g j) :: st) σ) : Wp M d P pc ls (.ref g :: st) σ := va_W_get hd hl hc hk (fun _ => rfl) k
theorem wp_getR {M : MD} {d : Nat} {P : Am → Prop} {pc : Nat} {ls : List (Option Value)} {st : List Value} {σ : St} {idx g j ci t : Nat} (hd : decode M.2.1 pc = .ok (.getfield idx, 3)) (hl : FL M.1.cls idx ci j) (hc : clO g = ci) (hk : kdO g j = some (t + 3)) (k : Wp M d P (pc + 3) ls (.ref t :: st) σ) : Wp M d P pc ls (.ref g :: st) σ := va_W_get hd hl hc hk (fun _ => rfl) k
theorem wp_getD {M : MD} {d : Nat} {P : Am → Prop} {pc : Nat} {ls : List (Option Value)} {st : List Value} {σ : St} {idx g j ci q : Nat} (hd : decode M.2.1 pc = .ok (.getfield idx, 3)) (hl : FL M.1.cls idx ci j) (hc : clO g = ci) (hk : kdO g j = some 2) (hq : σ.2.2 = some q) (k : Wp M d P (pc + 3) ls (.ref q :: st) σ) : Wp M d P pc ls (.ref g :: st) σ := va_W_get hd hl hc hk (fun ad => by simp [fv, hq, va_rf, cv]) k
theorem va_W_put {M : MD} {d : Nat} {P : Am → Prop} {pc : Nat} {ls : List (Option Value)} {st : List Value} {σ : St} {idx g j ci kd : Nat} {v : Value} {σ1 : St} (hd : decode M.2.1 pc = .ok (.putfield idx, 3)) (hl : FL M.1.cls idx ci j) (hc : clO g = ci) (hk : kdO g j = some kd) (hfin : ((cT ci).2.1 j).2.2.2 = false) (hn : ∀ ad, narrow (tT ci j) (cv ad v) = cv ad v) (hfit : ∀ ad, fits (tT ci j) (cv ad v) = true)
    (hset : ∀ ad ca ks, shp[g]? = some (0, ci, ks) → ks[j]? = some kd → (wld ad ca σ).set g (ad g, .inr (ci, (ks.mapIdx (fun j kd => fv ad σ g j kd)).set j (cv ad v))) = wld ad ca σ1) (k : Wp M d P (pc + 3) ls st σ1) : Wp M d P pc ls (v :: .ref g :: st) σ := by
  intro a X hP H locs lsA hW hS hlo
  obtain ⟨hci, hj, hsame, hlk⟩ := hl
  obtain ⟨ci', ks, hs, hks, e⟩ := kdO_sp hk
  obtain rfl : ci = ci' := hc.symm.trans e
  have hlen : j < (ks.mapIdx (fun j kd => fv (a_ad a) σ g j kd)).length := by rw [List.length_mapIdx]; exact (List.getElem?_eq_some_iff.mp hks).1
  have hD := X.D σ
  have hse := hset (a_ad a) (a_ca a) ks hs hks
  have X2 := X
  obtain ⟨hx, hb, hml, hown, hts, hN, hK, -⟩ := X2
  rcases hlk with hlk | ⟨host, hlk⟩
  · exact va_put hx hb hts (cT_in hci) (tT ci) (cT_ty hci) (cT_nm hci) hown hK hW hD hS g (get_o hs) (cT_at hci) j hj (hts _ hlk) (fun x h => by rw [← hsame]; exact h) hfin (cT_ty hci j hj) (hn _) (hfit _) hlen hd (fun H1 locs1 h1 _ h3 => k a X hP H1 locs1 lsA (hse ▸ h1) h3 hlo)
  · exact va_putN hx hb hts (cT_in hci) (tT ci) (cT_ty hci) (cT_nm hci) hown hK hW hD hS g (get_o hs) (cT_at hci) j hj ((hN _ hlk).use rfl) (fun x h => by rw [← hsame]; exact h) hfin (cT_ty hci j hj) (hn _) (hfit _) hlen hd (fun H1 locs1 h1 _ h3 => k a X hP H1 locs1 lsA (hse ▸ h1) h3 hlo)
theorem wp_putI {M : MD} {d : Nat} {P : Am → Prop} {pc : Nat} {ls : List (Option Value)} {st : List Value} {σ : St} {idx g j ci : Nat} {v : Int32} (hd : decode M.2.1 pc = .ok (.putfield idx, 3)) (hl : FL M.1.cls idx ci j) (hc : clO g = ci) (hk : kdO g j = some 0) (hfin : ((cT ci).2.1 j).2.2.2 = false) (hty : tT ci j = .int) (k : Wp M d P (pc + 3) ls st (sF σ g j v)) : Wp M d P pc ls (.int v :: .ref g :: st) σ :=
  va_W_put hd hl hc hk hfin (fun _ => by rw [hty]; rfl) (fun _ => by rw [hty]; rfl) (fun ad ca ks h1 h2 => set_i h1 h2 v) k
theorem narrow_z {v : Int32} (h : v = 0 ∨ v = 1) : narrow .boolean (.int v) = .int v ∧ fits .boolean (.int v) = true := by rcases h with rfl | rfl <;> exact ⟨by decide +kernel, by decide +kernel⟩
theorem wp_putZ {M : MD} {d : Nat} {P : Am → Prop} {pc : Nat} {ls : List (Option Value)} {st : List Value} {σ : St} {idx g j ci : Nat} {v : Int32} (hd : decode M.2.1 pc = .ok (.putfield idx, 3)) (hl : FL M.1.cls idx ci j) (hc : clO g = ci) (hk : kdO g j = some 0) (hfin : ((cT ci).2.1 j).2.2.2 = false) (hty : tT ci j = .boolean) (hz : v = 0 ∨ v = 1) (k : Wp M d P (pc + 3) ls st (sF σ g j v)) : Wp M d P pc ls (.int v :: .ref g :: st) σ :=
  va_W_put hd hl hc hk hfin (fun _ => by rw [hty]; exact (narrow_z hz).1) (fun _ => by rw [hty]; exact (narrow_z hz).2) (fun ad ca ks h1 h2 => set_i h1 h2 v) k
theorem wp_putJ {M : MD} {d : Nat} {P : Am → Prop} {pc : Nat} {ls : List (Option Value)} {st : List Value} {σ : St} {idx g j ci : Nat} {v : Int64} (hd : decode M.2.1 pc = .ok (.putfield idx, 3)) (hl : FL M.1.cls idx ci j) (hc : clO g = ci) (hk : kdO g j = some 1) (hfin : ((cT ci).2.1 j).2.2.2 = false) (hty : tT ci j = .long) (k : Wp M d P (pc + 3) ls st (sL σ g j v)) : Wp M d P pc ls (.long v :: .ref g :: st) σ :=
  va_W_put hd hl hc hk hfin (fun _ => by rw [hty]; rfl) (fun _ => by rw [hty]; rfl) (fun ad ca ks h1 h2 => set_l h1 h2 v) k
theorem wp_putD {M : MD} {d : Nat} {P : Am → Prop} {pc : Nat} {ls : List (Option Value)} {st : List Value} {σ : St} {idx g j ci q : Nat} (hd : decode M.2.1 pc = .ok (.putfield idx, 3)) (hl : FL M.1.cls idx ci j) (hc : clO g = ci) (hk : kdO g j = some 2) (hfin : ((cT ci).2.1 j).2.2.2 = false) (hty : tT ci j = .array .int) (k : Wp M d P (pc + 3) ls st (sD σ q)) : Wp M d P pc ls (.ref q :: .ref g :: st) σ :=
  va_W_put hd hl hc hk hfin (fun _ => by rw [hty]; rfl) (fun _ => by rw [hty]; rfl) (fun ad ca ks h1 h2 => set_d h1 h2 q) k
/-! arrays -/
def inB (i : Int32) (n : Nat) : Bool := decide (0 ≤ i) && decide (i.toNatClampNeg < n)
theorem inB_vp {i : Int32} {n : Nat} (h : inB i n = true) : vp_in i n := by
  simp only [inB, Bool.and_eq_true, decide_eq_true_eq] at h
  rintro (q | q)
  · exact absurd h.1 (by rw [Int32.le_iff_toInt_le]; rw [Int32.lt_iff_toInt_lt] at q; omega)
  · omega
def aI (σ : St) (k : Nat) (i : Int32) : Option Int32 := if arT k = 1 ∧ inB i (arN k) = true then some (σ.1 k i.toNatClampNeg) else none
def aB (σ : St) (k : Nat) (i : Int32) : Option Int32 := if arT k = 2 ∧ inB i (arN k) = true then some (σ.1 k i.toNatClampNeg) else none
def aJ (σ : St) (k : Nat) (i : Int32) : Option Int64 := if arT k = 3 ∧ inB i (arN k) = true then some (σ.2.1 k i.toNatClampNeg) else none
def pI (σ : St) (k : Nat) (i v : Int32) : Option St := if arT k = 1 ∧ inB i (arN k) = true then some (sF σ k i.toNatClampNeg v) else none
def pB (σ : St) (k : Nat) (i v : Int32) : Option St := if arT k = 2 ∧ inB i (arN k) = true then some (sF σ k i.toNatClampNeg (vp_nar .byte v)) else none
def pJ (σ : St) (k : Nat) (i : Int32) (v : Int64) : Option St := if arT k = 3 ∧ inB i (arN k) = true then some (sL σ k i.toNatClampNeg v) else none
def aLen (k : Nat) : Option Int32 := if arT k = 1 then some (Int32.ofNat (arN k)) else none
def cpOK (i j n : Int32) (a b : Nat) : Bool := decide (0 ≤ i) && decide (0 ≤ j) && decide (0 ≤ n) && decide (i.toNatClampNeg + n.toNatClampNeg ≤ arN a) && decide (j.toNatClampNeg + n.toNatClampNeg ≤ arN b)
def cpI (σ : St) (a : Nat) (i : Int32) (b : Nat) (j n : Int32) : Option St := if (arT a = 1 ∧ arT b = 1) ∧ cpOK i j n a b = true then some (sRow σ b (va_cpy (σ.1 a) (σ.1 b) i.toNatClampNeg j.toNatClampNeg n.toNatClampNeg)) else none
def cpJ (σ : St) (a : Nat) (i : Int32) (b : Nat) (j n : Int32) : Option St := if (arT a = 3 ∧ arT b = 3) ∧ cpOK i j n a b = true then some (sRowL σ b (va_cpy (σ.2.1 a) (σ.2.1 b) i.toNatClampNeg j.toNatClampNeg n.toNatClampNeg)) else none
theorem ite_sm {c : Prop} [Decidable c] {α : Type} {x : α} {r : α} (h : (if c then some x else none) = some r) : c ∧ x = r := by
  by_cases hc : c
  · rw [if_pos hc] at h
    exact ⟨hc, Option.some.inj h⟩
  · rw [if_neg hc] at h
    cases h
theorem tyOK.at {ca : Nat → ClassId} {tys : List (ClassId × FieldType)} (h : tyOK ca tys) {k t : Nat} (hk : arT k = t) (h0 : t ≠ 0) : ∃ t0 : Nat, tys[t0]? = some (ca k, tyc t) := by
  have h1 := h k (by rw [hk]; exact h0)
  rwa [hk] at h1
theorem wp_aI {M : MD} {d : Nat} {P : Am → Prop} {pc : Nat} {ls : List (Option Value)} {st : List Value} {σ : St} {q : Nat} {i x : Int32} (hd : decode M.2.1 pc = .ok (.iaload, 1)) (h : aI σ q i = some x) (k : Wp M d P (pc + 1) ls (.int x :: st) σ) : Wp M d P pc ls (.int i :: .ref q :: st) σ := by
  intro a X hP H locs lsA hW hS hlo
  obtain ⟨⟨h1, h2⟩, rfl⟩ := ite_sm h
  have X2 := X
  obtain ⟨hx, hb, hml, hown, hts, hN, hK, hT, -⟩ := X2
  obtain ⟨t0, ht⟩ := hT.at h1 (by decide)
  exact va_iald hx hb hK hW q t0 (get_ai h1 (Or.inl rfl)) ht (inB_vp h2) hd (k a X hP H locs lsA hW hS hlo)
theorem wp_aB {M : MD} {d : Nat} {P : Am → Prop} {pc : Nat} {ls : List (Option Value)} {st : List Value} {σ : St} {q : Nat} {i x : Int32} (hd : decode M.2.1 pc = .ok (.baload, 1)) (h : aB σ q i = some x) (k : Wp M d P (pc + 1) ls (.int x :: st) σ) : Wp M d P pc ls (.int i :: .ref q :: st) σ := by
  intro a X hP H locs lsA hW hS hlo
  obtain ⟨⟨h1, h2⟩, rfl⟩ := ite_sm h
  have X2 := X
  obtain ⟨hx, hb, hml, hown, hts, hN, hK, hT, -⟩ := X2
  obtain ⟨t0, ht⟩ := hT.at h1 (by decide)
  exact va_bald hx hb hK hW q t0 (get_ai h1 (Or.inr rfl)) ht (inB_vp h2) hd (k a X hP H locs lsA hW hS hlo)
theorem wp_aJ {M : MD} {d : Nat} {P : Am → Prop} {pc : Nat} {ls : List (Option Value)} {st : List Value} {σ : St} {q : Nat} {i : Int32} {x : Int64} (hd : decode M.2.1 pc = .ok (.laload, 1)) (h : aJ σ q i = some x) (k : Wp M d P (pc + 1) ls (.long x :: st) σ) : Wp M d P pc ls (.int i :: .ref q :: st) σ := by
  intro a X hP H locs lsA hW hS hlo
  obtain ⟨⟨h1, h2⟩, rfl⟩ := ite_sm h
  have X2 := X
  obtain ⟨hx, hb, hml, hown, hts, hN, hK, hT, -⟩ := X2
  obtain ⟨t0, ht⟩ := hT.at h1 (by decide)
  exact va_lald hx hb hK hW q t0 (get_al h1) ht (inB_vp h2) hd (k a X hP H locs lsA hW hS hlo)
theorem wp_pI {M : MD} {d : Nat} {P : Am → Prop} {pc : Nat} {ls : List (Option Value)} {st : List Value} {σ : St} {q : Nat} {i v : Int32} {σ1 : St} (hd : decode M.2.1 pc = .ok (.iastore, 1)) (h : pI σ q i v = some σ1) (k : Wp M d P (pc + 1) ls st σ1) : Wp M d P pc ls (.int v :: .int i :: .ref q :: st) σ := by
  intro a X hP H locs lsA hW hS hlo
  obtain ⟨⟨h1, h2⟩, rfl⟩ := ite_sm h
  have hD := X.D σ
  have X2 := X
  obtain ⟨hx, hb, hml, hown, hts, hN, hK, hT, -⟩ := X2
  obtain ⟨t0, ht⟩ := hT.at h1 (by decide)
  refine va_iast hx hb hK hW hD hS q t0 (get_ai h1 (Or.inl rfl)) ht (inB_vp h2) hd (fun H1 locs1 g1 _ g3 => k a X hP H1 locs1 lsA ?_ g3 hlo)
  rw [set_ai h1 (Or.inl rfl), sRow_upd] at g1
  exact g1
theorem wp_pB {M : MD} {d : Nat} {P : Am → Prop} {pc : Nat} {ls : List (Option Value)} {st : List Value} {σ : St} {q : Nat} {i v : Int32} {σ1 : St} (hd : decode M.2.1 pc = .ok (.bastore, 1)) (h : pB σ q i v = some σ1) (k : Wp M d P (pc + 1) ls st σ1) : Wp M d P pc ls (.int v :: .int i :: .ref q :: st) σ := by
  intro a X hP H locs lsA hW hS hlo
  obtain ⟨⟨h1, h2⟩, rfl⟩ := ite_sm h
  have hD := X.D σ
  have X2 := X
  obtain ⟨hx, hb, hml, hown, hts, hN, hK, hT, -⟩ := X2
  obtain ⟨t0, ht⟩ := hT.at h1 (by decide)
  refine va_bast hx hb hK hW hD hS q t0 (get_ai h1 (Or.inr rfl)) ht (inB_vp h2) hd (fun H1 locs1 g1 _ g3 => k a X hP H1 locs1 lsA ?_ g3 hlo)
  rw [set_ai h1 (Or.inr rfl), sRow_upd] at g1
  exact g1
theorem wp_pJ {M : MD} {d : Nat} {P : Am → Prop} {pc : Nat} {ls : List (Option Value)} {st : List Value} {σ : St} {q : Nat} {i : Int32} {v : Int64} {σ1 : St} (hd : decode M.2.1 pc = .ok (.lastore, 1)) (h : pJ σ q i v = some σ1) (k : Wp M d P (pc + 1) ls st σ1) : Wp M d P pc ls (.long v :: .int i :: .ref q :: st) σ := by
  intro a X hP H locs lsA hW hS hlo
  obtain ⟨⟨h1, h2⟩, rfl⟩ := ite_sm h
  have hD := X.D σ
  have X2 := X
  obtain ⟨hx, hb, hml, hown, hts, hN, hK, hT, -⟩ := X2
  obtain ⟨t0, ht⟩ := hT.at h1 (by decide)
  refine va_last hx hb hK hW hD hS q t0 (get_al h1) ht (inB_vp h2) hd (fun H1 locs1 g1 _ g3 => k a X hP H1 locs1 lsA ?_ g3 hlo)
  rw [set_al h1, sRowL_upd] at g1
  exact g1
theorem wp_aLen {M : MD} {d : Nat} {P : Am → Prop} {pc : Nat} {ls : List (Option Value)} {st : List Value} {σ : St} {q : Nat} {x : Int32} (hd : decode M.2.1 pc = .ok (.arraylength, 1)) (h : aLen q = some x) (k : Wp M d P (pc + 1) ls (.int x :: st) σ) : Wp M d P pc ls (.ref q :: st) σ := by
  intro a X hP H locs lsA hW hS hlo
  obtain ⟨h1, rfl⟩ := ite_sm h
  have X2 := X
  obtain ⟨hx, hb, hml, hown, hts, hN, hK, hT, -⟩ := X2
  obtain ⟨t0, ht⟩ := hT.at h1 (by decide)
  exact va_alen hx hb hK hW q t0 (get_ai h1 (Or.inl rfl)) ht rfl hd (k a X hP H locs lsA hW hS hlo)
def cpW (own : String) (idx : Nat) : Prop := Cond.methodLink own idx arraycopyName ∈ gtb
theorem nneg {i : Int32} (h : 0 ≤ i) : ¬ i < 0 := by rw [Int32.le_iff_toInt_le] at h; rw [Int32.lt_iff_toInt_lt]; omega
theorem cat_map (ad : Nat → Nat) (st : List Value) : ((st.map (cv ad)).map fun v => v.category).sum = (st.map fun v => v.category).sum := by
  rw [List.map_map]
  congr 1
  exact List.map_congr_left (fun v _ => cv_cat ad v)

theorem cp_nat : Cond.native arraycopyName ∈ gtb ∧ Cond.static arraycopyName ∈ gtb ∧ Cond.initialized "java/lang/System" ∈ gtb := ⟨mem_tb 396 (by decide +kernel) rfl, mem_tb 395 (by decide +kernel) rfl, mem_tb 12 (by decide +kernel) rfl⟩
theorem wp_cpI {M : MD} {d : Nat} {P : Am → Prop} {pc : Nat} {ls : List (Option Value)} {st : List Value} {σ : St} {idx q0 q1 : Nat} {i j n : Int32} {σ1 : St} (hd : decode M.2.1 pc = .ok (.invokestatic idx, 3)) (hl : cpW M.1.cls idx) (h : cpI σ q0 i q1 j n = some σ1) (h1d : 1 ≤ d) (hr : (st.map fun v => v.category).sum ≤ 8) (k : Wp M d P (pc + 3) ls st σ1) : Wp M d P pc ls (.int n :: .int j :: .ref q1 :: .int i :: .ref q0 :: st) σ := by
  intro a X hP H locs lsA hW hS hlo
  obtain ⟨⟨⟨h1, h2⟩, h3⟩, rfl⟩ := ite_sm h
  simp only [cpOK, Bool.and_eq_true, decide_eq_true_eq] at h3
  obtain ⟨⟨⟨⟨c1, c2⟩, c3⟩, c4⟩, c5⟩ := h3
  have hD := X.D σ
  have X2 := X
  obtain ⟨hx, hb, hml, hown, hts, hN, hK, hT, -, -, -, hf1, hf2, -⟩ := X2
  obtain ⟨t0, ht⟩ := hT.at h1 (by decide)
  obtain ⟨t1, ht1⟩ := hT.at h2 (by decide)
  have hwords : nativeFrameWords "java/lang/System" "arraycopy" 5 + 11 ≤ 52 := by decide +kernel
  refine va_copyi hx hb (hml.trans hlo.1.symm) hown (hts _ hl) (hts _ cp_nat.1) (hts _ cp_nat.2.1) (hts _ cp_nat.2.2) hK hW hD hS q0 q1 t0 t1 (get_ai h1 (Or.inl rfl)) (get_ai h2 (Or.inl rfl)) ht ht1 rfl (nneg c1) (nneg c2) (nneg c3) c4 c5 (fun _ _ => rfl) (by omega) (by rw [cat_map]; omega) hd (fun H1 locs1 g1 _ g3 => k a X hP H1 locs1 lsA ?_ g3 hlo)
  rw [set_ai h2 (Or.inl rfl)] at g1
  exact g1
theorem wp_cpJ {M : MD} {d : Nat} {P : Am → Prop} {pc : Nat} {ls : List (Option Value)} {st : List Value} {σ : St} {idx q0 q1 : Nat} {i j n : Int32} {σ1 : St} (hd : decode M.2.1 pc = .ok (.invokestatic idx, 3)) (hl : cpW M.1.cls idx) (h : cpJ σ q0 i q1 j n = some σ1) (h1d : 1 ≤ d) (hr : (st.map fun v => v.category).sum ≤ 8) (k : Wp M d P (pc + 3) ls st σ1) : Wp M d P pc ls (.int n :: .int j :: .ref q1 :: .int i :: .ref q0 :: st) σ := by
  intro a X hP H locs lsA hW hS hlo
  obtain ⟨⟨⟨h1, h2⟩, h3⟩, rfl⟩ := ite_sm h
  simp only [cpOK, Bool.and_eq_true, decide_eq_true_eq] at h3
  obtain ⟨⟨⟨⟨c1, c2⟩, c3⟩, c4⟩, c5⟩ := h3
  have hD := X.D σ
  have X2 := X
  obtain ⟨hx, hb, hml, hown, hts, hN, hK, hT, -, -, -, hf1, hf2, -⟩ := X2
  obtain ⟨t0, ht⟩ := hT.at h1 (by decide)
  obtain ⟨t1, ht1⟩ := hT.at h2 (by decide)
  have hwords : nativeFrameWords "java/lang/System" "arraycopy" 5 + 11 ≤ 52 := by decide +kernel
  refine va_copyl hx hb (hml.trans hlo.1.symm) hown (hts _ hl) (hts _ cp_nat.1) (hts _ cp_nat.2.1) (hts _ cp_nat.2.2) hK hW hD hS q0 q1 t0 t1 (get_al h1) (get_al h2) ht ht1 rfl (nneg c1) (nneg c2) (nneg c3) c4 c5 (fun _ _ => rfl) (by omega) (by rw [cat_map]; omega) hd (fun H1 locs1 g1 _ g3 => k a X hP H1 locs1 lsA ?_ g3 hlo)
  rw [set_al h2] at g1
  exact g1
/-! answers -/
theorem wp_iret {M : MD} {d : Nat} {pc : Nat} {ls : List (Option Value)} {σ : St} {v : Int32} {ty : FieldType} (hd : decode M.2.1 pc = .ok (.ireturn, 1)) (hr : M.2.2.2 = some ty) (hn : narrow ty (.int v) = .int v) : Wp M d (PR (some (.int v)) σ) pc ls [.int v] σ := by
  intro a X hP H locs lsA hW hS hlo
  obtain ⟨hx, hb, hml, hown, hts, hN, hK, hT, -, -, -, -, -, -, -, hret, hlocks⟩ := X
  obtain ⟨hQ, h0⟩ := hP
  rw [hQ]
  rw [h0] at hS
  exact W.zret hx hb (hret.trans hr) hn (fun t ht _ => ⟨rfl, by rw [ht]; exact hW, hS.F ht⟩) hS.2.2 hd hlocks
theorem wp_lret {M : MD} {d : Nat} {pc : Nat} {ls : List (Option Value)} {σ : St} {v : Int64} (hd : decode M.2.1 pc = .ok (.lreturn, 1)) (hr : M.2.2.2 = some .long) : Wp M d (PR (some (.long v)) σ) pc ls [.long v] σ := by
  intro a X hP H locs lsA hW hS hlo
  obtain ⟨hx, hb, hml, hown, hts, hN, hK, hT, -, -, -, -, -, -, -, hret, hlocks⟩ := X
  obtain ⟨hQ, h0⟩ := hP
  rw [hQ]
  rw [h0] at hS
  exact W.lret hx hb (hret.trans hr) (fun t ht _ => ⟨rfl, by rw [ht]; exact hW, hS.F ht⟩) hS.2.2 hd hlocks
theorem wp_vret {M : MD} {d : Nat} {pc : Nat} {ls : List (Option Value)} {σ : St} (hd : decode M.2.1 pc = .ok (.return_, 1)) (hr : M.2.2.2 = none) : Wp M d (PR none σ) pc ls [] σ := by
  intro a X hP H locs lsA hW hS hlo
  obtain ⟨hx, hb, hml, hown, hts, hN, hK, hT, -, -, -, -, -, -, -, hret, hlocks⟩ := X
  obtain ⟨hQ, h0⟩ := hP
  rw [hQ]
  rw [h0] at hS
  exact W.vret hx hb (hret.trans hr) (fun t ht _ => ⟨rfl, by rw [ht]; exact hW, hS.F ht⟩) hS.2.2 hd hlocks
theorem wp_aret {M : MD} {d : Nat} {pc : Nat} {ls : List (Option Value)} {σ : St} {q : Nat} {C : String} (hd : decode M.2.1 pc = .ok (.areturn, 1)) (hr : M.2.2.2 = some (.object C)) : Wp M d (PR (some (.ref q)) σ) pc ls [.ref q] σ := by
  intro a X hP H locs lsA hW hS hlo
  obtain ⟨hx, hb, hml, hown, hts, hN, hK, hT, -, -, -, -, -, -, -, hret, hlocks⟩ := X
  obtain ⟨hQ, h0⟩ := hP
  rw [hQ]
  rw [h0] at hS
  exact W.aret hx hb (hret.trans hr) (Or.inl ⟨C, rfl⟩) (Or.inr ⟨_, rfl⟩) (fun t ht _ => ⟨rfl, by rw [ht]; exact hW, hS.F ht⟩) hS.2.2 hd hlocks
/-! calls -/
theorem gtb_good : ∀ w ∈ gtb, (w.onTables && w.keeps) = true ∨ ∃ ty, w = .arrayClass ty := fun w hw => good_of_word (List.mem_filter.mp hw).2
def MOk (N : MD) (n : Nat) : Prop := Cond.code N.1 N.2.1 N.2.2.1 N.2.2.2 ∈ gtb ∧ Cond.initialized N.1.cls ∈ gtb ∧ (N.1.cls ≠ "java/lang/invoke/MethodHandle" ∧ N.1.cls ≠ "java/lang/invoke/VarHandle" ∧ (parseMethodDescriptor N.1.desc).map (fun d => d.parameters.length) = some n) ∧ N.2.2.1 ≤ 41
theorem MOk.good {N : MD} {n : Nat} (h : MOk N n) : GoodIn gtb (wsM N) := by
  intro w hw
  have hm : w ∈ gtb := by
    rcases List.mem_cons.mp hw with rfl | q
    · exact h.1
    · exact q
  exact ⟨hm, gtb_good w hm⟩
def ML (own : String) (idx : Nat) (y : MethodName) : Prop := Cond.methodLink own idx y ∈ gtb ∨ ∃ host : String, Cond.methodLinkNest own idx y host ∈ ntb
def VOk (y : MethodName) (ci : Nat) : Prop := Cond.instanceMethod y ∈ gtb ∧ Cond.selects y.cls y y ∈ gtb ∧ ci < 10 ∧ (cT ci).1 = y.cls
theorem Pcv.blind {D : va_G} {ad : Nat → Nat} {ca : Nat → ClassId} {tys : List (ClassId × FieldType)} {sz : Nat} {vs : List Value} {σ : St} : FrameBlind (Pcv D ad ca tys sz vs σ) :=
  fun v U g mk q => ⟨q.1, q.2.1, q.2.2.1, va_K.moved (u := U) (U := U.calling g mk v) (Vm.Alike.refl U.vm) q.2.2.2.1, nOK.same (u := U) (U := U.calling g mk v) rfl q.2.2.2.2⟩
theorem wp_run {M : MD} {d : Nat} {P : Am → Prop} {pc : Nat} {ls : List (Option Value)} {rest : List Value} {r : Option Value} {σ1 : St} {a : Am} (X : Cx M d a) (hP : P a) {H : Heap} {locs : List Loc} {lsA : Array Slot} {st0 : List Value} {av : Array Value}
    (hr : va_Run (a_p a) (a_l a) (a_e a) (a_R a) (a_s a) (a_m a) (a_args a) (a_below a) (a_meth a) (a_c a) H locs (a_cells a) (a_slots a) 0 0 (F0 (a_m a) pc lsA st0) (rest.map (cv (a_ad a))) (Qcv (Aw (a_ad a) H.size) (a_D a) (a_ad a) (a_ca a) r σ1 av) (Aw (a_ad a) H.size))
    (hS : va_S (a_A a) (a_H0 a) H locs) (hlo : Lok (a_ad a) lsA M.2.2.1 ls) (k : Wp M d P (pc + 3) ls (r.toList ++ rest) σ1) : W (a_p a) (a_l a) (a_e a) (a_R a) (a_s a) (a_m a) (a_args a) (a_below a) (a_meth a) (a_c a) H locs (a_cells a) (a_slots a) (a_Q a) (F0 (a_m a) pc lsA st0) := by
  have X2 := X
  obtain ⟨hx, hb, hml, hown, hts, hN, hK, hT, hin, hA1, hA2, -⟩ := X2
  have hAw : ∀ q, Aw (a_ad a) H.size q → a_A a q := by
    rintro q (⟨j, hj, rfl⟩ | h)
    · exact hA1 j hj
    · exact hA2 q (Nat.le_trans hS.1 h)
  intro T hT X1
  obtain ⟨v, st₀, t, T', L, h0, X', hL, e1, e2, ⟨hv, hp, hz, hk⟩, stp⟩ := hr T hT X1
  cases hv
  rw [h0] at hz hk
  have hS' : va_S (a_A a) (a_H0 a) T'.heap (locs ++ L) := ⟨Nat.le_trans hS.1 (by rw [e1]; exact hz), fun q h1 h2 => by rw [e1, hk q (Nat.lt_of_lt_of_le h1 hS.1) (fun z => h2 (hAw q z))]; exact hS.2.1 q h1 h2, fun q hq => by
      rcases List.mem_append.mp hq with h | h
      · exact hS.2.2 q h
      · exact hAw _ (hL q h)⟩
  have kk := k a X hP T'.heap (locs ++ L) lsA (by rw [e1]; exact hp) hS' hlo
  have e3 : (r.toList ++ rest).map (cv (a_ad a)) = (r.map (cv (a_ad a))).toList ++ rest.map (cv (a_ad a)) := by cases r <;> rfl
  rw [e3] at kk
  obtain ⟨t2, a1, b1⟩ := kk T' rfl X'
  exact ⟨t2, stp t2 a1, b1⟩
theorem wp_cV {M : MD} {d : Nat} {P : Am → Prop} {pc : Nat} {ls : List (Option Value)} {st : List Value} {σ : St} {idx g d' ci : Nat} {N : MD} {As rest : List Value} {r : Option Value} {σ1 : St} (hd : decode M.2.1 pc = .ok (.invokevirtual idx, 3)) (hl : ML M.1.cls idx N.1) (hm : MOk N As.length) (hv : VOk N.1 ci) (hg : clO g = ci) (hst : st = As.reverse ++ .ref g :: rest) (hct : Ct d' N (.ref g :: As) σ r σ1) (hdd : d' + 1 ≤ d) (hrs : (rest.map fun v => v.category).sum ≤ 8) (k : Wp M d P (pc + 3) ls (r.toList ++ rest) σ1) : Wp M d P pc ls st σ := by
  intro a X hP H locs lsA hW hS hlo
  obtain ⟨hi, hsel, hci, hcn⟩ := hv
  have X2 := X
  obtain ⟨hx, hb, hml, hown, hts, hN, hK, hT, hin, hA1, hA2, hf1, hf2, hf3, hf4, -⟩ := X2
  have hsh : ∃ ks, shp[g]? = some (0, ci, ks) := by
    unfold clO at hg
    split at hg
    · rename_i ci' ks hs
      subst hg
      exact ⟨ks, hs⟩
    · omega
  obtain ⟨ks, hks⟩ := hsh
  have hM := hct (a_l a) (a_D a) (a_ad a) (a_ca a) (a_tys a) H.size d' (60 * d') (Nat.le_refl _) (Nat.le_refl _) hin hT
  have hrec := va_recv hK hW (cT_at hci) (get_o hks)
  rw [show ((cT ci).1, (cT ci).2.1, (cT ci).2.2).1 = N.1.cls from hcn] at hrec
  have hG := hm.good
  obtain ⟨m1, m2, m3, m4⟩ := hm
  have hstk : (st.map (cv (a_ad a))) = (As.map (cv (a_ad a))).reverse ++ .ref (a_ad a g) :: rest.map (cv (a_ad a)) := by rw [hst]; simp [cv]
  have hpre : PreV (a_s a) H N.1.cls (a_ad a g) (Pcv (a_D a) (a_ad a) (a_ca a) (a_tys a) H.size (.ref g :: As) σ) (As.map (cv (a_ad a))) := ⟨Pcv.blind, hrec, fun U hU hWm => ⟨rfl, by rw [hU], by rw [hU]; exact hW, va_K.moved hWm.alike hK, nOK.warm hWm hN⟩⟩
  rcases hl with hl | ⟨host, hl⟩
  · refine wp_run X hP (va_runV (n := As.length) (index := idx) (Ts := gtb) (own := M.1.cls) (C := N.1.cls) (bytes := N.2.1) (maxL := N.2.2.1) (ret := N.2.2.2) ⟨hx, hb, hml, hown, hts⟩ hM ⟨callB_of As.length hts hG rfl rfl rfl (hts _ m2) (hts _ hl) m3 ⟨by show d' + 1 ≤ _; omega, by show 8 + (N.2.2.1 + 11) + 60 * d' ≤ _; omega⟩, hts _ hi, hts _ hsel⟩ hpre rfl (by simp) hlo.1 hstk (lv_room (by rw [cat_map]; exact hrs)) hd ⟨by omega, by omega⟩) hS hlo k
  · refine wp_run X hP (va_runVN (n := As.length) (index := idx) (Ts := gtb) (own := M.1.cls) (C := N.1.cls) (host := host) (bytes := N.2.1) (maxL := N.2.2.1) (ret := N.2.2.2) ⟨hx, hb, hml, hown, hts⟩ hM ⟨va_cnB As.length hts hG rfl rfl rfl (hN _ hl) (hts _ m2) m3 ⟨by show d' + 1 ≤ _; omega, by show 8 + (N.2.2.1 + 11) + 60 * d' ≤ _; omega⟩, hts _ hi, hts _ hsel⟩ hpre rfl (by simp) hlo.1 hstk (lv_room (by rw [cat_map]; exact hrs)) hd ⟨by omega, by omega⟩) hS hlo k
theorem wp_cS {M : MD} {d : Nat} {P : Am → Prop} {pc : Nat} {ls : List (Option Value)} {st : List Value} {σ : St} {idx d' : Nat} {N : MD} {As rest : List Value} {r : Option Value} {σ1 : St} (hd : decode M.2.1 pc = .ok (.invokestatic idx, 3)) (hl : ML M.1.cls idx N.1) (hm : MOk N As.length) (hv : Cond.static N.1 ∈ gtb) (hst : st = As.reverse ++ rest) (hct : Ct d' N As σ r σ1) (hdd : d' + 1 ≤ d) (hrs : (rest.map fun v => v.category).sum ≤ 8) (k : Wp M d P (pc + 3) ls (r.toList ++ rest) σ1) : Wp M d P pc ls st σ := by
  intro a X hP H locs lsA hW hS hlo
  have X2 := X
  obtain ⟨hx, hb, hml, hown, hts, hN, hK, hT, hin, hA1, hA2, hf1, hf2, hf3, hf4, -⟩ := X2
  have hM := hct (a_l a) (a_D a) (a_ad a) (a_ca a) (a_tys a) H.size d' (60 * d') (Nat.le_refl _) (Nat.le_refl _) hin hT
  have hG := hm.good
  obtain ⟨m1, m2, m3, m4⟩ := hm
  have hstk : (st.map (cv (a_ad a))) = (As.map (cv (a_ad a))).reverse ++ rest.map (cv (a_ad a)) := by rw [hst]; simp
  have hpre : PreS (a_s a) H (Pcv (a_D a) (a_ad a) (a_ca a) (a_tys a) H.size As σ) (As.map (cv (a_ad a))) := ⟨Pcv.blind, fun U hU hWm => ⟨rfl, by rw [hU], by rw [hU]; exact hW, va_K.moved hWm.alike hK, nOK.warm hWm hN⟩⟩
  rcases hl with hl | ⟨host, hl⟩
  · refine wp_run X hP (va_runS (n := As.length) (index := idx) (Ts := gtb) (own := M.1.cls) (bytes := N.2.1) (maxL := N.2.2.1) (ret := N.2.2.2) ⟨hx, hb, hml, hown, hts⟩ hM ⟨callB_of As.length hts hG rfl rfl rfl (hts _ m2) (hts _ hl) m3 ⟨by show d' + 1 ≤ _; omega, by show 8 + (N.2.2.1 + 11) + 60 * d' ≤ _; omega⟩, hts _ hv⟩ hpre rfl (by simp) hlo.1 hstk (lv_room (by rw [cat_map]; exact hrs)) hd ⟨by omega, by omega⟩) hS hlo k
  · refine wp_run X hP (va_runSN (n := As.length) (index := idx) (Ts := gtb) (own := M.1.cls) (host := host) (bytes := N.2.1) (maxL := N.2.2.1) (ret := N.2.2.2) ⟨hx, hb, hml, hown, hts⟩ hM ⟨va_cnB As.length hts hG rfl rfl rfl (hN _ hl) (hts _ m2) m3 ⟨by show d' + 1 ≤ _; omega, by show 8 + (N.2.2.1 + 11) + 60 * d' ≤ _; omega⟩, hts _ hv, trivial⟩ hpre rfl (by simp) hlo.1 hstk (lv_room (by rw [cat_map]; exact hrs)) hd ⟨by omega, by omega⟩) hS hlo k
end
section
theorem clO_lt {g ci : Nat} (h : clO g = ci) (hc : ci ≠ 99) : g < 66 := by
  rcases Nat.lt_or_ge g 66 with q | q
  · exact q
  · exfalso
    have h1 : shp[g]? = none := List.getElem?_eq_none (by show 66 ≤ g; exact q)
    simp [clO, h1] at h
    exact hc h.symm
theorem kr_0_0 : ∀ g, clO g = 0 → kdO g 0 = some (rf g 0 + 3) := by
  have h : ∀ g, g < 66 → clO g = 0 → kdO g 0 = some (rf g 0 + 3) := by decide +kernel
  exact fun g hg => h g (clO_lt hg (by decide)) hg
theorem kr_0_1 : ∀ g, clO g = 0 → kdO g 1 = some (rf g 1 + 3) := by
  have h : ∀ g, g < 66 → clO g = 0 → kdO g 1 = some (rf g 1 + 3) := by decide +kernel
  exact fun g hg => h g (clO_lt hg (by decide)) hg
theorem kr_0_2 : ∀ g, clO g = 0 → kdO g 2 = some (rf g 2 + 3) := by
  have h : ∀ g, g < 66 → clO g = 0 → kdO g 2 = some (rf g 2 + 3) := by decide +kernel
  exact fun g hg => h g (clO_lt hg (by decide)) hg
theorem kr_0_3 : ∀ g, clO g = 0 → kdO g 3 = some 0 := by
  have h : ∀ g, g < 66 → clO g = 0 → kdO g 3 = some 0 := by decide +kernel
  exact fun g hg => h g (clO_lt hg (by decide)) hg
theorem kr_0_4 : ∀ g, clO g = 0 → kdO g 4 = some 0 := by
  have h : ∀ g, g < 66 → clO g = 0 → kdO g 4 = some 0 := by decide +kernel
  exact fun g hg => h g (clO_lt hg (by decide)) hg
theorem kr_0_5 : ∀ g, clO g = 0 → kdO g 5 = some 0 := by
  have h : ∀ g, g < 66 → clO g = 0 → kdO g 5 = some 0 := by decide +kernel
  exact fun g hg => h g (clO_lt hg (by decide)) hg
theorem kr_0_6 : ∀ g, clO g = 0 → kdO g 6 = some 0 := by
  have h : ∀ g, g < 66 → clO g = 0 → kdO g 6 = some 0 := by decide +kernel
  exact fun g hg => h g (clO_lt hg (by decide)) hg
theorem kr_1_0 : ∀ g, clO g = 1 → kdO g 0 = some (rf g 0 + 3) := by
  have h : ∀ g, g < 66 → clO g = 1 → kdO g 0 = some (rf g 0 + 3) := by decide +kernel
  exact fun g hg => h g (clO_lt hg (by decide)) hg
theorem kr_1_1 : ∀ g, clO g = 1 → kdO g 1 = some (rf g 1 + 3) := by
  have h : ∀ g, g < 66 → clO g = 1 → kdO g 1 = some (rf g 1 + 3) := by decide +kernel
  exact fun g hg => h g (clO_lt hg (by decide)) hg
theorem kr_1_2 : ∀ g, clO g = 1 → kdO g 2 = some 0 := by
  have h : ∀ g, g < 66 → clO g = 1 → kdO g 2 = some 0 := by decide +kernel
  exact fun g hg => h g (clO_lt hg (by decide)) hg
theorem kr_1_3 : ∀ g, clO g = 1 → kdO g 3 = some 0 := by
  have h : ∀ g, g < 66 → clO g = 1 → kdO g 3 = some 0 := by decide +kernel
  exact fun g hg => h g (clO_lt hg (by decide)) hg
theorem kr_1_4 : ∀ g, clO g = 1 → kdO g 4 = some 0 := by
  have h : ∀ g, g < 66 → clO g = 1 → kdO g 4 = some 0 := by decide +kernel
  exact fun g hg => h g (clO_lt hg (by decide)) hg
theorem kr_2_0 : ∀ g, clO g = 2 → kdO g 0 = some (rf g 0 + 3) := by
  have h : ∀ g, g < 66 → clO g = 2 → kdO g 0 = some (rf g 0 + 3) := by decide +kernel
  exact fun g hg => h g (clO_lt hg (by decide)) hg
theorem kr_2_1 : ∀ g, clO g = 2 → kdO g 1 = some 0 := by
  have h : ∀ g, g < 66 → clO g = 2 → kdO g 1 = some 0 := by decide +kernel
  exact fun g hg => h g (clO_lt hg (by decide)) hg
theorem kr_4_0 : ∀ g, clO g = 4 → kdO g 0 = some (3 + 3) := by
  have h : ∀ g, g < 66 → clO g = 4 → kdO g 0 = some (3 + 3) := by decide +kernel
  exact fun g hg => h g (clO_lt hg (by decide)) hg
theorem kr_4_1 : ∀ g, clO g = 4 → kdO g 1 = some (rf g 1 + 3) := by
  have h : ∀ g, g < 66 → clO g = 4 → kdO g 1 = some (rf g 1 + 3) := by decide +kernel
  exact fun g hg => h g (clO_lt hg (by decide)) hg
theorem ob {α β : Type} {a : Option α} {f : α → Option β} {r : β} (h : Option.bind a f = some r) : ∃ x, a = some x ∧ f x = some r := by
  cases a with
  | none => cases h
  | some x => exact ⟨x, rfl, h⟩
theorem ifn {c : Prop} [Decidable c] {α : Type} {a : Option α} {r : α} (h : (if c then a else none) = some r) : c ∧ a = some r := by
  by_cases hc : c
  · rw [if_pos hc] at h
    exact ⟨hc, h⟩
  · rw [if_neg hc] at h
    cases h
theorem ifz {c : Prop} [Decidable c] {α : Type} {a : Option α} {r : α} (h : (if c then none else a) = some r) : ¬ c ∧ a = some r := by
  by_cases hc : c
  · rw [if_pos hc] at h
    cases h
  · rw [if_neg hc] at h
    exact ⟨hc, h⟩
theorem ifc {c : Prop} [Decidable c] {α : Type} {a : Option α} {r : α} (h : (if ¬ c then none else a) = some r) : c ∧ a = some r := by
  by_cases hc : c
  · rw [if_neg (fun q => q hc)] at h
    exact ⟨hc, h⟩
  · rw [if_pos hc] at h
    cases h
def FU : Nat := 4096
def LAYN : Nat := 14
def LOOKN : Nat := 147
section RowsX
variable {M : MD} {d : Nat} {P : Am → Prop} {pc : Nat} {ls : List (Option Value)} {st : List Value} {σ : St}
theorem wp_topi {x y : Int32} (h : x = y) (k : Wp M d P pc ls (.int y :: st) σ) : Wp M d P pc ls (.int x :: st) σ := h ▸ k
theorem wp_topl {x y : Int64} (h : x = y) (k : Wp M d P pc ls (.long y :: st) σ) : Wp M d P pc ls (.long x :: st) σ := h ▸ k
def SubL : List (Option Value) → List (Option Value) → Prop
  | [], _ => True
  | none :: a, b => SubL a b.tail
  | some v :: a, b => b.head? = some (some v) ∧ SubL a b.tail
theorem SubL.at {ls' : List (Option Value)} : ∀ {ls : List (Option Value)}, SubL ls' ls → ∀ (i : Nat) (v : Value), ls'[i]? = some (some v) → ls[i]? = some (some v) := by
  induction ls' with
  | nil => intro ls _ i v h; simp at h
  | cons w a ih =>
    intro ls hs i v h
    have tl : SubL a ls.tail := by
      cases w with
      | none => exact hs
      | some w => exact hs.2
    cases i with
    | zero =>
      simp at h
      subst h
      have h1 := hs.1
      cases ls with
      | nil => cases h1
      | cons b ls => simpa using h1
    | succ i =>
      have h2 := ih tl i v (by simpa using h)
      cases ls with
      | nil => simp at h2
      | cons b ls => simpa using h2
theorem wp_sub {ls' : List (Option Value)} (h : SubL ls' ls) (k : Wp M d P pc ls' st σ) : Wp M d P pc ls st σ :=
  fun a X hP H locs lsA hW hS hl => k a X hP H locs lsA hW hS ⟨hl.1, hl.2.1, fun i v hv => hl.2.2 i v (h.at i v hv)⟩
theorem wp_inc {i : Nat} {n : Int} {x c : Int32} {ls' : List (Option Value)} (hd : decode M.2.1 pc = .ok (.iinc i n, 3)) (h : ls[i]? = some (some (.int x))) (hv : Int32.ofInt n = c) (hn : i < M.2.2.1) (hz : noL ls i = true) (hs : ls.set i (some (.int (x + c))) = ls') (k : Wp M d P (pc + 3) ls' st σ) : Wp M d P pc ls st σ := wp_iinc hd h (by rw [hv]) hn hz hs k
theorem wp_putI2 {idx g j ci : Nat} {v : Int32} {σ1 : St} (hd : decode M.2.1 pc = .ok (.putfield idx, 3)) (hl : FL M.1.cls idx ci j) (hc : clO g = ci) (hk : kdO g j = some 0) (hfin : ((cT ci).2.1 j).2.2.2 = false) (hty : tT ci j = .int) (he : some (sF σ g j v) = some σ1) (k : Wp M d P (pc + 3) ls st σ1) : Wp M d P pc ls (.int v :: .ref g :: st) σ := wp_putI hd hl hc hk hfin hty (by rw [Option.some.inj he]; exact k)
theorem wp_putZ2 {idx g j ci : Nat} {v : Int32} {σ1 : St} (hd : decode M.2.1 pc = .ok (.putfield idx, 3)) (hl : FL M.1.cls idx ci j) (hc : clO g = ci) (hk : kdO g j = some 0) (hfin : ((cT ci).2.1 j).2.2.2 = false) (hty : tT ci j = .boolean) (hz : v = 0 ∨ v = 1) (he : some (sF σ g j v) = some σ1) (k : Wp M d P (pc + 3) ls st σ1) : Wp M d P pc ls (.int v :: .ref g :: st) σ := wp_putZ hd hl hc hk hfin hty hz (by rw [Option.some.inj he]; exact k)
theorem wp_putJ2 {idx g j ci : Nat} {v : Int64} {σ1 : St} (hd : decode M.2.1 pc = .ok (.putfield idx, 3)) (hl : FL M.1.cls idx ci j) (hc : clO g = ci) (hk : kdO g j = some 1) (hfin : ((cT ci).2.1 j).2.2.2 = false) (hty : tT ci j = .long) (he : some (sL σ g j v) = some σ1) (k : Wp M d P (pc + 3) ls st σ1) : Wp M d P pc ls (.long v :: .ref g :: st) σ := wp_putJ hd hl hc hk hfin hty (by rw [Option.some.inj he]; exact k)
theorem wp_putD2 {idx g j ci q : Nat} {σ1 : St} (hd : decode M.2.1 pc = .ok (.putfield idx, 3)) (hl : FL M.1.cls idx ci j) (hc : clO g = ci) (hk : kdO g j = some 2) (hfin : ((cT ci).2.1 j).2.2.2 = false) (hty : tT ci j = .array .int) (he : some (sD σ q) = some σ1) (k : Wp M d P (pc + 3) ls st σ1) : Wp M d P pc ls (.ref q :: .ref g :: st) σ := wp_putD hd hl hc hk hfin hty (by rw [Option.some.inj he]; exact k)
theorem wp_cVi {idx g d' ci : Nat} {N : MD} {As rest : List Value} {x : Int32} {σ1 : St} (hd : decode M.2.1 pc = .ok (.invokevirtual idx, 3)) (hl : ML M.1.cls idx N.1) (hm : MOk N As.length) (hv : VOk N.1 ci) (hg : clO g = ci) (hst : st = As.reverse ++ .ref g :: rest) (hct : Ct d' N (.ref g :: As) σ (some (.int x)) σ1) (hdd : d' + 1 ≤ d) (hrs : (rest.map fun v => v.category).sum ≤ 8) (k : Wp M d P (pc + 3) ls (.int x :: rest) σ1) : Wp M d P pc ls st σ := wp_cV hd hl hm hv hg hst hct hdd hrs k
theorem wp_cVl {idx g d' ci : Nat} {N : MD} {As rest : List Value} {x : Int64} {σ1 : St} (hd : decode M.2.1 pc = .ok (.invokevirtual idx, 3)) (hl : ML M.1.cls idx N.1) (hm : MOk N As.length) (hv : VOk N.1 ci) (hg : clO g = ci) (hst : st = As.reverse ++ .ref g :: rest) (hct : Ct d' N (.ref g :: As) σ (some (.long x)) σ1) (hdd : d' + 1 ≤ d) (hrs : (rest.map fun v => v.category).sum ≤ 8) (k : Wp M d P (pc + 3) ls (.long x :: rest) σ1) : Wp M d P pc ls st σ := wp_cV hd hl hm hv hg hst hct hdd hrs k
theorem wp_cVr {idx g d' ci : Nat} {N : MD} {As rest : List Value} {x : Nat} {σ1 : St} (hd : decode M.2.1 pc = .ok (.invokevirtual idx, 3)) (hl : ML M.1.cls idx N.1) (hm : MOk N As.length) (hv : VOk N.1 ci) (hg : clO g = ci) (hst : st = As.reverse ++ .ref g :: rest) (hct : Ct d' N (.ref g :: As) σ (some (.ref x)) σ1) (hdd : d' + 1 ≤ d) (hrs : (rest.map fun v => v.category).sum ≤ 8) (k : Wp M d P (pc + 3) ls (.ref x :: rest) σ1) : Wp M d P pc ls st σ := wp_cV hd hl hm hv hg hst hct hdd hrs k
theorem wp_cVv {idx g d' ci : Nat} {N : MD} {As rest : List Value} {σ1 : St} (hd : decode M.2.1 pc = .ok (.invokevirtual idx, 3)) (hl : ML M.1.cls idx N.1) (hm : MOk N As.length) (hv : VOk N.1 ci) (hg : clO g = ci) (hst : st = As.reverse ++ .ref g :: rest) (hct : Ct d' N (.ref g :: As) σ none σ1) (hdd : d' + 1 ≤ d) (hrs : (rest.map fun v => v.category).sum ≤ 8) (k : Wp M d P (pc + 3) ls rest σ1) : Wp M d P pc ls st σ := wp_cV hd hl hm hv hg hst hct hdd hrs k
theorem wp_cSi {idx d' : Nat} {N : MD} {As rest : List Value} {x : Int32} {σ1 : St} (hd : decode M.2.1 pc = .ok (.invokestatic idx, 3)) (hl : ML M.1.cls idx N.1) (hm : MOk N As.length) (hv : Cond.static N.1 ∈ gtb) (hst : st = As.reverse ++ rest) (hct : Ct d' N As σ (some (.int x)) σ1) (hdd : d' + 1 ≤ d) (hrs : (rest.map fun v => v.category).sum ≤ 8) (k : Wp M d P (pc + 3) ls (.int x :: rest) σ1) : Wp M d P pc ls st σ := wp_cS hd hl hm hv hst hct hdd hrs k
theorem wp_cSv {idx d' : Nat} {N : MD} {As rest : List Value} {σ1 : St} (hd : decode M.2.1 pc = .ok (.invokestatic idx, 3)) (hl : ML M.1.cls idx N.1) (hm : MOk N As.length) (hv : Cond.static N.1 ∈ gtb) (hst : st = As.reverse ++ rest) (hct : Ct d' N As σ none σ1) (hdd : d' + 1 ≤ d) (hrs : (rest.map fun v => v.category).sum ≤ 8) (k : Wp M d P (pc + 3) ls rest σ1) : Wp M d P pc ls st σ := wp_cS hd hl hm hv hst hct hdd hrs k
end RowsX
theorem tsw_out {x : Int32} {hi : Int} (n : Nat) (hn : n < 2 ^ 31) (he : hi = (n : Int) - 1) (h : ∀ i : Nat, i < n → ¬ x = nI i) : x.toInt < 0 ∨ hi < x.toInt := by
  rcases Int.lt_or_le x.toInt 0 with q | q
  · exact Or.inl q
  right
  rcases Int.lt_or_le hi x.toInt with z | z
  · exact z
  exfalso
  refine h x.toInt.toNat (by omega) (Int32.toInt_inj.mp ?_)
  rw [nI_toInt (by omega)]
  omega

def mxI (x y : Int32) : Int32 := if x < y then y else x
def mxW (own : String) (idx : Nat) : Prop := Cond.methodLink own idx Lib.Math.max.name ∈ gtb
theorem mx_nat : Cond.static Lib.Math.max.name ∈ gtb ∧ Cond.initialized "java/lang/Math" ∈ gtb ∧ Cond.code Lib.Math.max.name Lib.Math.max.code 2 (some .int) ∈ gtb := ⟨mem_tb 714 (by decide +kernel) rfl, mem_tb 14 (by decide +kernel) rfl, mem_tb 715 (by decide +kernel) rfl⟩
theorem wp_mmax {M : MD} {d : Nat} {P : Am → Prop} {pc : Nat} {ls : List (Option Value)} {st : List Value} {σ : St} {idx : Nat} {x y : Int32} (hd : decode M.2.1 pc = .ok (.invokestatic idx, 3)) (hl : mxW M.1.cls idx) (h1d : 1 ≤ d) (hr : (st.map fun v => v.category).sum ≤ 8) (k : Wp M d P (pc + 3) ls (.int (mxI x y) :: st) σ) : Wp M d P pc ls (.int y :: .int x :: st) σ := by
  intro a X hP H locs lsA hW hS hlo
  have X2 := X
  obtain ⟨hx, hb, hml, hown, hts, hN, hK, hT, -, -, -, hf1, hf2, hf3, hf4, -⟩ := X2
  exact va_mmax hx hb (hml.trans hlo.1.symm) hown (hts _ hl) (hts _ mx_nat.1) (hts _ mx_nat.2.1) (hts _ mx_nat.2.2) (by omega) (by rw [cat_map]; omega) hf3 hf4 hd (k a X hP H locs lsA hW hS hlo)
end
section
abbrev m_J7_fill_53178 : MD := (yJ7_fill_53178, cJ7_fill_53178, 4, none)
theorem mo_J7_fill_53178 : MOk m_J7_fill_53178 2 := ⟨mem_t1 124 rfl rfl, mem_t1 6 rfl rfl, by decide +kernel, by decide⟩
theorem vo_J7_fill_53178 : Cond.static yJ7_fill_53178 ∈ gtb := mem_t1 123 rfl rfl
abbrev m_X0_begin : MD := (yX0_begin, cX0_begin, 4, none)
theorem mo_X0_begin : MOk m_X0_begin 3 := ⟨mem_t2 103 rfl rfl, mem_t1 3 rfl rfl, by decide +kernel, by decide⟩
theorem vo_X0_begin : VOk yX0_begin 0 := ⟨mem_t2 102 rfl rfl, mem_pv (n := 7) (List.mem_of_getElem? (i := 9) rfl), by decide, rfl⟩
abbrev m_X0_copy : MD := (yX0_copy, cX0_copy, 2, none)
theorem mo_X0_copy : MOk m_X0_copy 1 := ⟨mem_t2 153 rfl rfl, mem_t1 3 rfl rfl, by decide +kernel, by decide⟩
theorem vo_X0_copy : VOk yX0_copy 0 := ⟨mem_t2 152 rfl rfl, mem_pv (n := 7) (List.mem_of_getElem? (i := 21) rfl), by decide, rfl⟩
abbrev m_X0_lines : MD := (yX0_lines, cX0_lines, 1, (some FieldType.int))
theorem mo_X0_lines : MOk m_X0_lines 0 := ⟨mem_t2 108 rfl rfl, mem_t1 3 rfl rfl, by decide +kernel, by decide⟩
theorem vo_X0_lines : VOk yX0_lines 0 := ⟨mem_t2 107 rfl rfl, mem_pv (n := 7) (List.mem_of_getElem? (i := 10) rfl), by decide, rfl⟩
abbrev m_X0_allLines : MD := (yX0_allLines, cX0_allLines, 1, (some FieldType.int))
theorem mo_X0_allLines : MOk m_X0_allLines 0 := ⟨mem_t3 83 rfl rfl, mem_t1 3 rfl rfl, by decide +kernel, by decide⟩
theorem vo_X0_allLines : VOk yX0_allLines 0 := ⟨mem_t3 82 rfl rfl, mem_pv (n := 7) (List.mem_of_getElem? (i := 42) rfl), by decide, rfl⟩
abbrev m_X0_cellsOf : MD := (yX0_cellsOf, cX0_cellsOf, 2, (some FieldType.int))
theorem mo_X0_cellsOf : MOk m_X0_cellsOf 1 := ⟨mem_t2 136 rfl rfl, mem_t1 3 rfl rfl, by decide +kernel, by decide⟩
theorem vo_X0_cellsOf : VOk yX0_cellsOf 0 := ⟨mem_t2 135 rfl rfl, mem_pv (n := 7) (List.mem_of_getElem? (i := 17) rfl), by decide, rfl⟩
abbrev m_X0_xOf : MD := (yX0_xOf, cX0_xOf, 3, (some FieldType.int))
theorem mo_X0_xOf : MOk m_X0_xOf 2 := ⟨mem_t3 224 rfl rfl, mem_t1 3 rfl rfl, by decide +kernel, by decide⟩
theorem vo_X0_xOf : VOk yX0_xOf 0 := ⟨mem_t3 223 rfl rfl, mem_pv (n := 7) (List.mem_of_getElem? (i := 63) rfl), by decide, rfl⟩
abbrev m_X0_yOf : MD := (yX0_yOf, cX0_yOf, 3, (some FieldType.int))
theorem mo_X0_yOf : MOk m_X0_yOf 2 := ⟨mem_t3 228 rfl rfl, mem_t1 3 rfl rfl, by decide +kernel, by decide⟩
theorem vo_X0_yOf : VOk yX0_yOf 0 := ⟨mem_t3 227 rfl rfl, mem_pv (n := 7) (List.mem_of_getElem? (i := 64) rfl), by decide, rfl⟩
abbrev m_X0_lengthOf : MD := (yX0_lengthOf, cX0_lengthOf, 3, (some FieldType.int))
theorem mo_X0_lengthOf : MOk m_X0_lengthOf 2 := ⟨mem_t2 128 rfl rfl, mem_t1 3 rfl rfl, by decide +kernel, by decide⟩
theorem vo_X0_lengthOf : VOk yX0_lengthOf 0 := ⟨mem_t2 127 rfl rfl, mem_pv (n := 7) (List.mem_of_getElem? (i := 15) rfl), by decide, rfl⟩
abbrev m_X0_colourOf : MD := (yX0_colourOf, cX0_colourOf, 3, (some FieldType.int))
theorem mo_X0_colourOf : MOk m_X0_colourOf 2 := ⟨mem_t2 148 rfl rfl, mem_t1 3 rfl rfl, by decide +kernel, by decide⟩
theorem vo_X0_colourOf : VOk yX0_colourOf 0 := ⟨mem_t2 147 rfl rfl, mem_pv (n := 7) (List.mem_of_getElem? (i := 20) rfl), by decide, rfl⟩
abbrev m_X0_add : MD := (yX0_add, cX0_add, 5, none)
theorem mo_X0_add : MOk m_X0_add 3 := ⟨mem_t2 120 rfl rfl, mem_t1 3 rfl rfl, by decide +kernel, by decide⟩
theorem vo_X0_add : VOk yX0_add 0 := ⟨mem_t2 119 rfl rfl, mem_pv (n := 7) (List.mem_of_getElem? (i := 13) rfl), by decide, rfl⟩
abbrev m_X0_needsGapAhead : MD := (yX0_needsGapAhead, cX0_needsGapAhead, 4, (some FieldType.boolean))
theorem mo_X0_needsGapAhead : MOk m_X0_needsGapAhead 2 := ⟨mem_t2 132 rfl rfl, mem_t1 3 rfl rfl, by decide +kernel, by decide⟩
theorem vo_X0_needsGapAhead : VOk yX0_needsGapAhead 0 := ⟨mem_t2 131 rfl rfl, mem_pv (n := 7) (List.mem_of_getElem? (i := 16) rfl), by decide, rfl⟩
abbrev m_X0_fitsItsCells : MD := (yX0_fitsItsCells, cX0_fitsItsCells, 4, (some FieldType.boolean))
theorem mo_X0_fitsItsCells : MOk m_X0_fitsItsCells 1 := ⟨mem_t2 124 rfl rfl, mem_t1 3 rfl rfl, by decide +kernel, by decide⟩
theorem vo_X0_fitsItsCells : VOk yX0_fitsItsCells 0 := ⟨mem_t2 123 rfl rfl, mem_pv (n := 7) (List.mem_of_getElem? (i := 14) rfl), by decide, rfl⟩
abbrev m_X0_cellsTold : MD := (yX0_cellsTold, cX0_cellsTold, 7, (some FieldType.int))
theorem mo_X0_cellsTold : MOk m_X0_cellsTold 3 := ⟨mem_t2 144 rfl rfl, mem_t1 3 rfl rfl, by decide +kernel, by decide⟩
theorem vo_X0_cellsTold : VOk yX0_cellsTold 0 := ⟨mem_t2 143 rfl rfl, mem_pv (n := 7) (List.mem_of_getElem? (i := 19) rfl), by decide, rfl⟩
abbrev m_X0_isBalanced : MD := (yX0_isBalanced, cX0_isBalanced, 2, (some FieldType.boolean))
theorem mo_X0_isBalanced : MOk m_X0_isBalanced 0 := ⟨mem_t2 140 rfl rfl, mem_t1 3 rfl rfl, by decide +kernel, by decide⟩
theorem vo_X0_isBalanced : VOk yX0_isBalanced 0 := ⟨mem_t2 139 rfl rfl, mem_pv (n := 7) (List.mem_of_getElem? (i := 18) rfl), by decide, rfl⟩
abbrev m_X0_addStretch : MD := (yX0_addStretch, cX0_addStretch, 4, none)
theorem mo_X0_addStretch : MOk m_X0_addStretch 3 := ⟨mem_t3 239 rfl rfl, mem_t1 3 rfl rfl, by decide +kernel, by decide⟩
theorem vo_X0_addStretch : VOk yX0_addStretch 0 := ⟨mem_t3 238 rfl rfl, mem_pv (n := 7) (List.mem_of_getElem? (i := 66) rfl), by decide, rfl⟩
abbrev m_X2_at : MD := (yX2_at, cX2_at, 3, (some FieldType.int))
theorem mo_X2_at : MOk m_X2_at 2 := ⟨mem_t2 235 rfl rfl, mem_t1 5 rfl rfl, by decide +kernel, by decide⟩
theorem vo_X2_at : VOk yX2_at 2 := ⟨mem_t2 234 rfl rfl, mem_pv (n := 2) (List.mem_of_getElem? (i := 32) rfl), by decide, rfl⟩
abbrev m_X2_valueAt : MD := (yX2_valueAt, cX2_valueAt, 3, (some FieldType.int))
theorem mo_X2_valueAt : MOk m_X2_valueAt 2 := ⟨mem_t3 232 rfl rfl, mem_t1 5 rfl rfl, by decide +kernel, by decide⟩
theorem vo_X2_valueAt : VOk yX2_valueAt 2 := ⟨mem_t3 231 rfl rfl, mem_pv (n := 2) (List.mem_of_getElem? (i := 65) rfl), by decide, rfl⟩
abbrev m_X0_readLine : MD := (yX0_readLine, cX0_readLine, 7, none)
theorem mo_X0_readLine : MOk m_X0_readLine 2 := ⟨mem_t3 220 rfl rfl, mem_t1 3 rfl rfl, by decide +kernel, by decide⟩
theorem vo_X0_readLine : VOk yX0_readLine 0 := ⟨mem_t3 219 rfl rfl, mem_pv (n := 7) (List.mem_of_getElem? (i := 62) rfl), by decide, rfl⟩
abbrev m_X0_isLineLike : MD := (yX0_isLineLike, cX0_isLineLike, 4, (some FieldType.boolean))
theorem mo_X0_isLineLike : MOk m_X0_isLineLike 2 := ⟨mem_t4 8 rfl rfl, mem_t1 3 rfl rfl, by decide +kernel, by decide⟩
theorem vo_X0_isLineLike : VOk yX0_isLineLike 0 := ⟨mem_t4 7 rfl rfl, mem_pv (n := 7) (List.mem_of_getElem? (i := 68) rfl), by decide, rfl⟩
abbrev m_X0_hasRunsOf : MD := (yX0_hasRunsOf, cX0_hasRunsOf, 3, (some FieldType.boolean))
theorem mo_X0_hasRunsOf : MOk m_X0_hasRunsOf 1 := ⟨mem_t4 4 rfl rfl, mem_t1 3 rfl rfl, by decide +kernel, by decide⟩
theorem vo_X0_hasRunsOf : VOk yX0_hasRunsOf 0 := ⟨mem_t4 3 rfl rfl, mem_pv (n := 7) (List.mem_of_getElem? (i := 67) rfl), by decide, rfl⟩
abbrev m_X1_begin : MD := (yX1_begin, cX1_begin, 1, none)
theorem mo_X1_begin : MOk m_X1_begin 0 := ⟨mem_t3 137 rfl rfl, mem_t1 10 rfl rfl, by decide +kernel, by decide⟩
theorem vo_X1_begin : VOk yX1_begin 1 := ⟨mem_t3 136 rfl rfl, mem_pv (n := 5) (List.mem_of_getElem? (i := 50) rfl), by decide, rfl⟩
abbrev m_X1_forgetSolutions : MD := (yX1_forgetSolutions, cX1_forgetSolutions, 1, none)
theorem mo_X1_forgetSolutions : MOk m_X1_forgetSolutions 0 := ⟨mem_t2 239 rfl rfl, mem_t1 10 rfl rfl, by decide +kernel, by decide⟩
theorem vo_X1_forgetSolutions : VOk yX1_forgetSolutions 1 := ⟨mem_t2 238 rfl rfl, mem_pv (n := 5) (List.mem_of_getElem? (i := 33) rfl), by decide, rfl⟩
abbrev m_X1_forgetAll : MD := (yX1_forgetAll, cX1_forgetAll, 1, none)
theorem mo_X1_forgetAll : MOk m_X1_forgetAll 0 := ⟨mem_t2 168 rfl rfl, mem_t1 10 rfl rfl, by decide +kernel, by decide⟩
theorem vo_X1_forgetAll : VOk yX1_forgetAll 1 := ⟨mem_t2 167 rfl rfl, mem_pv (n := 5) (List.mem_of_getElem? (i := 24) rfl), by decide, rfl⟩
abbrev m_X1_isKept : MD := (yX1_isKept, cX1_isKept, 2, (some FieldType.boolean))
theorem mo_X1_isKept : MOk m_X1_isKept 1 := ⟨mem_t3 189 rfl rfl, mem_t1 10 rfl rfl, by decide +kernel, by decide⟩
theorem vo_X1_isKept : VOk yX1_isKept 1 := ⟨mem_t3 188 rfl rfl, mem_pv (n := 5) (List.mem_of_getElem? (i := 59) rfl), by decide, rfl⟩
abbrev m_X1_kept : MD := (yX1_kept, cX1_kept, 2, (some (FieldType.object "CellPictures$Grid")))
theorem mo_X1_kept : MOk m_X1_kept 1 := ⟨mem_t3 159 rfl rfl, mem_t1 10 rfl rfl, by decide +kernel, by decide⟩
theorem vo_X1_kept : VOk yX1_kept 1 := ⟨mem_t3 158 rfl rfl, mem_pv (n := 5) (List.mem_of_getElem? (i := 55) rfl), by decide, rfl⟩
abbrev m_X2_put : MD := (yX2_put, cX2_put, 4, none)
theorem mo_X2_put : MOk m_X2_put 3 := ⟨mem_t2 231 rfl rfl, mem_t1 5 rfl rfl, by decide +kernel, by decide⟩
theorem vo_X2_put : VOk yX2_put 2 := ⟨mem_t2 230 rfl rfl, mem_pv (n := 2) (List.mem_of_getElem? (i := 31) rfl), by decide, rfl⟩
abbrev m_X4_leastOf : MD := (yX4_leastOf, cX4_leastOf, 2, (some FieldType.int))
theorem mo_X4_leastOf : MOk m_X4_leastOf 1 := ⟨mem_t3 163 rfl rfl, mem_t1 9 rfl rfl, by decide +kernel, by decide⟩
theorem vo_X4_leastOf : Cond.static yX4_leastOf ∈ gtb := mem_t3 162 rfl rfl
abbrev m_X4_valuesIn : MD := (yX4_valuesIn, cX4_valuesIn, 5, (some FieldType.int))
theorem mo_X4_valuesIn : MOk m_X4_valuesIn 2 := ⟨mem_t2 198 rfl rfl, mem_t1 9 rfl rfl, by decide +kernel, by decide⟩
theorem vo_X4_valuesIn : Cond.static yX4_valuesIn ∈ gtb := mem_t2 197 rfl rfl
abbrev m_X4_valuesAt : MD := (yX4_valuesAt, cX4_valuesAt, 3, (some FieldType.int))
theorem mo_X4_valuesAt : MOk m_X4_valuesAt 2 := ⟨mem_t2 195 rfl rfl, mem_t1 9 rfl rfl, by decide +kernel, by decide⟩
theorem vo_X4_valuesAt : VOk yX4_valuesAt 4 := ⟨mem_t2 194 rfl rfl, mem_pv (n := 2) (List.mem_of_getElem? (i := 27) rfl), by decide, rfl⟩
abbrev m_X1_add : MD := (yX1_add, cX1_add, 5, none)
theorem mo_X1_add : MOk m_X1_add 1 := ⟨mem_t3 155 rfl rfl, mem_t1 10 rfl rfl, by decide +kernel, by decide⟩
theorem vo_X1_add : VOk yX1_add 1 := ⟨mem_t3 154 rfl rfl, mem_pv (n := 5) (List.mem_of_getElem? (i := 54) rfl), by decide, rfl⟩
abbrev m_X2_clear : MD := (yX2_clear, cX2_clear, 1, none)
theorem mo_X2_clear : MOk m_X2_clear 0 := ⟨mem_t2 160 rfl rfl, mem_t1 5 rfl rfl, by decide +kernel, by decide⟩
theorem vo_X2_clear : VOk yX2_clear 2 := ⟨mem_t2 159 rfl rfl, mem_pv (n := 2) (List.mem_of_getElem? (i := 22) rfl), by decide, rfl⟩
abbrev m_X3_cellsWith : MD := (yX3_cellsWith, cX3_cellsWith, 3, (some FieldType.int))
theorem mo_X3_cellsWith : MOk m_X3_cellsWith 2 := ⟨mem_t3 40 rfl rfl, mem_t1 7 rfl rfl, by decide +kernel, by decide⟩
theorem vo_X3_cellsWith : Cond.static yX3_cellsWith ∈ gtb := mem_t3 39 rfl rfl
abbrev m_X3_cover : MD := (yX3_cover, cX3_cover, 4, (some FieldType.int))
theorem mo_X3_cover : MOk m_X3_cover 2 := ⟨mem_t3 55 rfl rfl, mem_t1 7 rfl rfl, by decide +kernel, by decide⟩
theorem vo_X3_cover : Cond.static yX3_cover ∈ gtb := mem_t3 54 rfl rfl
abbrev m_X3_spreadDown : MD := (yX3_spreadDown, cX3_spreadDown, 5, (some FieldType.int))
theorem mo_X3_spreadDown : MOk m_X3_spreadDown 2 := ⟨mem_t3 52 rfl rfl, mem_t1 7 rfl rfl, by decide +kernel, by decide⟩
theorem vo_X3_spreadDown : Cond.static yX3_spreadDown ∈ gtb := mem_t3 51 rfl rfl
abbrev m_X3_spreadUp : MD := (yX3_spreadUp, cX3_spreadUp, 5, (some FieldType.int))
theorem mo_X3_spreadUp : MOk m_X3_spreadUp 2 := ⟨mem_t3 43 rfl rfl, mem_t1 7 rfl rfl, by decide +kernel, by decide⟩
theorem vo_X3_spreadUp : Cond.static yX3_spreadUp ∈ gtb := mem_t3 42 rfl rfl
abbrev m_X3_stretches : MD := (yX3_stretches, cX3_stretches, 4, (some FieldType.int))
theorem mo_X3_stretches : MOk m_X3_stretches 2 := ⟨mem_t3 49 rfl rfl, mem_t1 7 rfl rfl, by decide +kernel, by decide⟩
theorem vo_X3_stretches : Cond.static yX3_stretches ∈ gtb := mem_t3 48 rfl rfl
abbrev m_X3_keptOf : MD := (yX3_keptOf, cX3_keptOf, 14, (some FieldType.long))
theorem mo_X3_keptOf : MOk m_X3_keptOf 2 := ⟨mem_t3 36 rfl rfl, mem_t1 7 rfl rfl, by decide +kernel, by decide⟩
theorem vo_X3_keptOf : VOk yX3_keptOf 3 := ⟨mem_t3 35 rfl rfl, mem_pv (n := 5) (List.mem_of_getElem? (i := 38) rfl), by decide, rfl⟩
abbrev m_X3_countRun : MD := (yX3_countRun, cX3_countRun, 11, none)
theorem mo_X3_countRun : MOk m_X3_countRun 3 := ⟨mem_t3 73 rfl rfl, mem_t1 7 rfl rfl, by decide +kernel, by decide⟩
theorem vo_X3_countRun : VOk yX3_countRun 3 := ⟨mem_t3 72 rfl rfl, mem_pv (n := 5) (List.mem_of_getElem? (i := 41) rfl), by decide, rfl⟩
abbrev m_X3_countWays : MD := (yX3_countWays, cX3_countWays, 7, (some FieldType.long))
theorem mo_X3_countWays : MOk m_X3_countWays 2 := ⟨mem_t3 69 rfl rfl, mem_t1 7 rfl rfl, by decide +kernel, by decide⟩
theorem vo_X3_countWays : VOk yX3_countWays 3 := ⟨mem_t3 68 rfl rfl, mem_pv (n := 5) (List.mem_of_getElem? (i := 40) rfl), by decide, rfl⟩
abbrev m_X4_fill : MD := (yX4_fill, cX4_fill, 7, none)
theorem mo_X4_fill : MOk m_X4_fill 0 := ⟨mem_t3 16 rfl rfl, mem_t1 9 rfl rfl, by decide +kernel, by decide⟩
theorem vo_X4_fill : VOk yX4_fill 4 := ⟨mem_t3 15 rfl rfl, mem_pv (n := 2) (List.mem_of_getElem? (i := 35) rfl), by decide, rfl⟩
abbrev m_X4_fix : MD := (yX4_fix, cX4_fix, 5, none)
theorem mo_X4_fix : MOk m_X4_fix 3 := ⟨mem_t3 27 rfl rfl, mem_t1 9 rfl rfl, by decide +kernel, by decide⟩
theorem vo_X4_fix : VOk yX4_fix 4 := ⟨mem_t3 26 rfl rfl, mem_pv (n := 2) (List.mem_of_getElem? (i := 37) rfl), by decide, rfl⟩
abbrev m_X4_tell : MD := (yX4_tell, cX4_tell, 5, none)
theorem mo_X4_tell : MOk m_X4_tell 1 := ⟨mem_t3 22 rfl rfl, mem_t1 9 rfl rfl, by decide +kernel, by decide⟩
theorem vo_X4_tell : VOk yX4_tell 4 := ⟨mem_t3 21 rfl rfl, mem_pv (n := 2) (List.mem_of_getElem? (i := 36) rfl), by decide, rfl⟩
abbrev m_X4_become : MD := (yX4_become, cX4_become, 2, none)
theorem mo_X4_become : MOk m_X4_become 1 := ⟨mem_t3 12 rfl rfl, mem_t1 9 rfl rfl, by decide +kernel, by decide⟩
theorem vo_X4_become : VOk yX4_become 4 := ⟨mem_t3 11 rfl rfl, mem_pv (n := 2) (List.mem_of_getElem? (i := 34) rfl), by decide, rfl⟩
abbrev m_X4_copy : MD := (yX4_copy, cX4_copy, 2, none)
theorem mo_X4_copy : MOk m_X4_copy 1 := ⟨mem_t3 113 rfl rfl, mem_t1 9 rfl rfl, by decide +kernel, by decide⟩
theorem vo_X4_copy : VOk yX4_copy 4 := ⟨mem_t3 112 rfl rfl, mem_pv (n := 2) (List.mem_of_getElem? (i := 47) rfl), by decide, rfl⟩
abbrev m_X4_saveTo : MD := (yX4_saveTo, cX4_saveTo, 3, none)
theorem mo_X4_saveTo : MOk m_X4_saveTo 2 := ⟨mem_t3 151 rfl rfl, mem_t1 9 rfl rfl, by decide +kernel, by decide⟩
theorem vo_X4_saveTo : VOk yX4_saveTo 4 := ⟨mem_t3 150 rfl rfl, mem_pv (n := 2) (List.mem_of_getElem? (i := 53) rfl), by decide, rfl⟩
abbrev m_X4_restoreFrom : MD := (yX4_restoreFrom, cX4_restoreFrom, 3, none)
theorem mo_X4_restoreFrom : MOk m_X4_restoreFrom 2 := ⟨mem_t3 177 rfl rfl, mem_t1 9 rfl rfl, by decide +kernel, by decide⟩
theorem vo_X4_restoreFrom : VOk yX4_restoreFrom 4 := ⟨mem_t3 176 rfl rfl, mem_pv (n := 2) (List.mem_of_getElem? (i := 58) rfl), by decide, rfl⟩
abbrev m_X4_drop : MD := (yX4_drop, cX4_drop, 4, none)
theorem mo_X4_drop : MOk m_X4_drop 3 := ⟨mem_t3 120 rfl rfl, mem_t1 9 rfl rfl, by decide +kernel, by decide⟩
theorem vo_X4_drop : VOk yX4_drop 4 := ⟨mem_t3 119 rfl rfl, mem_pv (n := 2) (List.mem_of_getElem? (i := 48) rfl), by decide, rfl⟩
abbrev m_X4_linesThrough : MD := (yX4_linesThrough, cX4_linesThrough, 3, (some FieldType.int))
theorem mo_X4_linesThrough : MOk m_X4_linesThrough 2 := ⟨mem_t3 107 rfl rfl, mem_t1 9 rfl rfl, by decide +kernel, by decide⟩
theorem vo_X4_linesThrough : VOk yX4_linesThrough 4 := ⟨mem_t3 106 rfl rfl, mem_pv (n := 2) (List.mem_of_getElem? (i := 46) rfl), by decide, rfl⟩
abbrev m_X4_narrow : MD := (yX4_narrow, cX4_narrow, 13, (some FieldType.int))
theorem mo_X4_narrow : MOk m_X4_narrow 2 := ⟨mem_t3 59 rfl rfl, mem_t1 9 rfl rfl, by decide +kernel, by decide⟩
theorem vo_X4_narrow : VOk yX4_narrow 4 := ⟨mem_t3 58 rfl rfl, mem_pv (n := 2) (List.mem_of_getElem? (i := 39) rfl), by decide, rfl⟩
abbrev m_J6_bitCount_0f7a4 : MD := (yJ6_bitCount_0f7a4, cJ6_bitCount_0f7a4, 1, (some FieldType.int))
theorem mo_J6_bitCount_0f7a4 : MOk m_J6_bitCount_0f7a4 1 := ⟨mem_t2 202 rfl rfl, mem_t1 13 rfl rfl, by decide +kernel, by decide⟩
theorem vo_J6_bitCount_0f7a4 : Cond.static yJ6_bitCount_0f7a4 ∈ gtb := mem_t2 201 rfl rfl
abbrev m_X4_countSingles : MD := (yX4_countSingles, cX4_countSingles, 4, (some FieldType.int))
theorem mo_X4_countSingles : MOk m_X4_countSingles 0 := ⟨mem_t2 191 rfl rfl, mem_t1 9 rfl rfl, by decide +kernel, by decide⟩
theorem vo_X4_countSingles : VOk yX4_countSingles 4 := ⟨mem_t2 190 rfl rfl, mem_pv (n := 2) (List.mem_of_getElem? (i := 26) rfl), by decide, rfl⟩
abbrev m_X4_firstOfFewest : MD := (yX4_firstOfFewest, cX4_firstOfFewest, 6, (some FieldType.int))
theorem mo_X4_firstOfFewest : MOk m_X4_firstOfFewest 0 := ⟨mem_t3 147 rfl rfl, mem_t1 9 rfl rfl, by decide +kernel, by decide⟩
theorem vo_X4_firstOfFewest : VOk yX4_firstOfFewest 4 := ⟨mem_t3 146 rfl rfl, mem_pv (n := 2) (List.mem_of_getElem? (i := 52) rfl), by decide, rfl⟩
abbrev m_X5_settle : MD := (yX5_settle, cX5_settle, 10, (some FieldType.int))
theorem mo_X5_settle : MOk m_X5_settle 2 := ⟨mem_t3 87 rfl rfl, mem_t1 8 rfl rfl, by decide +kernel, by decide⟩
theorem vo_X5_settle : VOk yX5_settle 5 := ⟨mem_t3 86 rfl rfl, mem_pv (n := 8) (List.mem_of_getElem? (i := 43) rfl), by decide, rfl⟩
abbrev m_X5_siftCell : MD := (yX5_siftCell, cX5_siftCell, 8, (some FieldType.int))
theorem mo_X5_siftCell : MOk m_X5_siftCell 3 := ⟨mem_t3 103 rfl rfl, mem_t1 8 rfl rfl, by decide +kernel, by decide⟩
theorem vo_X5_siftCell : VOk yX5_siftCell 5 := ⟨mem_t3 102 rfl rfl, mem_pv (n := 8) (List.mem_of_getElem? (i := 45) rfl), by decide, rfl⟩
abbrev m_X5_sift : MD := (yX5_sift, cX5_sift, 8, (some FieldType.int))
theorem mo_X5_sift : MOk m_X5_sift 1 := ⟨mem_t3 99 rfl rfl, mem_t1 8 rfl rfl, by decide +kernel, by decide⟩
theorem vo_X5_sift : VOk yX5_sift 5 := ⟨mem_t3 98 rfl rfl, mem_pv (n := 8) (List.mem_of_getElem? (i := 44) rfl), by decide, rfl⟩
abbrev m_X5_closeEmptyChoices : MD := (yX5_closeEmptyChoices, cX5_closeEmptyChoices, 1, none)
theorem mo_X5_closeEmptyChoices : MOk m_X5_closeEmptyChoices 0 := ⟨mem_t3 168 rfl rfl, mem_t1 8 rfl rfl, by decide +kernel, by decide⟩
theorem vo_X5_closeEmptyChoices : VOk yX5_closeEmptyChoices 5 := ⟨mem_t3 167 rfl rfl, mem_pv (n := 8) (List.mem_of_getElem? (i := 56) rfl), by decide, rfl⟩
abbrev m_X5_followsChoice : MD := (yX5_followsChoice, cX5_followsChoice, 5, (some FieldType.boolean))
theorem mo_X5_followsChoice : MOk m_X5_followsChoice 0 := ⟨mem_t3 172 rfl rfl, mem_t1 8 rfl rfl, by decide +kernel, by decide⟩
theorem vo_X5_followsChoice : VOk yX5_followsChoice 5 := ⟨mem_t3 171 rfl rfl, mem_pv (n := 8) (List.mem_of_getElem? (i := 57) rfl), by decide, rfl⟩
abbrev m_X5_opensChoice : MD := (yX5_opensChoice, cX5_opensChoice, 2, (some FieldType.boolean))
theorem mo_X5_opensChoice : MOk m_X5_opensChoice 0 := ⟨mem_t3 143 rfl rfl, mem_t1 8 rfl rfl, by decide +kernel, by decide⟩
theorem vo_X5_opensChoice : VOk yX5_opensChoice 5 := ⟨mem_t3 142 rfl rfl, mem_pv (n := 8) (List.mem_of_getElem? (i := 51) rfl), by decide, rfl⟩
abbrev m_X5_seek : MD := (yX5_seek, cX5_seek, 7, none)
theorem mo_X5_seek : MOk m_X5_seek 4 := ⟨mem_t3 133 rfl rfl, mem_t1 8 rfl rfl, by decide +kernel, by decide⟩
theorem vo_X5_seek : VOk yX5_seek 5 := ⟨mem_t3 132 rfl rfl, mem_pv (n := 8) (List.mem_of_getElem? (i := 49) rfl), by decide, rfl⟩
abbrev m_X5_judge : MD := (yX5_judge, cX5_judge, 3, (some FieldType.int))
theorem mo_X5_judge : MOk m_X5_judge 2 := ⟨mem_t3 198 rfl rfl, mem_t1 8 rfl rfl, by decide +kernel, by decide⟩
theorem vo_X5_judge : VOk yX5_judge 5 := ⟨mem_t3 197 rfl rfl, mem_pv (n := 8) (List.mem_of_getElem? (i := 60) rfl), by decide, rfl⟩
abbrev m_X6_append : MD := (yX6_append, cX6_append, 3, none)
theorem mo_X6_append : MOk m_X6_append 1 := ⟨mem_t2 47 rfl rfl, mem_t1 2 rfl rfl, by decide +kernel, by decide⟩
theorem vo_X6_append : VOk yX6_append 6 := ⟨mem_t2 46 rfl rfl, mem_pv (n := 2) (List.mem_of_getElem? (i := 0) rfl), by decide, rfl⟩
abbrev m_X6_byteAt : MD := (yX6_byteAt, cX6_byteAt, 2, (some FieldType.int))
theorem mo_X6_byteAt : MOk m_X6_byteAt 1 := ⟨mem_t2 67 rfl rfl, mem_t1 2 rfl rfl, by decide +kernel, by decide⟩
theorem vo_X6_byteAt : VOk yX6_byteAt 6 := ⟨mem_t2 66 rfl rfl, mem_pv (n := 2) (List.mem_of_getElem? (i := 3) rfl), by decide, rfl⟩
abbrev m_X7_isDigit : MD := (yX7_isDigit, cX7_isDigit, 1, (some FieldType.boolean))
theorem mo_X7_isDigit : MOk m_X7_isDigit 1 := ⟨mem_t2 70 rfl rfl, mem_t1 4 rfl rfl, by decide +kernel, by decide⟩
theorem vo_X7_isDigit : Cond.static yX7_isDigit ∈ gtb := mem_t2 69 rfl rfl
abbrev m_X7_endOfDigits : MD := (yX7_endOfDigits, cX7_endOfDigits, 3, (some FieldType.int))
theorem mo_X7_endOfDigits : MOk m_X7_endOfDigits 1 := ⟨mem_t2 88 rfl rfl, mem_t1 4 rfl rfl, by decide +kernel, by decide⟩
theorem vo_X7_endOfDigits : VOk yX7_endOfDigits 7 := ⟨mem_t2 87 rfl rfl, mem_pv (n := 8) (List.mem_of_getElem? (i := 6) rfl), by decide, rfl⟩
abbrev m_X7_isLetter : MD := (yX7_isLetter, cX7_isLetter, 1, (some FieldType.boolean))
theorem mo_X7_isLetter : MOk m_X7_isLetter 1 := ⟨mem_t2 73 rfl rfl, mem_t1 4 rfl rfl, by decide +kernel, by decide⟩
theorem vo_X7_isLetter : Cond.static yX7_isLetter ∈ gtb := mem_t2 72 rfl rfl
abbrev m_X7_isSpace : MD := (yX7_isSpace, cX7_isSpace, 1, (some FieldType.boolean))
theorem mo_X7_isSpace : MOk m_X7_isSpace 1 := ⟨mem_t2 76 rfl rfl, mem_t1 4 rfl rfl, by decide +kernel, by decide⟩
theorem vo_X7_isSpace : Cond.static yX7_isSpace ∈ gtb := mem_t2 75 rfl rfl
abbrev m_X7_advance : MD := (yX7_advance, cX7_advance, 3, none)
theorem mo_X7_advance : MOk m_X7_advance 0 := ⟨mem_t2 84 rfl rfl, mem_t1 4 rfl rfl, by decide +kernel, by decide⟩
theorem vo_X7_advance : VOk yX7_advance 7 := ⟨mem_t2 83 rfl rfl, mem_pv (n := 8) (List.mem_of_getElem? (i := 5) rfl), by decide, rfl⟩
abbrev m_X7_refuse : MD := (yX7_refuse, cX7_refuse, 2, (some FieldType.boolean))
theorem mo_X7_refuse : MOk m_X7_refuse 1 := ⟨mem_t2 80 rfl rfl, mem_t1 4 rfl rfl, by decide +kernel, by decide⟩
theorem vo_X7_refuse : VOk yX7_refuse 7 := ⟨mem_t2 79 rfl rfl, mem_pv (n := 8) (List.mem_of_getElem? (i := 4) rfl), by decide, rfl⟩
abbrev m_X7_cutsClean : MD := (yX7_cutsClean, cX7_cutsClean, 5, (some FieldType.boolean))
theorem mo_X7_cutsClean : MOk m_X7_cutsClean 0 := ⟨mem_t2 63 rfl rfl, mem_t1 4 rfl rfl, by decide +kernel, by decide⟩
theorem vo_X7_cutsClean : VOk yX7_cutsClean 7 := ⟨mem_t2 62 rfl rfl, mem_pv (n := 8) (List.mem_of_getElem? (i := 2) rfl), by decide, rfl⟩
abbrev m_X8_isSize : MD := (yX8_isSize, cX8_isSize, 2, (some FieldType.boolean))
theorem mo_X8_isSize : MOk m_X8_isSize 2 := ⟨mem_t2 99 rfl rfl, mem_t1 1 rfl rfl, by decide +kernel, by decide⟩
theorem vo_X8_isSize : Cond.static yX8_isSize ∈ gtb := mem_t2 98 rfl rfl
abbrev m_X7_sizeRead : MD := (yX7_sizeRead, cX7_sizeRead, 3, (some FieldType.int))
theorem mo_X7_sizeRead : MOk m_X7_sizeRead 1 := ⟨mem_t2 96 rfl rfl, mem_t1 4 rfl rfl, by decide +kernel, by decide⟩
theorem vo_X7_sizeRead : VOk yX7_sizeRead 7 := ⟨mem_t2 95 rfl rfl, mem_pv (n := 8) (List.mem_of_getElem? (i := 8) rfl), by decide, rfl⟩
abbrev m_X7_readsHead : MD := (yX7_readsHead, cX7_readsHead, 4, (some FieldType.boolean))
theorem mo_X7_readsHead : MOk m_X7_readsHead 0 := ⟨mem_t2 92 rfl rfl, mem_t1 4 rfl rfl, by decide +kernel, by decide⟩
theorem vo_X7_readsHead : VOk yX7_readsHead 7 := ⟨mem_t2 91 rfl rfl, mem_pv (n := 8) (List.mem_of_getElem? (i := 7) rfl), by decide, rfl⟩
abbrev m_X7_readsRun : MD := (yX7_readsRun, cX7_readsRun, 5, (some FieldType.boolean))
theorem mo_X7_readsRun : MOk m_X7_readsRun 2 := ⟨mem_t2 116 rfl rfl, mem_t1 4 rfl rfl, by decide +kernel, by decide⟩
theorem vo_X7_readsRun : VOk yX7_readsRun 7 := ⟨mem_t2 115 rfl rfl, mem_pv (n := 8) (List.mem_of_getElem? (i := 12) rfl), by decide, rfl⟩
abbrev m_X7_readsLine : MD := (yX7_readsLine, cX7_readsLine, 3, (some FieldType.boolean))
theorem mo_X7_readsLine : MOk m_X7_readsLine 1 := ⟨mem_t2 112 rfl rfl, mem_t1 4 rfl rfl, by decide +kernel, by decide⟩
theorem vo_X7_readsLine : VOk yX7_readsLine 7 := ⟨mem_t2 111 rfl rfl, mem_pv (n := 8) (List.mem_of_getElem? (i := 11) rfl), by decide, rfl⟩
abbrev m_X7_readsAll : MD := (yX7_readsAll, cX7_readsAll, 2, (some FieldType.boolean))
theorem mo_X7_readsAll : MOk m_X7_readsAll 0 := ⟨mem_t2 59 rfl rfl, mem_t1 4 rfl rfl, by decide +kernel, by decide⟩
theorem vo_X7_readsAll : VOk yX7_readsAll 7 := ⟨mem_t2 58 rfl rfl, mem_pv (n := 8) (List.mem_of_getElem? (i := 1) rfl), by decide, rfl⟩
abbrev m_X8_feed : MD := (yX8_feed, cX8_feed, 6, (some FieldType.int))
theorem mo_X8_feed : MOk m_X8_feed 5 := ⟨mem_t2 43 rfl rfl, mem_t1 1 rfl rfl, by decide +kernel, by decide⟩
theorem vo_X8_feed : VOk yX8_feed 8 := ⟨mem_t2 41 rfl rfl, mem_t2 42 rfl rfl, by decide, rfl⟩
abbrev m_X8_end : MD := (yX8_end, cX8_end, 2, (some FieldType.int))
theorem mo_X8_end : MOk m_X8_end 1 := ⟨mem_t2 51 rfl rfl, mem_t1 1 rfl rfl, by decide +kernel, by decide⟩
theorem vo_X8_end : VOk yX8_end 8 := ⟨mem_t2 49 rfl rfl, mem_t2 50 rfl rfl, by decide, rfl⟩
abbrev m_X8_beginPuzzle : MD := (yX8_beginPuzzle, cX8_beginPuzzle, 1, none)
theorem mo_X8_beginPuzzle : MOk m_X8_beginPuzzle 0 := ⟨mem_t2 164 rfl rfl, mem_t1 1 rfl rfl, by decide +kernel, by decide⟩
theorem vo_X8_beginPuzzle : VOk yX8_beginPuzzle 8 := ⟨mem_t2 163 rfl rfl, mem_pv (n := 14) (List.mem_of_getElem? (i := 23) rfl), by decide, rfl⟩
abbrev m_X8_load : MD := (yX8_load, cX8_load, 2, (some FieldType.int))
theorem mo_X8_load : MOk m_X8_load 0 := ⟨mem_t2 55 rfl rfl, mem_t1 1 rfl rfl, by decide +kernel, by decide⟩
theorem vo_X8_load : VOk yX8_load 8 := ⟨mem_t2 53 rfl rfl, mem_t2 54 rfl rfl, by decide, rfl⟩
abbrev m_X8_fault : MD := (yX8_fault, cX8_fault, 1, (some FieldType.int))
theorem mo_X8_fault : MOk m_X8_fault 0 := ⟨mem_t2 172 rfl rfl, mem_t1 1 rfl rfl, by decide +kernel, by decide⟩
theorem vo_X8_fault : VOk yX8_fault 8 := ⟨mem_t2 170 rfl rfl, mem_t2 171 rfl rfl, by decide, rfl⟩
abbrev m_X8_blank : MD := (yX8_blank, cX8_blank, 4, (some FieldType.boolean))
theorem mo_X8_blank : MOk m_X8_blank 3 := ⟨mem_t2 176 rfl rfl, mem_t1 1 rfl rfl, by decide +kernel, by decide⟩
theorem vo_X8_blank : VOk yX8_blank 8 := ⟨mem_t2 174 rfl rfl, mem_t2 175 rfl rfl, by decide, rfl⟩
abbrev m_X8_hasPuzzle : MD := (yX8_hasPuzzle, cX8_hasPuzzle, 1, (some FieldType.boolean))
theorem mo_X8_hasPuzzle : MOk m_X8_hasPuzzle 0 := ⟨mem_t2 186 rfl rfl, mem_t1 1 rfl rfl, by decide +kernel, by decide⟩
theorem vo_X8_hasPuzzle : VOk yX8_hasPuzzle 8 := ⟨mem_t2 185 rfl rfl, mem_pv (n := 14) (List.mem_of_getElem? (i := 25) rfl), by decide, rfl⟩
abbrev m_X8_about : MD := (yX8_about, cX8_about, 2, (some FieldType.int))
theorem mo_X8_about : MOk m_X8_about 1 := ⟨mem_t2 182 rfl rfl, mem_t1 1 rfl rfl, by decide +kernel, by decide⟩
theorem vo_X8_about : VOk yX8_about 8 := ⟨mem_t2 180 rfl rfl, mem_t2 181 rfl rfl, by decide, rfl⟩
abbrev m_X8_isLine : MD := (yX8_isLine, cX8_isLine, 2, (some FieldType.boolean))
theorem mo_X8_isLine : MOk m_X8_isLine 1 := ⟨mem_t2 213 rfl rfl, mem_t1 1 rfl rfl, by decide +kernel, by decide⟩
theorem vo_X8_isLine : VOk yX8_isLine 8 := ⟨mem_t2 212 rfl rfl, mem_pv (n := 14) (List.mem_of_getElem? (i := 28) rfl), by decide, rfl⟩
abbrev m_X8_run : MD := (yX8_run, cX8_run, 4, (some FieldType.int))
theorem mo_X8_run : MOk m_X8_run 3 := ⟨mem_t2 209 rfl rfl, mem_t1 1 rfl rfl, by decide +kernel, by decide⟩
theorem vo_X8_run : VOk yX8_run 8 := ⟨mem_t2 207 rfl rfl, mem_t2 208 rfl rfl, by decide, rfl⟩
abbrev m_X8_isCell : MD := (yX8_isCell, cX8_isCell, 3, (some FieldType.boolean))
theorem mo_X8_isCell : MOk m_X8_isCell 2 := ⟨mem_t2 223 rfl rfl, mem_t1 1 rfl rfl, by decide +kernel, by decide⟩
theorem vo_X8_isCell : VOk yX8_isCell 8 := ⟨mem_t2 222 rfl rfl, mem_pv (n := 14) (List.mem_of_getElem? (i := 29) rfl), by decide, rfl⟩
abbrev m_X8_isValueOrNone : MD := (yX8_isValueOrNone, cX8_isValueOrNone, 2, (some FieldType.boolean))
theorem mo_X8_isValueOrNone : MOk m_X8_isValueOrNone 1 := ⟨mem_t2 227 rfl rfl, mem_t1 1 rfl rfl, by decide +kernel, by decide⟩
theorem vo_X8_isValueOrNone : VOk yX8_isValueOrNone 8 := ⟨mem_t2 226 rfl rfl, mem_pv (n := 14) (List.mem_of_getElem? (i := 30) rfl), by decide, rfl⟩
abbrev m_X8_give : MD := (yX8_give, cX8_give, 4, (some FieldType.boolean))
theorem mo_X8_give : MOk m_X8_give 3 := ⟨mem_t2 219 rfl rfl, mem_t1 1 rfl rfl, by decide +kernel, by decide⟩
theorem vo_X8_give : VOk yX8_give 8 := ⟨mem_t2 217 rfl rfl, mem_t2 218 rfl rfl, by decide, rfl⟩
abbrev m_X8_given : MD := (yX8_given, cX8_given, 3, (some FieldType.int))
theorem mo_X8_given : MOk m_X8_given 2 := ⟨mem_t3 3 rfl rfl, mem_t1 1 rfl rfl, by decide +kernel, by decide⟩
theorem vo_X8_given : VOk yX8_given 8 := ⟨mem_t3 1 rfl rfl, mem_t3 2 rfl rfl, by decide, rfl⟩
abbrev m_X8_fresh : MD := (yX8_fresh, cX8_fresh, 1, (some FieldType.boolean))
theorem mo_X8_fresh : MOk m_X8_fresh 0 := ⟨mem_t3 8 rfl rfl, mem_t1 1 rfl rfl, by decide +kernel, by decide⟩
theorem vo_X8_fresh : VOk yX8_fresh 8 := ⟨mem_t3 6 rfl rfl, mem_t3 7 rfl rfl, by decide, rfl⟩
abbrev m_X8_rule : MD := (yX8_rule, cX8_rule, 4, (some FieldType.int))
theorem mo_X8_rule : MOk m_X8_rule 1 := ⟨mem_t3 32 rfl rfl, mem_t1 1 rfl rfl, by decide +kernel, by decide⟩
theorem vo_X8_rule : VOk yX8_rule 8 := ⟨mem_t3 30 rfl rfl, mem_t3 31 rfl rfl, by decide, rfl⟩
abbrev m_X8_ways : MD := (yX8_ways, cX8_ways, 2, (some FieldType.long))
theorem mo_X8_ways : MOk m_X8_ways 1 := ⟨mem_t3 64 rfl rfl, mem_t1 1 rfl rfl, by decide +kernel, by decide⟩
theorem vo_X8_ways : VOk yX8_ways 8 := ⟨mem_t3 62 rfl rfl, mem_t3 63 rfl rfl, by decide, rfl⟩
abbrev m_X8_rest : MD := (yX8_rest, cX8_rest, 1, (some FieldType.int))
theorem mo_X8_rest : MOk m_X8_rest 0 := ⟨mem_t3 78 rfl rfl, mem_t1 1 rfl rfl, by decide +kernel, by decide⟩
theorem vo_X8_rest : VOk yX8_rest 8 := ⟨mem_t3 76 rfl rfl, mem_t3 77 rfl rfl, by decide, rfl⟩
abbrev m_X8_tries : MD := (yX8_tries, cX8_tries, 2, (some FieldType.int))
theorem mo_X8_tries : MOk m_X8_tries 0 := ⟨mem_t3 94 rfl rfl, mem_t1 1 rfl rfl, by decide +kernel, by decide⟩
theorem vo_X8_tries : VOk yX8_tries 8 := ⟨mem_t3 92 rfl rfl, mem_t3 93 rfl rfl, by decide, rfl⟩
abbrev m_X8_set : MD := (yX8_set, cX8_set, 3, (some FieldType.int))
theorem mo_X8_set : MOk m_X8_set 2 := ⟨mem_t3 124 rfl rfl, mem_t1 1 rfl rfl, by decide +kernel, by decide⟩
theorem vo_X8_set : VOk yX8_set 8 := ⟨mem_t3 122 rfl rfl, mem_t3 123 rfl rfl, by decide, rfl⟩
abbrev m_X8_search : MD := (yX8_search, cX8_search, 3, (some FieldType.int))
theorem mo_X8_search : MOk m_X8_search 2 := ⟨mem_t3 129 rfl rfl, mem_t1 1 rfl rfl, by decide +kernel, by decide⟩
theorem vo_X8_search : VOk yX8_search 8 := ⟨mem_t3 127 rfl rfl, mem_t3 128 rfl rfl, by decide, rfl⟩
abbrev m_X8_nodes : MD := (yX8_nodes, cX8_nodes, 1, (some FieldType.int))
theorem mo_X8_nodes : MOk m_X8_nodes 0 := ⟨mem_t3 181 rfl rfl, mem_t1 1 rfl rfl, by decide +kernel, by decide⟩
theorem vo_X8_nodes : VOk yX8_nodes 8 := ⟨mem_t3 179 rfl rfl, mem_t3 180 rfl rfl, by decide, rfl⟩
abbrev m_X8_solution : MD := (yX8_solution, cX8_solution, 4, (some FieldType.int))
theorem mo_X8_solution : MOk m_X8_solution 3 := ⟨mem_t3 185 rfl rfl, mem_t1 1 rfl rfl, by decide +kernel, by decide⟩
theorem vo_X8_solution : VOk yX8_solution 8 := ⟨mem_t3 183 rfl rfl, mem_t3 184 rfl rfl, by decide, rfl⟩
abbrev m_X8_level : MD := (yX8_level, cX8_level, 1, (some FieldType.int))
theorem mo_X8_level : MOk m_X8_level 0 := ⟨mem_t3 194 rfl rfl, mem_t1 1 rfl rfl, by decide +kernel, by decide⟩
theorem vo_X8_level : VOk yX8_level 8 := ⟨mem_t3 192 rfl rfl, mem_t3 193 rfl rfl, by decide, rfl⟩
abbrev m_X8_mark : MD := (yX8_mark, cX8_mark, 4, (some FieldType.boolean))
theorem mo_X8_mark : MOk m_X8_mark 3 := ⟨mem_t3 204 rfl rfl, mem_t1 1 rfl rfl, by decide +kernel, by decide⟩
theorem vo_X8_mark : VOk yX8_mark 8 := ⟨mem_t3 202 rfl rfl, mem_t3 203 rfl rfl, by decide, rfl⟩
abbrev m_X8_marked : MD := (yX8_marked, cX8_marked, 3, (some FieldType.int))
theorem mo_X8_marked : MOk m_X8_marked 2 := ⟨mem_t3 208 rfl rfl, mem_t1 1 rfl rfl, by decide +kernel, by decide⟩
theorem vo_X8_marked : VOk yX8_marked 8 := ⟨mem_t3 206 rfl rfl, mem_t3 207 rfl rfl, by decide, rfl⟩
abbrev m_X8_areGivensMarked : MD := (yX8_areGivensMarked, cX8_areGivensMarked, 4, (some FieldType.boolean))
theorem mo_X8_areGivensMarked : MOk m_X8_areGivensMarked 0 := ⟨mem_t4 12 rfl rfl, mem_t1 1 rfl rfl, by decide +kernel, by decide⟩
theorem vo_X8_areGivensMarked : VOk yX8_areGivensMarked 8 := ⟨mem_t4 11 rfl rfl, mem_pv (n := 14) (List.mem_of_getElem? (i := 69) rfl), by decide, rfl⟩
abbrev m_X8_draftFromMarks : MD := (yX8_draftFromMarks, cX8_draftFromMarks, 2, none)
theorem mo_X8_draftFromMarks : MOk m_X8_draftFromMarks 0 := ⟨mem_t3 216 rfl rfl, mem_t1 1 rfl rfl, by decide +kernel, by decide⟩
theorem vo_X8_draftFromMarks : VOk yX8_draftFromMarks 8 := ⟨mem_t3 215 rfl rfl, mem_pv (n := 14) (List.mem_of_getElem? (i := 61) rfl), by decide, rfl⟩
abbrev m_X8_done : MD := (yX8_done, cX8_done, 1, (some FieldType.int))
theorem mo_X8_done : MOk m_X8_done 0 := ⟨mem_t3 212 rfl rfl, mem_t1 1 rfl rfl, by decide +kernel, by decide⟩
theorem vo_X8_done : VOk yX8_done 8 := ⟨mem_t3 210 rfl rfl, mem_t3 211 rfl rfl, by decide, rfl⟩
abbrev m_X8_wrong : MD := (yX8_wrong, cX8_wrong, 5, (some FieldType.int))
theorem mo_X8_wrong : MOk m_X8_wrong 0 := ⟨mem_t4 17 rfl rfl, mem_t1 1 rfl rfl, by decide +kernel, by decide⟩
theorem vo_X8_wrong : VOk yX8_wrong 8 := ⟨mem_t4 15 rfl rfl, mem_t4 16 rfl rfl, by decide, rfl⟩
abbrev m_X8_hintOf : MD := (yX8_hintOf, cX8_hintOf, 9, (some FieldType.int))
theorem mo_X8_hintOf : MOk m_X8_hintOf 2 := ⟨mem_t4 27 rfl rfl, mem_t1 1 rfl rfl, by decide +kernel, by decide⟩
theorem vo_X8_hintOf : VOk yX8_hintOf 8 := ⟨mem_t4 26 rfl rfl, mem_pv (n := 14) (List.mem_of_getElem? (i := 70) rfl), by decide, rfl⟩
abbrev m_X8_hint : MD := (yX8_hint, cX8_hint, 5, (some FieldType.int))
theorem mo_X8_hint : MOk m_X8_hint 0 := ⟨mem_t4 21 rfl rfl, mem_t1 1 rfl rfl, by decide +kernel, by decide⟩
theorem vo_X8_hint : VOk yX8_hint 8 := ⟨mem_t4 19 rfl rfl, mem_t4 20 rfl rfl, by decide, rfl⟩
abbrev m_X8_draw : MD := (yX8_draw, cX8_draw, 1, (some FieldType.int))
theorem mo_X8_draw : MOk m_X8_draw 0 := ⟨mem_t4 36 rfl rfl, mem_t1 1 rfl rfl, by decide +kernel, by decide⟩
theorem vo_X8_draw : VOk yX8_draw 8 := ⟨mem_t4 34 rfl rfl, mem_t4 35 rfl rfl, by decide, rfl⟩
abbrev m_X8_giveFirstUnlike : MD := (yX8_giveFirstUnlike, cX8_giveFirstUnlike, 3, none)
theorem mo_X8_giveFirstUnlike : MOk m_X8_giveFirstUnlike 0 := ⟨mem_t4 45 rfl rfl, mem_t1 1 rfl rfl, by decide +kernel, by decide⟩
theorem vo_X8_giveFirstUnlike : VOk yX8_giveFirstUnlike 8 := ⟨mem_t4 44 rfl rfl, mem_pv (n := 14) (List.mem_of_getElem? (i := 71) rfl), by decide, rfl⟩
abbrev m_X8_mend : MD := (yX8_mend, cX8_mend, 3, (some FieldType.int))
theorem mo_X8_mend : MOk m_X8_mend 0 := ⟨mem_t4 40 rfl rfl, mem_t1 1 rfl rfl, by decide +kernel, by decide⟩
theorem vo_X8_mend : VOk yX8_mend 8 := ⟨mem_t4 38 rfl rfl, mem_t4 39 rfl rfl, by decide, rfl⟩
abbrev m_X9_in : MD := (yX9_in, cX9_in, 3, (some FieldType.boolean))
theorem mo_X9_in : MOk m_X9_in 3 := ⟨mem_t4 218 rfl rfl, mem_t1 11 rfl rfl, by decide +kernel, by decide⟩
theorem vo_X9_in : Cond.static yX9_in ∈ gtb := mem_t4 217 rfl rfl
abbrev m_X9_is : MD := (yX9_is, cX9_is, 1, (some FieldType.boolean))
theorem mo_X9_is : MOk m_X9_is 0 := ⟨mem_t5 50 rfl rfl, mem_t1 11 rfl rfl, by decide +kernel, by decide⟩
theorem vo_X9_is : VOk yX9_is 9 := ⟨mem_t5 49 rfl rfl, mem_pv (n := 50) (List.mem_of_getElem? (i := 86) rfl), by decide, rfl⟩
abbrev m_X9_lines : MD := (yX9_lines, cX9_lines, 1, (some FieldType.int))
theorem mo_X9_lines : MOk m_X9_lines 0 := ⟨mem_t5 34 rfl rfl, mem_t1 11 rfl rfl, by decide +kernel, by decide⟩
theorem vo_X9_lines : VOk yX9_lines 9 := ⟨mem_t5 33 rfl rfl, mem_pv (n := 50) (List.mem_of_getElem? (i := 85) rfl), by decide, rfl⟩
abbrev m_X9_isLine : MD := (yX9_isLine, cX9_isLine, 2, (some FieldType.boolean))
theorem mo_X9_isLine : MOk m_X9_isLine 1 := ⟨mem_t5 65 rfl rfl, mem_t1 11 rfl rfl, by decide +kernel, by decide⟩
theorem vo_X9_isLine : VOk yX9_isLine 9 := ⟨mem_t5 64 rfl rfl, mem_pv (n := 50) (List.mem_of_getElem? (i := 88) rfl), by decide, rfl⟩
abbrev m_X9_isCell : MD := (yX9_isCell, cX9_isCell, 3, (some FieldType.boolean))
theorem mo_X9_isCell : MOk m_X9_isCell 2 := ⟨mem_t5 54 rfl rfl, mem_t1 11 rfl rfl, by decide +kernel, by decide⟩
theorem vo_X9_isCell : VOk yX9_isCell 9 := ⟨mem_t5 53 rfl rfl, mem_pv (n := 50) (List.mem_of_getElem? (i := 87) rfl), by decide, rfl⟩
abbrev m_X9_sizeOf : MD := (yX9_sizeOf, cX9_sizeOf, 2, (some FieldType.int))
theorem mo_X9_sizeOf : MOk m_X9_sizeOf 1 := ⟨mem_t5 101 rfl rfl, mem_t1 11 rfl rfl, by decide +kernel, by decide⟩
theorem vo_X9_sizeOf : VOk yX9_sizeOf 9 := ⟨mem_t5 100 rfl rfl, mem_pv (n := 50) (List.mem_of_getElem? (i := 93) rfl), by decide, rfl⟩
abbrev m_X9_cellOf : MD := (yX9_cellOf, cX9_cellOf, 3, (some FieldType.int))
theorem mo_X9_cellOf : MOk m_X9_cellOf 2 := ⟨mem_t5 109 rfl rfl, mem_t1 11 rfl rfl, by decide +kernel, by decide⟩
theorem vo_X9_cellOf : VOk yX9_cellOf 9 := ⟨mem_t5 108 rfl rfl, mem_pv (n := 50) (List.mem_of_getElem? (i := 95) rfl), by decide, rfl⟩
abbrev m_X9_inOrder : MD := (yX9_inOrder, cX9_inOrder, 2, (some FieldType.int))
theorem mo_X9_inOrder : MOk m_X9_inOrder 1 := ⟨mem_t5 138 rfl rfl, mem_t1 11 rfl rfl, by decide +kernel, by decide⟩
theorem vo_X9_inOrder : VOk yX9_inOrder 9 := ⟨mem_t5 137 rfl rfl, mem_pv (n := 50) (List.mem_of_getElem? (i := 99) rfl), by decide, rfl⟩
abbrev m_X9_isNew : MD := (yX9_isNew, cX9_isNew, 2, none)
theorem mo_X9_isNew : MOk m_X9_isNew 0 := ⟨mem_t5 22 rfl rfl, mem_t1 11 rfl rfl, by decide +kernel, by decide⟩
theorem vo_X9_isNew : VOk yX9_isNew 9 := ⟨mem_t5 21 rfl rfl, mem_pv (n := 50) (List.mem_of_getElem? (i := 82) rfl), by decide, rfl⟩
abbrev m_X9_noMarks : MD := (yX9_noMarks, cX9_noMarks, 2, none)
theorem mo_X9_noMarks : MOk m_X9_noMarks 0 := ⟨mem_t5 26 rfl rfl, mem_t1 11 rfl rfl, by decide +kernel, by decide⟩
theorem vo_X9_noMarks : VOk yX9_noMarks 9 := ⟨mem_t5 25 rfl rfl, mem_pv (n := 50) (List.mem_of_getElem? (i := 83) rfl), by decide, rfl⟩
abbrev m_X9_runMany : MD := (yX9_runMany, cX9_runMany, 3, (some FieldType.int))
theorem mo_X9_runMany : MOk m_X9_runMany 0 := ⟨mem_t5 30 rfl rfl, mem_t1 11 rfl rfl, by decide +kernel, by decide⟩
theorem vo_X9_runMany : VOk yX9_runMany 9 := ⟨mem_t5 29 rfl rfl, mem_pv (n := 50) (List.mem_of_getElem? (i := 84) rfl), by decide, rfl⟩
abbrev m_X9_four : MD := (yX9_four, cX9_four, 3, none)
theorem mo_X9_four : MOk m_X9_four 1 := ⟨mem_t4 211 rfl rfl, mem_t1 11 rfl rfl, by decide +kernel, by decide⟩
theorem vo_X9_four : VOk yX9_four 9 := ⟨mem_t4 210 rfl rfl, mem_pv (n := 50) (List.mem_of_getElem? (i := 72) rfl), by decide, rfl⟩
abbrev m_X9_feed : MD := (yX9_feed, cX9_feed, 6, (some FieldType.int))
theorem mo_X9_feed : MOk m_X9_feed 5 := ⟨mem_t4 207 rfl rfl, mem_t1 11 rfl rfl, by decide +kernel, by decide⟩
theorem vo_X9_feed : VOk yX9_feed 9 := ⟨mem_t4 205 rfl rfl, mem_t4 206 rfl rfl, by decide, rfl⟩
abbrev m_X9_end : MD := (yX9_end, cX9_end, 2, (some FieldType.int))
theorem mo_X9_end : MOk m_X9_end 1 := ⟨mem_t4 215 rfl rfl, mem_t1 11 rfl rfl, by decide +kernel, by decide⟩
theorem vo_X9_end : VOk yX9_end 9 := ⟨mem_t4 213 rfl rfl, mem_t4 214 rfl rfl, by decide, rfl⟩
abbrev m_X9_fails : MD := (yX9_fails, cX9_fails, 3, none)
theorem mo_X9_fails : MOk m_X9_fails 2 := ⟨mem_t4 234 rfl rfl, mem_t1 11 rfl rfl, by decide +kernel, by decide⟩
theorem vo_X9_fails : VOk yX9_fails 9 := ⟨mem_t4 233 rfl rfl, mem_pv (n := 50) (List.mem_of_getElem? (i := 75) rfl), by decide, rfl⟩
abbrev m_X9_good : MD := (yX9_good, cX9_good, 1, (some FieldType.boolean))
theorem mo_X9_good : MOk m_X9_good 0 := ⟨mem_t4 230 rfl rfl, mem_t1 11 rfl rfl, by decide +kernel, by decide⟩
theorem vo_X9_good : VOk yX9_good 9 := ⟨mem_t4 229 rfl rfl, mem_pv (n := 50) (List.mem_of_getElem? (i := 74) rfl), by decide, rfl⟩
abbrev m_X9_token : MD := (yX9_token, cX9_token, 4, none)
theorem mo_X9_token : MOk m_X9_token 3 := ⟨mem_t4 238 rfl rfl, mem_t1 11 rfl rfl, by decide +kernel, by decide⟩
theorem vo_X9_token : VOk yX9_token 9 := ⟨mem_t4 237 rfl rfl, mem_pv (n := 50) (List.mem_of_getElem? (i := 76) rfl), by decide, rfl⟩
abbrev m_X9_cut : MD := (yX9_cut, cX9_cut, 5, none)
theorem mo_X9_cut : MOk m_X9_cut 0 := ⟨mem_t4 226 rfl rfl, mem_t1 11 rfl rfl, by decide +kernel, by decide⟩
theorem vo_X9_cut : VOk yX9_cut 9 := ⟨mem_t4 225 rfl rfl, mem_pv (n := 50) (List.mem_of_getElem? (i := 73) rfl), by decide, rfl⟩
abbrev m_X9_number : MD := (yX9_number, cX9_number, 3, (some FieldType.int))
theorem mo_X9_number : MOk m_X9_number 2 := ⟨mem_t5 2 rfl rfl, mem_t1 11 rfl rfl, by decide +kernel, by decide⟩
theorem vo_X9_number : VOk yX9_number 9 := ⟨mem_t5 1 rfl rfl, mem_pv (n := 50) (List.mem_of_getElem? (i := 77) rfl), by decide, rfl⟩
abbrev m_X9_semi : MD := (yX9_semi, cX9_semi, 1, none)
theorem mo_X9_semi : MOk m_X9_semi 0 := ⟨mem_t5 6 rfl rfl, mem_t1 11 rfl rfl, by decide +kernel, by decide⟩
theorem vo_X9_semi : VOk yX9_semi 9 := ⟨mem_t5 5 rfl rfl, mem_pv (n := 50) (List.mem_of_getElem? (i := 78) rfl), by decide, rfl⟩
abbrev m_X9_oneRun : MD := (yX9_oneRun, cX9_oneRun, 3, none)
theorem mo_X9_oneRun : MOk m_X9_oneRun 1 := ⟨mem_t5 14 rfl rfl, mem_t1 11 rfl rfl, by decide +kernel, by decide⟩
theorem vo_X9_oneRun : VOk yX9_oneRun 9 := ⟨mem_t5 13 rfl rfl, mem_pv (n := 50) (List.mem_of_getElem? (i := 80) rfl), by decide, rfl⟩
abbrev m_X9_oneLine : MD := (yX9_oneLine, cX9_oneLine, 4, none)
theorem mo_X9_oneLine : MOk m_X9_oneLine 1 := ⟨mem_t5 10 rfl rfl, mem_t1 11 rfl rfl, by decide +kernel, by decide⟩
theorem vo_X9_oneLine : VOk yX9_oneLine 9 := ⟨mem_t5 9 rfl rfl, mem_pv (n := 50) (List.mem_of_getElem? (i := 79) rfl), by decide, rfl⟩
abbrev m_X9_colourSumsDiffer : MD := (yX9_colourSumsDiffer, cX9_colourSumsDiffer, 5, (some FieldType.boolean))
theorem mo_X9_colourSumsDiffer : MOk m_X9_colourSumsDiffer 0 := ⟨mem_t5 18 rfl rfl, mem_t1 11 rfl rfl, by decide +kernel, by decide⟩
theorem vo_X9_colourSumsDiffer : VOk yX9_colourSumsDiffer 9 := ⟨mem_t5 17 rfl rfl, mem_pv (n := 50) (List.mem_of_getElem? (i := 81) rfl), by decide, rfl⟩
abbrev m_X9_load : MD := (yX9_load, cX9_load, 2, (some FieldType.int))
theorem mo_X9_load : MOk m_X9_load 0 := ⟨mem_t4 222 rfl rfl, mem_t1 11 rfl rfl, by decide +kernel, by decide⟩
theorem vo_X9_load : VOk yX9_load 9 := ⟨mem_t4 220 rfl rfl, mem_t4 221 rfl rfl, by decide, rfl⟩
abbrev m_X9_fault : MD := (yX9_fault, cX9_fault, 1, (some FieldType.int))
theorem mo_X9_fault : MOk m_X9_fault 0 := ⟨mem_t5 38 rfl rfl, mem_t1 11 rfl rfl, by decide +kernel, by decide⟩
theorem vo_X9_fault : VOk yX9_fault 9 := ⟨mem_t5 36 rfl rfl, mem_t5 37 rfl rfl, by decide, rfl⟩
abbrev m_X9_blank : MD := (yX9_blank, cX9_blank, 5, (some FieldType.boolean))
theorem mo_X9_blank : MOk m_X9_blank 3 := ⟨mem_t5 42 rfl rfl, mem_t1 11 rfl rfl, by decide +kernel, by decide⟩
theorem vo_X9_blank : VOk yX9_blank 9 := ⟨mem_t5 40 rfl rfl, mem_t5 41 rfl rfl, by decide, rfl⟩
abbrev m_X9_many : MD := (yX9_many, cX9_many, 3, (some FieldType.int))
theorem mo_X9_many : MOk m_X9_many 1 := ⟨mem_t5 57 rfl rfl, mem_t1 11 rfl rfl, by decide +kernel, by decide⟩
theorem vo_X9_many : Cond.static yX9_many ∈ gtb := mem_t5 56 rfl rfl
abbrev m_X9_about : MD := (yX9_about, cX9_about, 4, (some FieldType.int))
theorem mo_X9_about : MOk m_X9_about 1 := ⟨mem_t5 46 rfl rfl, mem_t1 11 rfl rfl, by decide +kernel, by decide⟩
theorem vo_X9_about : VOk yX9_about 9 := ⟨mem_t5 44 rfl rfl, mem_t5 45 rfl rfl, by decide, rfl⟩
abbrev m_X9_run : MD := (yX9_run, cX9_run, 4, (some FieldType.int))
theorem mo_X9_run : MOk m_X9_run 3 := ⟨mem_t5 61 rfl rfl, mem_t1 11 rfl rfl, by decide +kernel, by decide⟩
theorem vo_X9_run : VOk yX9_run 9 := ⟨mem_t5 59 rfl rfl, mem_t5 60 rfl rfl, by decide, rfl⟩
abbrev m_X9_give : MD := (yX9_give, cX9_give, 4, (some FieldType.boolean))
theorem mo_X9_give : MOk m_X9_give 3 := ⟨mem_t5 69 rfl rfl, mem_t1 11 rfl rfl, by decide +kernel, by decide⟩
theorem vo_X9_give : VOk yX9_give 9 := ⟨mem_t5 67 rfl rfl, mem_t5 68 rfl rfl, by decide, rfl⟩
abbrev m_X9_given : MD := (yX9_given, cX9_given, 3, (some FieldType.int))
theorem mo_X9_given : MOk m_X9_given 2 := ⟨mem_t5 73 rfl rfl, mem_t1 11 rfl rfl, by decide +kernel, by decide⟩
theorem vo_X9_given : VOk yX9_given 9 := ⟨mem_t5 71 rfl rfl, mem_t5 72 rfl rfl, by decide, rfl⟩
abbrev m_X9_first : MD := (yX9_first, cX9_first, 4, none)
theorem mo_X9_first : MOk m_X9_first 2 := ⟨mem_t5 81 rfl rfl, mem_t1 11 rfl rfl, by decide +kernel, by decide⟩
theorem vo_X9_first : VOk yX9_first 9 := ⟨mem_t5 80 rfl rfl, mem_pv (n := 50) (List.mem_of_getElem? (i := 89) rfl), by decide, rfl⟩
abbrev m_X9_fresh : MD := (yX9_fresh, cX9_fresh, 1, (some FieldType.boolean))
theorem mo_X9_fresh : MOk m_X9_fresh 0 := ⟨mem_t5 77 rfl rfl, mem_t1 11 rfl rfl, by decide +kernel, by decide⟩
theorem vo_X9_fresh : VOk yX9_fresh 9 := ⟨mem_t5 75 rfl rfl, mem_t5 76 rfl rfl, by decide, rfl⟩
abbrev m_X9_can : MD := (yX9_can, cX9_can, 3, (some FieldType.boolean))
theorem mo_X9_can : MOk m_X9_can 2 := ⟨mem_t5 105 rfl rfl, mem_t1 11 rfl rfl, by decide +kernel, by decide⟩
theorem vo_X9_can : VOk yX9_can 9 := ⟨mem_t5 104 rfl rfl, mem_pv (n := 50) (List.mem_of_getElem? (i := 94) rfl), by decide, rfl⟩
abbrev m_X9_lay : MD := (yX9_lay, cX9_lay, 10, none)
theorem mo_X9_lay : MOk m_X9_lay 2 := ⟨mem_t5 97 rfl rfl, mem_t1 11 rfl rfl, by decide +kernel, by decide⟩
theorem vo_X9_lay : VOk yX9_lay 9 := ⟨mem_t5 96 rfl rfl, mem_pv (n := 50) (List.mem_of_getElem? (i := 92) rfl), by decide, rfl⟩
abbrev m_X9_allWays : MD := (yX9_allWays, cX9_allWays, 5, none)
theorem mo_X9_allWays : MOk m_X9_allWays 3 := ⟨mem_t5 93 rfl rfl, mem_t1 11 rfl rfl, by decide +kernel, by decide⟩
theorem vo_X9_allWays : VOk yX9_allWays 9 := ⟨mem_t5 92 rfl rfl, mem_pv (n := 50) (List.mem_of_getElem? (i := 91) rfl), by decide, rfl⟩
abbrev m_X9_lineRule : MD := (yX9_lineRule, cX9_lineRule, 7, (some FieldType.int))
theorem mo_X9_lineRule : MOk m_X9_lineRule 3 := ⟨mem_t5 89 rfl rfl, mem_t1 11 rfl rfl, by decide +kernel, by decide⟩
theorem vo_X9_lineRule : VOk yX9_lineRule 9 := ⟨mem_t5 88 rfl rfl, mem_pv (n := 50) (List.mem_of_getElem? (i := 90) rfl), by decide, rfl⟩
abbrev m_X9_toRest : MD := (yX9_toRest, cX9_toRest, 6, (some FieldType.boolean))
theorem mo_X9_toRest : MOk m_X9_toRest 2 := ⟨mem_t5 126 rfl rfl, mem_t1 11 rfl rfl, by decide +kernel, by decide⟩
theorem vo_X9_toRest : VOk yX9_toRest 9 := ⟨mem_t5 125 rfl rfl, mem_pv (n := 50) (List.mem_of_getElem? (i := 97) rfl), by decide, rfl⟩
abbrev m_X9_trying : MD := (yX9_trying, cX9_trying, 7, (some FieldType.boolean))
theorem mo_X9_trying : MOk m_X9_trying 1 := ⟨mem_t5 134 rfl rfl, mem_t1 11 rfl rfl, by decide +kernel, by decide⟩
theorem vo_X9_trying : VOk yX9_trying 9 := ⟨mem_t5 133 rfl rfl, mem_pv (n := 50) (List.mem_of_getElem? (i := 98) rfl), by decide, rfl⟩
abbrev m_X9_rule : MD := (yX9_rule, cX9_rule, 2, (some FieldType.int))
theorem mo_X9_rule : MOk m_X9_rule 1 := ⟨mem_t5 85 rfl rfl, mem_t1 11 rfl rfl, by decide +kernel, by decide⟩
theorem vo_X9_rule : VOk yX9_rule 9 := ⟨mem_t5 83 rfl rfl, mem_t5 84 rfl rfl, by decide, rfl⟩
abbrev m_X9_ways : MD := (yX9_ways, cX9_ways, 2, (some FieldType.long))
theorem mo_X9_ways : MOk m_X9_ways 1 := ⟨mem_t5 113 rfl rfl, mem_t1 11 rfl rfl, by decide +kernel, by decide⟩
theorem vo_X9_ways : VOk yX9_ways 9 := ⟨mem_t5 111 rfl rfl, mem_t5 112 rfl rfl, by decide, rfl⟩
abbrev m_X9_needSets : MD := (yX9_needSets, cX9_needSets, 1, none)
theorem mo_X9_needSets : MOk m_X9_needSets 0 := ⟨mem_t5 122 rfl rfl, mem_t1 11 rfl rfl, by decide +kernel, by decide⟩
theorem vo_X9_needSets : VOk yX9_needSets 9 := ⟨mem_t5 121 rfl rfl, mem_pv (n := 50) (List.mem_of_getElem? (i := 96) rfl), by decide, rfl⟩
abbrev m_X9_rest : MD := (yX9_rest, cX9_rest, 1, (some FieldType.int))
theorem mo_X9_rest : MOk m_X9_rest 0 := ⟨mem_t5 118 rfl rfl, mem_t1 11 rfl rfl, by decide +kernel, by decide⟩
theorem vo_X9_rest : VOk yX9_rest 9 := ⟨mem_t5 116 rfl rfl, mem_t5 117 rfl rfl, by decide, rfl⟩
abbrev m_X9_tries : MD := (yX9_tries, cX9_tries, 1, (some FieldType.int))
theorem mo_X9_tries : MOk m_X9_tries 0 := ⟨mem_t5 130 rfl rfl, mem_t1 11 rfl rfl, by decide +kernel, by decide⟩
theorem vo_X9_tries : VOk yX9_tries 9 := ⟨mem_t5 128 rfl rfl, mem_t5 129 rfl rfl, by decide, rfl⟩
abbrev m_X9_set : MD := (yX9_set, cX9_set, 3, (some FieldType.int))
theorem mo_X9_set : MOk m_X9_set 2 := ⟨mem_t5 142 rfl rfl, mem_t1 11 rfl rfl, by decide +kernel, by decide⟩
theorem vo_X9_set : VOk yX9_set 9 := ⟨mem_t5 140 rfl rfl, mem_t5 141 rfl rfl, by decide, rfl⟩
abbrev m_X9_allOne : MD := (yX9_allOne, cX9_allOne, 4, (some FieldType.boolean))
theorem mo_X9_allOne : MOk m_X9_allOne 2 := ⟨mem_t5 158 rfl rfl, mem_t1 11 rfl rfl, by decide +kernel, by decide⟩
theorem vo_X9_allOne : VOk yX9_allOne 9 := ⟨mem_t5 157 rfl rfl, mem_pv (n := 50) (List.mem_of_getElem? (i := 102) rfl), by decide, rfl⟩
abbrev m_X9_least : MD := (yX9_least, cX9_least, 2, (some FieldType.int))
theorem mo_X9_least : MOk m_X9_least 1 := ⟨mem_t5 161 rfl rfl, mem_t1 11 rfl rfl, by decide +kernel, by decide⟩
theorem vo_X9_least : Cond.static yX9_least ∈ gtb := mem_t5 160 rfl rfl
abbrev m_X9_branch : MD := (yX9_branch, cX9_branch, 6, (some FieldType.int))
theorem mo_X9_branch : MOk m_X9_branch 1 := ⟨mem_t5 165 rfl rfl, mem_t1 11 rfl rfl, by decide +kernel, by decide⟩
theorem vo_X9_branch : VOk yX9_branch 9 := ⟨mem_t5 164 rfl rfl, mem_pv (n := 50) (List.mem_of_getElem? (i := 103) rfl), by decide, rfl⟩
abbrev m_X9_look : MD := (yX9_look, cX9_look, 6, none)
theorem mo_X9_look : MOk m_X9_look 1 := ⟨mem_t5 154 rfl rfl, mem_t1 11 rfl rfl, by decide +kernel, by decide⟩
theorem vo_X9_look : VOk yX9_look 9 := ⟨mem_t5 153 rfl rfl, mem_pv (n := 50) (List.mem_of_getElem? (i := 101) rfl), by decide, rfl⟩
abbrev m_X9_searches : MD := (yX9_searches, cX9_searches, 3, none)
theorem mo_X9_searches : MOk m_X9_searches 2 := ⟨mem_t5 150 rfl rfl, mem_t1 11 rfl rfl, by decide +kernel, by decide⟩
theorem vo_X9_searches : VOk yX9_searches 9 := ⟨mem_t5 149 rfl rfl, mem_pv (n := 50) (List.mem_of_getElem? (i := 100) rfl), by decide, rfl⟩
abbrev m_X9_search : MD := (yX9_search, cX9_search, 4, (some FieldType.int))
theorem mo_X9_search : MOk m_X9_search 2 := ⟨mem_t5 146 rfl rfl, mem_t1 11 rfl rfl, by decide +kernel, by decide⟩
theorem vo_X9_search : VOk yX9_search 9 := ⟨mem_t5 144 rfl rfl, mem_t5 145 rfl rfl, by decide, rfl⟩
abbrev m_X9_nodes : MD := (yX9_nodes, cX9_nodes, 1, (some FieldType.int))
theorem mo_X9_nodes : MOk m_X9_nodes 0 := ⟨mem_t5 169 rfl rfl, mem_t1 11 rfl rfl, by decide +kernel, by decide⟩
theorem vo_X9_nodes : VOk yX9_nodes 9 := ⟨mem_t5 167 rfl rfl, mem_t5 168 rfl rfl, by decide, rfl⟩
abbrev m_X9_solution : MD := (yX9_solution, cX9_solution, 4, (some FieldType.int))
theorem mo_X9_solution : MOk m_X9_solution 3 := ⟨mem_t5 173 rfl rfl, mem_t1 11 rfl rfl, by decide +kernel, by decide⟩
theorem vo_X9_solution : VOk yX9_solution 9 := ⟨mem_t5 171 rfl rfl, mem_t5 172 rfl rfl, by decide, rfl⟩
abbrev m_X9_level : MD := (yX9_level, cX9_level, 1, (some FieldType.int))
theorem mo_X9_level : MOk m_X9_level 0 := ⟨mem_t5 177 rfl rfl, mem_t1 11 rfl rfl, by decide +kernel, by decide⟩
theorem vo_X9_level : VOk yX9_level 9 := ⟨mem_t5 175 rfl rfl, mem_t5 176 rfl rfl, by decide, rfl⟩
abbrev m_X9_mark : MD := (yX9_mark, cX9_mark, 4, (some FieldType.boolean))
theorem mo_X9_mark : MOk m_X9_mark 3 := ⟨mem_t5 181 rfl rfl, mem_t1 11 rfl rfl, by decide +kernel, by decide⟩
theorem vo_X9_mark : VOk yX9_mark 9 := ⟨mem_t5 179 rfl rfl, mem_t5 180 rfl rfl, by decide, rfl⟩
abbrev m_X9_marked : MD := (yX9_marked, cX9_marked, 3, (some FieldType.int))
theorem mo_X9_marked : MOk m_X9_marked 2 := ⟨mem_t5 185 rfl rfl, mem_t1 11 rfl rfl, by decide +kernel, by decide⟩
theorem vo_X9_marked : VOk yX9_marked 9 := ⟨mem_t5 183 rfl rfl, mem_t5 184 rfl rfl, by decide, rfl⟩
abbrev m_X9_shown : MD := (yX9_shown, cX9_shown, 2, (some FieldType.int))
theorem mo_X9_shown : MOk m_X9_shown 1 := ⟨mem_t5 197 rfl rfl, mem_t1 11 rfl rfl, by decide +kernel, by decide⟩
theorem vo_X9_shown : VOk yX9_shown 9 := ⟨mem_t5 196 rfl rfl, mem_pv (n := 50) (List.mem_of_getElem? (i := 105) rfl), by decide, rfl⟩
abbrev m_X9_readsAs : MD := (yX9_readsAs, cX9_readsAs, 6, (some FieldType.int))
theorem mo_X9_readsAs : MOk m_X9_readsAs 1 := ⟨mem_t5 201 rfl rfl, mem_t1 11 rfl rfl, by decide +kernel, by decide⟩
theorem vo_X9_readsAs : VOk yX9_readsAs 9 := ⟨mem_t5 200 rfl rfl, mem_pv (n := 50) (List.mem_of_getElem? (i := 106) rfl), by decide, rfl⟩
abbrev m_X9_isDone : MD := (yX9_isDone, cX9_isDone, 3, (some FieldType.boolean))
theorem mo_X9_isDone : MOk m_X9_isDone 0 := ⟨mem_t5 193 rfl rfl, mem_t1 11 rfl rfl, by decide +kernel, by decide⟩
theorem vo_X9_isDone : VOk yX9_isDone 9 := ⟨mem_t5 192 rfl rfl, mem_pv (n := 50) (List.mem_of_getElem? (i := 104) rfl), by decide, rfl⟩
abbrev m_X9_done : MD := (yX9_done, cX9_done, 1, (some FieldType.int))
theorem mo_X9_done : MOk m_X9_done 0 := ⟨mem_t5 189 rfl rfl, mem_t1 11 rfl rfl, by decide +kernel, by decide⟩
theorem vo_X9_done : VOk yX9_done 9 := ⟨mem_t5 187 rfl rfl, mem_t5 188 rfl rfl, by decide, rfl⟩
abbrev m_X9_wrong : MD := (yX9_wrong, cX9_wrong, 4, (some FieldType.int))
theorem mo_X9_wrong : MOk m_X9_wrong 0 := ⟨mem_t5 205 rfl rfl, mem_t1 11 rfl rfl, by decide +kernel, by decide⟩
theorem vo_X9_wrong : VOk yX9_wrong 9 := ⟨mem_t5 203 rfl rfl, mem_t5 204 rfl rfl, by decide, rfl⟩
abbrev m_X9_hint : MD := (yX9_hint, cX9_hint, 4, (some FieldType.int))
theorem mo_X9_hint : MOk m_X9_hint 0 := ⟨mem_t5 209 rfl rfl, mem_t1 11 rfl rfl, by decide +kernel, by decide⟩
theorem vo_X9_hint : VOk yX9_hint 9 := ⟨mem_t5 207 rfl rfl, mem_t5 208 rfl rfl, by decide, rfl⟩
abbrev m_X9_draw : MD := (yX9_draw, cX9_draw, 3, (some FieldType.int))
theorem mo_X9_draw : MOk m_X9_draw 0 := ⟨mem_t5 213 rfl rfl, mem_t1 11 rfl rfl, by decide +kernel, by decide⟩
theorem vo_X9_draw : VOk yX9_draw 9 := ⟨mem_t5 211 rfl rfl, mem_t5 212 rfl rfl, by decide, rfl⟩
abbrev m_X9_mend : MD := (yX9_mend, cX9_mend, 3, (some FieldType.int))
theorem mo_X9_mend : MOk m_X9_mend 0 := ⟨mem_t5 217 rfl rfl, mem_t1 11 rfl rfl, by decide +kernel, by decide⟩
theorem vo_X9_mend : VOk yX9_mend 9 := ⟨mem_t5 215 rfl rfl, mem_t5 216 rfl rfl, by decide, rfl⟩
theorem fl_X8_12 : FL RX8 12 8 0 := ⟨by decide, by decide +kernel, rfl, Or.inl (mem_t1 237 rfl rfl)⟩
theorem fl_X8_19 : FL RX8 19 8 1 := ⟨by decide, by decide +kernel, rfl, Or.inl (mem_t1 238 rfl rfl)⟩
theorem fl_X8_23 : FL RX8 23 8 2 := ⟨by decide, by decide +kernel, rfl, Or.inl (mem_t1 239 rfl rfl)⟩
theorem fl_X8_31 : FL RX8 31 8 3 := ⟨by decide, by decide +kernel, rfl, Or.inl (mem_t2 0 rfl rfl)⟩
theorem fl_X8_38 : FL RX8 38 8 4 := ⟨by decide, by decide +kernel, rfl, Or.inl (mem_t2 1 rfl rfl)⟩
theorem fl_X8_42 : FL RX8 42 8 5 := ⟨by decide, by decide +kernel, rfl, Or.inl (mem_t2 2 rfl rfl)⟩
theorem fl_X8_50 : FL RX8 50 8 6 := ⟨by decide, by decide +kernel, rfl, Or.inl (mem_t2 3 rfl rfl)⟩
theorem fl_X8_59 : FL RX8 59 8 7 := ⟨by decide, by decide +kernel, rfl, Or.inl (mem_t2 4 rfl rfl)⟩
theorem fl_X8_66 : FL RX8 66 8 8 := ⟨by decide, by decide +kernel, rfl, Or.inl (mem_t2 5 rfl rfl)⟩
theorem fl_X8_70 : FL RX8 70 8 9 := ⟨by decide, by decide +kernel, rfl, Or.inl (mem_t2 6 rfl rfl)⟩
theorem fl_X8_76 : FL RX8 76 8 10 := ⟨by decide, by decide +kernel, rfl, Or.inl (mem_t2 7 rfl rfl)⟩
theorem fl_X8_80 : FL RX8 80 8 11 := ⟨by decide, by decide +kernel, rfl, Or.inl (mem_t2 8 rfl rfl)⟩
theorem fl_X8_83 : FL RX8 83 8 12 := ⟨by decide, by decide +kernel, rfl, Or.inl (mem_t2 9 rfl rfl)⟩
theorem fl_X8_87 : FL RX8 87 8 13 := ⟨by decide, by decide +kernel, rfl, Or.inl (mem_t2 10 rfl rfl)⟩
theorem fl_X8_91 : FL RX8 91 6 1 := ⟨by decide, by decide +kernel, rfl, Or.inr ⟨"CellPictures", mem_n1 31 rfl rfl⟩⟩
theorem fl_X8_102 : FL RX8 102 7 2 := ⟨by decide, by decide +kernel, rfl, Or.inr ⟨"CellPictures", mem_n1 92 rfl rfl⟩⟩
theorem fl_X8_105 : FL RX8 105 7 3 := ⟨by decide, by decide +kernel, rfl, Or.inr ⟨"CellPictures", mem_n1 94 rfl rfl⟩⟩
theorem fl_X8_117 : FL RX8 117 0 6 := ⟨by decide, by decide +kernel, rfl, Or.inr ⟨"CellPictures", mem_n1 66 rfl rfl⟩⟩
theorem fl_X8_131 : FL RX8 131 0 3 := ⟨by decide, by decide +kernel, rfl, Or.inr ⟨"CellPictures", mem_n1 54 rfl rfl⟩⟩
theorem fl_X8_134 : FL RX8 134 0 4 := ⟨by decide, by decide +kernel, rfl, Or.inr ⟨"CellPictures", mem_n1 59 rfl rfl⟩⟩
theorem fl_X8_137 : FL RX8 137 0 5 := ⟨by decide, by decide +kernel, rfl, Or.inr ⟨"CellPictures", mem_n1 63 rfl rfl⟩⟩
theorem fl_X8_144 : FL RX8 144 2 1 := ⟨by decide, by decide +kernel, rfl, Or.inr ⟨"CellPictures", mem_n1 127 rfl rfl⟩⟩
theorem fl_X8_154 : FL RX8 154 0 0 := ⟨by decide, by decide +kernel, rfl, Or.inr ⟨"CellPictures", mem_n1 47 rfl rfl⟩⟩
theorem fl_X8_184 : FL RX8 184 4 1 := ⟨by decide, by decide +kernel, rfl, Or.inr ⟨"CellPictures", mem_n1 172 rfl rfl⟩⟩
theorem fl_X8_230 : FL RX8 230 1 4 := ⟨by decide, by decide +kernel, rfl, Or.inr ⟨"CellPictures", mem_n1 225 rfl rfl⟩⟩
theorem fl_X8_233 : FL RX8 233 1 2 := ⟨by decide, by decide +kernel, rfl, Or.inr ⟨"CellPictures", mem_n1 219 rfl rfl⟩⟩
theorem fl_X8_236 : FL RX8 236 1 3 := ⟨by decide, by decide +kernel, rfl, Or.inr ⟨"CellPictures", mem_n1 222 rfl rfl⟩⟩
theorem fl_X8_260 : FL RX8 260 1 0 := ⟨by decide, by decide +kernel, rfl, Or.inr ⟨"CellPictures", mem_n1 214 rfl rfl⟩⟩
theorem fl_X8_304 : FL RX8 304 1 1 := ⟨by decide, by decide +kernel, rfl, Or.inr ⟨"CellPictures", mem_n1 216 rfl rfl⟩⟩
theorem fl_X0_9 : FL RX0 9 0 0 := ⟨by decide, by decide +kernel, rfl, Or.inl (mem_t1 45 rfl rfl)⟩
theorem fl_X0_15 : FL RX0 15 0 1 := ⟨by decide, by decide +kernel, rfl, Or.inl (mem_t1 48 rfl rfl)⟩
theorem fl_X0_18 : FL RX0 18 0 2 := ⟨by decide, by decide +kernel, rfl, Or.inl (mem_t1 49 rfl rfl)⟩
theorem fl_X0_21 : FL RX0 21 0 3 := ⟨by decide, by decide +kernel, rfl, Or.inl (mem_t1 50 rfl rfl)⟩
theorem fl_X0_25 : FL RX0 25 0 4 := ⟨by decide, by decide +kernel, rfl, Or.inl (mem_t1 55 rfl rfl)⟩
theorem fl_X0_28 : FL RX0 28 0 5 := ⟨by decide, by decide +kernel, rfl, Or.inl (mem_t1 60 rfl rfl)⟩
theorem fl_X0_31 : FL RX0 31 0 6 := ⟨by decide, by decide +kernel, rfl, Or.inl (mem_t1 65 rfl rfl)⟩
theorem fl_X1_12 : FL RX1 12 1 0 := ⟨by decide, by decide +kernel, rfl, Or.inl (mem_t1 213 rfl rfl)⟩
theorem fl_X1_18 : FL RX1 18 1 1 := ⟨by decide, by decide +kernel, rfl, Or.inl (mem_t1 215 rfl rfl)⟩
theorem fl_X1_21 : FL RX1 21 1 2 := ⟨by decide, by decide +kernel, rfl, Or.inl (mem_t1 217 rfl rfl)⟩
theorem fl_X1_25 : FL RX1 25 1 3 := ⟨by decide, by decide +kernel, rfl, Or.inl (mem_t1 220 rfl rfl)⟩
theorem fl_X1_28 : FL RX1 28 1 4 := ⟨by decide, by decide +kernel, rfl, Or.inl (mem_t1 223 rfl rfl)⟩
theorem fl_X1_36 : FL RX1 36 4 0 := ⟨by decide, by decide +kernel, rfl, Or.inr ⟨"CellPictures", mem_n1 169 rfl rfl⟩⟩
theorem fl_X1_42 : FL RX1 42 0 4 := ⟨by decide, by decide +kernel, rfl, Or.inr ⟨"CellPictures", mem_n1 58 rfl rfl⟩⟩
theorem fl_X1_47 : FL RX1 47 0 3 := ⟨by decide, by decide +kernel, rfl, Or.inr ⟨"CellPictures", mem_n1 53 rfl rfl⟩⟩
theorem fl_X2_9 : FL RX2 9 2 0 := ⟨by decide, by decide +kernel, rfl, Or.inl (mem_t1 125 rfl rfl)⟩
theorem fl_X2_15 : FL RX2 15 2 1 := ⟨by decide, by decide +kernel, rfl, Or.inl (mem_t1 126 rfl rfl)⟩
theorem fl_X3_9 : FL RX3 9 3 1 := ⟨by decide, by decide +kernel, rfl, Or.inl (mem_t1 140 rfl rfl)⟩
theorem fl_X3_15 : FL RX3 15 3 2 := ⟨by decide, by decide +kernel, rfl, Or.inl (mem_t1 141 rfl rfl)⟩
theorem fl_X3_18 : FL RX3 18 3 3 := ⟨by decide, by decide +kernel, rfl, Or.inl (mem_t1 142 rfl rfl)⟩
theorem fl_X3_22 : FL RX3 22 3 4 := ⟨by decide, by decide +kernel, rfl, Or.inl (mem_t1 143 rfl rfl)⟩
theorem fl_X3_25 : FL RX3 25 3 0 := ⟨by decide, by decide +kernel, rfl, Or.inl (mem_t1 139 rfl rfl)⟩
theorem fl_X3_35 : FL RX3 35 0 0 := ⟨by decide, by decide +kernel, rfl, Or.inr ⟨"CellPictures", mem_n1 46 rfl rfl⟩⟩
theorem fl_X4_9 : FL RX4 9 4 1 := ⟨by decide, by decide +kernel, rfl, Or.inl (mem_t1 170 rfl rfl)⟩
theorem fl_X4_15 : FL RX4 15 4 0 := ⟨by decide, by decide +kernel, rfl, Or.inl (mem_t1 168 rfl rfl)⟩
theorem fl_X4_35 : FL RX4 35 0 5 := ⟨by decide, by decide +kernel, rfl, Or.inr ⟨"CellPictures", mem_n1 61 rfl rfl⟩⟩
theorem fl_X4_39 : FL RX4 39 0 4 := ⟨by decide, by decide +kernel, rfl, Or.inr ⟨"CellPictures", mem_n1 57 rfl rfl⟩⟩
theorem fl_X4_42 : FL RX4 42 0 3 := ⟨by decide, by decide +kernel, rfl, Or.inr ⟨"CellPictures", mem_n1 52 rfl rfl⟩⟩
theorem fl_X5_9 : FL RX5 9 5 4 := ⟨by decide, by decide +kernel, rfl, Or.inl (mem_t1 182 rfl rfl)⟩
theorem fl_X5_15 : FL RX5 15 5 5 := ⟨by decide, by decide +kernel, rfl, Or.inl (mem_t1 183 rfl rfl)⟩
theorem fl_X5_19 : FL RX5 19 5 6 := ⟨by decide, by decide +kernel, rfl, Or.inl (mem_t1 184 rfl rfl)⟩
theorem fl_X5_22 : FL RX5 22 5 7 := ⟨by decide, by decide +kernel, rfl, Or.inl (mem_t1 185 rfl rfl)⟩
theorem fl_X5_26 : FL RX5 26 5 0 := ⟨by decide, by decide +kernel, rfl, Or.inl (mem_t1 178 rfl rfl)⟩
theorem fl_X5_30 : FL RX5 30 5 1 := ⟨by decide, by decide +kernel, rfl, Or.inl (mem_t1 179 rfl rfl)⟩
theorem fl_X5_39 : FL RX5 39 5 2 := ⟨by decide, by decide +kernel, rfl, Or.inl (mem_t1 180 rfl rfl)⟩
theorem fl_X5_43 : FL RX5 43 5 3 := ⟨by decide, by decide +kernel, rfl, Or.inl (mem_t1 181 rfl rfl)⟩
theorem fl_X5_52 : FL RX5 52 4 1 := ⟨by decide, by decide +kernel, rfl, Or.inr ⟨"CellPictures", mem_n1 171 rfl rfl⟩⟩
theorem fl_X5_64 : FL RX5 64 0 4 := ⟨by decide, by decide +kernel, rfl, Or.inr ⟨"CellPictures", mem_n1 56 rfl rfl⟩⟩
theorem fl_X5_67 : FL RX5 67 0 3 := ⟨by decide, by decide +kernel, rfl, Or.inr ⟨"CellPictures", mem_n1 51 rfl rfl⟩⟩
theorem fl_X5_78 : FL RX5 78 0 5 := ⟨by decide, by decide +kernel, rfl, Or.inr ⟨"CellPictures", mem_n1 62 rfl rfl⟩⟩
theorem fl_X5_124 : FL RX5 124 1 2 := ⟨by decide, by decide +kernel, rfl, Or.inr ⟨"CellPictures", mem_n1 218 rfl rfl⟩⟩
theorem fl_X5_130 : FL RX5 130 1 3 := ⟨by decide, by decide +kernel, rfl, Or.inr ⟨"CellPictures", mem_n1 221 rfl rfl⟩⟩
theorem fl_X5_133 : FL RX5 133 1 4 := ⟨by decide, by decide +kernel, rfl, Or.inr ⟨"CellPictures", mem_n1 224 rfl rfl⟩⟩
theorem fl_X6_9 : FL RX6 9 6 0 := ⟨by decide, by decide +kernel, rfl, Or.inl (mem_t1 29 rfl rfl)⟩
theorem fl_X6_15 : FL RX6 15 6 1 := ⟨by decide, by decide +kernel, rfl, Or.inl (mem_t1 30 rfl rfl)⟩
theorem fl_X7_9 : FL RX7 9 7 2 := ⟨by decide, by decide +kernel, rfl, Or.inl (mem_t1 91 rfl rfl)⟩
theorem fl_X7_15 : FL RX7 15 7 3 := ⟨by decide, by decide +kernel, rfl, Or.inl (mem_t1 93 rfl rfl)⟩
theorem fl_X7_18 : FL RX7 18 7 4 := ⟨by decide, by decide +kernel, rfl, Or.inl (mem_t1 95 rfl rfl)⟩
theorem fl_X7_21 : FL RX7 21 7 5 := ⟨by decide, by decide +kernel, rfl, Or.inl (mem_t1 96 rfl rfl)⟩
theorem fl_X7_24 : FL RX7 24 7 6 := ⟨by decide, by decide +kernel, rfl, Or.inl (mem_t1 97 rfl rfl)⟩
theorem fl_X7_27 : FL RX7 27 7 7 := ⟨by decide, by decide +kernel, rfl, Or.inl (mem_t1 98 rfl rfl)⟩
theorem fl_X7_30 : FL RX7 30 7 0 := ⟨by decide, by decide +kernel, rfl, Or.inl (mem_t1 89 rfl rfl)⟩
theorem fl_X7_34 : FL RX7 34 7 1 := ⟨by decide, by decide +kernel, rfl, Or.inl (mem_t1 90 rfl rfl)⟩
theorem fl_X7_64 : FL RX7 64 6 1 := ⟨by decide, by decide +kernel, rfl, Or.inr ⟨"CellPictures", mem_n1 32 rfl rfl⟩⟩
theorem fl_X7_102 : FL RX7 102 0 5 := ⟨by decide, by decide +kernel, rfl, Or.inr ⟨"CellPictures", mem_n1 64 rfl rfl⟩⟩
theorem fl_X9_9 : FL RX9 9 9 4 := ⟨by decide, by decide +kernel, rfl, Or.inl (mem_t4 57 rfl rfl)⟩
theorem fl_X9_13 : FL RX9 13 9 5 := ⟨by decide, by decide +kernel, rfl, Or.inl (mem_t4 58 rfl rfl)⟩
theorem fl_X9_16 : FL RX9 16 9 6 := ⟨by decide, by decide +kernel, rfl, Or.inl (mem_t4 59 rfl rfl)⟩
theorem fl_X9_19 : FL RX9 19 9 7 := ⟨by decide, by decide +kernel, rfl, Or.inl (mem_t4 60 rfl rfl)⟩
theorem fl_X9_22 : FL RX9 22 9 8 := ⟨by decide, by decide +kernel, rfl, Or.inl (mem_t4 61 rfl rfl)⟩
theorem fl_X9_25 : FL RX9 25 9 9 := ⟨by decide, by decide +kernel, rfl, Or.inl (mem_t4 62 rfl rfl)⟩
theorem fl_X9_28 : FL RX9 28 9 12 := ⟨by decide, by decide +kernel, rfl, Or.inl (mem_t4 65 rfl rfl)⟩
theorem fl_X9_32 : FL RX9 32 9 14 := ⟨by decide, by decide +kernel, rfl, Or.inl (mem_t4 67 rfl rfl)⟩
theorem fl_X9_35 : FL RX9 35 9 15 := ⟨by decide, by decide +kernel, rfl, Or.inl (mem_t4 68 rfl rfl)⟩
theorem fl_X9_38 : FL RX9 38 9 20 := ⟨by decide, by decide +kernel, rfl, Or.inl (mem_t4 73 rfl rfl)⟩
theorem fl_X9_41 : FL RX9 41 9 21 := ⟨by decide, by decide +kernel, rfl, Or.inl (mem_t4 74 rfl rfl)⟩
theorem fl_X9_44 : FL RX9 44 9 22 := ⟨by decide, by decide +kernel, rfl, Or.inl (mem_t4 75 rfl rfl)⟩
theorem fl_X9_47 : FL RX9 47 9 28 := ⟨by decide, by decide +kernel, rfl, Or.inl (mem_t4 81 rfl rfl)⟩
theorem fl_X9_50 : FL RX9 50 9 29 := ⟨by decide, by decide +kernel, rfl, Or.inl (mem_t4 82 rfl rfl)⟩
theorem fl_X9_53 : FL RX9 53 9 30 := ⟨by decide, by decide +kernel, rfl, Or.inl (mem_t4 83 rfl rfl)⟩
theorem fl_X9_56 : FL RX9 56 9 34 := ⟨by decide, by decide +kernel, rfl, Or.inl (mem_t4 87 rfl rfl)⟩
theorem fl_X9_59 : FL RX9 59 9 35 := ⟨by decide, by decide +kernel, rfl, Or.inl (mem_t4 88 rfl rfl)⟩
theorem fl_X9_62 : FL RX9 62 9 38 := ⟨by decide, by decide +kernel, rfl, Or.inl (mem_t4 91 rfl rfl)⟩
theorem fl_X9_65 : FL RX9 65 9 40 := ⟨by decide, by decide +kernel, rfl, Or.inl (mem_t4 93 rfl rfl)⟩
theorem fl_X9_68 : FL RX9 68 9 46 := ⟨by decide, by decide +kernel, rfl, Or.inl (mem_t4 99 rfl rfl)⟩
theorem fl_X9_71 : FL RX9 71 9 47 := ⟨by decide, by decide +kernel, rfl, Or.inl (mem_t4 100 rfl rfl)⟩
theorem fl_X9_74 : FL RX9 74 9 48 := ⟨by decide, by decide +kernel, rfl, Or.inl (mem_t4 101 rfl rfl)⟩
theorem fl_X9_77 : FL RX9 77 9 49 := ⟨by decide, by decide +kernel, rfl, Or.inl (mem_t4 102 rfl rfl)⟩
theorem fl_X9_80 : FL RX9 80 9 0 := ⟨by decide, by decide +kernel, rfl, Or.inl (mem_t4 53 rfl rfl)⟩
theorem fl_X9_83 : FL RX9 83 9 1 := ⟨by decide, by decide +kernel, rfl, Or.inl (mem_t4 54 rfl rfl)⟩
theorem fl_X9_86 : FL RX9 86 9 2 := ⟨by decide, by decide +kernel, rfl, Or.inl (mem_t4 55 rfl rfl)⟩
theorem fl_X9_101 : FL RX9 101 9 10 := ⟨by decide, by decide +kernel, rfl, Or.inl (mem_t4 63 rfl rfl)⟩
theorem fl_X9_105 : FL RX9 105 9 11 := ⟨by decide, by decide +kernel, rfl, Or.inl (mem_t4 64 rfl rfl)⟩
theorem fl_X9_108 : FL RX9 108 9 16 := ⟨by decide, by decide +kernel, rfl, Or.inl (mem_t4 69 rfl rfl)⟩
theorem fl_X9_115 : FL RX9 115 9 17 := ⟨by decide, by decide +kernel, rfl, Or.inl (mem_t4 70 rfl rfl)⟩
theorem fl_X9_118 : FL RX9 118 9 18 := ⟨by decide, by decide +kernel, rfl, Or.inl (mem_t4 71 rfl rfl)⟩
theorem fl_X9_121 : FL RX9 121 9 23 := ⟨by decide, by decide +kernel, rfl, Or.inl (mem_t4 76 rfl rfl)⟩
theorem fl_X9_135 : FL RX9 135 9 24 := ⟨by decide, by decide +kernel, rfl, Or.inl (mem_t4 77 rfl rfl)⟩
theorem fl_X9_138 : FL RX9 138 9 27 := ⟨by decide, by decide +kernel, rfl, Or.inl (mem_t4 80 rfl rfl)⟩
theorem fl_X9_144 : FL RX9 144 9 26 := ⟨by decide, by decide +kernel, rfl, Or.inl (mem_t4 79 rfl rfl)⟩
theorem fl_X9_147 : FL RX9 147 9 25 := ⟨by decide, by decide +kernel, rfl, Or.inl (mem_t4 78 rfl rfl)⟩
theorem fl_X9_166 : FL RX9 166 9 19 := ⟨by decide, by decide +kernel, rfl, Or.inl (mem_t4 72 rfl rfl)⟩
theorem fl_X9_169 : FL RX9 169 9 3 := ⟨by decide, by decide +kernel, rfl, Or.inl (mem_t4 56 rfl rfl)⟩
theorem fl_X9_197 : FL RX9 197 9 31 := ⟨by decide, by decide +kernel, rfl, Or.inl (mem_t4 84 rfl rfl)⟩
theorem fl_X9_200 : FL RX9 200 9 32 := ⟨by decide, by decide +kernel, rfl, Or.inl (mem_t4 85 rfl rfl)⟩
theorem fl_X9_203 : FL RX9 203 9 33 := ⟨by decide, by decide +kernel, rfl, Or.inl (mem_t4 86 rfl rfl)⟩
theorem fl_X9_215 : FL RX9 215 9 36 := ⟨by decide, by decide +kernel, rfl, Or.inl (mem_t4 89 rfl rfl)⟩
theorem fl_X9_226 : FL RX9 226 9 37 := ⟨by decide, by decide +kernel, rfl, Or.inl (mem_t4 90 rfl rfl)⟩
theorem fl_X9_233 : FL RX9 233 9 39 := ⟨by decide, by decide +kernel, rfl, Or.inl (mem_t4 92 rfl rfl)⟩
theorem fl_X9_255 : FL RX9 255 9 44 := ⟨by decide, by decide +kernel, rfl, Or.inl (mem_t4 97 rfl rfl)⟩
theorem fl_X9_264 : FL RX9 264 9 45 := ⟨by decide, by decide +kernel, rfl, Or.inl (mem_t4 98 rfl rfl)⟩
theorem fl_X9_267 : FL RX9 267 9 43 := ⟨by decide, by decide +kernel, rfl, Or.inl (mem_t4 96 rfl rfl)⟩
theorem fl_X9_270 : FL RX9 270 9 41 := ⟨by decide, by decide +kernel, rfl, Or.inl (mem_t4 94 rfl rfl)⟩
theorem fl_X9_273 : FL RX9 273 9 42 := ⟨by decide, by decide +kernel, rfl, Or.inl (mem_t4 95 rfl rfl)⟩
theorem fl_X9_282 : FL RX9 282 9 13 := ⟨by decide, by decide +kernel, rfl, Or.inl (mem_t4 66 rfl rfl)⟩
theorem ml_X8_94 : ML RX8 94 yX6_append := Or.inr ⟨"CellPictures", mem_n2 44 rfl rfl⟩
theorem ml_X8_98 : ML RX8 98 yX7_readsAll := Or.inr ⟨"CellPictures", mem_n2 56 rfl rfl⟩
theorem ml_X8_108 : ML RX8 108 yX0_copy := Or.inr ⟨"CellPictures", mem_n2 150 rfl rfl⟩
theorem ml_X8_111 : ML RX8 111 yX2_clear := Or.inr ⟨"CellPictures", mem_n2 157 rfl rfl⟩
theorem ml_X8_114 : ML RX8 114 yX8_beginPuzzle := Or.inl (mem_t2 161 rfl rfl)
theorem ml_X8_120 : ML RX8 120 yX8_isSize := Or.inl (mem_t2 177 rfl rfl)
theorem ml_X8_124 : ML RX8 124 yX0_begin := Or.inr ⟨"CellPictures", mem_n2 178 rfl rfl⟩
theorem ml_X8_128 : ML RX8 128 yX8_hasPuzzle := Or.inl (mem_t2 183 rfl rfl)
theorem ml_X8_140 : ML RX8 140 yX0_lines := Or.inr ⟨"CellPictures", mem_n2 187 rfl rfl⟩
theorem ml_X8_147 : ML RX8 147 yX4_countSingles := Or.inr ⟨"CellPictures", mem_n2 188 rfl rfl⟩
theorem ml_X8_150 : ML RX8 150 yX8_isLine := Or.inl (mem_t2 210 rfl rfl)
theorem ml_X8_158 : ML RX8 158 yX0_lengthOf := Or.inr ⟨"CellPictures", mem_n2 214 rfl rfl⟩
theorem ml_X8_162 : ML RX8 162 yX0_colourOf := Or.inr ⟨"CellPictures", mem_n2 215 rfl rfl⟩
theorem ml_X8_165 : ML RX8 165 yX8_isCell := Or.inl (mem_t2 220 rfl rfl)
theorem ml_X8_168 : ML RX8 168 yX8_isValueOrNone := Or.inl (mem_t2 224 rfl rfl)
theorem ml_X8_171 : ML RX8 171 yX2_put := Or.inr ⟨"CellPictures", mem_n2 228 rfl rfl⟩
theorem ml_X8_174 : ML RX8 174 yX1_forgetSolutions := Or.inr ⟨"CellPictures", mem_n2 236 rfl rfl⟩
theorem ml_X8_177 : ML RX8 177 yX2_at := Or.inr ⟨"CellPictures", mem_n3 4 rfl rfl⟩
theorem ml_X8_180 : ML RX8 180 yX4_become := Or.inr ⟨"CellPictures", mem_n3 9 rfl rfl⟩
theorem ml_X8_187 : ML RX8 187 yX3_keptOf := Or.inr ⟨"CellPictures", mem_n3 33 rfl rfl⟩
theorem ml_X8_191 : ML RX8 191 yX4_narrow := Or.inr ⟨"CellPictures", mem_n3 56 rfl rfl⟩
theorem ml_X8_195 : ML RX8 195 yJ6_bitCount_0f7a4 := Or.inl (mem_t3 60 rfl rfl)
theorem ml_X8_203 : ML RX8 203 yX3_countWays := Or.inr ⟨"CellPictures", mem_n3 66 rfl rfl⟩
theorem ml_X8_206 : ML RX8 206 yX8_fresh := Or.inl (mem_t3 79 rfl rfl)
theorem ml_X8_209 : ML RX8 209 yX0_allLines := Or.inr ⟨"CellPictures", mem_n3 80 rfl rfl⟩
theorem ml_X8_212 : ML RX8 212 yX5_settle := Or.inr ⟨"CellPictures", mem_n3 84 rfl rfl⟩
theorem ml_X8_216 : ML RX8 216 yX8_rest := Or.inl (mem_t3 95 rfl rfl)
theorem ml_X8_219 : ML RX8 219 yX5_sift := Or.inr ⟨"CellPictures", mem_n3 96 rfl rfl⟩
theorem ml_X8_223 : ML RX8 223 yX4_valuesAt := Or.inr ⟨"CellPictures", mem_n3 125 rfl rfl⟩
theorem ml_X8_226 : ML RX8 226 yX5_seek := Or.inr ⟨"CellPictures", mem_n3 130 rfl rfl⟩
theorem ml_X8_239 : ML RX8 239 yX1_isKept := Or.inr ⟨"CellPictures", mem_n3 186 rfl rfl⟩
theorem ml_X8_242 : ML RX8 242 yX1_kept := Or.inr ⟨"CellPictures", mem_n3 190 rfl rfl⟩
theorem ml_X8_246 : ML RX8 246 yX5_judge := Or.inr ⟨"CellPictures", mem_n3 195 rfl rfl⟩
theorem ml_X8_250 : ML RX8 250 yX8_draftFromMarks := Or.inl (mem_t3 213 rfl rfl)
theorem ml_X8_253 : ML RX8 253 yX0_hasRunsOf := Or.inr ⟨"CellPictures", mem_n4 1 rfl rfl⟩
theorem ml_X8_257 : ML RX8 257 yX8_areGivensMarked := Or.inl (mem_t4 9 rfl rfl)
theorem ml_X8_263 : ML RX8 263 yX4_fill := Or.inr ⟨"CellPictures", mem_n4 22 rfl rfl⟩
theorem ml_X8_266 : ML RX8 266 yX4_tell := Or.inr ⟨"CellPictures", mem_n4 23 rfl rfl⟩
theorem ml_X8_269 : ML RX8 269 yX8_hintOf := Or.inl (mem_t4 24 rfl rfl)
theorem ml_X8_272 : ML RX8 272 yX8_done := Or.inl (mem_t4 41 rfl rfl)
theorem ml_X8_275 : ML RX8 275 yX8_giveFirstUnlike := Or.inl (mem_t4 42 rfl rfl)
theorem ml_X8_278 : ML RX8 278 yX1_forgetAll := Or.inr ⟨"CellPictures", mem_n2 165 rfl rfl⟩
theorem ml_X8_281 : ML RX8 281 yX0_readLine := Or.inr ⟨"CellPictures", mem_n3 217 rfl rfl⟩
theorem ml_X8_285 : ML RX8 285 yX2_valueAt := Or.inr ⟨"CellPictures", mem_n4 13 rfl rfl⟩
theorem ml_X8_288 : ML RX8 288 yX0_cellsOf := Or.inr ⟨"CellPictures", mem_n4 28 rfl rfl⟩
theorem ml_X8_291 : ML RX8 291 yX0_xOf := Or.inr ⟨"CellPictures", mem_n4 29 rfl rfl⟩
theorem ml_X8_294 : ML RX8 294 yX0_yOf := Or.inr ⟨"CellPictures", mem_n4 30 rfl rfl⟩
theorem ml_X8_297 : ML RX8 297 yX4_valuesIn := Or.inr ⟨"CellPictures", mem_n4 31 rfl rfl⟩
theorem ml_X8_301 : ML RX8 301 yX4_leastOf := Or.inr ⟨"CellPictures", mem_n4 32 rfl rfl⟩
theorem ml_X8_307 : ML RX8 307 yX8_give := Or.inl (mem_t4 46 rfl rfl)
theorem ml_X0_34 : ML RX0 34 yJ7_fill_53178 := Or.inl (mem_t2 104 rfl rfl)
theorem ml_X0_40 : cpW RX0 40 := mem_t2 154 rfl rfl
theorem ml_X0_46 : ML RX0 46 yX0_lines := Or.inl (mem_t2 149 rfl rfl)
theorem ml_X0_50 : ML RX0 50 yX0_lengthOf := Or.inl (mem_t2 125 rfl rfl)
theorem ml_X0_54 : ML RX0 54 yX0_needsGapAhead := Or.inl (mem_t2 129 rfl rfl)
theorem ml_X0_58 : ML RX0 58 yX0_cellsOf := Or.inl (mem_t2 133 rfl rfl)
theorem ml_X0_62 : ML RX0 62 yX0_cellsTold := Or.inl (mem_t2 141 rfl rfl)
theorem ml_X0_66 : ML RX0 66 yX0_colourOf := Or.inl (mem_t2 145 rfl rfl)
theorem ml_X0_69 : ML RX0 69 yX0_xOf := Or.inl (mem_t3 221 rfl rfl)
theorem ml_X0_72 : ML RX0 72 yX0_yOf := Or.inl (mem_t3 225 rfl rfl)
theorem ml_X0_75 : ML RX0 75 yX2_valueAt := Or.inr ⟨"CellPictures", mem_n3 229 rfl rfl⟩
theorem ml_X0_80 : ML RX0 80 yX0_addStretch := Or.inl (mem_t3 236 rfl rfl)
theorem ml_X0_84 : ML RX0 84 yX0_add := Or.inl (mem_t4 0 rfl rfl)
theorem ml_X0_87 : ML RX0 87 yX0_isLineLike := Or.inl (mem_t4 5 rfl rfl)
theorem ml_X1_32 : ML RX1 32 yX1_kept := Or.inl (mem_t3 156 rfl rfl)
theorem ml_X1_50 : ML RX1 50 yX4_valuesAt := Or.inr ⟨"CellPictures", mem_n3 160 rfl rfl⟩
theorem ml_X1_54 : ML RX1 54 yX4_leastOf := Or.inr ⟨"CellPictures", mem_n3 161 rfl rfl⟩
theorem ml_X1_58 : ML RX1 58 yX2_put := Or.inr ⟨"CellPictures", mem_n3 164 rfl rfl⟩
theorem ml_X2_19 : ML RX2 19 yJ7_fill_53178 := Or.inl (mem_t1 122 rfl rfl)
theorem ml_X2_25 : ML RX2 25 yX2_at := Or.inl (mem_t2 232 rfl rfl)
theorem ml_X2_29 : mxW RX2 29 := mem_t3 233 rfl rfl
theorem ml_X3_29 : ML RX3 29 yX0_cellsOf := Or.inr ⟨"CellPictures", mem_n3 37 rfl rfl⟩
theorem ml_X3_38 : ML RX3 38 yX3_cellsWith := Or.inl (mem_t3 38 rfl rfl)
theorem ml_X3_42 : ML RX3 42 yX3_spreadUp := Or.inl (mem_t3 41 rfl rfl)
theorem ml_X3_46 : ML RX3 46 yX0_lengthOf := Or.inr ⟨"CellPictures", mem_n3 44 rfl rfl⟩
theorem ml_X3_49 : ML RX3 49 yX0_needsGapAhead := Or.inr ⟨"CellPictures", mem_n3 45 rfl rfl⟩
theorem ml_X3_53 : ML RX3 53 yX0_colourOf := Or.inr ⟨"CellPictures", mem_n3 46 rfl rfl⟩
theorem ml_X3_56 : ML RX3 56 yX3_stretches := Or.inl (mem_t3 47 rfl rfl)
theorem ml_X3_59 : ML RX3 59 yX3_spreadDown := Or.inl (mem_t3 50 rfl rfl)
theorem ml_X3_62 : ML RX3 62 yX3_cover := Or.inl (mem_t3 53 rfl rfl)
theorem ml_X3_65 : ML RX3 65 yX3_countRun := Or.inl (mem_t3 70 rfl rfl)
theorem ml_X3_69 : cpW RX3 69 := mem_t3 74 rfl rfl
theorem ml_X4_19 : ML RX4 19 yX4_fill := Or.inl (mem_t3 13 rfl rfl)
theorem ml_X4_22 : ML RX4 22 yX4_tell := Or.inl (mem_t3 19 rfl rfl)
theorem ml_X4_26 : ML RX4 26 yX0_lines := Or.inr ⟨"CellPictures", mem_n3 17 rfl rfl⟩
theorem ml_X4_31 : ML RX4 31 yX0_cellsOf := Or.inr ⟨"CellPictures", mem_n3 18 rfl rfl⟩
theorem ml_X4_45 : ML RX4 45 yX2_at := Or.inr ⟨"CellPictures", mem_n3 23 rfl rfl⟩
theorem ml_X4_51 : ML RX4 51 yX4_fix := Or.inl (mem_t3 24 rfl rfl)
theorem ml_X4_55 : cpW RX4 55 := mem_t3 114 rfl rfl
theorem ml_X4_65 : ML RX4 65 yX4_valuesIn := Or.inl (mem_t2 196 rfl rfl)
theorem ml_X4_69 : ML RX4 69 yX4_valuesAt := Or.inl (mem_t2 192 rfl rfl)
theorem ml_X4_72 : ML RX4 72 yJ6_bitCount_0f7a4 := Or.inl (mem_t2 200 rfl rfl)
theorem ml_X5_46 : ML RX5 46 yX0_lines := Or.inr ⟨"CellPictures", mem_n3 88 rfl rfl⟩
theorem ml_X5_54 : ML RX5 54 yX3_keptOf := Or.inr ⟨"CellPictures", mem_n3 89 rfl rfl⟩
theorem ml_X5_60 : ML RX5 60 yX4_narrow := Or.inr ⟨"CellPictures", mem_n3 90 rfl rfl⟩
theorem ml_X5_70 : ML RX5 70 yX5_siftCell := Or.inl (mem_t3 100 rfl rfl)
theorem ml_X5_74 : ML RX5 74 yX4_linesThrough := Or.inr ⟨"CellPictures", mem_n3 104 rfl rfl⟩
theorem ml_X5_81 : ML RX5 81 yX4_valuesAt := Or.inr ⟨"CellPictures", mem_n3 108 rfl rfl⟩
theorem ml_X5_84 : ML RX5 84 yJ6_bitCount_0f7a4 := Or.inl (mem_t3 109 rfl rfl)
theorem ml_X5_90 : ML RX5 90 yX4_copy := Or.inr ⟨"CellPictures", mem_n3 110 rfl rfl⟩
theorem ml_X5_94 : ML RX5 94 yX4_fix := Or.inr ⟨"CellPictures", mem_n3 115 rfl rfl⟩
theorem ml_X5_98 : ML RX5 98 yX5_settle := Or.inl (mem_t3 116 rfl rfl)
theorem ml_X5_102 : ML RX5 102 yX4_drop := Or.inr ⟨"CellPictures", mem_n3 117 rfl rfl⟩
theorem ml_X5_105 : ML RX5 105 yX1_begin := Or.inr ⟨"CellPictures", mem_n3 134 rfl rfl⟩
theorem ml_X5_110 : ML RX5 110 yX4_become := Or.inr ⟨"CellPictures", mem_n3 138 rfl rfl⟩
theorem ml_X5_114 : ML RX5 114 yX0_allLines := Or.inr ⟨"CellPictures", mem_n3 139 rfl rfl⟩
theorem ml_X5_117 : ML RX5 117 yX5_opensChoice := Or.inl (mem_t3 140 rfl rfl)
theorem ml_X5_121 : ML RX5 121 yX1_add := Or.inr ⟨"CellPictures", mem_n3 152 rfl rfl⟩
theorem ml_X5_127 : ML RX5 127 yX5_closeEmptyChoices := Or.inl (mem_t3 165 rfl rfl)
theorem ml_X5_137 : ML RX5 137 yX5_followsChoice := Or.inl (mem_t3 169 rfl rfl)
theorem ml_X5_140 : ML RX5 140 yX4_firstOfFewest := Or.inr ⟨"CellPictures", mem_n3 144 rfl rfl⟩
theorem ml_X5_143 : ML RX5 143 yX4_saveTo := Or.inr ⟨"CellPictures", mem_n3 148 rfl rfl⟩
theorem ml_X5_147 : ML RX5 147 yX4_leastOf := Or.inr ⟨"CellPictures", mem_n3 173 rfl rfl⟩
theorem ml_X5_150 : ML RX5 150 yX4_restoreFrom := Or.inr ⟨"CellPictures", mem_n3 174 rfl rfl⟩
theorem ml_X5_153 : ML RX5 153 yX5_sift := Or.inl (mem_t3 199 rfl rfl)
theorem ml_X5_157 : ML RX5 157 yX5_seek := Or.inl (mem_t3 200 rfl rfl)
theorem ml_X7_38 : ML RX7 38 yX7_cutsClean := Or.inl (mem_t2 60 rfl rfl)
theorem ml_X7_42 : ML RX7 42 yX7_advance := Or.inl (mem_t2 81 rfl rfl)
theorem ml_X7_45 : ML RX7 45 yX7_readsHead := Or.inl (mem_t2 89 rfl rfl)
theorem ml_X7_48 : ML RX7 48 yX0_lines := Or.inr ⟨"CellPictures", mem_n2 105 rfl rfl⟩
theorem ml_X7_54 : ML RX7 54 yX7_readsLine := Or.inl (mem_t2 109 rfl rfl)
theorem ml_X7_58 : ML RX7 58 yX7_refuse := Or.inl (mem_t2 77 rfl rfl)
theorem ml_X7_61 : ML RX7 61 yX0_isBalanced := Or.inr ⟨"CellPictures", mem_n2 137 rfl rfl⟩
theorem ml_X7_69 : ML RX7 69 yX6_byteAt := Or.inr ⟨"CellPictures", mem_n2 64 rfl rfl⟩
theorem ml_X7_73 : ML RX7 73 yX7_isDigit := Or.inl (mem_t2 68 rfl rfl)
theorem ml_X7_76 : ML RX7 76 yX7_isLetter := Or.inl (mem_t2 71 rfl rfl)
theorem ml_X7_79 : ML RX7 79 yX7_isSpace := Or.inl (mem_t2 74 rfl rfl)
theorem ml_X7_82 : ML RX7 82 yX7_endOfDigits := Or.inl (mem_t2 85 rfl rfl)
theorem ml_X7_85 : ML RX7 85 yX7_sizeRead := Or.inl (mem_t2 93 rfl rfl)
theorem ml_X7_88 : ML RX7 88 yX0_begin := Or.inr ⟨"CellPictures", mem_n2 100 rfl rfl⟩
theorem ml_X7_92 : ML RX7 92 yX8_isSize := Or.inr ⟨"CellPictures", mem_n2 97 rfl rfl⟩
theorem ml_X7_96 : ML RX7 96 yX7_readsRun := Or.inl (mem_t2 113 rfl rfl)
theorem ml_X7_99 : ML RX7 99 yX0_fitsItsCells := Or.inr ⟨"CellPictures", mem_n2 121 rfl rfl⟩
theorem ml_X7_105 : ML RX7 105 yX0_add := Or.inr ⟨"CellPictures", mem_n2 117 rfl rfl⟩
theorem ml_X9_89 : ML RX9 89 yX9_is := Or.inl (mem_t5 47 rfl rfl)
theorem ml_X9_93 : ML RX9 93 yX9_lines := Or.inl (mem_t5 31 rfl rfl)
theorem ml_X9_97 : ML RX9 97 yX9_in := Or.inl (mem_t4 216 rfl rfl)
theorem ml_X9_111 : ML RX9 111 yX9_four := Or.inl (mem_t4 208 rfl rfl)
theorem ml_X9_124 : ML RX9 124 yX9_good := Or.inl (mem_t4 227 rfl rfl)
theorem ml_X9_127 : ML RX9 127 yX9_fails := Or.inl (mem_t4 231 rfl rfl)
theorem ml_X9_131 : ML RX9 131 yX9_token := Or.inl (mem_t4 235 rfl rfl)
theorem ml_X9_141 : ML RX9 141 yX9_oneRun := Or.inl (mem_t5 11 rfl rfl)
theorem ml_X9_150 : ML RX9 150 yX9_cut := Or.inl (mem_t4 223 rfl rfl)
theorem ml_X9_153 : ML RX9 153 yX9_number := Or.inl (mem_t4 239 rfl rfl)
theorem ml_X9_157 : ML RX9 157 yX9_semi := Or.inl (mem_t5 3 rfl rfl)
theorem ml_X9_160 : ML RX9 160 yX9_oneLine := Or.inl (mem_t5 7 rfl rfl)
theorem ml_X9_163 : ML RX9 163 yX9_colourSumsDiffer := Or.inl (mem_t5 15 rfl rfl)
theorem ml_X9_172 : ML RX9 172 yX9_isNew := Or.inl (mem_t5 19 rfl rfl)
theorem ml_X9_175 : ML RX9 175 yX9_noMarks := Or.inl (mem_t5 23 rfl rfl)
theorem ml_X9_178 : ML RX9 178 yX9_runMany := Or.inl (mem_t5 27 rfl rfl)
theorem ml_X9_181 : ML RX9 181 yX9_isCell := Or.inl (mem_t5 51 rfl rfl)
theorem ml_X9_185 : ML RX9 185 yX9_many := Or.inl (mem_t5 55 rfl rfl)
theorem ml_X9_189 : ML RX9 189 yX9_isLine := Or.inl (mem_t5 62 rfl rfl)
theorem ml_X9_193 : ML RX9 193 yX9_first := Or.inl (mem_t5 78 rfl rfl)
theorem ml_X9_206 : ML RX9 206 yX9_cellOf := Or.inl (mem_t5 106 rfl rfl)
theorem ml_X9_209 : ML RX9 209 yX9_sizeOf := Or.inl (mem_t5 98 rfl rfl)
theorem ml_X9_212 : ML RX9 212 yX9_can := Or.inl (mem_t5 102 rfl rfl)
theorem ml_X9_219 : ML RX9 219 yX9_lay := Or.inl (mem_t5 94 rfl rfl)
theorem ml_X9_222 : ML RX9 222 yX9_allWays := Or.inl (mem_t5 90 rfl rfl)
theorem ml_X9_229 : ML RX9 229 yX9_lineRule := Or.inl (mem_t5 86 rfl rfl)
theorem ml_X9_236 : ML RX9 236 yX9_inOrder := Or.inl (mem_t5 135 rfl rfl)
theorem ml_X9_239 : ML RX9 239 yX9_toRest := Or.inl (mem_t5 123 rfl rfl)
theorem ml_X9_245 : ML RX9 245 yX9_needSets := Or.inl (mem_t5 119 rfl rfl)
theorem ml_X9_248 : ML RX9 248 yX9_trying := Or.inl (mem_t5 131 rfl rfl)
theorem ml_X9_252 : ML RX9 252 yX9_allOne := Or.inl (mem_t5 155 rfl rfl)
theorem ml_X9_258 : ML RX9 258 yX9_least := Or.inl (mem_t5 159 rfl rfl)
theorem ml_X9_261 : ML RX9 261 yX9_branch := Or.inl (mem_t5 162 rfl rfl)
theorem ml_X9_276 : ML RX9 276 yX9_look := Or.inl (mem_t5 151 rfl rfl)
theorem ml_X9_279 : ML RX9 279 yX9_searches := Or.inl (mem_t5 147 rfl rfl)
theorem ml_X9_285 : ML RX9 285 yX9_shown := Or.inl (mem_t5 194 rfl rfl)
theorem ml_X9_288 : ML RX9 288 yX9_readsAs := Or.inl (mem_t5 198 rfl rfl)
theorem ml_X9_291 : ML RX9 291 yX9_isDone := Or.inl (mem_t5 190 rfl rfl)
theorem kc_X8_201 : Cond.constantLong RX8 201 (-1) ∈ gtb := mem_t3 65 rfl rfl
theorem kc_X4_61 : Cond.constantLong RX4 61 (68736258049) ∈ gtb := mem_t2 199 rfl rfl
theorem kc_X4_63 : Cond.constantLong RX4 63 (-1) ∈ gtb := mem_t3 28 rfl rfl
theorem kc_X9_243 : Cond.constantLong RX9 243 (-1) ∈ gtb := mem_t5 114 rfl rfl
theorem kc_J6_265 : Cond.constant RJ6 265 (1431655765) ∈ gtb := mem_t2 203 rfl rfl
theorem kc_J6_266 : Cond.constant RJ6 266 (858993459) ∈ gtb := mem_t2 204 rfl rfl
theorem kc_J6_267 : Cond.constant RJ6 267 (252645135) ∈ gtb := mem_t2 205 rfl rfl
end
section
/-! decompiled by wip/gen/gen.py -/
theorem dJ7_fill_53178_0 : decode cJ7_fill_53178 0 = .ok (.iconst 0, 1) := by decide +kernel
theorem dJ7_fill_53178_1 : decode cJ7_fill_53178 1 = .ok (.istore_n 2, 1) := by decide +kernel
theorem dJ7_fill_53178_2 : decode cJ7_fill_53178 2 = .ok (.aload_n 0, 1) := by decide +kernel
theorem dJ7_fill_53178_3 : decode cJ7_fill_53178 3 = .ok (.arraylength, 1) := by decide +kernel
theorem dJ7_fill_53178_4 : decode cJ7_fill_53178 4 = .ok (.istore_n 3, 1) := by decide +kernel
theorem dJ7_fill_53178_5 : decode cJ7_fill_53178 5 = .ok (.iload_n 2, 1) := by decide +kernel
theorem dJ7_fill_53178_6 : decode cJ7_fill_53178 6 = .ok (.iload_n 3, 1) := by decide +kernel
theorem dJ7_fill_53178_7 : decode cJ7_fill_53178 7 = .ok (.if_icmp .ge 13, 3) := by decide +kernel
theorem dJ7_fill_53178_10 : decode cJ7_fill_53178 10 = .ok (.aload_n 0, 1) := by decide +kernel
theorem dJ7_fill_53178_11 : decode cJ7_fill_53178 11 = .ok (.iload_n 2, 1) := by decide +kernel
theorem dJ7_fill_53178_12 : decode cJ7_fill_53178 12 = .ok (.iload_n 1, 1) := by decide +kernel
theorem dJ7_fill_53178_13 : decode cJ7_fill_53178 13 = .ok (.iastore, 1) := by decide +kernel
theorem dJ7_fill_53178_14 : decode cJ7_fill_53178 14 = .ok (.iinc 2 1, 3) := by decide +kernel
theorem dJ7_fill_53178_17 : decode cJ7_fill_53178 17 = .ok (.goto (-12), 3) := by decide +kernel
theorem dJ7_fill_53178_20 : decode cJ7_fill_53178 20 = .ok (.return_, 1) := by decide +kernel
theorem dJ6_bitCount_0f7a4_0 : decode cJ6_bitCount_0f7a4 0 = .ok (.iload_n 0, 1) := by decide +kernel
theorem dJ6_bitCount_0f7a4_1 : decode cJ6_bitCount_0f7a4 1 = .ok (.iload_n 0, 1) := by decide +kernel
theorem dJ6_bitCount_0f7a4_2 : decode cJ6_bitCount_0f7a4 2 = .ok (.iconst 1, 1) := by decide +kernel
theorem dJ6_bitCount_0f7a4_3 : decode cJ6_bitCount_0f7a4 3 = .ok (.iushr, 1) := by decide +kernel
theorem dJ6_bitCount_0f7a4_4 : decode cJ6_bitCount_0f7a4 4 = .ok (.ldc_w 265, 3) := by decide +kernel
theorem dJ6_bitCount_0f7a4_7 : decode cJ6_bitCount_0f7a4 7 = .ok (.iand, 1) := by decide +kernel
theorem dJ6_bitCount_0f7a4_8 : decode cJ6_bitCount_0f7a4 8 = .ok (.isub, 1) := by decide +kernel
theorem dJ6_bitCount_0f7a4_9 : decode cJ6_bitCount_0f7a4 9 = .ok (.istore_n 0, 1) := by decide +kernel
theorem dJ6_bitCount_0f7a4_10 : decode cJ6_bitCount_0f7a4 10 = .ok (.iload_n 0, 1) := by decide +kernel
theorem dJ6_bitCount_0f7a4_11 : decode cJ6_bitCount_0f7a4 11 = .ok (.ldc_w 266, 3) := by decide +kernel
theorem dJ6_bitCount_0f7a4_14 : decode cJ6_bitCount_0f7a4 14 = .ok (.iand, 1) := by decide +kernel
theorem dJ6_bitCount_0f7a4_15 : decode cJ6_bitCount_0f7a4 15 = .ok (.iload_n 0, 1) := by decide +kernel
theorem dJ6_bitCount_0f7a4_16 : decode cJ6_bitCount_0f7a4 16 = .ok (.iconst 2, 1) := by decide +kernel
theorem dJ6_bitCount_0f7a4_17 : decode cJ6_bitCount_0f7a4 17 = .ok (.iushr, 1) := by decide +kernel
theorem dJ6_bitCount_0f7a4_18 : decode cJ6_bitCount_0f7a4 18 = .ok (.ldc_w 266, 3) := by decide +kernel
theorem dJ6_bitCount_0f7a4_21 : decode cJ6_bitCount_0f7a4 21 = .ok (.iand, 1) := by decide +kernel
theorem dJ6_bitCount_0f7a4_22 : decode cJ6_bitCount_0f7a4 22 = .ok (.iadd, 1) := by decide +kernel
theorem dJ6_bitCount_0f7a4_23 : decode cJ6_bitCount_0f7a4 23 = .ok (.istore_n 0, 1) := by decide +kernel
theorem dJ6_bitCount_0f7a4_24 : decode cJ6_bitCount_0f7a4 24 = .ok (.iload_n 0, 1) := by decide +kernel
theorem dJ6_bitCount_0f7a4_25 : decode cJ6_bitCount_0f7a4 25 = .ok (.iload_n 0, 1) := by decide +kernel
theorem dJ6_bitCount_0f7a4_26 : decode cJ6_bitCount_0f7a4 26 = .ok (.iconst 4, 1) := by decide +kernel
theorem dJ6_bitCount_0f7a4_27 : decode cJ6_bitCount_0f7a4 27 = .ok (.iushr, 1) := by decide +kernel
theorem dJ6_bitCount_0f7a4_28 : decode cJ6_bitCount_0f7a4 28 = .ok (.iadd, 1) := by decide +kernel
theorem dJ6_bitCount_0f7a4_29 : decode cJ6_bitCount_0f7a4 29 = .ok (.ldc_w 267, 3) := by decide +kernel
theorem dJ6_bitCount_0f7a4_32 : decode cJ6_bitCount_0f7a4 32 = .ok (.iand, 1) := by decide +kernel
theorem dJ6_bitCount_0f7a4_33 : decode cJ6_bitCount_0f7a4 33 = .ok (.istore_n 0, 1) := by decide +kernel
theorem dJ6_bitCount_0f7a4_34 : decode cJ6_bitCount_0f7a4 34 = .ok (.iload_n 0, 1) := by decide +kernel
theorem dJ6_bitCount_0f7a4_35 : decode cJ6_bitCount_0f7a4 35 = .ok (.iload_n 0, 1) := by decide +kernel
theorem dJ6_bitCount_0f7a4_36 : decode cJ6_bitCount_0f7a4 36 = .ok (.bipush 8, 2) := by decide +kernel
theorem dJ6_bitCount_0f7a4_38 : decode cJ6_bitCount_0f7a4 38 = .ok (.iushr, 1) := by decide +kernel
theorem dJ6_bitCount_0f7a4_39 : decode cJ6_bitCount_0f7a4 39 = .ok (.iadd, 1) := by decide +kernel
theorem dJ6_bitCount_0f7a4_40 : decode cJ6_bitCount_0f7a4 40 = .ok (.istore_n 0, 1) := by decide +kernel
theorem dJ6_bitCount_0f7a4_41 : decode cJ6_bitCount_0f7a4 41 = .ok (.iload_n 0, 1) := by decide +kernel
theorem dJ6_bitCount_0f7a4_42 : decode cJ6_bitCount_0f7a4 42 = .ok (.iload_n 0, 1) := by decide +kernel
theorem dJ6_bitCount_0f7a4_43 : decode cJ6_bitCount_0f7a4 43 = .ok (.bipush 16, 2) := by decide +kernel
theorem dJ6_bitCount_0f7a4_45 : decode cJ6_bitCount_0f7a4 45 = .ok (.iushr, 1) := by decide +kernel
theorem dJ6_bitCount_0f7a4_46 : decode cJ6_bitCount_0f7a4 46 = .ok (.iadd, 1) := by decide +kernel
theorem dJ6_bitCount_0f7a4_47 : decode cJ6_bitCount_0f7a4 47 = .ok (.istore_n 0, 1) := by decide +kernel
theorem dJ6_bitCount_0f7a4_48 : decode cJ6_bitCount_0f7a4 48 = .ok (.iload_n 0, 1) := by decide +kernel
theorem dJ6_bitCount_0f7a4_49 : decode cJ6_bitCount_0f7a4 49 = .ok (.bipush 63, 2) := by decide +kernel
theorem dJ6_bitCount_0f7a4_51 : decode cJ6_bitCount_0f7a4 51 = .ok (.iand, 1) := by decide +kernel
theorem dJ6_bitCount_0f7a4_52 : decode cJ6_bitCount_0f7a4 52 = .ok (.ireturn, 1) := by decide +kernel
theorem dX8_isSize_0 : decode cX8_isSize 0 = .ok (.iload_n 0, 1) := by decide +kernel
theorem dX8_isSize_1 : decode cX8_isSize 1 = .ok (.iconst 1, 1) := by decide +kernel
theorem dX8_isSize_2 : decode cX8_isSize 2 = .ok (.if_icmp .lt 12, 3) := by decide +kernel
theorem dX8_isSize_5 : decode cX8_isSize 5 = .ok (.iload_n 0, 1) := by decide +kernel
theorem dX8_isSize_6 : decode cX8_isSize 6 = .ok (.iload_n 1, 1) := by decide +kernel
theorem dX8_isSize_7 : decode cX8_isSize 7 = .ok (.if_icmp .gt 7, 3) := by decide +kernel
theorem dX8_isSize_10 : decode cX8_isSize 10 = .ok (.iconst 1, 1) := by decide +kernel
theorem dX8_isSize_11 : decode cX8_isSize 11 = .ok (.goto 4, 3) := by decide +kernel
theorem dX8_isSize_14 : decode cX8_isSize 14 = .ok (.iconst 0, 1) := by decide +kernel
theorem dX8_isSize_15 : decode cX8_isSize 15 = .ok (.ireturn, 1) := by decide +kernel
def f_J7_fill_53178_5 (a1 : Nat) : Nat → Int32 → Int32 → Int32 → St → Option (St)
  | 0, _, _, _, _ => none
  | n + 1, v1, v2, v3, s =>
    if v3 ≤ v2 then (
      some s)
    else (
      Option.bind (pI s a1 v2 v1) fun s2 =>
      f_J7_fill_53178_5 a1 n v1 (v2 + 1) v3 s2)
set_option maxRecDepth 100000 in
set_option maxHeartbeats 4000000 in
theorem w_J7_fill_53178_5 {r : St} {a1 : Nat}   : ∀ (n : Nat) (v1 : Int32) (v2 : Int32) (v3 : Int32) (s : St), f_J7_fill_53178_5 a1  n v1 v2 v3 s = some r → Wp m_J7_fill_53178 0 (PR none r) 5 [some (.ref a1), some (.int v1), some (.int v2), some (.int v3)] [] s := by
  intro n
  induction n with
  | zero => intro v1 v2 v3 s h; cases h
  | succ n ih =>
    intro v1 v2 v3 s h
    unfold f_J7_fill_53178_5 at h
    refine wp_iload_n (i := 2) dJ7_fill_53178_5 rfl rfl ?_
    refine wp_iload_n (i := 3) dJ7_fill_53178_6 rfl rfl ?_
    refine wp_icmp_ge (tgt := 20) dJ7_fill_53178_7 (by decide) (fun c1 => ?_) (fun c1 => ?_)
    · rw [if_pos c1] at h
      cases h
      exact wp_vret dJ7_fill_53178_20 rfl
    · rw [if_neg c1] at h
      refine wp_aload_n (i := 0) dJ7_fill_53178_10 rfl rfl ?_
      refine wp_iload_n (i := 2) dJ7_fill_53178_11 rfl rfl ?_
      refine wp_iload_n (i := 1) dJ7_fill_53178_12 rfl rfl ?_
      obtain ⟨s2, es2, h⟩ := ob h
      refine wp_pI dJ7_fill_53178_13 es2 ?_
      refine wp_inc (c := 1) (ls' := [some (.ref a1), some (.int v1), some (.int (v2 + 1)), some (.int v3)]) dJ7_fill_53178_14 rfl (by decide +kernel) (by decide) rfl rfl ?_
      refine wp_goto (tgt := 5) dJ7_fill_53178_17 (by decide) ?_
      exact wp_sub (ls' := [some (.ref a1), some (.int v1), some (.int (v2 + 1)), some (.int v3)]) ⟨rfl, rfl, rfl, rfl, trivial⟩ (ih _ _ _ _ h)
def f_J7_fill_53178 (a1 : Nat) (a2 : Int32) (s : St) : Option (St) :=
  Option.bind (aLen a1) fun x1 =>
  f_J7_fill_53178_5 a1 FU a2 (0 : Int32) x1 s
set_option maxRecDepth 100000 in
set_option maxHeartbeats 4000000 in
theorem ok_J7_fill_53178 {a1 : Nat} {a2 : Int32} {s : St} {r : St} (h : f_J7_fill_53178 a1 a2 s = some r) : Ct 0 m_J7_fill_53178 [.ref a1, .int a2] s none r := by
  unfold f_J7_fill_53178 at h
  refine ct_of [some (.ref a1), some (.int a2), none, none] 2 (by decide) rfl (Nat.le_of_ble_eq_true rfl) ?_
  refine wp_iconst (v := 0) dJ7_fill_53178_0 (by decide +kernel) ?_
  refine wp_istore_n (ls' := [some (.ref a1), some (.int a2), some (.int (0 : Int32)), none]) dJ7_fill_53178_1 rfl (by decide) rfl rfl ?_
  refine wp_aload_n (i := 0) dJ7_fill_53178_2 rfl rfl ?_
  obtain ⟨x1, ex1, h⟩ := ob h
  refine wp_aLen dJ7_fill_53178_3 ex1 ?_
  refine wp_istore_n (ls' := [some (.ref a1), some (.int a2), some (.int (0 : Int32)), some (.int x1)]) dJ7_fill_53178_4 rfl (by decide) rfl rfl ?_
  exact wp_sub (ls' := [some (.ref a1), some (.int a2), some (.int (0 : Int32)), some (.int x1)]) ⟨rfl, rfl, rfl, rfl, trivial⟩ (w_J7_fill_53178_5 _ _ _ _ _ h)
def f_J6_bitCount_0f7a4 (a1 : Int32) (s : St) : Option (Int32 × St) :=
  Option.bind (some (a1 - (((a1.toUInt32 >>> ((1 : Int32).toUInt32 &&& Int32.toUInt32 31)).toInt32) &&& (1431655765 : Int32)) : Int32)) fun x1 =>
  Option.bind (some ((x1 &&& (858993459 : Int32)) + (((x1.toUInt32 >>> ((2 : Int32).toUInt32 &&& Int32.toUInt32 31)).toInt32) &&& (858993459 : Int32)) : Int32)) fun x2 =>
  Option.bind (some ((x2 + ((x2.toUInt32 >>> ((4 : Int32).toUInt32 &&& Int32.toUInt32 31)).toInt32)) &&& (252645135 : Int32) : Int32)) fun x3 =>
  Option.bind (some (x3 + ((x3.toUInt32 >>> ((8 : Int32).toUInt32 &&& Int32.toUInt32 31)).toInt32) : Int32)) fun x4 =>
  Option.bind (some (x4 + ((x4.toUInt32 >>> ((16 : Int32).toUInt32 &&& Int32.toUInt32 31)).toInt32) : Int32)) fun x5 =>
  some (x5 &&& (63 : Int32), s)
set_option maxRecDepth 100000 in
set_option maxHeartbeats 4000000 in
theorem ok_J6_bitCount_0f7a4 {a1 : Int32} {s : St} {r : Int32 × St} (h : f_J6_bitCount_0f7a4 a1 s = some r) : Ct 0 m_J6_bitCount_0f7a4 [.int a1] s (some (.int r.1)) r.2 := by
  unfold f_J6_bitCount_0f7a4 at h
  refine ct_of [some (.int a1)] 0 (by decide) rfl (Nat.le_of_ble_eq_true rfl) ?_
  refine wp_iload_n (i := 0) dJ6_bitCount_0f7a4_0 rfl rfl ?_
  refine wp_iload_n (i := 0) dJ6_bitCount_0f7a4_1 rfl rfl ?_
  refine wp_iconst (v := 1) dJ6_bitCount_0f7a4_2 (by decide +kernel) ?_
  refine wp_iushr dJ6_bitCount_0f7a4_3 ?_
  refine wp_ldcw dJ6_bitCount_0f7a4_4 kc_J6_265 ?_
  refine wp_iand dJ6_bitCount_0f7a4_7 ?_
  refine wp_isub dJ6_bitCount_0f7a4_8 ?_
  obtain ⟨x1, ex1, h⟩ := ob h
  refine wp_topi (Option.some.inj ex1) ?_
  refine wp_istore_n (ls' := [some (.int x1)]) dJ6_bitCount_0f7a4_9 rfl (by decide) rfl rfl ?_
  refine wp_iload_n (i := 0) dJ6_bitCount_0f7a4_10 rfl rfl ?_
  refine wp_ldcw dJ6_bitCount_0f7a4_11 kc_J6_266 ?_
  refine wp_iand dJ6_bitCount_0f7a4_14 ?_
  refine wp_iload_n (i := 0) dJ6_bitCount_0f7a4_15 rfl rfl ?_
  refine wp_iconst (v := 2) dJ6_bitCount_0f7a4_16 (by decide +kernel) ?_
  refine wp_iushr dJ6_bitCount_0f7a4_17 ?_
  refine wp_ldcw dJ6_bitCount_0f7a4_18 kc_J6_266 ?_
  refine wp_iand dJ6_bitCount_0f7a4_21 ?_
  refine wp_iadd dJ6_bitCount_0f7a4_22 ?_
  obtain ⟨x2, ex2, h⟩ := ob h
  refine wp_topi (Option.some.inj ex2) ?_
  refine wp_istore_n (ls' := [some (.int x2)]) dJ6_bitCount_0f7a4_23 rfl (by decide) rfl rfl ?_
  refine wp_iload_n (i := 0) dJ6_bitCount_0f7a4_24 rfl rfl ?_
  refine wp_iload_n (i := 0) dJ6_bitCount_0f7a4_25 rfl rfl ?_
  refine wp_iconst (v := 4) dJ6_bitCount_0f7a4_26 (by decide +kernel) ?_
  refine wp_iushr dJ6_bitCount_0f7a4_27 ?_
  refine wp_iadd dJ6_bitCount_0f7a4_28 ?_
  refine wp_ldcw dJ6_bitCount_0f7a4_29 kc_J6_267 ?_
  refine wp_iand dJ6_bitCount_0f7a4_32 ?_
  obtain ⟨x3, ex3, h⟩ := ob h
  refine wp_topi (Option.some.inj ex3) ?_
  refine wp_istore_n (ls' := [some (.int x3)]) dJ6_bitCount_0f7a4_33 rfl (by decide) rfl rfl ?_
  refine wp_iload_n (i := 0) dJ6_bitCount_0f7a4_34 rfl rfl ?_
  refine wp_iload_n (i := 0) dJ6_bitCount_0f7a4_35 rfl rfl ?_
  refine wp_bipush (v := 8) dJ6_bitCount_0f7a4_36 (by decide +kernel) ?_
  refine wp_iushr dJ6_bitCount_0f7a4_38 ?_
  refine wp_iadd dJ6_bitCount_0f7a4_39 ?_
  obtain ⟨x4, ex4, h⟩ := ob h
  refine wp_topi (Option.some.inj ex4) ?_
  refine wp_istore_n (ls' := [some (.int x4)]) dJ6_bitCount_0f7a4_40 rfl (by decide) rfl rfl ?_
  refine wp_iload_n (i := 0) dJ6_bitCount_0f7a4_41 rfl rfl ?_
  refine wp_iload_n (i := 0) dJ6_bitCount_0f7a4_42 rfl rfl ?_
  refine wp_bipush (v := 16) dJ6_bitCount_0f7a4_43 (by decide +kernel) ?_
  refine wp_iushr dJ6_bitCount_0f7a4_45 ?_
  refine wp_iadd dJ6_bitCount_0f7a4_46 ?_
  obtain ⟨x5, ex5, h⟩ := ob h
  refine wp_topi (Option.some.inj ex5) ?_
  refine wp_istore_n (ls' := [some (.int x5)]) dJ6_bitCount_0f7a4_47 rfl (by decide) rfl rfl ?_
  refine wp_iload_n (i := 0) dJ6_bitCount_0f7a4_48 rfl rfl ?_
  refine wp_bipush (v := 63) dJ6_bitCount_0f7a4_49 (by decide +kernel) ?_
  refine wp_iand dJ6_bitCount_0f7a4_51 ?_
  cases h
  exact wp_iret dJ6_bitCount_0f7a4_52 rfl rfl
def f_X8_isSize (a1 : Int32) (a2 : Int32) (s : St) : Option (Int32 × St) :=
  if a1 < (1 : Int32) then (
    some ((0 : Int32), s))
  else (
    if a2 < a1 then (
      some ((0 : Int32), s))
    else (
      some ((1 : Int32), s)))
set_option maxRecDepth 100000 in
set_option maxHeartbeats 4000000 in
theorem ok_X8_isSize {a1 : Int32} {a2 : Int32} {s : St} {r : Int32 × St} (h : f_X8_isSize a1 a2 s = some r) : Ct 0 m_X8_isSize [.int a1, .int a2] s (some (.int r.1)) r.2 := by
  unfold f_X8_isSize at h
  refine ct_of [some (.int a1), some (.int a2)] 0 (by decide) rfl (Nat.le_of_ble_eq_true rfl) ?_
  refine wp_iload_n (i := 0) dX8_isSize_0 rfl rfl ?_
  refine wp_iconst (v := 1) dX8_isSize_1 (by decide +kernel) ?_
  refine wp_icmp_lt (tgt := 14) dX8_isSize_2 (by decide) (fun c1 => ?_) (fun c1 => ?_)
  · rw [if_pos c1] at h
    refine wp_iconst (v := 0) dX8_isSize_14 (by decide +kernel) ?_
    cases h
    exact wp_iret dX8_isSize_15 rfl (narrow_z (Or.inl rfl)).1
  · rw [if_neg c1] at h
    refine wp_iload_n (i := 0) dX8_isSize_5 rfl rfl ?_
    refine wp_iload_n (i := 1) dX8_isSize_6 rfl rfl ?_
    refine wp_icmp_gt (tgt := 14) dX8_isSize_7 (by decide) (fun c2 => ?_) (fun c2 => ?_)
    · rw [if_pos c2] at h
      refine wp_iconst (v := 0) dX8_isSize_14 (by decide +kernel) ?_
      cases h
      exact wp_iret dX8_isSize_15 rfl (narrow_z (Or.inl rfl)).1
    · rw [if_neg c2] at h
      refine wp_iconst (v := 1) dX8_isSize_10 (by decide +kernel) ?_
      refine wp_goto (tgt := 15) dX8_isSize_11 (by decide) ?_
      cases h
      exact wp_iret dX8_isSize_15 rfl (narrow_z (Or.inr rfl)).1
end
section
/-! decompiled by wip/gen/gen.py -/
theorem dX6_append_0 : decode cX6_append 0 = .ok (.bipush 24, 2) := by decide +kernel
theorem dX6_append_2 : decode cX6_append 2 = .ok (.istore_n 2, 1) := by decide +kernel
theorem dX6_append_3 : decode cX6_append 3 = .ok (.iload_n 2, 1) := by decide +kernel
theorem dX6_append_4 : decode cX6_append 4 = .ok (.ifCond .lt 42, 3) := by decide +kernel
theorem dX6_append_7 : decode cX6_append 7 = .ok (.aload_n 0, 1) := by decide +kernel
theorem dX6_append_8 : decode cX6_append 8 = .ok (.getfield 15, 3) := by decide +kernel
theorem dX6_append_11 : decode cX6_append 11 = .ok (.sipush 900, 3) := by decide +kernel
theorem dX6_append_14 : decode cX6_append 14 = .ok (.if_icmp .ge 32, 3) := by decide +kernel
theorem dX6_append_17 : decode cX6_append 17 = .ok (.aload_n 0, 1) := by decide +kernel
theorem dX6_append_18 : decode cX6_append 18 = .ok (.getfield 9, 3) := by decide +kernel
theorem dX6_append_21 : decode cX6_append 21 = .ok (.aload_n 0, 1) := by decide +kernel
theorem dX6_append_22 : decode cX6_append 22 = .ok (.getfield 15, 3) := by decide +kernel
theorem dX6_append_25 : decode cX6_append 25 = .ok (.iload_n 1, 1) := by decide +kernel
theorem dX6_append_26 : decode cX6_append 26 = .ok (.iload_n 2, 1) := by decide +kernel
theorem dX6_append_27 : decode cX6_append 27 = .ok (.iushr, 1) := by decide +kernel
theorem dX6_append_28 : decode cX6_append 28 = .ok (.i2b, 1) := by decide +kernel
theorem dX6_append_29 : decode cX6_append 29 = .ok (.bastore, 1) := by decide +kernel
theorem dX6_append_30 : decode cX6_append 30 = .ok (.aload_n 0, 1) := by decide +kernel
theorem dX6_append_31 : decode cX6_append 31 = .ok (.dup, 1) := by decide +kernel
theorem dX6_append_32 : decode cX6_append 32 = .ok (.getfield 15, 3) := by decide +kernel
theorem dX6_append_35 : decode cX6_append 35 = .ok (.iconst 1, 1) := by decide +kernel
theorem dX6_append_36 : decode cX6_append 36 = .ok (.iadd, 1) := by decide +kernel
theorem dX6_append_37 : decode cX6_append 37 = .ok (.putfield 15, 3) := by decide +kernel
theorem dX6_append_40 : decode cX6_append 40 = .ok (.iinc 2 (-8), 3) := by decide +kernel
theorem dX6_append_43 : decode cX6_append 43 = .ok (.goto (-40), 3) := by decide +kernel
theorem dX6_append_46 : decode cX6_append 46 = .ok (.return_, 1) := by decide +kernel
theorem dX6_byteAt_0 : decode cX6_byteAt 0 = .ok (.iload_n 1, 1) := by decide +kernel
theorem dX6_byteAt_1 : decode cX6_byteAt 1 = .ok (.ifCond .lt 20, 3) := by decide +kernel
theorem dX6_byteAt_4 : decode cX6_byteAt 4 = .ok (.iload_n 1, 1) := by decide +kernel
theorem dX6_byteAt_5 : decode cX6_byteAt 5 = .ok (.aload_n 0, 1) := by decide +kernel
theorem dX6_byteAt_6 : decode cX6_byteAt 6 = .ok (.getfield 15, 3) := by decide +kernel
theorem dX6_byteAt_9 : decode cX6_byteAt 9 = .ok (.if_icmp .ge 12, 3) := by decide +kernel
theorem dX6_byteAt_12 : decode cX6_byteAt 12 = .ok (.aload_n 0, 1) := by decide +kernel
theorem dX6_byteAt_13 : decode cX6_byteAt 13 = .ok (.getfield 9, 3) := by decide +kernel
theorem dX6_byteAt_16 : decode cX6_byteAt 16 = .ok (.iload_n 1, 1) := by decide +kernel
theorem dX6_byteAt_17 : decode cX6_byteAt 17 = .ok (.baload, 1) := by decide +kernel
theorem dX6_byteAt_18 : decode cX6_byteAt 18 = .ok (.goto 4, 3) := by decide +kernel
theorem dX6_byteAt_21 : decode cX6_byteAt 21 = .ok (.iconst (-1), 1) := by decide +kernel
theorem dX6_byteAt_22 : decode cX6_byteAt 22 = .ok (.ireturn, 1) := by decide +kernel
def f_X6_append_3 : Nat → Int32 → Int32 → St → Option (St)
  | 0, _, _, _ => none
  | n + 1, v1, v2, s =>
    if v2 < 0 then (
      some s)
    else (
      if (900 : Int32) ≤ (s.1 1 1) then (
        some s)
      else (
        Option.bind (pB s 2 (s.1 1 1) (((v1.toUInt32 >>> (v2.toUInt32 &&& Int32.toUInt32 31)).toInt32).toInt8.toInt32)) fun s3 =>
        Option.bind (some (sF s3 1 1 ((s3.1 1 1) + (1 : Int32)))) fun s4 =>
        f_X6_append_3 n v1 (v2 + (-8)) s4))
set_option maxRecDepth 100000 in
set_option maxHeartbeats 4000000 in
theorem w_X6_append_3 {r : St}   : ∀ (n : Nat) (v1 : Int32) (v2 : Int32) (s : St), f_X6_append_3  n v1 v2 s = some r → Wp m_X6_append 0 (PR none r) 3 [some (.ref 1), some (.int v1), some (.int v2)] [] s := by
  intro n
  induction n with
  | zero => intro v1 v2 s h; cases h
  | succ n ih =>
    intro v1 v2 s h
    unfold f_X6_append_3 at h
    refine wp_iload_n (i := 2) dX6_append_3 rfl rfl ?_
    refine wp_if_lt (tgt := 46) dX6_append_4 (by decide) (fun c1 => ?_) (fun c1 => ?_)
    · rw [if_pos c1] at h
      cases h
      exact wp_vret dX6_append_46 rfl
    · rw [if_neg c1] at h
      refine wp_aload_n (i := 0) dX6_append_7 rfl rfl ?_
      refine wp_getI dX6_append_8 fl_X6_15 rfl rfl ?_
      refine wp_sipush (v := 900) dX6_append_11 (by decide +kernel) ?_
      refine wp_icmp_ge (tgt := 46) dX6_append_14 (by decide) (fun c2 => ?_) (fun c2 => ?_)
      · rw [if_pos c2] at h
        cases h
        exact wp_vret dX6_append_46 rfl
      · rw [if_neg c2] at h
        refine wp_aload_n (i := 0) dX6_append_17 rfl rfl ?_
        refine wp_getR (t := 2) dX6_append_18 fl_X6_9 rfl rfl ?_
        refine wp_aload_n (i := 0) dX6_append_21 rfl rfl ?_
        refine wp_getI dX6_append_22 fl_X6_15 rfl rfl ?_
        refine wp_iload_n (i := 1) dX6_append_25 rfl rfl ?_
        refine wp_iload_n (i := 2) dX6_append_26 rfl rfl ?_
        refine wp_iushr dX6_append_27 ?_
        refine wp_i2b dX6_append_28 ?_
        obtain ⟨s3, es3, h⟩ := ob h
        refine wp_pB dX6_append_29 es3 ?_
        refine wp_aload_n (i := 0) dX6_append_30 rfl rfl ?_
        refine wp_dup_r dX6_append_31 ?_
        refine wp_getI dX6_append_32 fl_X6_15 rfl rfl ?_
        refine wp_iconst (v := 1) dX6_append_35 (by decide +kernel) ?_
        refine wp_iadd dX6_append_36 ?_
        obtain ⟨s4, es4, h⟩ := ob h
        refine wp_putI2 dX6_append_37 fl_X6_15 rfl rfl rfl rfl es4 ?_
        refine wp_inc (c := -8) (ls' := [some (.ref 1), some (.int v1), some (.int (v2 + (-8)))]) dX6_append_40 rfl (by decide +kernel) (by decide) rfl rfl ?_
        refine wp_goto (tgt := 3) dX6_append_43 (by decide) ?_
        exact wp_sub (ls' := [some (.ref 1), some (.int v1), some (.int (v2 + (-8)))]) ⟨rfl, rfl, rfl, trivial⟩ (ih _ _ _ h)
def f_X6_append (a1 : Int32) (s : St) : Option (St) :=
  f_X6_append_3 FU a1 (24 : Int32) s
set_option maxRecDepth 100000 in
set_option maxHeartbeats 4000000 in
theorem ok_X6_append {a1 : Int32} {s : St} {r : St} (h : f_X6_append a1 s = some r) : Ct 0 m_X6_append [.ref 1, .int a1] s none r := by
  unfold f_X6_append at h
  refine ct_of [some (.ref 1), some (.int a1), none] 1 (by decide) rfl (Nat.le_of_ble_eq_true rfl) ?_
  refine wp_bipush (v := 24) dX6_append_0 (by decide +kernel) ?_
  refine wp_istore_n (ls' := [some (.ref 1), some (.int a1), some (.int (24 : Int32))]) dX6_append_2 rfl (by decide) rfl rfl ?_
  exact wp_sub (ls' := [some (.ref 1), some (.int a1), some (.int (24 : Int32))]) ⟨rfl, rfl, rfl, trivial⟩ (w_X6_append_3 _ _ _ _ h)
def f_X6_byteAt (a1 : Int32) (s : St) : Option (Int32 × St) :=
  if a1 < 0 then (
    some ((-1 : Int32), s))
  else (
    if (s.1 1 1) ≤ a1 then (
      some ((-1 : Int32), s))
    else (
      Option.bind (aB s 2 a1) fun x3 =>
      some (x3, s)))
set_option maxRecDepth 100000 in
set_option maxHeartbeats 4000000 in
theorem ok_X6_byteAt {a1 : Int32} {s : St} {r : Int32 × St} (h : f_X6_byteAt a1 s = some r) : Ct 0 m_X6_byteAt [.ref 1, .int a1] s (some (.int r.1)) r.2 := by
  unfold f_X6_byteAt at h
  refine ct_of [some (.ref 1), some (.int a1)] 0 (by decide) rfl (Nat.le_of_ble_eq_true rfl) ?_
  refine wp_iload_n (i := 1) dX6_byteAt_0 rfl rfl ?_
  refine wp_if_lt (tgt := 21) dX6_byteAt_1 (by decide) (fun c1 => ?_) (fun c1 => ?_)
  · rw [if_pos c1] at h
    refine wp_iconst (v := -1) dX6_byteAt_21 (by decide +kernel) ?_
    cases h
    exact wp_iret dX6_byteAt_22 rfl rfl
  · rw [if_neg c1] at h
    refine wp_iload_n (i := 1) dX6_byteAt_4 rfl rfl ?_
    refine wp_aload_n (i := 0) dX6_byteAt_5 rfl rfl ?_
    refine wp_getI dX6_byteAt_6 fl_X6_15 rfl rfl ?_
    refine wp_icmp_ge (tgt := 21) dX6_byteAt_9 (by decide) (fun c2 => ?_) (fun c2 => ?_)
    · rw [if_pos c2] at h
      refine wp_iconst (v := -1) dX6_byteAt_21 (by decide +kernel) ?_
      cases h
      exact wp_iret dX6_byteAt_22 rfl rfl
    · rw [if_neg c2] at h
      refine wp_aload_n (i := 0) dX6_byteAt_12 rfl rfl ?_
      refine wp_getR (t := 2) dX6_byteAt_13 fl_X6_9 rfl rfl ?_
      refine wp_iload_n (i := 1) dX6_byteAt_16 rfl rfl ?_
      obtain ⟨x3, ex3, h⟩ := ob h
      refine wp_aB dX6_byteAt_17 ex3 ?_
      refine wp_goto (tgt := 22) dX6_byteAt_18 (by decide) ?_
      cases h
      exact wp_iret dX6_byteAt_22 rfl rfl
end
section
/-! decompiled by wip/gen/gen.py -/
theorem dX2_at_0 : decode cX2_at 0 = .ok (.aload_n 0, 1) := by decide +kernel
theorem dX2_at_1 : decode cX2_at 1 = .ok (.getfield 9, 3) := by decide +kernel
theorem dX2_at_4 : decode cX2_at 4 = .ok (.bipush 12, 2) := by decide +kernel
theorem dX2_at_6 : decode cX2_at 6 = .ok (.iload_n 2, 1) := by decide +kernel
theorem dX2_at_7 : decode cX2_at 7 = .ok (.imul, 1) := by decide +kernel
theorem dX2_at_8 : decode cX2_at 8 = .ok (.iload_n 1, 1) := by decide +kernel
theorem dX2_at_9 : decode cX2_at 9 = .ok (.iadd, 1) := by decide +kernel
theorem dX2_at_10 : decode cX2_at 10 = .ok (.iaload, 1) := by decide +kernel
theorem dX2_at_11 : decode cX2_at 11 = .ok (.ireturn, 1) := by decide +kernel
theorem dX2_valueAt_0 : decode cX2_valueAt 0 = .ok (.iconst 0, 1) := by decide +kernel
theorem dX2_valueAt_1 : decode cX2_valueAt 1 = .ok (.aload_n 0, 1) := by decide +kernel
theorem dX2_valueAt_2 : decode cX2_valueAt 2 = .ok (.iload_n 1, 1) := by decide +kernel
theorem dX2_valueAt_3 : decode cX2_valueAt 3 = .ok (.iload_n 2, 1) := by decide +kernel
theorem dX2_valueAt_4 : decode cX2_valueAt 4 = .ok (.invokevirtual 25, 3) := by decide +kernel
theorem dX2_valueAt_7 : decode cX2_valueAt 7 = .ok (.invokestatic 29, 3) := by decide +kernel
theorem dX2_valueAt_10 : decode cX2_valueAt 10 = .ok (.ireturn, 1) := by decide +kernel
theorem dX2_put_0 : decode cX2_put 0 = .ok (.aload_n 0, 1) := by decide +kernel
theorem dX2_put_1 : decode cX2_put 1 = .ok (.iload_n 1, 1) := by decide +kernel
theorem dX2_put_2 : decode cX2_put 2 = .ok (.iload_n 2, 1) := by decide +kernel
theorem dX2_put_3 : decode cX2_put 3 = .ok (.invokevirtual 25, 3) := by decide +kernel
theorem dX2_put_6 : decode cX2_put 6 = .ok (.iconst (-1), 1) := by decide +kernel
theorem dX2_put_7 : decode cX2_put 7 = .ok (.if_icmp .eq 13, 3) := by decide +kernel
theorem dX2_put_10 : decode cX2_put 10 = .ok (.aload_n 0, 1) := by decide +kernel
theorem dX2_put_11 : decode cX2_put 11 = .ok (.dup, 1) := by decide +kernel
theorem dX2_put_12 : decode cX2_put 12 = .ok (.getfield 15, 3) := by decide +kernel
theorem dX2_put_15 : decode cX2_put 15 = .ok (.iconst 1, 1) := by decide +kernel
theorem dX2_put_16 : decode cX2_put 16 = .ok (.isub, 1) := by decide +kernel
theorem dX2_put_17 : decode cX2_put 17 = .ok (.putfield 15, 3) := by decide +kernel
theorem dX2_put_20 : decode cX2_put 20 = .ok (.iload_n 3, 1) := by decide +kernel
theorem dX2_put_21 : decode cX2_put 21 = .ok (.iconst (-1), 1) := by decide +kernel
theorem dX2_put_22 : decode cX2_put 22 = .ok (.if_icmp .eq 13, 3) := by decide +kernel
theorem dX2_put_25 : decode cX2_put 25 = .ok (.aload_n 0, 1) := by decide +kernel
theorem dX2_put_26 : decode cX2_put 26 = .ok (.dup, 1) := by decide +kernel
theorem dX2_put_27 : decode cX2_put 27 = .ok (.getfield 15, 3) := by decide +kernel
theorem dX2_put_30 : decode cX2_put 30 = .ok (.iconst 1, 1) := by decide +kernel
theorem dX2_put_31 : decode cX2_put 31 = .ok (.iadd, 1) := by decide +kernel
theorem dX2_put_32 : decode cX2_put 32 = .ok (.putfield 15, 3) := by decide +kernel
theorem dX2_put_35 : decode cX2_put 35 = .ok (.aload_n 0, 1) := by decide +kernel
theorem dX2_put_36 : decode cX2_put 36 = .ok (.getfield 9, 3) := by decide +kernel
theorem dX2_put_39 : decode cX2_put 39 = .ok (.bipush 12, 2) := by decide +kernel
theorem dX2_put_41 : decode cX2_put 41 = .ok (.iload_n 2, 1) := by decide +kernel
theorem dX2_put_42 : decode cX2_put 42 = .ok (.imul, 1) := by decide +kernel
theorem dX2_put_43 : decode cX2_put 43 = .ok (.iload_n 1, 1) := by decide +kernel
theorem dX2_put_44 : decode cX2_put 44 = .ok (.iadd, 1) := by decide +kernel
theorem dX2_put_45 : decode cX2_put 45 = .ok (.iload_n 3, 1) := by decide +kernel
theorem dX2_put_46 : decode cX2_put 46 = .ok (.iastore, 1) := by decide +kernel
theorem dX2_put_47 : decode cX2_put 47 = .ok (.return_, 1) := by decide +kernel
theorem dX2_clear_0 : decode cX2_clear 0 = .ok (.aload_n 0, 1) := by decide +kernel
theorem dX2_clear_1 : decode cX2_clear 1 = .ok (.getfield 9, 3) := by decide +kernel
theorem dX2_clear_4 : decode cX2_clear 4 = .ok (.iconst (-1), 1) := by decide +kernel
theorem dX2_clear_5 : decode cX2_clear 5 = .ok (.invokestatic 19, 3) := by decide +kernel
theorem dX2_clear_8 : decode cX2_clear 8 = .ok (.aload_n 0, 1) := by decide +kernel
theorem dX2_clear_9 : decode cX2_clear 9 = .ok (.iconst 0, 1) := by decide +kernel
theorem dX2_clear_10 : decode cX2_clear 10 = .ok (.putfield 15, 3) := by decide +kernel
theorem dX2_clear_13 : decode cX2_clear 13 = .ok (.return_, 1) := by decide +kernel
def f_X2_at (g : Nat) (a1 : Int32) (a2 : Int32) (s : St) : Option (Int32 × St) :=
  if ¬ clO g = 2 then none else
  Option.bind (aI s (rf g 0) (((12 : Int32) * a2) + a1)) fun x1 =>
  some (x1, s)
theorem ck_X2_at {g : Nat} {a1 : Int32} {a2 : Int32} {s : St} {r : Int32 × St} (h : f_X2_at g a1 a2 s = some r) : clO g = 2 := by
  unfold f_X2_at at h
  exact (ifc h).1
set_option maxRecDepth 100000 in
set_option maxHeartbeats 4000000 in
theorem ok_X2_at {g : Nat} {a1 : Int32} {a2 : Int32} {s : St} {r : Int32 × St} (h : f_X2_at g a1 a2 s = some r) : Ct 0 m_X2_at [.ref g, .int a1, .int a2] s (some (.int r.1)) r.2 := by
  unfold f_X2_at at h
  obtain ⟨hg, h⟩ := ifc h
  refine ct_of [some (.ref g), some (.int a1), some (.int a2)] 0 (by decide) rfl (Nat.le_of_ble_eq_true rfl) ?_
  refine wp_aload_n (i := 0) dX2_at_0 rfl rfl ?_
  refine wp_getR (t := rf g 0) dX2_at_1 fl_X2_9 hg (kr_2_0 _ hg) ?_
  refine wp_bipush (v := 12) dX2_at_4 (by decide +kernel) ?_
  refine wp_iload_n (i := 2) dX2_at_6 rfl rfl ?_
  refine wp_imul dX2_at_7 ?_
  refine wp_iload_n (i := 1) dX2_at_8 rfl rfl ?_
  refine wp_iadd dX2_at_9 ?_
  obtain ⟨x1, ex1, h⟩ := ob h
  refine wp_aI dX2_at_10 ex1 ?_
  cases h
  exact wp_iret dX2_at_11 rfl rfl
def f_X2_valueAt (g : Nat) (a1 : Int32) (a2 : Int32) (s : St) : Option (Int32 × St) :=
  if ¬ clO g = 2 then none else
  Option.bind (f_X2_at g a1 a2 s) fun r1 =>
  some (mxI (0 : Int32) r1.1, r1.2)
theorem ck_X2_valueAt {g : Nat} {a1 : Int32} {a2 : Int32} {s : St} {r : Int32 × St} (h : f_X2_valueAt g a1 a2 s = some r) : clO g = 2 := by
  unfold f_X2_valueAt at h
  exact (ifc h).1
set_option maxRecDepth 100000 in
set_option maxHeartbeats 4000000 in
theorem ok_X2_valueAt {g : Nat} {a1 : Int32} {a2 : Int32} {s : St} {r : Int32 × St} (h : f_X2_valueAt g a1 a2 s = some r) : Ct 1 m_X2_valueAt [.ref g, .int a1, .int a2] s (some (.int r.1)) r.2 := by
  unfold f_X2_valueAt at h
  obtain ⟨hg, h⟩ := ifc h
  refine ct_of [some (.ref g), some (.int a1), some (.int a2)] 0 (by decide) rfl (Nat.le_of_ble_eq_true rfl) ?_
  refine wp_iconst (v := 0) dX2_valueAt_0 (by decide +kernel) ?_
  refine wp_aload_n (i := 0) dX2_valueAt_1 rfl rfl ?_
  refine wp_iload_n (i := 1) dX2_valueAt_2 rfl rfl ?_
  refine wp_iload_n (i := 2) dX2_valueAt_3 rfl rfl ?_
  obtain ⟨r1, er1, h⟩ := ob h
  refine wp_cVi (N := m_X2_at) (As := [.int a1, .int a2]) (rest := [.int (0 : Int32)]) dX2_valueAt_4 ml_X2_25 mo_X2_at vo_X2_at hg rfl (ok_X2_at er1) (by decide) (Nat.le_of_ble_eq_true rfl) ?_
  refine wp_mmax dX2_valueAt_7 ml_X2_29 (by decide) (Nat.le_of_ble_eq_true rfl) ?_
  cases h
  exact wp_iret dX2_valueAt_10 rfl rfl
def f_X2_put_35 (g : Nat) (v1 : Int32) (v2 : Int32) (v3 : Int32) (s : St) : Option (St) :=
  Option.bind (pI s (rf g 0) (((12 : Int32) * v2) + v1) v3) fun s1 =>
  some s1
set_option maxRecDepth 100000 in
set_option maxHeartbeats 4000000 in
theorem w_X2_put_35 {r : St} {g : Nat} {v1 : Int32} {v2 : Int32} {v3 : Int32} (hg : clO g = 2) {s : St} (h : f_X2_put_35 g  v1 v2 v3 s = some r) : Wp m_X2_put 1 (PR none r) 35 [some (.ref g), some (.int v1), some (.int v2), some (.int v3)] [] s := by
  unfold f_X2_put_35 at h
  refine wp_aload_n (i := 0) dX2_put_35 rfl rfl ?_
  refine wp_getR (t := rf g 0) dX2_put_36 fl_X2_9 hg (kr_2_0 _ hg) ?_
  refine wp_bipush (v := 12) dX2_put_39 (by decide +kernel) ?_
  refine wp_iload_n (i := 2) dX2_put_41 rfl rfl ?_
  refine wp_imul dX2_put_42 ?_
  refine wp_iload_n (i := 1) dX2_put_43 rfl rfl ?_
  refine wp_iadd dX2_put_44 ?_
  refine wp_iload_n (i := 3) dX2_put_45 rfl rfl ?_
  obtain ⟨s1, es1, h⟩ := ob h
  refine wp_pI dX2_put_46 es1 ?_
  cases h
  exact wp_vret dX2_put_47 rfl
def f_X2_put_20 (g : Nat) (v1 : Int32) (v2 : Int32) (v3 : Int32) (s : St) : Option (St) :=
  if v3 = (-1 : Int32) then (
    f_X2_put_35 g v1 v2 v3 s)
  else (
    Option.bind (some (sF s g 1 ((s.1 g 1) + (1 : Int32)))) fun s2 =>
    f_X2_put_35 g v1 v2 v3 s2)
set_option maxRecDepth 100000 in
set_option maxHeartbeats 4000000 in
theorem w_X2_put_20 {r : St} {g : Nat} {v1 : Int32} {v2 : Int32} {v3 : Int32} (hg : clO g = 2) {s : St} (h : f_X2_put_20 g  v1 v2 v3 s = some r) : Wp m_X2_put 1 (PR none r) 20 [some (.ref g), some (.int v1), some (.int v2), some (.int v3)] [] s := by
  unfold f_X2_put_20 at h
  refine wp_iload_n (i := 3) dX2_put_20 rfl rfl ?_
  refine wp_iconst (v := -1) dX2_put_21 (by decide +kernel) ?_
  refine wp_icmp_eq (tgt := 35) dX2_put_22 (by decide) (fun c1 => ?_) (fun c1 => ?_)
  · rw [if_pos c1] at h
    exact wp_sub (ls' := [some (.ref g), some (.int v1), some (.int v2), some (.int v3)]) ⟨rfl, rfl, rfl, rfl, trivial⟩ (w_X2_put_35 hg h)
  · rw [if_neg c1] at h
    refine wp_aload_n (i := 0) dX2_put_25 rfl rfl ?_
    refine wp_dup_r dX2_put_26 ?_
    refine wp_getI dX2_put_27 fl_X2_15 hg (kr_2_1 _ hg) ?_
    refine wp_iconst (v := 1) dX2_put_30 (by decide +kernel) ?_
    refine wp_iadd dX2_put_31 ?_
    obtain ⟨s2, es2, h⟩ := ob h
    refine wp_putI2 dX2_put_32 fl_X2_15 hg (kr_2_1 _ hg) rfl rfl es2 ?_
    exact wp_sub (ls' := [some (.ref g), some (.int v1), some (.int v2), some (.int v3)]) ⟨rfl, rfl, rfl, rfl, trivial⟩ (w_X2_put_35 hg h)
def f_X2_put (g : Nat) (a1 : Int32) (a2 : Int32) (a3 : Int32) (s : St) : Option (St) :=
  if ¬ clO g = 2 then none else
  Option.bind (f_X2_at g a1 a2 s) fun r1 =>
  if r1.1 = (-1 : Int32) then (
    f_X2_put_20 g a1 a2 a3 r1.2)
  else (
    Option.bind (some (sF r1.2 g 1 ((r1.2.1 g 1) - (1 : Int32)))) fun s3 =>
    f_X2_put_20 g a1 a2 a3 s3)
theorem ck_X2_put {g : Nat} {a1 : Int32} {a2 : Int32} {a3 : Int32} {s : St} {r : St} (h : f_X2_put g a1 a2 a3 s = some r) : clO g = 2 := by
  unfold f_X2_put at h
  exact (ifc h).1
set_option maxRecDepth 100000 in
set_option maxHeartbeats 4000000 in
theorem ok_X2_put {g : Nat} {a1 : Int32} {a2 : Int32} {a3 : Int32} {s : St} {r : St} (h : f_X2_put g a1 a2 a3 s = some r) : Ct 1 m_X2_put [.ref g, .int a1, .int a2, .int a3] s none r := by
  unfold f_X2_put at h
  obtain ⟨hg, h⟩ := ifc h
  refine ct_of [some (.ref g), some (.int a1), some (.int a2), some (.int a3)] 0 (by decide) rfl (Nat.le_of_ble_eq_true rfl) ?_
  refine wp_aload_n (i := 0) dX2_put_0 rfl rfl ?_
  refine wp_iload_n (i := 1) dX2_put_1 rfl rfl ?_
  refine wp_iload_n (i := 2) dX2_put_2 rfl rfl ?_
  obtain ⟨r1, er1, h⟩ := ob h
  refine wp_cVi (N := m_X2_at) (As := [.int a1, .int a2]) (rest := []) dX2_put_3 ml_X2_25 mo_X2_at vo_X2_at hg rfl (ok_X2_at er1) (by decide) (Nat.le_of_ble_eq_true rfl) ?_
  refine wp_iconst (v := -1) dX2_put_6 (by decide +kernel) ?_
  refine wp_icmp_eq (tgt := 20) dX2_put_7 (by decide) (fun c2 => ?_) (fun c2 => ?_)
  · rw [if_pos c2] at h
    exact wp_sub (ls' := [some (.ref g), some (.int a1), some (.int a2), some (.int a3)]) ⟨rfl, rfl, rfl, rfl, trivial⟩ (w_X2_put_20 hg h)
  · rw [if_neg c2] at h
    refine wp_aload_n (i := 0) dX2_put_10 rfl rfl ?_
    refine wp_dup_r dX2_put_11 ?_
    refine wp_getI dX2_put_12 fl_X2_15 hg (kr_2_1 _ hg) ?_
    refine wp_iconst (v := 1) dX2_put_15 (by decide +kernel) ?_
    refine wp_isub dX2_put_16 ?_
    obtain ⟨s3, es3, h⟩ := ob h
    refine wp_putI2 dX2_put_17 fl_X2_15 hg (kr_2_1 _ hg) rfl rfl es3 ?_
    exact wp_sub (ls' := [some (.ref g), some (.int a1), some (.int a2), some (.int a3)]) ⟨rfl, rfl, rfl, rfl, trivial⟩ (w_X2_put_20 hg h)
def f_X2_clear (g : Nat) (s : St) : Option (St) :=
  if ¬ clO g = 2 then none else
  Option.bind (f_J7_fill_53178 (rf g 0) (-1 : Int32) s) fun s1 =>
  Option.bind (some (sF s1 g 1 (0 : Int32))) fun s2 =>
  some s2
theorem ck_X2_clear {g : Nat} {s : St} {r : St} (h : f_X2_clear g s = some r) : clO g = 2 := by
  unfold f_X2_clear at h
  exact (ifc h).1
set_option maxRecDepth 100000 in
set_option maxHeartbeats 4000000 in
theorem ok_X2_clear {g : Nat} {s : St} {r : St} (h : f_X2_clear g s = some r) : Ct 1 m_X2_clear [.ref g] s none r := by
  unfold f_X2_clear at h
  obtain ⟨hg, h⟩ := ifc h
  refine ct_of [some (.ref g)] 0 (by decide) rfl (Nat.le_of_ble_eq_true rfl) ?_
  refine wp_aload_n (i := 0) dX2_clear_0 rfl rfl ?_
  refine wp_getR (t := rf g 0) dX2_clear_1 fl_X2_9 hg (kr_2_0 _ hg) ?_
  refine wp_iconst (v := -1) dX2_clear_4 (by decide +kernel) ?_
  obtain ⟨s1, es1, h⟩ := ob h
  refine wp_cSv (N := m_J7_fill_53178) (As := [.ref (rf g 0), .int (-1 : Int32)]) (rest := []) dX2_clear_5 ml_X2_19 mo_J7_fill_53178 vo_J7_fill_53178 rfl (ok_J7_fill_53178 es1) (by decide) (Nat.le_of_ble_eq_true rfl) ?_
  refine wp_aload_n (i := 0) dX2_clear_8 rfl rfl ?_
  refine wp_iconst (v := 0) dX2_clear_9 (by decide +kernel) ?_
  obtain ⟨s2, es2, h⟩ := ob h
  refine wp_putI2 dX2_clear_10 fl_X2_15 hg (kr_2_1 _ hg) rfl rfl es2 ?_
  cases h
  exact wp_vret dX2_clear_13 rfl
end
