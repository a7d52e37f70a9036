/-! decompiled by wip/gen/gen.py -/
theorem dX0_begin_0 : decode cX0_begin 0 = .ok (.aload_n 0, 1) := by decide +kernel
theorem dX0_begin_1 : decode cX0_begin 1 = .ok (.iload_n 1, 1) := by decide +kernel
theorem dX0_begin_2 : decode cX0_begin 2 = .ok (.putfield 21, 3) := by decide +kernel
theorem dX0_begin_5 : decode cX0_begin 5 = .ok (.aload_n 0, 1) := by decide +kernel
theorem dX0_begin_6 : decode cX0_begin 6 = .ok (.iload_n 2, 1) := by decide +kernel
theorem dX0_begin_7 : decode cX0_begin 7 = .ok (.putfield 25, 3) := by decide +kernel
theorem dX0_begin_10 : decode cX0_begin 10 = .ok (.aload_n 0, 1) := by decide +kernel
theorem dX0_begin_11 : decode cX0_begin 11 = .ok (.iload_n 3, 1) := by decide +kernel
theorem dX0_begin_12 : decode cX0_begin 12 = .ok (.putfield 28, 3) := by decide +kernel
theorem dX0_begin_15 : decode cX0_begin 15 = .ok (.aload_n 0, 1) := by decide +kernel
theorem dX0_begin_16 : decode cX0_begin 16 = .ok (.iconst 0, 1) := by decide +kernel
theorem dX0_begin_17 : decode cX0_begin 17 = .ok (.putfield 31, 3) := by decide +kernel
theorem dX0_begin_20 : decode cX0_begin 20 = .ok (.aload_n 0, 1) := by decide +kernel
theorem dX0_begin_21 : decode cX0_begin 21 = .ok (.getfield 9, 3) := by decide +kernel
theorem dX0_begin_24 : decode cX0_begin 24 = .ok (.iconst 0, 1) := by decide +kernel
theorem dX0_begin_25 : decode cX0_begin 25 = .ok (.invokestatic 34, 3) := by decide +kernel
theorem dX0_begin_28 : decode cX0_begin 28 = .ok (.return_, 1) := by decide +kernel
theorem dX0_copy_0 : decode cX0_copy 0 = .ok (.aload_n 0, 1) := by decide +kernel
theorem dX0_copy_1 : decode cX0_copy 1 = .ok (.aload_n 1, 1) := by decide +kernel
theorem dX0_copy_2 : decode cX0_copy 2 = .ok (.getfield 21, 3) := by decide +kernel
theorem dX0_copy_5 : decode cX0_copy 5 = .ok (.putfield 21, 3) := by decide +kernel
theorem dX0_copy_8 : decode cX0_copy 8 = .ok (.aload_n 0, 1) := by decide +kernel
theorem dX0_copy_9 : decode cX0_copy 9 = .ok (.aload_n 1, 1) := by decide +kernel
theorem dX0_copy_10 : decode cX0_copy 10 = .ok (.getfield 25, 3) := by decide +kernel
theorem dX0_copy_13 : decode cX0_copy 13 = .ok (.putfield 25, 3) := by decide +kernel
theorem dX0_copy_16 : decode cX0_copy 16 = .ok (.aload_n 0, 1) := by decide +kernel
theorem dX0_copy_17 : decode cX0_copy 17 = .ok (.aload_n 1, 1) := by decide +kernel
theorem dX0_copy_18 : decode cX0_copy 18 = .ok (.getfield 28, 3) := by decide +kernel
theorem dX0_copy_21 : decode cX0_copy 21 = .ok (.putfield 28, 3) := by decide +kernel
theorem dX0_copy_24 : decode cX0_copy 24 = .ok (.aload_n 0, 1) := by decide +kernel
theorem dX0_copy_25 : decode cX0_copy 25 = .ok (.aload_n 1, 1) := by decide +kernel
theorem dX0_copy_26 : decode cX0_copy 26 = .ok (.getfield 31, 3) := by decide +kernel
theorem dX0_copy_29 : decode cX0_copy 29 = .ok (.putfield 31, 3) := by decide +kernel
theorem dX0_copy_32 : decode cX0_copy 32 = .ok (.aload_n 1, 1) := by decide +kernel
theorem dX0_copy_33 : decode cX0_copy 33 = .ok (.getfield 9, 3) := by decide +kernel
theorem dX0_copy_36 : decode cX0_copy 36 = .ok (.iconst 0, 1) := by decide +kernel
theorem dX0_copy_37 : decode cX0_copy 37 = .ok (.aload_n 0, 1) := by decide +kernel
theorem dX0_copy_38 : decode cX0_copy 38 = .ok (.getfield 9, 3) := by decide +kernel
theorem dX0_copy_41 : decode cX0_copy 41 = .ok (.iconst 0, 1) := by decide +kernel
theorem dX0_copy_42 : decode cX0_copy 42 = .ok (.aload_n 0, 1) := by decide +kernel
theorem dX0_copy_43 : decode cX0_copy 43 = .ok (.getfield 9, 3) := by decide +kernel
theorem dX0_copy_46 : decode cX0_copy 46 = .ok (.arraylength, 1) := by decide +kernel
theorem dX0_copy_47 : decode cX0_copy 47 = .ok (.invokestatic 40, 3) := by decide +kernel
theorem dX0_copy_50 : decode cX0_copy 50 = .ok (.aload_n 1, 1) := by decide +kernel
theorem dX0_copy_51 : decode cX0_copy 51 = .ok (.getfield 15, 3) := by decide +kernel
theorem dX0_copy_54 : decode cX0_copy 54 = .ok (.iconst 0, 1) := by decide +kernel
theorem dX0_copy_55 : decode cX0_copy 55 = .ok (.aload_n 0, 1) := by decide +kernel
theorem dX0_copy_56 : decode cX0_copy 56 = .ok (.getfield 15, 3) := by decide +kernel
theorem dX0_copy_59 : decode cX0_copy 59 = .ok (.iconst 0, 1) := by decide +kernel
theorem dX0_copy_60 : decode cX0_copy 60 = .ok (.aload_n 0, 1) := by decide +kernel
theorem dX0_copy_61 : decode cX0_copy 61 = .ok (.getfield 15, 3) := by decide +kernel
theorem dX0_copy_64 : decode cX0_copy 64 = .ok (.arraylength, 1) := by decide +kernel
theorem dX0_copy_65 : decode cX0_copy 65 = .ok (.invokestatic 40, 3) := by decide +kernel
theorem dX0_copy_68 : decode cX0_copy 68 = .ok (.aload_n 1, 1) := by decide +kernel
theorem dX0_copy_69 : decode cX0_copy 69 = .ok (.getfield 18, 3) := by decide +kernel
theorem dX0_copy_72 : decode cX0_copy 72 = .ok (.iconst 0, 1) := by decide +kernel
theorem dX0_copy_73 : decode cX0_copy 73 = .ok (.aload_n 0, 1) := by decide +kernel
theorem dX0_copy_74 : decode cX0_copy 74 = .ok (.getfield 18, 3) := by decide +kernel
theorem dX0_copy_77 : decode cX0_copy 77 = .ok (.iconst 0, 1) := by decide +kernel
theorem dX0_copy_78 : decode cX0_copy 78 = .ok (.aload_n 0, 1) := by decide +kernel
theorem dX0_copy_79 : decode cX0_copy 79 = .ok (.getfield 18, 3) := by decide +kernel
theorem dX0_copy_82 : decode cX0_copy 82 = .ok (.arraylength, 1) := by decide +kernel
theorem dX0_copy_83 : decode cX0_copy 83 = .ok (.invokestatic 40, 3) := by decide +kernel
theorem dX0_copy_86 : decode cX0_copy 86 = .ok (.return_, 1) := by decide +kernel
theorem dX0_lines_0 : decode cX0_lines 0 = .ok (.aload_n 0, 1) := by decide +kernel
theorem dX0_lines_1 : decode cX0_lines 1 = .ok (.getfield 21, 3) := by decide +kernel
theorem dX0_lines_4 : decode cX0_lines 4 = .ok (.aload_n 0, 1) := by decide +kernel
theorem dX0_lines_5 : decode cX0_lines 5 = .ok (.getfield 25, 3) := by decide +kernel
theorem dX0_lines_8 : decode cX0_lines 8 = .ok (.iadd, 1) := by decide +kernel
theorem dX0_lines_9 : decode cX0_lines 9 = .ok (.ireturn, 1) := by decide +kernel
theorem dX0_allLines_0 : decode cX0_allLines 0 = .ok (.iconst 1, 1) := by decide +kernel
theorem dX0_allLines_1 : decode cX0_allLines 1 = .ok (.aload_n 0, 1) := by decide +kernel
theorem dX0_allLines_2 : decode cX0_allLines 2 = .ok (.invokevirtual 46, 3) := by decide +kernel
theorem dX0_allLines_5 : decode cX0_allLines 5 = .ok (.ishl, 1) := by decide +kernel
theorem dX0_allLines_6 : decode cX0_allLines 6 = .ok (.iconst 1, 1) := by decide +kernel
theorem dX0_allLines_7 : decode cX0_allLines 7 = .ok (.isub, 1) := by decide +kernel
theorem dX0_allLines_8 : decode cX0_allLines 8 = .ok (.ireturn, 1) := by decide +kernel
theorem dX0_cellsOf_0 : decode cX0_cellsOf 0 = .ok (.iload_n 1, 1) := by decide +kernel
theorem dX0_cellsOf_1 : decode cX0_cellsOf 1 = .ok (.aload_n 0, 1) := by decide +kernel
theorem dX0_cellsOf_2 : decode cX0_cellsOf 2 = .ok (.getfield 25, 3) := by decide +kernel
theorem dX0_cellsOf_5 : decode cX0_cellsOf 5 = .ok (.if_icmp .ge 10, 3) := by decide +kernel
theorem dX0_cellsOf_8 : decode cX0_cellsOf 8 = .ok (.aload_n 0, 1) := by decide +kernel
theorem dX0_cellsOf_9 : decode cX0_cellsOf 9 = .ok (.getfield 21, 3) := by decide +kernel
theorem dX0_cellsOf_12 : decode cX0_cellsOf 12 = .ok (.goto 7, 3) := by decide +kernel
theorem dX0_cellsOf_15 : decode cX0_cellsOf 15 = .ok (.aload_n 0, 1) := by decide +kernel
theorem dX0_cellsOf_16 : decode cX0_cellsOf 16 = .ok (.getfield 25, 3) := by decide +kernel
theorem dX0_cellsOf_19 : decode cX0_cellsOf 19 = .ok (.ireturn, 1) := by decide +kernel
theorem dX0_xOf_0 : decode cX0_xOf 0 = .ok (.iload_n 1, 1) := by decide +kernel
theorem dX0_xOf_1 : decode cX0_xOf 1 = .ok (.aload_n 0, 1) := by decide +kernel
theorem dX0_xOf_2 : decode cX0_xOf 2 = .ok (.getfield 25, 3) := by decide +kernel
theorem dX0_xOf_5 : decode cX0_xOf 5 = .ok (.if_icmp .ge 7, 3) := by decide +kernel
theorem dX0_xOf_8 : decode cX0_xOf 8 = .ok (.iload_n 2, 1) := by decide +kernel
theorem dX0_xOf_9 : decode cX0_xOf 9 = .ok (.goto 9, 3) := by decide +kernel
theorem dX0_xOf_12 : decode cX0_xOf 12 = .ok (.iload_n 1, 1) := by decide +kernel
theorem dX0_xOf_13 : decode cX0_xOf 13 = .ok (.aload_n 0, 1) := by decide +kernel
theorem dX0_xOf_14 : decode cX0_xOf 14 = .ok (.getfield 25, 3) := by decide +kernel
theorem dX0_xOf_17 : decode cX0_xOf 17 = .ok (.isub, 1) := by decide +kernel
theorem dX0_xOf_18 : decode cX0_xOf 18 = .ok (.ireturn, 1) := by decide +kernel
theorem dX0_yOf_0 : decode cX0_yOf 0 = .ok (.iload_n 1, 1) := by decide +kernel
theorem dX0_yOf_1 : decode cX0_yOf 1 = .ok (.aload_n 0, 1) := by decide +kernel
theorem dX0_yOf_2 : decode cX0_yOf 2 = .ok (.getfield 25, 3) := by decide +kernel
theorem dX0_yOf_5 : decode cX0_yOf 5 = .ok (.if_icmp .ge 7, 3) := by decide +kernel
theorem dX0_yOf_8 : decode cX0_yOf 8 = .ok (.iload_n 1, 1) := by decide +kernel
theorem dX0_yOf_9 : decode cX0_yOf 9 = .ok (.goto 4, 3) := by decide +kernel
theorem dX0_yOf_12 : decode cX0_yOf 12 = .ok (.iload_n 2, 1) := by decide +kernel
theorem dX0_yOf_13 : decode cX0_yOf 13 = .ok (.ireturn, 1) := by decide +kernel
theorem dX0_lengthOf_0 : decode cX0_lengthOf 0 = .ok (.aload_n 0, 1) := by decide +kernel
theorem dX0_lengthOf_1 : decode cX0_lengthOf 1 = .ok (.getfield 15, 3) := by decide +kernel
theorem dX0_lengthOf_4 : decode cX0_lengthOf 4 = .ok (.bipush 12, 2) := by decide +kernel
theorem dX0_lengthOf_6 : decode cX0_lengthOf 6 = .ok (.iload_n 1, 1) := by decide +kernel
theorem dX0_lengthOf_7 : decode cX0_lengthOf 7 = .ok (.imul, 1) := by decide +kernel
theorem dX0_lengthOf_8 : decode cX0_lengthOf 8 = .ok (.iload_n 2, 1) := by decide +kernel
theorem dX0_lengthOf_9 : decode cX0_lengthOf 9 = .ok (.iadd, 1) := by decide +kernel
theorem dX0_lengthOf_10 : decode cX0_lengthOf 10 = .ok (.iaload, 1) := by decide +kernel
theorem dX0_lengthOf_11 : decode cX0_lengthOf 11 = .ok (.ireturn, 1) := by decide +kernel
theorem dX0_colourOf_0 : decode cX0_colourOf 0 = .ok (.aload_n 0, 1) := by decide +kernel
theorem dX0_colourOf_1 : decode cX0_colourOf 1 = .ok (.getfield 18, 3) := by decide +kernel
theorem dX0_colourOf_4 : decode cX0_colourOf 4 = .ok (.bipush 12, 2) := by decide +kernel
theorem dX0_colourOf_6 : decode cX0_colourOf 6 = .ok (.iload_n 1, 1) := by decide +kernel
theorem dX0_colourOf_7 : decode cX0_colourOf 7 = .ok (.imul, 1) := by decide +kernel
theorem dX0_colourOf_8 : decode cX0_colourOf 8 = .ok (.iload_n 2, 1) := by decide +kernel
theorem dX0_colourOf_9 : decode cX0_colourOf 9 = .ok (.iadd, 1) := by decide +kernel
theorem dX0_colourOf_10 : decode cX0_colourOf 10 = .ok (.iaload, 1) := by decide +kernel
theorem dX0_colourOf_11 : decode cX0_colourOf 11 = .ok (.ireturn, 1) := by decide +kernel
theorem dX0_add_0 : decode cX0_add 0 = .ok (.aload_n 0, 1) := by decide +kernel
theorem dX0_add_1 : decode cX0_add 1 = .ok (.getfield 9, 3) := by decide +kernel
theorem dX0_add_4 : decode cX0_add 4 = .ok (.iload_n 1, 1) := by decide +kernel
theorem dX0_add_5 : decode cX0_add 5 = .ok (.iaload, 1) := by decide +kernel
theorem dX0_add_6 : decode cX0_add 6 = .ok (.bipush 12, 2) := by decide +kernel
theorem dX0_add_8 : decode cX0_add 8 = .ok (.if_icmp .lt 4, 3) := by decide +kernel
theorem dX0_add_11 : decode cX0_add 11 = .ok (.return_, 1) := by decide +kernel
theorem dX0_add_12 : decode cX0_add 12 = .ok (.bipush 12, 2) := by decide +kernel
theorem dX0_add_14 : decode cX0_add 14 = .ok (.iload_n 1, 1) := by decide +kernel
theorem dX0_add_15 : decode cX0_add 15 = .ok (.imul, 1) := by decide +kernel
theorem dX0_add_16 : decode cX0_add 16 = .ok (.aload_n 0, 1) := by decide +kernel
theorem dX0_add_17 : decode cX0_add 17 = .ok (.getfield 9, 3) := by decide +kernel
theorem dX0_add_20 : decode cX0_add 20 = .ok (.iload_n 1, 1) := by decide +kernel
theorem dX0_add_21 : decode cX0_add 21 = .ok (.iaload, 1) := by decide +kernel
theorem dX0_add_22 : decode cX0_add 22 = .ok (.iadd, 1) := by decide +kernel
theorem dX0_add_23 : decode cX0_add 23 = .ok (.istore 4, 2) := by decide +kernel
theorem dX0_add_25 : decode cX0_add 25 = .ok (.aload_n 0, 1) := by decide +kernel
theorem dX0_add_26 : decode cX0_add 26 = .ok (.getfield 15, 3) := by decide +kernel
theorem dX0_add_29 : decode cX0_add 29 = .ok (.iload 4, 2) := by decide +kernel
theorem dX0_add_31 : decode cX0_add 31 = .ok (.iload_n 2, 1) := by decide +kernel
theorem dX0_add_32 : decode cX0_add 32 = .ok (.iastore, 1) := by decide +kernel
theorem dX0_add_33 : decode cX0_add 33 = .ok (.aload_n 0, 1) := by decide +kernel
theorem dX0_add_34 : decode cX0_add 34 = .ok (.getfield 18, 3) := by decide +kernel
theorem dX0_add_37 : decode cX0_add 37 = .ok (.iload 4, 2) := by decide +kernel
theorem dX0_add_39 : decode cX0_add 39 = .ok (.iload_n 3, 1) := by decide +kernel
theorem dX0_add_40 : decode cX0_add 40 = .ok (.iastore, 1) := by decide +kernel
theorem dX0_add_41 : decode cX0_add 41 = .ok (.aload_n 0, 1) := by decide +kernel
theorem dX0_add_42 : decode cX0_add 42 = .ok (.getfield 9, 3) := by decide +kernel
theorem dX0_add_45 : decode cX0_add 45 = .ok (.iload_n 1, 1) := by decide +kernel
theorem dX0_add_46 : decode cX0_add 46 = .ok (.dup2, 1) := by decide +kernel
theorem dX0_add_47 : decode cX0_add 47 = .ok (.iaload, 1) := by decide +kernel
theorem dX0_add_48 : decode cX0_add 48 = .ok (.iconst 1, 1) := by decide +kernel
theorem dX0_add_49 : decode cX0_add 49 = .ok (.iadd, 1) := by decide +kernel
theorem dX0_add_50 : decode cX0_add 50 = .ok (.iastore, 1) := by decide +kernel
theorem dX0_add_51 : decode cX0_add 51 = .ok (.aload_n 0, 1) := by decide +kernel
theorem dX0_add_52 : decode cX0_add 52 = .ok (.dup, 1) := by decide +kernel
theorem dX0_add_53 : decode cX0_add 53 = .ok (.getfield 31, 3) := by decide +kernel
theorem dX0_add_56 : decode cX0_add 56 = .ok (.iconst 1, 1) := by decide +kernel
theorem dX0_add_57 : decode cX0_add 57 = .ok (.iadd, 1) := by decide +kernel
theorem dX0_add_58 : decode cX0_add 58 = .ok (.putfield 31, 3) := by decide +kernel
theorem dX0_add_61 : decode cX0_add 61 = .ok (.return_, 1) := by decide +kernel
theorem dX0_needsGapAhead_0 : decode cX0_needsGapAhead 0 = .ok (.bipush 12, 2) := by decide +kernel
theorem dX0_needsGapAhead_2 : decode cX0_needsGapAhead 2 = .ok (.iload_n 1, 1) := by decide +kernel
theorem dX0_needsGapAhead_3 : decode cX0_needsGapAhead 3 = .ok (.imul, 1) := by decide +kernel
theorem dX0_needsGapAhead_4 : decode cX0_needsGapAhead 4 = .ok (.iload_n 2, 1) := by decide +kernel
theorem dX0_needsGapAhead_5 : decode cX0_needsGapAhead 5 = .ok (.iadd, 1) := by decide +kernel
theorem dX0_needsGapAhead_6 : decode cX0_needsGapAhead 6 = .ok (.istore_n 3, 1) := by decide +kernel
theorem dX0_needsGapAhead_7 : decode cX0_needsGapAhead 7 = .ok (.iload_n 2, 1) := by decide +kernel
theorem dX0_needsGapAhead_8 : decode cX0_needsGapAhead 8 = .ok (.ifCond .le 34, 3) := by decide +kernel
theorem dX0_needsGapAhead_11 : decode cX0_needsGapAhead 11 = .ok (.iload_n 2, 1) := by decide +kernel
theorem dX0_needsGapAhead_12 : decode cX0_needsGapAhead 12 = .ok (.aload_n 0, 1) := by decide +kernel
theorem dX0_needsGapAhead_13 : decode cX0_needsGapAhead 13 = .ok (.getfield 9, 3) := by decide +kernel
theorem dX0_needsGapAhead_16 : decode cX0_needsGapAhead 16 = .ok (.iload_n 1, 1) := by decide +kernel
theorem dX0_needsGapAhead_17 : decode cX0_needsGapAhead 17 = .ok (.iaload, 1) := by decide +kernel
theorem dX0_needsGapAhead_18 : decode cX0_needsGapAhead 18 = .ok (.if_icmp .ge 24, 3) := by decide +kernel
theorem dX0_needsGapAhead_21 : decode cX0_needsGapAhead 21 = .ok (.aload_n 0, 1) := by decide +kernel
theorem dX0_needsGapAhead_22 : decode cX0_needsGapAhead 22 = .ok (.getfield 18, 3) := by decide +kernel
theorem dX0_needsGapAhead_25 : decode cX0_needsGapAhead 25 = .ok (.iload_n 3, 1) := by decide +kernel
theorem dX0_needsGapAhead_26 : decode cX0_needsGapAhead 26 = .ok (.iconst 1, 1) := by decide +kernel
theorem dX0_needsGapAhead_27 : decode cX0_needsGapAhead 27 = .ok (.isub, 1) := by decide +kernel
theorem dX0_needsGapAhead_28 : decode cX0_needsGapAhead 28 = .ok (.iaload, 1) := by decide +kernel
theorem dX0_needsGapAhead_29 : decode cX0_needsGapAhead 29 = .ok (.aload_n 0, 1) := by decide +kernel
theorem dX0_needsGapAhead_30 : decode cX0_needsGapAhead 30 = .ok (.getfield 18, 3) := by decide +kernel
theorem dX0_needsGapAhead_33 : decode cX0_needsGapAhead 33 = .ok (.iload_n 3, 1) := by decide +kernel
theorem dX0_needsGapAhead_34 : decode cX0_needsGapAhead 34 = .ok (.iaload, 1) := by decide +kernel
theorem dX0_needsGapAhead_35 : decode cX0_needsGapAhead 35 = .ok (.if_icmp .ne 7, 3) := by decide +kernel
theorem dX0_needsGapAhead_38 : decode cX0_needsGapAhead 38 = .ok (.iconst 1, 1) := by decide +kernel
theorem dX0_needsGapAhead_39 : decode cX0_needsGapAhead 39 = .ok (.goto 4, 3) := by decide +kernel
theorem dX0_needsGapAhead_42 : decode cX0_needsGapAhead 42 = .ok (.iconst 0, 1) := by decide +kernel
theorem dX0_needsGapAhead_43 : decode cX0_needsGapAhead 43 = .ok (.ireturn, 1) := by decide +kernel
theorem dX0_fitsItsCells_0 : decode cX0_fitsItsCells 0 = .ok (.iconst 0, 1) := by decide +kernel
theorem dX0_fitsItsCells_1 : decode cX0_fitsItsCells 1 = .ok (.istore_n 2, 1) := by decide +kernel
theorem dX0_fitsItsCells_2 : decode cX0_fitsItsCells 2 = .ok (.iconst 0, 1) := by decide +kernel
theorem dX0_fitsItsCells_3 : decode cX0_fitsItsCells 3 = .ok (.istore_n 3, 1) := by decide +kernel
theorem dX0_fitsItsCells_4 : decode cX0_fitsItsCells 4 = .ok (.iload_n 3, 1) := by decide +kernel
theorem dX0_fitsItsCells_5 : decode cX0_fitsItsCells 5 = .ok (.aload_n 0, 1) := by decide +kernel
theorem dX0_fitsItsCells_6 : decode cX0_fitsItsCells 6 = .ok (.getfield 9, 3) := by decide +kernel
theorem dX0_fitsItsCells_9 : decode cX0_fitsItsCells 9 = .ok (.iload_n 1, 1) := by decide +kernel
theorem dX0_fitsItsCells_10 : decode cX0_fitsItsCells 10 = .ok (.iaload, 1) := by decide +kernel
theorem dX0_fitsItsCells_11 : decode cX0_fitsItsCells 11 = .ok (.if_icmp .ge 33, 3) := by decide +kernel
theorem dX0_fitsItsCells_14 : decode cX0_fitsItsCells 14 = .ok (.iload_n 2, 1) := by decide +kernel
theorem dX0_fitsItsCells_15 : decode cX0_fitsItsCells 15 = .ok (.aload_n 0, 1) := by decide +kernel
theorem dX0_fitsItsCells_16 : decode cX0_fitsItsCells 16 = .ok (.iload_n 1, 1) := by decide +kernel
theorem dX0_fitsItsCells_17 : decode cX0_fitsItsCells 17 = .ok (.iload_n 3, 1) := by decide +kernel
theorem dX0_fitsItsCells_18 : decode cX0_fitsItsCells 18 = .ok (.invokevirtual 50, 3) := by decide +kernel
theorem dX0_fitsItsCells_21 : decode cX0_fitsItsCells 21 = .ok (.aload_n 0, 1) := by decide +kernel
theorem dX0_fitsItsCells_22 : decode cX0_fitsItsCells 22 = .ok (.iload_n 1, 1) := by decide +kernel
theorem dX0_fitsItsCells_23 : decode cX0_fitsItsCells 23 = .ok (.iload_n 3, 1) := by decide +kernel
theorem dX0_fitsItsCells_24 : decode cX0_fitsItsCells 24 = .ok (.invokevirtual 54, 3) := by decide +kernel
theorem dX0_fitsItsCells_27 : decode cX0_fitsItsCells 27 = .ok (.ifCond .eq 7, 3) := by decide +kernel
theorem dX0_fitsItsCells_30 : decode cX0_fitsItsCells 30 = .ok (.iconst 1, 1) := by decide +kernel
theorem dX0_fitsItsCells_31 : decode cX0_fitsItsCells 31 = .ok (.goto 4, 3) := by decide +kernel
theorem dX0_fitsItsCells_34 : decode cX0_fitsItsCells 34 = .ok (.iconst 0, 1) := by decide +kernel
theorem dX0_fitsItsCells_35 : decode cX0_fitsItsCells 35 = .ok (.iadd, 1) := by decide +kernel
theorem dX0_fitsItsCells_36 : decode cX0_fitsItsCells 36 = .ok (.iadd, 1) := by decide +kernel
theorem dX0_fitsItsCells_37 : decode cX0_fitsItsCells 37 = .ok (.istore_n 2, 1) := by decide +kernel
theorem dX0_fitsItsCells_38 : decode cX0_fitsItsCells 38 = .ok (.iinc 3 1, 3) := by decide +kernel
theorem dX0_fitsItsCells_41 : decode cX0_fitsItsCells 41 = .ok (.goto (-37), 3) := by decide +kernel
theorem dX0_fitsItsCells_44 : decode cX0_fitsItsCells 44 = .ok (.iload_n 2, 1) := by decide +kernel
theorem dX0_fitsItsCells_45 : decode cX0_fitsItsCells 45 = .ok (.aload_n 0, 1) := by decide +kernel
theorem dX0_fitsItsCells_46 : decode cX0_fitsItsCells 46 = .ok (.iload_n 1, 1) := by decide +kernel
theorem dX0_fitsItsCells_47 : decode cX0_fitsItsCells 47 = .ok (.invokevirtual 58, 3) := by decide +kernel
theorem dX0_fitsItsCells_50 : decode cX0_fitsItsCells 50 = .ok (.if_icmp .gt 7, 3) := by decide +kernel
theorem dX0_fitsItsCells_53 : decode cX0_fitsItsCells 53 = .ok (.iconst 1, 1) := by decide +kernel
theorem dX0_fitsItsCells_54 : decode cX0_fitsItsCells 54 = .ok (.goto 4, 3) := by decide +kernel
theorem dX0_fitsItsCells_57 : decode cX0_fitsItsCells 57 = .ok (.iconst 0, 1) := by decide +kernel
theorem dX0_fitsItsCells_58 : decode cX0_fitsItsCells 58 = .ok (.ireturn, 1) := by decide +kernel
theorem dX0_cellsTold_0 : decode cX0_cellsTold 0 = .ok (.iconst 0, 1) := by decide +kernel
theorem dX0_cellsTold_1 : decode cX0_cellsTold 1 = .ok (.istore 4, 2) := by decide +kernel
theorem dX0_cellsTold_3 : decode cX0_cellsTold 3 = .ok (.iload_n 1, 1) := by decide +kernel
theorem dX0_cellsTold_4 : decode cX0_cellsTold 4 = .ok (.istore 5, 2) := by decide +kernel
theorem dX0_cellsTold_6 : decode cX0_cellsTold 6 = .ok (.iload 5, 2) := by decide +kernel
theorem dX0_cellsTold_8 : decode cX0_cellsTold 8 = .ok (.iload_n 2, 1) := by decide +kernel
theorem dX0_cellsTold_9 : decode cX0_cellsTold 9 = .ok (.if_icmp .ge 59, 3) := by decide +kernel
theorem dX0_cellsTold_12 : decode cX0_cellsTold 12 = .ok (.iconst 0, 1) := by decide +kernel
theorem dX0_cellsTold_13 : decode cX0_cellsTold 13 = .ok (.istore 6, 2) := by decide +kernel
theorem dX0_cellsTold_15 : decode cX0_cellsTold 15 = .ok (.iload 6, 2) := by decide +kernel
theorem dX0_cellsTold_17 : decode cX0_cellsTold 17 = .ok (.aload_n 0, 1) := by decide +kernel
theorem dX0_cellsTold_18 : decode cX0_cellsTold 18 = .ok (.getfield 9, 3) := by decide +kernel
theorem dX0_cellsTold_21 : decode cX0_cellsTold 21 = .ok (.iload 5, 2) := by decide +kernel
theorem dX0_cellsTold_23 : decode cX0_cellsTold 23 = .ok (.iaload, 1) := by decide +kernel
theorem dX0_cellsTold_24 : decode cX0_cellsTold 24 = .ok (.if_icmp .ge 38, 3) := by decide +kernel
theorem dX0_cellsTold_27 : decode cX0_cellsTold 27 = .ok (.iload 4, 2) := by decide +kernel
theorem dX0_cellsTold_29 : decode cX0_cellsTold 29 = .ok (.aload_n 0, 1) := by decide +kernel
theorem dX0_cellsTold_30 : decode cX0_cellsTold 30 = .ok (.iload 5, 2) := by decide +kernel
theorem dX0_cellsTold_32 : decode cX0_cellsTold 32 = .ok (.iload 6, 2) := by decide +kernel
theorem dX0_cellsTold_34 : decode cX0_cellsTold 34 = .ok (.invokevirtual 66, 3) := by decide +kernel
theorem dX0_cellsTold_37 : decode cX0_cellsTold 37 = .ok (.iload_n 3, 1) := by decide +kernel
theorem dX0_cellsTold_38 : decode cX0_cellsTold 38 = .ok (.if_icmp .ne 14, 3) := by decide +kernel
theorem dX0_cellsTold_41 : decode cX0_cellsTold 41 = .ok (.aload_n 0, 1) := by decide +kernel
theorem dX0_cellsTold_42 : decode cX0_cellsTold 42 = .ok (.iload 5, 2) := by decide +kernel
theorem dX0_cellsTold_44 : decode cX0_cellsTold 44 = .ok (.iload 6, 2) := by decide +kernel
theorem dX0_cellsTold_46 : decode cX0_cellsTold 46 = .ok (.invokevirtual 50, 3) := by decide +kernel
theorem dX0_cellsTold_49 : decode cX0_cellsTold 49 = .ok (.goto 4, 3) := by decide +kernel
theorem dX0_cellsTold_52 : decode cX0_cellsTold 52 = .ok (.iconst 0, 1) := by decide +kernel
theorem dX0_cellsTold_53 : decode cX0_cellsTold 53 = .ok (.iadd, 1) := by decide +kernel
theorem dX0_cellsTold_54 : decode cX0_cellsTold 54 = .ok (.istore 4, 2) := by decide +kernel
theorem dX0_cellsTold_56 : decode cX0_cellsTold 56 = .ok (.iinc 6 1, 3) := by decide +kernel
theorem dX0_cellsTold_59 : decode cX0_cellsTold 59 = .ok (.goto (-44), 3) := by decide +kernel
theorem dX0_cellsTold_62 : decode cX0_cellsTold 62 = .ok (.iinc 5 1, 3) := by decide +kernel
theorem dX0_cellsTold_65 : decode cX0_cellsTold 65 = .ok (.goto (-59), 3) := by decide +kernel
theorem dX0_cellsTold_68 : decode cX0_cellsTold 68 = .ok (.iload 4, 2) := by decide +kernel
theorem dX0_cellsTold_70 : decode cX0_cellsTold 70 = .ok (.ireturn, 1) := by decide +kernel
theorem dX0_isBalanced_0 : decode cX0_isBalanced 0 = .ok (.iconst 1, 1) := by decide +kernel
theorem dX0_isBalanced_1 : decode cX0_isBalanced 1 = .ok (.istore_n 1, 1) := by decide +kernel
theorem dX0_isBalanced_2 : decode cX0_isBalanced 2 = .ok (.iload_n 1, 1) := by decide +kernel
theorem dX0_isBalanced_3 : decode cX0_isBalanced 3 = .ok (.aload_n 0, 1) := by decide +kernel
theorem dX0_isBalanced_4 : decode cX0_isBalanced 4 = .ok (.getfield 28, 3) := by decide +kernel
theorem dX0_isBalanced_7 : decode cX0_isBalanced 7 = .ok (.if_icmp .gt 37, 3) := by decide +kernel
theorem dX0_isBalanced_10 : decode cX0_isBalanced 10 = .ok (.aload_n 0, 1) := by decide +kernel
theorem dX0_isBalanced_11 : decode cX0_isBalanced 11 = .ok (.iconst 0, 1) := by decide +kernel
theorem dX0_isBalanced_12 : decode cX0_isBalanced 12 = .ok (.aload_n 0, 1) := by decide +kernel
theorem dX0_isBalanced_13 : decode cX0_isBalanced 13 = .ok (.getfield 25, 3) := by decide +kernel
theorem dX0_isBalanced_16 : decode cX0_isBalanced 16 = .ok (.iload_n 1, 1) := by decide +kernel
theorem dX0_isBalanced_17 : decode cX0_isBalanced 17 = .ok (.invokevirtual 62, 3) := by decide +kernel
theorem dX0_isBalanced_20 : decode cX0_isBalanced 20 = .ok (.aload_n 0, 1) := by decide +kernel
theorem dX0_isBalanced_21 : decode cX0_isBalanced 21 = .ok (.aload_n 0, 1) := by decide +kernel
theorem dX0_isBalanced_22 : decode cX0_isBalanced 22 = .ok (.getfield 25, 3) := by decide +kernel
theorem dX0_isBalanced_25 : decode cX0_isBalanced 25 = .ok (.aload_n 0, 1) := by decide +kernel
theorem dX0_isBalanced_26 : decode cX0_isBalanced 26 = .ok (.invokevirtual 46, 3) := by decide +kernel
theorem dX0_isBalanced_29 : decode cX0_isBalanced 29 = .ok (.iload_n 1, 1) := by decide +kernel
theorem dX0_isBalanced_30 : decode cX0_isBalanced 30 = .ok (.invokevirtual 62, 3) := by decide +kernel
theorem dX0_isBalanced_33 : decode cX0_isBalanced 33 = .ok (.if_icmp .eq 5, 3) := by decide +kernel
theorem dX0_isBalanced_36 : decode cX0_isBalanced 36 = .ok (.iconst 0, 1) := by decide +kernel
theorem dX0_isBalanced_37 : decode cX0_isBalanced 37 = .ok (.ireturn, 1) := by decide +kernel
theorem dX0_isBalanced_38 : decode cX0_isBalanced 38 = .ok (.iinc 1 1, 3) := by decide +kernel
theorem dX0_isBalanced_41 : decode cX0_isBalanced 41 = .ok (.goto (-39), 3) := by decide +kernel
theorem dX0_isBalanced_44 : decode cX0_isBalanced 44 = .ok (.iconst 1, 1) := by decide +kernel
theorem dX0_isBalanced_45 : decode cX0_isBalanced 45 = .ok (.ireturn, 1) := by decide +kernel
theorem dX0_addStretch_0 : decode cX0_addStretch 0 = .ok (.iload_n 3, 1) := by decide +kernel
theorem dX0_addStretch_1 : decode cX0_addStretch 1 = .ok (.ifCond .eq 10, 3) := by decide +kernel
theorem dX0_addStretch_4 : decode cX0_addStretch 4 = .ok (.aload_n 0, 1) := by decide +kernel
theorem dX0_addStretch_5 : decode cX0_addStretch 5 = .ok (.iload_n 1, 1) := by decide +kernel
theorem dX0_addStretch_6 : decode cX0_addStretch 6 = .ok (.iload_n 2, 1) := by decide +kernel
theorem dX0_addStretch_7 : decode cX0_addStretch 7 = .ok (.iload_n 3, 1) := by decide +kernel
theorem dX0_addStretch_8 : decode cX0_addStretch 8 = .ok (.invokevirtual 84, 3) := by decide +kernel
theorem dX0_addStretch_11 : decode cX0_addStretch 11 = .ok (.return_, 1) := by decide +kernel
theorem dX0_readLine_0 : decode cX0_readLine 0 = .ok (.iconst 0, 1) := by decide +kernel
theorem dX0_readLine_1 : decode cX0_readLine 1 = .ok (.istore_n 3, 1) := by decide +kernel
theorem dX0_readLine_2 : decode cX0_readLine 2 = .ok (.iconst 0, 1) := by decide +kernel
theorem dX0_readLine_3 : decode cX0_readLine 3 = .ok (.istore 4, 2) := by decide +kernel
theorem dX0_readLine_5 : decode cX0_readLine 5 = .ok (.iconst 0, 1) := by decide +kernel
theorem dX0_readLine_6 : decode cX0_readLine 6 = .ok (.istore 5, 2) := by decide +kernel
theorem dX0_readLine_8 : decode cX0_readLine 8 = .ok (.iload 5, 2) := by decide +kernel
theorem dX0_readLine_10 : decode cX0_readLine 10 = .ok (.aload_n 0, 1) := by decide +kernel
theorem dX0_readLine_11 : decode cX0_readLine 11 = .ok (.iload_n 1, 1) := by decide +kernel
theorem dX0_readLine_12 : decode cX0_readLine 12 = .ok (.invokevirtual 58, 3) := by decide +kernel
theorem dX0_readLine_15 : decode cX0_readLine 15 = .ok (.if_icmp .ge 53, 3) := by decide +kernel
theorem dX0_readLine_18 : decode cX0_readLine 18 = .ok (.aload_n 2, 1) := by decide +kernel
theorem dX0_readLine_19 : decode cX0_readLine 19 = .ok (.aload_n 0, 1) := by decide +kernel
theorem dX0_readLine_20 : decode cX0_readLine 20 = .ok (.iload_n 1, 1) := by decide +kernel
theorem dX0_readLine_21 : decode cX0_readLine 21 = .ok (.iload 5, 2) := by decide +kernel
theorem dX0_readLine_23 : decode cX0_readLine 23 = .ok (.invokevirtual 69, 3) := by decide +kernel
theorem dX0_readLine_26 : decode cX0_readLine 26 = .ok (.aload_n 0, 1) := by decide +kernel
theorem dX0_readLine_27 : decode cX0_readLine 27 = .ok (.iload_n 1, 1) := by decide +kernel
theorem dX0_readLine_28 : decode cX0_readLine 28 = .ok (.iload 5, 2) := by decide +kernel
theorem dX0_readLine_30 : decode cX0_readLine 30 = .ok (.invokevirtual 72, 3) := by decide +kernel
theorem dX0_readLine_33 : decode cX0_readLine 33 = .ok (.invokevirtual 75, 3) := by decide +kernel
theorem dX0_readLine_36 : decode cX0_readLine 36 = .ok (.istore 6, 2) := by decide +kernel
theorem dX0_readLine_38 : decode cX0_readLine 38 = .ok (.iload 6, 2) := by decide +kernel
theorem dX0_readLine_40 : decode cX0_readLine 40 = .ok (.iload 4, 2) := by decide +kernel
theorem dX0_readLine_42 : decode cX0_readLine 42 = .ok (.if_icmp .eq 17, 3) := by decide +kernel
theorem dX0_readLine_45 : decode cX0_readLine 45 = .ok (.aload_n 0, 1) := by decide +kernel
theorem dX0_readLine_46 : decode cX0_readLine 46 = .ok (.iload_n 1, 1) := by decide +kernel
theorem dX0_readLine_47 : decode cX0_readLine 47 = .ok (.iload_n 3, 1) := by decide +kernel
theorem dX0_readLine_48 : decode cX0_readLine 48 = .ok (.iload 4, 2) := by decide +kernel
theorem dX0_readLine_50 : decode cX0_readLine 50 = .ok (.invokevirtual 80, 3) := by decide +kernel
theorem dX0_readLine_53 : decode cX0_readLine 53 = .ok (.iconst 0, 1) := by decide +kernel
theorem dX0_readLine_54 : decode cX0_readLine 54 = .ok (.istore_n 3, 1) := by decide +kernel
theorem dX0_readLine_55 : decode cX0_readLine 55 = .ok (.iload 6, 2) := by decide +kernel
theorem dX0_readLine_57 : decode cX0_readLine 57 = .ok (.istore 4, 2) := by decide +kernel
theorem dX0_readLine_59 : decode cX0_readLine 59 = .ok (.iinc 3 1, 3) := by decide +kernel
theorem dX0_readLine_62 : decode cX0_readLine 62 = .ok (.iinc 5 1, 3) := by decide +kernel
theorem dX0_readLine_65 : decode cX0_readLine 65 = .ok (.goto (-57), 3) := by decide +kernel
theorem dX0_readLine_68 : decode cX0_readLine 68 = .ok (.aload_n 0, 1) := by decide +kernel
theorem dX0_readLine_69 : decode cX0_readLine 69 = .ok (.iload_n 1, 1) := by decide +kernel
theorem dX0_readLine_70 : decode cX0_readLine 70 = .ok (.iload_n 3, 1) := by decide +kernel
theorem dX0_readLine_71 : decode cX0_readLine 71 = .ok (.iload 4, 2) := by decide +kernel
theorem dX0_readLine_73 : decode cX0_readLine 73 = .ok (.invokevirtual 80, 3) := by decide +kernel
theorem dX0_readLine_76 : decode cX0_readLine 76 = .ok (.return_, 1) := by decide +kernel
theorem dX0_isLineLike_0 : decode cX0_isLineLike 0 = .ok (.aload_n 0, 1) := by decide +kernel
theorem dX0_isLineLike_1 : decode cX0_isLineLike 1 = .ok (.getfield 9, 3) := by decide +kernel
theorem dX0_isLineLike_4 : decode cX0_isLineLike 4 = .ok (.iload_n 1, 1) := by decide +kernel
theorem dX0_isLineLike_5 : decode cX0_isLineLike 5 = .ok (.iaload, 1) := by decide +kernel
theorem dX0_isLineLike_6 : decode cX0_isLineLike 6 = .ok (.aload_n 2, 1) := by decide +kernel
theorem dX0_isLineLike_7 : decode cX0_isLineLike 7 = .ok (.getfield 9, 3) := by decide +kernel
theorem dX0_isLineLike_10 : decode cX0_isLineLike 10 = .ok (.iload_n 1, 1) := by decide +kernel
theorem dX0_isLineLike_11 : decode cX0_isLineLike 11 = .ok (.iaload, 1) := by decide +kernel
theorem dX0_isLineLike_12 : decode cX0_isLineLike 12 = .ok (.if_icmp .eq 5, 3) := by decide +kernel
theorem dX0_isLineLike_15 : decode cX0_isLineLike 15 = .ok (.iconst 0, 1) := by decide +kernel
theorem dX0_isLineLike_16 : decode cX0_isLineLike 16 = .ok (.ireturn, 1) := by decide +kernel
theorem dX0_isLineLike_17 : decode cX0_isLineLike 17 = .ok (.iconst 0, 1) := by decide +kernel
theorem dX0_isLineLike_18 : decode cX0_isLineLike 18 = .ok (.istore_n 3, 1) := by decide +kernel
theorem dX0_isLineLike_19 : decode cX0_isLineLike 19 = .ok (.iload_n 3, 1) := by decide +kernel
theorem dX0_isLineLike_20 : decode cX0_isLineLike 20 = .ok (.aload_n 0, 1) := by decide +kernel
theorem dX0_isLineLike_21 : decode cX0_isLineLike 21 = .ok (.getfield 9, 3) := by decide +kernel
theorem dX0_isLineLike_24 : decode cX0_isLineLike 24 = .ok (.iload_n 1, 1) := by decide +kernel
theorem dX0_isLineLike_25 : decode cX0_isLineLike 25 = .ok (.iaload, 1) := by decide +kernel
theorem dX0_isLineLike_26 : decode cX0_isLineLike 26 = .ok (.if_icmp .ge 41, 3) := by decide +kernel
theorem dX0_isLineLike_29 : decode cX0_isLineLike 29 = .ok (.aload_n 0, 1) := by decide +kernel
theorem dX0_isLineLike_30 : decode cX0_isLineLike 30 = .ok (.iload_n 1, 1) := by decide +kernel
theorem dX0_isLineLike_31 : decode cX0_isLineLike 31 = .ok (.iload_n 3, 1) := by decide +kernel
theorem dX0_isLineLike_32 : decode cX0_isLineLike 32 = .ok (.invokevirtual 50, 3) := by decide +kernel
theorem dX0_isLineLike_35 : decode cX0_isLineLike 35 = .ok (.aload_n 2, 1) := by decide +kernel
theorem dX0_isLineLike_36 : decode cX0_isLineLike 36 = .ok (.iload_n 1, 1) := by decide +kernel
theorem dX0_isLineLike_37 : decode cX0_isLineLike 37 = .ok (.iload_n 3, 1) := by decide +kernel
theorem dX0_isLineLike_38 : decode cX0_isLineLike 38 = .ok (.invokevirtual 50, 3) := by decide +kernel
theorem dX0_isLineLike_41 : decode cX0_isLineLike 41 = .ok (.if_icmp .ne 18, 3) := by decide +kernel
theorem dX0_isLineLike_44 : decode cX0_isLineLike 44 = .ok (.aload_n 0, 1) := by decide +kernel
theorem dX0_isLineLike_45 : decode cX0_isLineLike 45 = .ok (.iload_n 1, 1) := by decide +kernel
theorem dX0_isLineLike_46 : decode cX0_isLineLike 46 = .ok (.iload_n 3, 1) := by decide +kernel
theorem dX0_isLineLike_47 : decode cX0_isLineLike 47 = .ok (.invokevirtual 66, 3) := by decide +kernel
theorem dX0_isLineLike_50 : decode cX0_isLineLike 50 = .ok (.aload_n 2, 1) := by decide +kernel
theorem dX0_isLineLike_51 : decode cX0_isLineLike 51 = .ok (.iload_n 1, 1) := by decide +kernel
theorem dX0_isLineLike_52 : decode cX0_isLineLike 52 = .ok (.iload_n 3, 1) := by decide +kernel
theorem dX0_isLineLike_53 : decode cX0_isLineLike 53 = .ok (.invokevirtual 66, 3) := by decide +kernel
theorem dX0_isLineLike_56 : decode cX0_isLineLike 56 = .ok (.if_icmp .eq 5, 3) := by decide +kernel
theorem dX0_isLineLike_59 : decode cX0_isLineLike 59 = .ok (.iconst 0, 1) := by decide +kernel
theorem dX0_isLineLike_60 : decode cX0_isLineLike 60 = .ok (.ireturn, 1) := by decide +kernel
theorem dX0_isLineLike_61 : decode cX0_isLineLike 61 = .ok (.iinc 3 1, 3) := by decide +kernel
theorem dX0_isLineLike_64 : decode cX0_isLineLike 64 = .ok (.goto (-45), 3) := by decide +kernel
theorem dX0_isLineLike_67 : decode cX0_isLineLike 67 = .ok (.iconst 1, 1) := by decide +kernel
theorem dX0_isLineLike_68 : decode cX0_isLineLike 68 = .ok (.ireturn, 1) := by decide +kernel
theorem dX0_hasRunsOf_0 : decode cX0_hasRunsOf 0 = .ok (.iconst 0, 1) := by decide +kernel
theorem dX0_hasRunsOf_1 : decode cX0_hasRunsOf 1 = .ok (.istore_n 2, 1) := by decide +kernel
theorem dX0_hasRunsOf_2 : decode cX0_hasRunsOf 2 = .ok (.iload_n 2, 1) := by decide +kernel
theorem dX0_hasRunsOf_3 : decode cX0_hasRunsOf 3 = .ok (.aload_n 0, 1) := by decide +kernel
theorem dX0_hasRunsOf_4 : decode cX0_hasRunsOf 4 = .ok (.invokevirtual 46, 3) := by decide +kernel
theorem dX0_hasRunsOf_7 : decode cX0_hasRunsOf 7 = .ok (.if_icmp .ge 20, 3) := by decide +kernel
theorem dX0_hasRunsOf_10 : decode cX0_hasRunsOf 10 = .ok (.aload_n 0, 1) := by decide +kernel
theorem dX0_hasRunsOf_11 : decode cX0_hasRunsOf 11 = .ok (.iload_n 2, 1) := by decide +kernel
theorem dX0_hasRunsOf_12 : decode cX0_hasRunsOf 12 = .ok (.aload_n 1, 1) := by decide +kernel
theorem dX0_hasRunsOf_13 : decode cX0_hasRunsOf 13 = .ok (.invokevirtual 87, 3) := by decide +kernel
theorem dX0_hasRunsOf_16 : decode cX0_hasRunsOf 16 = .ok (.ifCond .ne 5, 3) := by decide +kernel
theorem dX0_hasRunsOf_19 : decode cX0_hasRunsOf 19 = .ok (.iconst 0, 1) := by decide +kernel
theorem dX0_hasRunsOf_20 : decode cX0_hasRunsOf 20 = .ok (.ireturn, 1) := by decide +kernel
theorem dX0_hasRunsOf_21 : decode cX0_hasRunsOf 21 = .ok (.iinc 2 1, 3) := by decide +kernel
theorem dX0_hasRunsOf_24 : decode cX0_hasRunsOf 24 = .ok (.goto (-22), 3) := by decide +kernel
theorem dX0_hasRunsOf_27 : decode cX0_hasRunsOf 27 = .ok (.iconst 1, 1) := by decide +kernel
theorem dX0_hasRunsOf_28 : decode cX0_hasRunsOf 28 = .ok (.ireturn, 1) := by decide +kernel
def f_X0_begin (g : Nat) (a1 : Int32) (a2 : Int32) (a3 : Int32) (s : St) : Option (St) :=
  if ¬ clO g = 0 then none else
  Option.bind (some (sF s g 3 a1)) fun s1 =>
  Option.bind (some (sF s1 g 4 a2)) fun s2 =>
  Option.bind (some (sF s2 g 5 a3)) fun s3 =>
  Option.bind (some (sF s3 g 6 (0 : Int32))) fun s4 =>
  Option.bind (f_J7_fill_53178 (rf g 0) (0 : Int32) s4) fun s5 =>
  some s5
theorem ck_X0_begin {g : Nat} {a1 : Int32} {a2 : Int32} {a3 : Int32} {s : St} {r : St} (h : f_X0_begin g a1 a2 a3 s = some r) : clO g = 0 := by
  unfold f_X0_begin at h
  exact (ifc h).1
set_option maxRecDepth 100000 in
set_option maxHeartbeats 4000000 in
theorem ok_X0_begin {g : Nat} {a1 : Int32} {a2 : Int32} {a3 : Int32} {s : St} {r : St} (h : f_X0_begin g a1 a2 a3 s = some r) : Ct 1 m_X0_begin [.ref g, .int a1, .int a2, .int a3] s none r := by
  unfold f_X0_begin at h
  obtain ⟨hg, h⟩ := ifc h
  refine ct_of [some (.ref g), some (.int a1), some (.int a2), some (.int a3)] 0 (by decide) rfl (Nat.le_of_ble_eq_true rfl) ?_
  refine wp_aload_n (i := 0) dX0_begin_0 rfl rfl ?_
  refine wp_iload_n (i := 1) dX0_begin_1 rfl rfl ?_
  obtain ⟨s1, es1, h⟩ := ob h
  refine wp_putI2 dX0_begin_2 fl_X0_21 hg (kr_0_3 _ hg) rfl rfl es1 ?_
  refine wp_aload_n (i := 0) dX0_begin_5 rfl rfl ?_
  refine wp_iload_n (i := 2) dX0_begin_6 rfl rfl ?_
  obtain ⟨s2, es2, h⟩ := ob h
  refine wp_putI2 dX0_begin_7 fl_X0_25 hg (kr_0_4 _ hg) rfl rfl es2 ?_
  refine wp_aload_n (i := 0) dX0_begin_10 rfl rfl ?_
  refine wp_iload_n (i := 3) dX0_begin_11 rfl rfl ?_
  obtain ⟨s3, es3, h⟩ := ob h
  refine wp_putI2 dX0_begin_12 fl_X0_28 hg (kr_0_5 _ hg) rfl rfl es3 ?_
  refine wp_aload_n (i := 0) dX0_begin_15 rfl rfl ?_
  refine wp_iconst (v := 0) dX0_begin_16 (by decide +kernel) ?_
  obtain ⟨s4, es4, h⟩ := ob h
  refine wp_putI2 dX0_begin_17 fl_X0_31 hg (kr_0_6 _ hg) rfl rfl es4 ?_
  refine wp_aload_n (i := 0) dX0_begin_20 rfl rfl ?_
  refine wp_getR (t := rf g 0) dX0_begin_21 fl_X0_9 hg (kr_0_0 _ hg) ?_
  refine wp_iconst (v := 0) dX0_begin_24 (by decide +kernel) ?_
  obtain ⟨s5, es5, h⟩ := ob h
  refine wp_cSv (N := m_J7_fill_53178) (As := [.ref (rf g 0), .int (0 : Int32)]) (rest := []) dX0_begin_25 ml_X0_34 mo_J7_fill_53178 vo_J7_fill_53178 rfl (ok_J7_fill_53178 es5) (by decide) (Nat.le_of_ble_eq_true rfl) ?_
  obtain rfl := Option.some.inj h
  exact wp_vret dX0_begin_28 rfl
def f_X0_copy (g : Nat) (a1 : Nat) (s : St) : Option (St) :=
  if ¬ clO g = 0 then none else
  if ¬ clO a1 = 0 then none else
  Option.bind (some (sF s g 3 (s.1 a1 3))) fun s1 =>
  Option.bind (some (sF s1 g 4 (s1.1 a1 4))) fun s2 =>
  Option.bind (some (sF s2 g 5 (s2.1 a1 5))) fun s3 =>
  Option.bind (some (sF s3 g 6 (s3.1 a1 6))) fun s4 =>
  Option.bind (aLen (rf g 0)) fun x5 =>
  Option.bind (cpI s4 (rf a1 0) (0 : Int32) (rf g 0) (0 : Int32) x5) fun s6 =>
  Option.bind (aLen (rf g 1)) fun x7 =>
  Option.bind (cpI s6 (rf a1 1) (0 : Int32) (rf g 1) (0 : Int32) x7) fun s8 =>
  Option.bind (aLen (rf g 2)) fun x9 =>
  Option.bind (cpI s8 (rf a1 2) (0 : Int32) (rf g 2) (0 : Int32) x9) fun s10 =>
  some s10
theorem ck_X0_copy {g : Nat} {a1 : Nat} {s : St} {r : St} (h : f_X0_copy g a1 s = some r) : clO g = 0 := by
  unfold f_X0_copy at h
  exact (ifc h).1
set_option maxRecDepth 100000 in
set_option maxHeartbeats 4000000 in
theorem ok_X0_copy {g : Nat} {a1 : Nat} {s : St} {r : St} (h : f_X0_copy g a1 s = some r) : Ct 1 m_X0_copy [.ref g, .ref a1] s none r := by
  unfold f_X0_copy at h
  obtain ⟨hg, h⟩ := ifc h
  obtain ⟨ha1, h⟩ := ifc h
  refine ct_of [some (.ref g), some (.ref a1)] 0 (by decide) rfl (Nat.le_of_ble_eq_true rfl) ?_
  refine wp_aload_n (i := 0) dX0_copy_0 rfl rfl ?_
  refine wp_aload_n (i := 1) dX0_copy_1 rfl rfl ?_
  refine wp_getI dX0_copy_2 fl_X0_21 ha1 (kr_0_3 _ ha1) ?_
  obtain ⟨s1, es1, h⟩ := ob h
  refine wp_putI2 dX0_copy_5 fl_X0_21 hg (kr_0_3 _ hg) rfl rfl es1 ?_
  refine wp_aload_n (i := 0) dX0_copy_8 rfl rfl ?_
  refine wp_aload_n (i := 1) dX0_copy_9 rfl rfl ?_
  refine wp_getI dX0_copy_10 fl_X0_25 ha1 (kr_0_4 _ ha1) ?_
  obtain ⟨s2, es2, h⟩ := ob h
  refine wp_putI2 dX0_copy_13 fl_X0_25 hg (kr_0_4 _ hg) rfl rfl es2 ?_
  refine wp_aload_n (i := 0) dX0_copy_16 rfl rfl ?_
  refine wp_aload_n (i := 1) dX0_copy_17 rfl rfl ?_
  refine wp_getI dX0_copy_18 fl_X0_28 ha1 (kr_0_5 _ ha1) ?_
  obtain ⟨s3, es3, h⟩ := ob h
  refine wp_putI2 dX0_copy_21 fl_X0_28 hg (kr_0_5 _ hg) rfl rfl es3 ?_
  refine wp_aload_n (i := 0) dX0_copy_24 rfl rfl ?_
  refine wp_aload_n (i := 1) dX0_copy_25 rfl rfl ?_
  refine wp_getI dX0_copy_26 fl_X0_31 ha1 (kr_0_6 _ ha1) ?_
  obtain ⟨s4, es4, h⟩ := ob h
  refine wp_putI2 dX0_copy_29 fl_X0_31 hg (kr_0_6 _ hg) rfl rfl es4 ?_
  refine wp_aload_n (i := 1) dX0_copy_32 rfl rfl ?_
  refine wp_getR (t := rf a1 0) dX0_copy_33 fl_X0_9 ha1 (kr_0_0 _ ha1) ?_
  refine wp_iconst (v := 0) dX0_copy_36 (by decide +kernel) ?_
  refine wp_aload_n (i := 0) dX0_copy_37 rfl rfl ?_
  refine wp_getR (t := rf g 0) dX0_copy_38 fl_X0_9 hg (kr_0_0 _ hg) ?_
  refine wp_iconst (v := 0) dX0_copy_41 (by decide +kernel) ?_
  refine wp_aload_n (i := 0) dX0_copy_42 rfl rfl ?_
  refine wp_getR (t := rf g 0) dX0_copy_43 fl_X0_9 hg (kr_0_0 _ hg) ?_
  obtain ⟨x5, ex5, h⟩ := ob h
  refine wp_aLen dX0_copy_46 ex5 ?_
  obtain ⟨s6, es6, h⟩ := ob h
  refine wp_cpI dX0_copy_47 ml_X0_40 es6 (by decide) (Nat.le_of_ble_eq_true rfl) ?_
  refine wp_aload_n (i := 1) dX0_copy_50 rfl rfl ?_
  refine wp_getR (t := rf a1 1) dX0_copy_51 fl_X0_15 ha1 (kr_0_1 _ ha1) ?_
  refine wp_iconst (v := 0) dX0_copy_54 (by decide +kernel) ?_
  refine wp_aload_n (i := 0) dX0_copy_55 rfl rfl ?_
  refine wp_getR (t := rf g 1) dX0_copy_56 fl_X0_15 hg (kr_0_1 _ hg) ?_
  refine wp_iconst (v := 0) dX0_copy_59 (by decide +kernel) ?_
  refine wp_aload_n (i := 0) dX0_copy_60 rfl rfl ?_
  refine wp_getR (t := rf g 1) dX0_copy_61 fl_X0_15 hg (kr_0_1 _ hg) ?_
  obtain ⟨x7, ex7, h⟩ := ob h
  refine wp_aLen dX0_copy_64 ex7 ?_
  obtain ⟨s8, es8, h⟩ := ob h
  refine wp_cpI dX0_copy_65 ml_X0_40 es8 (by decide) (Nat.le_of_ble_eq_true rfl) ?_
  refine wp_aload_n (i := 1) dX0_copy_68 rfl rfl ?_
  refine wp_getR (t := rf a1 2) dX0_copy_69 fl_X0_18 ha1 (kr_0_2 _ ha1) ?_
  refine wp_iconst (v := 0) dX0_copy_72 (by decide +kernel) ?_
  refine wp_aload_n (i := 0) dX0_copy_73 rfl rfl ?_
  refine wp_getR (t := rf g 2) dX0_copy_74 fl_X0_18 hg (kr_0_2 _ hg) ?_
  refine wp_iconst (v := 0) dX0_copy_77 (by decide +kernel) ?_
  refine wp_aload_n (i := 0) dX0_copy_78 rfl rfl ?_
  refine wp_getR (t := rf g 2) dX0_copy_79 fl_X0_18 hg (kr_0_2 _ hg) ?_
  obtain ⟨x9, ex9, h⟩ := ob h
  refine wp_aLen dX0_copy_82 ex9 ?_
  obtain ⟨s10, es10, h⟩ := ob h
  refine wp_cpI dX0_copy_83 ml_X0_40 es10 (by decide) (Nat.le_of_ble_eq_true rfl) ?_
  obtain rfl := Option.some.inj h
  exact wp_vret dX0_copy_86 rfl
def f_X0_lines (g : Nat) (s : St) : Option (Int32 × St) :=
  if ¬ clO g = 0 then none else
  some ((s.1 g 3) + (s.1 g 4), s)
theorem ck_X0_lines {g : Nat} {s : St} {r : Int32 × St} (h : f_X0_lines g s = some r) : clO g = 0 := by
  unfold f_X0_lines at h
  exact (ifc h).1
set_option maxRecDepth 100000 in
set_option maxHeartbeats 4000000 in
theorem ok_X0_lines {g : Nat} {s : St} {r : Int32 × St} (h : f_X0_lines g s = some r) : Ct 0 m_X0_lines [.ref g] s (some (.int r.1)) r.2 := by
  unfold f_X0_lines at h
  obtain ⟨hg, h⟩ := ifc h
  refine ct_of [some (.ref g)] 0 (by decide) rfl (Nat.le_of_ble_eq_true rfl) ?_
  refine wp_aload_n (i := 0) dX0_lines_0 rfl rfl ?_
  refine wp_getI dX0_lines_1 fl_X0_21 hg (kr_0_3 _ hg) ?_
  refine wp_aload_n (i := 0) dX0_lines_4 rfl rfl ?_
  refine wp_getI dX0_lines_5 fl_X0_25 hg (kr_0_4 _ hg) ?_
  refine wp_iadd dX0_lines_8 ?_
  obtain rfl := Option.some.inj h
  exact wp_iret dX0_lines_9 rfl rfl
def f_X0_allLines (g : Nat) (s : St) : Option (Int32 × St) :=
  if ¬ clO g = 0 then none else
  Option.bind (f_X0_lines g s) fun r1 =>
  some (((1 : Int32) <<< (r1.1 &&& 31)) - (1 : Int32), r1.2)
theorem ck_X0_allLines {g : Nat} {s : St} {r : Int32 × St} (h : f_X0_allLines g s = some r) : clO g = 0 := by
  unfold f_X0_allLines at h
  exact (ifc h).1
set_option maxRecDepth 100000 in
set_option maxHeartbeats 4000000 in
theorem ok_X0_allLines {g : Nat} {s : St} {r : Int32 × St} (h : f_X0_allLines g s = some r) : Ct 1 m_X0_allLines [.ref g] s (some (.int r.1)) r.2 := by
  unfold f_X0_allLines at h
  obtain ⟨hg, h⟩ := ifc h
  refine ct_of [some (.ref g)] 0 (by decide) rfl (Nat.le_of_ble_eq_true rfl) ?_
  refine wp_iconst (v := 1) dX0_allLines_0 (by decide +kernel) ?_
  refine wp_aload_n (i := 0) dX0_allLines_1 rfl rfl ?_
  obtain ⟨r1, er1, h⟩ := ob h
  refine wp_cVi (N := m_X0_lines) (As := []) (rest := [.int (1 : Int32)]) dX0_allLines_2 ml_X0_46 mo_X0_lines vo_X0_lines hg rfl (ok_X0_lines er1) (by decide) (Nat.le_of_ble_eq_true rfl) ?_
  refine wp_ishl dX0_allLines_5 ?_
  refine wp_iconst (v := 1) dX0_allLines_6 (by decide +kernel) ?_
  refine wp_isub dX0_allLines_7 ?_
  obtain rfl := Option.some.inj h
  exact wp_iret dX0_allLines_8 rfl rfl
def f_X0_cellsOf (g : Nat) (a1 : Int32) (s : St) : Option (Int32 × St) :=
  if ¬ clO g = 0 then none else
  if (s.1 g 4) ≤ a1 then (
    some (s.1 g 4, s))
  else (
    some (s.1 g 3, s))
theorem ck_X0_cellsOf {g : Nat} {a1 : Int32} {s : St} {r : Int32 × St} (h : f_X0_cellsOf g a1 s = some r) : clO g = 0 := by
  unfold f_X0_cellsOf at h
  exact (ifc h).1
set_option maxRecDepth 100000 in
set_option maxHeartbeats 4000000 in
theorem ok_X0_cellsOf {g : Nat} {a1 : Int32} {s : St} {r : Int32 × St} (h : f_X0_cellsOf g a1 s = some r) : Ct 0 m_X0_cellsOf [.ref g, .int a1] s (some (.int r.1)) r.2 := by
  unfold f_X0_cellsOf at h
  obtain ⟨hg, h⟩ := ifc h
  refine ct_of [some (.ref g), some (.int a1)] 0 (by decide) rfl (Nat.le_of_ble_eq_true rfl) ?_
  refine wp_iload_n (i := 1) dX0_cellsOf_0 rfl rfl ?_
  refine wp_aload_n (i := 0) dX0_cellsOf_1 rfl rfl ?_
  refine wp_getI dX0_cellsOf_2 fl_X0_25 hg (kr_0_4 _ hg) ?_
  refine wp_icmp_ge (tgt := 15) dX0_cellsOf_5 (by decide) (fun c1 => ?_) (fun c1 => ?_)
  · rw [if_pos c1] at h
    refine wp_aload_n (i := 0) dX0_cellsOf_15 rfl rfl ?_
    refine wp_getI dX0_cellsOf_16 fl_X0_25 hg (kr_0_4 _ hg) ?_
    obtain rfl := Option.some.inj h
    exact wp_iret dX0_cellsOf_19 rfl rfl
  · rw [if_neg c1] at h
    refine wp_aload_n (i := 0) dX0_cellsOf_8 rfl rfl ?_
    refine wp_getI dX0_cellsOf_9 fl_X0_21 hg (kr_0_3 _ hg) ?_
    refine wp_goto (tgt := 19) dX0_cellsOf_12 (by decide) ?_
    obtain rfl := Option.some.inj h
    exact wp_iret dX0_cellsOf_19 rfl rfl
def f_X0_xOf (g : Nat) (a1 : Int32) (a2 : Int32) (s : St) : Option (Int32 × St) :=
  if ¬ clO g = 0 then none else
  if (s.1 g 4) ≤ a1 then (
    some (a1 - (s.1 g 4), s))
  else (
    some (a2, s))
theorem ck_X0_xOf {g : Nat} {a1 : Int32} {a2 : Int32} {s : St} {r : Int32 × St} (h : f_X0_xOf g a1 a2 s = some r) : clO g = 0 := by
  unfold f_X0_xOf at h
  exact (ifc h).1
set_option maxRecDepth 100000 in
set_option maxHeartbeats 4000000 in
theorem ok_X0_xOf {g : Nat} {a1 : Int32} {a2 : Int32} {s : St} {r : Int32 × St} (h : f_X0_xOf g a1 a2 s = some r) : Ct 0 m_X0_xOf [.ref g, .int a1, .int a2] s (some (.int r.1)) r.2 := by
  unfold f_X0_xOf at h
  obtain ⟨hg, h⟩ := ifc h
  refine ct_of [some (.ref g), some (.int a1), some (.int a2)] 0 (by decide) rfl (Nat.le_of_ble_eq_true rfl) ?_
  refine wp_iload_n (i := 1) dX0_xOf_0 rfl rfl ?_
  refine wp_aload_n (i := 0) dX0_xOf_1 rfl rfl ?_
  refine wp_getI dX0_xOf_2 fl_X0_25 hg (kr_0_4 _ hg) ?_
  refine wp_icmp_ge (tgt := 12) dX0_xOf_5 (by decide) (fun c1 => ?_) (fun c1 => ?_)
  · rw [if_pos c1] at h
    refine wp_iload_n (i := 1) dX0_xOf_12 rfl rfl ?_
    refine wp_aload_n (i := 0) dX0_xOf_13 rfl rfl ?_
    refine wp_getI dX0_xOf_14 fl_X0_25 hg (kr_0_4 _ hg) ?_
    refine wp_isub dX0_xOf_17 ?_
    obtain rfl := Option.some.inj h
    exact wp_iret dX0_xOf_18 rfl rfl
  · rw [if_neg c1] at h
    refine wp_iload_n (i := 2) dX0_xOf_8 rfl rfl ?_
    refine wp_goto (tgt := 18) dX0_xOf_9 (by decide) ?_
    obtain rfl := Option.some.inj h
    exact wp_iret dX0_xOf_18 rfl rfl
def f_X0_yOf (g : Nat) (a1 : Int32) (a2 : Int32) (s : St) : Option (Int32 × St) :=
  if ¬ clO g = 0 then none else
  if (s.1 g 4) ≤ a1 then (
    some (a2, s))
  else (
    some (a1, s))
theorem ck_X0_yOf {g : Nat} {a1 : Int32} {a2 : Int32} {s : St} {r : Int32 × St} (h : f_X0_yOf g a1 a2 s = some r) : clO g = 0 := by
  unfold f_X0_yOf at h
  exact (ifc h).1
set_option maxRecDepth 100000 in
set_option maxHeartbeats 4000000 in
theorem ok_X0_yOf {g : Nat} {a1 : Int32} {a2 : Int32} {s : St} {r : Int32 × St} (h : f_X0_yOf g a1 a2 s = some r) : Ct 0 m_X0_yOf [.ref g, .int a1, .int a2] s (some (.int r.1)) r.2 := by
  unfold f_X0_yOf at h
  obtain ⟨hg, h⟩ := ifc h
  refine ct_of [some (.ref g), some (.int a1), some (.int a2)] 0 (by decide) rfl (Nat.le_of_ble_eq_true rfl) ?_
  refine wp_iload_n (i := 1) dX0_yOf_0 rfl rfl ?_
  refine wp_aload_n (i := 0) dX0_yOf_1 rfl rfl ?_
  refine wp_getI dX0_yOf_2 fl_X0_25 hg (kr_0_4 _ hg) ?_
  refine wp_icmp_ge (tgt := 12) dX0_yOf_5 (by decide) (fun c1 => ?_) (fun c1 => ?_)
  · rw [if_pos c1] at h
    refine wp_iload_n (i := 2) dX0_yOf_12 rfl rfl ?_
    obtain rfl := Option.some.inj h
    exact wp_iret dX0_yOf_13 rfl rfl
  · rw [if_neg c1] at h
    refine wp_iload_n (i := 1) dX0_yOf_8 rfl rfl ?_
    refine wp_goto (tgt := 13) dX0_yOf_9 (by decide) ?_
    obtain rfl := Option.some.inj h
    exact wp_iret dX0_yOf_13 rfl rfl
def f_X0_lengthOf (g : Nat) (a1 : Int32) (a2 : Int32) (s : St) : Option (Int32 × St) :=
  if ¬ clO g = 0 then none else
  Option.bind (aI s (rf g 1) (((12 : Int32) * a1) + a2)) fun x1 =>
  some (x1, s)
theorem ck_X0_lengthOf {g : Nat} {a1 : Int32} {a2 : Int32} {s : St} {r : Int32 × St} (h : f_X0_lengthOf g a1 a2 s = some r) : clO g = 0 := by
  unfold f_X0_lengthOf at h
  exact (ifc h).1
set_option maxRecDepth 100000 in
set_option maxHeartbeats 4000000 in
theorem ok_X0_lengthOf {g : Nat} {a1 : Int32} {a2 : Int32} {s : St} {r : Int32 × St} (h : f_X0_lengthOf g a1 a2 s = some r) : Ct 0 m_X0_lengthOf [.ref g, .int a1, .int a2] s (some (.int r.1)) r.2 := by
  unfold f_X0_lengthOf at h
  obtain ⟨hg, h⟩ := ifc h
  refine ct_of [some (.ref g), some (.int a1), some (.int a2)] 0 (by decide) rfl (Nat.le_of_ble_eq_true rfl) ?_
  refine wp_aload_n (i := 0) dX0_lengthOf_0 rfl rfl ?_
  refine wp_getR (t := rf g 1) dX0_lengthOf_1 fl_X0_15 hg (kr_0_1 _ hg) ?_
  refine wp_bipush (v := 12) dX0_lengthOf_4 (by decide +kernel) ?_
  refine wp_iload_n (i := 1) dX0_lengthOf_6 rfl rfl ?_
  refine wp_imul dX0_lengthOf_7 ?_
  refine wp_iload_n (i := 2) dX0_lengthOf_8 rfl rfl ?_
  refine wp_iadd dX0_lengthOf_9 ?_
  obtain ⟨x1, ex1, h⟩ := ob h
  refine wp_aI dX0_lengthOf_10 ex1 ?_
  obtain rfl := Option.some.inj h
  exact wp_iret dX0_lengthOf_11 rfl rfl
def f_X0_colourOf (g : Nat) (a1 : Int32) (a2 : Int32) (s : St) : Option (Int32 × St) :=
  if ¬ clO g = 0 then none else
  Option.bind (aI s (rf g 2) (((12 : Int32) * a1) + a2)) fun x1 =>
  some (x1, s)
theorem ck_X0_colourOf {g : Nat} {a1 : Int32} {a2 : Int32} {s : St} {r : Int32 × St} (h : f_X0_colourOf g a1 a2 s = some r) : clO g = 0 := by
  unfold f_X0_colourOf at h
  exact (ifc h).1
set_option maxRecDepth 100000 in
set_option maxHeartbeats 4000000 in
theorem ok_X0_colourOf {g : Nat} {a1 : Int32} {a2 : Int32} {s : St} {r : Int32 × St} (h : f_X0_colourOf g a1 a2 s = some r) : Ct 0 m_X0_colourOf [.ref g, .int a1, .int a2] s (some (.int r.1)) r.2 := by
  unfold f_X0_colourOf at h
  obtain ⟨hg, h⟩ := ifc h
  refine ct_of [some (.ref g), some (.int a1), some (.int a2)] 0 (by decide) rfl (Nat.le_of_ble_eq_true rfl) ?_
  refine wp_aload_n (i := 0) dX0_colourOf_0 rfl rfl ?_
  refine wp_getR (t := rf g 2) dX0_colourOf_1 fl_X0_18 hg (kr_0_2 _ hg) ?_
  refine wp_bipush (v := 12) dX0_colourOf_4 (by decide +kernel) ?_
  refine wp_iload_n (i := 1) dX0_colourOf_6 rfl rfl ?_
  refine wp_imul dX0_colourOf_7 ?_
  refine wp_iload_n (i := 2) dX0_colourOf_8 rfl rfl ?_
  refine wp_iadd dX0_colourOf_9 ?_
  obtain ⟨x1, ex1, h⟩ := ob h
  refine wp_aI dX0_colourOf_10 ex1 ?_
  obtain rfl := Option.some.inj h
  exact wp_iret dX0_colourOf_11 rfl rfl
def f_X0_add (g : Nat) (a1 : Int32) (a2 : Int32) (a3 : Int32) (s : St) : Option (St) :=
  if ¬ clO g = 0 then none else
  Option.bind (aI s (rf g 0) a1) fun x1 =>
  if x1 < (12 : Int32) then (
    Option.bind (aI s (rf g 0) a1) fun x3 =>
    Option.bind (pI s (rf g 1) (((12 : Int32) * a1) + x3) a2) fun s4 =>
    Option.bind (pI s4 (rf g 2) (((12 : Int32) * a1) + x3) a3) fun s5 =>
    Option.bind (aI s5 (rf g 0) a1) fun x6 =>
    Option.bind (pI s5 (rf g 0) a1 (x6 + (1 : Int32))) fun s7 =>
    Option.bind (some (sF s7 g 6 ((s7.1 g 6) + (1 : Int32)))) fun s8 =>
    some s8)
  else (
    some s)
theorem ck_X0_add {g : Nat} {a1 : Int32} {a2 : Int32} {a3 : Int32} {s : St} {r : St} (h : f_X0_add g a1 a2 a3 s = some r) : clO g = 0 := by
  unfold f_X0_add at h
  exact (ifc h).1
set_option maxRecDepth 100000 in
set_option maxHeartbeats 4000000 in
theorem ok_X0_add {g : Nat} {a1 : Int32} {a2 : Int32} {a3 : Int32} {s : St} {r : St} (h : f_X0_add g a1 a2 a3 s = some r) : Ct 0 m_X0_add [.ref g, .int a1, .int a2, .int a3] s none r := by
  unfold f_X0_add at h
  obtain ⟨hg, h⟩ := ifc h
  refine ct_of [some (.ref g), some (.int a1), some (.int a2), some (.int a3), none] 1 (by decide) rfl (Nat.le_of_ble_eq_true rfl) ?_
  refine wp_aload_n (i := 0) dX0_add_0 rfl rfl ?_
  refine wp_getR (t := rf g 0) dX0_add_1 fl_X0_9 hg (kr_0_0 _ hg) ?_
  refine wp_iload_n (i := 1) dX0_add_4 rfl rfl ?_
  obtain ⟨x1, ex1, h⟩ := ob h
  refine wp_aI dX0_add_5 ex1 ?_
  refine wp_bipush (v := 12) dX0_add_6 (by decide +kernel) ?_
  refine wp_icmp_lt (tgt := 12) dX0_add_8 (by decide) (fun c2 => ?_) (fun c2 => ?_)
  · rw [if_pos c2] at h
    refine wp_bipush (v := 12) dX0_add_12 (by decide +kernel) ?_
    refine wp_iload_n (i := 1) dX0_add_14 rfl rfl ?_
    refine wp_imul dX0_add_15 ?_
    refine wp_aload_n (i := 0) dX0_add_16 rfl rfl ?_
    refine wp_getR (t := rf g 0) dX0_add_17 fl_X0_9 hg (kr_0_0 _ hg) ?_
    refine wp_iload_n (i := 1) dX0_add_20 rfl rfl ?_
    obtain ⟨x3, ex3, h⟩ := ob h
    refine wp_aI dX0_add_21 ex3 ?_
    refine wp_iadd dX0_add_22 ?_
    refine wp_istore (ls' := [some (.ref g), some (.int a1), some (.int a2), some (.int a3), some (.int (((12 : Int32) * a1) + x3))]) dX0_add_23 (by decide) rfl rfl ?_
    refine wp_aload_n (i := 0) dX0_add_25 rfl rfl ?_
    refine wp_getR (t := rf g 1) dX0_add_26 fl_X0_15 hg (kr_0_1 _ hg) ?_
    refine wp_iload dX0_add_29 rfl ?_
    refine wp_iload_n (i := 2) dX0_add_31 rfl rfl ?_
    obtain ⟨s4, es4, h⟩ := ob h
    refine wp_pI dX0_add_32 es4 ?_
    refine wp_aload_n (i := 0) dX0_add_33 rfl rfl ?_
    refine wp_getR (t := rf g 2) dX0_add_34 fl_X0_18 hg (kr_0_2 _ hg) ?_
    refine wp_iload dX0_add_37 rfl ?_
    refine wp_iload_n (i := 3) dX0_add_39 rfl rfl ?_
    obtain ⟨s5, es5, h⟩ := ob h
    refine wp_pI dX0_add_40 es5 ?_
    refine wp_aload_n (i := 0) dX0_add_41 rfl rfl ?_
    refine wp_getR (t := rf g 0) dX0_add_42 fl_X0_9 hg (kr_0_0 _ hg) ?_
    refine wp_iload_n (i := 1) dX0_add_45 rfl rfl ?_
    refine wp_dup2_ir dX0_add_46 ?_
    obtain ⟨x6, ex6, h⟩ := ob h
    refine wp_aI dX0_add_47 ex6 ?_
    refine wp_iconst (v := 1) dX0_add_48 (by decide +kernel) ?_
    refine wp_iadd dX0_add_49 ?_
    obtain ⟨s7, es7, h⟩ := ob h
    refine wp_pI dX0_add_50 es7 ?_
    refine wp_aload_n (i := 0) dX0_add_51 rfl rfl ?_
    refine wp_dup_r dX0_add_52 ?_
    refine wp_getI dX0_add_53 fl_X0_31 hg (kr_0_6 _ hg) ?_
    refine wp_iconst (v := 1) dX0_add_56 (by decide +kernel) ?_
    refine wp_iadd dX0_add_57 ?_
    obtain ⟨s8, es8, h⟩ := ob h
    refine wp_putI2 dX0_add_58 fl_X0_31 hg (kr_0_6 _ hg) rfl rfl es8 ?_
    obtain rfl := Option.some.inj h
    exact wp_vret dX0_add_61 rfl
  · rw [if_neg c2] at h
    obtain rfl := Option.some.inj h
    exact wp_vret dX0_add_11 rfl
def f_X0_needsGapAhead (g : Nat) (a1 : Int32) (a2 : Int32) (s : St) : Option (Int32 × St) :=
  if ¬ clO g = 0 then none else
  if a2 ≤ 0 then (
    some ((0 : Int32), s))
  else (
    Option.bind (aI s (rf g 0) a1) fun x2 =>
    if x2 ≤ a2 then (
      some ((0 : Int32), s))
    else (
      Option.bind (aI s (rf g 2) ((((12 : Int32) * a1) + a2) - (1 : Int32))) fun x4 =>
      Option.bind (aI s (rf g 2) (((12 : Int32) * a1) + a2)) fun x5 =>
      if x4 = x5 then (
        some ((1 : Int32), s))
      else (
        some ((0 : Int32), s))))
theorem ck_X0_needsGapAhead {g : Nat} {a1 : Int32} {a2 : Int32} {s : St} {r : Int32 × St} (h : f_X0_needsGapAhead g a1 a2 s = some r) : clO g = 0 := by
  unfold f_X0_needsGapAhead at h
  exact (ifc h).1
set_option maxRecDepth 100000 in
set_option maxHeartbeats 4000000 in
theorem ok_X0_needsGapAhead {g : Nat} {a1 : Int32} {a2 : Int32} {s : St} {r : Int32 × St} (h : f_X0_needsGapAhead g a1 a2 s = some r) : Ct 0 m_X0_needsGapAhead [.ref g, .int a1, .int a2] s (some (.int r.1)) r.2 := by
  unfold f_X0_needsGapAhead at h
  obtain ⟨hg, h⟩ := ifc h
  refine ct_of [some (.ref g), some (.int a1), some (.int a2), none] 1 (by decide) rfl (Nat.le_of_ble_eq_true rfl) ?_
  refine wp_bipush (v := 12) dX0_needsGapAhead_0 (by decide +kernel) ?_
  refine wp_iload_n (i := 1) dX0_needsGapAhead_2 rfl rfl ?_
  refine wp_imul dX0_needsGapAhead_3 ?_
  refine wp_iload_n (i := 2) dX0_needsGapAhead_4 rfl rfl ?_
  refine wp_iadd dX0_needsGapAhead_5 ?_
  refine wp_istore_n (ls' := [some (.ref g), some (.int a1), some (.int a2), some (.int (((12 : Int32) * a1) + a2))]) dX0_needsGapAhead_6 rfl (by decide) rfl rfl ?_
  refine wp_iload_n (i := 2) dX0_needsGapAhead_7 rfl rfl ?_
  refine wp_if_le (tgt := 42) dX0_needsGapAhead_8 (by decide) (fun c1 => ?_) (fun c1 => ?_)
  · rw [if_pos c1] at h
    refine wp_iconst (v := 0) dX0_needsGapAhead_42 (by decide +kernel) ?_
    obtain rfl := Option.some.inj h
    exact wp_iret dX0_needsGapAhead_43 rfl (narrow_z (Or.inl rfl)).1
  · rw [if_neg c1] at h
    refine wp_iload_n (i := 2) dX0_needsGapAhead_11 rfl rfl ?_
    refine wp_aload_n (i := 0) dX0_needsGapAhead_12 rfl rfl ?_
    refine wp_getR (t := rf g 0) dX0_needsGapAhead_13 fl_X0_9 hg (kr_0_0 _ hg) ?_
    refine wp_iload_n (i := 1) dX0_needsGapAhead_16 rfl rfl ?_
    obtain ⟨x2, ex2, h⟩ := ob h
    refine wp_aI dX0_needsGapAhead_17 ex2 ?_
    refine wp_icmp_ge (tgt := 42) dX0_needsGapAhead_18 (by decide) (fun c3 => ?_) (fun c3 => ?_)
    · rw [if_pos c3] at h
      refine wp_iconst (v := 0) dX0_needsGapAhead_42 (by decide +kernel) ?_
      obtain rfl := Option.some.inj h
      exact wp_iret dX0_needsGapAhead_43 rfl (narrow_z (Or.inl rfl)).1
    · rw [if_neg c3] at h
      refine wp_aload_n (i := 0) dX0_needsGapAhead_21 rfl rfl ?_
      refine wp_getR (t := rf g 2) dX0_needsGapAhead_22 fl_X0_18 hg (kr_0_2 _ hg) ?_
      refine wp_iload_n (i := 3) dX0_needsGapAhead_25 rfl rfl ?_
      refine wp_iconst (v := 1) dX0_needsGapAhead_26 (by decide +kernel) ?_
      refine wp_isub dX0_needsGapAhead_27 ?_
      obtain ⟨x4, ex4, h⟩ := ob h
      refine wp_aI dX0_needsGapAhead_28 ex4 ?_
      refine wp_aload_n (i := 0) dX0_needsGapAhead_29 rfl rfl ?_
      refine wp_getR (t := rf g 2) dX0_needsGapAhead_30 fl_X0_18 hg (kr_0_2 _ hg) ?_
      refine wp_iload_n (i := 3) dX0_needsGapAhead_33 rfl rfl ?_
      obtain ⟨x5, ex5, h⟩ := ob h
      refine wp_aI dX0_needsGapAhead_34 ex5 ?_
      refine wp_icmp_ne (tgt := 42) dX0_needsGapAhead_35 (by decide) (fun c6 => ?_) (fun c6 => ?_)
      · rw [if_neg c6] at h
        refine wp_iconst (v := 0) dX0_needsGapAhead_42 (by decide +kernel) ?_
        obtain rfl := Option.some.inj h
        exact wp_iret dX0_needsGapAhead_43 rfl (narrow_z (Or.inl rfl)).1
      · rw [if_pos c6] at h
        refine wp_iconst (v := 1) dX0_needsGapAhead_38 (by decide +kernel) ?_
        refine wp_goto (tgt := 43) dX0_needsGapAhead_39 (by decide) ?_
        obtain rfl := Option.some.inj h
        exact wp_iret dX0_needsGapAhead_43 rfl (narrow_z (Or.inr rfl)).1
def f_X0_fitsItsCells_35 (g : Nat) (K4 : Int32 → Int32 → Int32 → St → Option (Int32 × St)) (v1 : Int32) (v3 : Int32) (t0 : Int32) (t1 : Int32) (t2 : Int32) (s : St) : Option (Int32 × St) :=
  K4 v1 (t2 + (t1 + t0)) (v3 + 1) s
set_option maxRecDepth 100000 in
set_option maxHeartbeats 4000000 in
theorem w_X0_fitsItsCells_35 {r : Int32 × St} {g : Nat} {K4 : Int32 → Int32 → Int32 → St → Option (Int32 × St)} (hK4 : ∀ (v1 : Int32) (v2 : Int32) (v3 : Int32) (s : St), K4 v1 v2 v3 s = some r → Wp m_X0_fitsItsCells 1 (PR (some (.int r.1)) r.2) 4 [some (.ref g), some (.int v1), some (.int v2), some (.int v3)] [] s) {v1 : Int32} {v3 : Int32} {t0 : Int32} {t1 : Int32} {t2 : Int32} (hg : clO g = 0) {s : St} (h : f_X0_fitsItsCells_35 g K4 v1 v3 t0 t1 t2 s = some r) : Wp m_X0_fitsItsCells 1 (PR (some (.int r.1)) r.2) 35 [some (.ref g), some (.int v1), none, some (.int v3)] [.int t0, .int t1, .int t2] s := by
  unfold f_X0_fitsItsCells_35 at h
  refine wp_iadd dX0_fitsItsCells_35 ?_
  refine wp_iadd dX0_fitsItsCells_36 ?_
  refine wp_istore_n (ls' := [some (.ref g), some (.int v1), some (.int (t2 + (t1 + t0))), some (.int v3)]) dX0_fitsItsCells_37 rfl (by decide) rfl rfl ?_
  refine wp_inc (c := 1) (ls' := [some (.ref g), some (.int v1), some (.int (t2 + (t1 + t0))), some (.int (v3 + 1))]) dX0_fitsItsCells_38 rfl (by decide +kernel) (by decide) rfl rfl ?_
  refine wp_goto (tgt := 4) dX0_fitsItsCells_41 (by decide) ?_
  exact wp_sub (ls' := [some (.ref g), some (.int v1), some (.int (t2 + (t1 + t0))), some (.int (v3 + 1))]) ⟨rfl, rfl, rfl, rfl, trivial⟩ (hK4 _ _ _ _ h)
def f_X0_fitsItsCells_4 (g : Nat) : Nat → Int32 → Int32 → Int32 → St → Option (Int32 × St)
  | 0, _, _, _, _ => none
  | n + 1, v1, v2, v3, s =>
    Option.bind (aI s (rf g 0) v1) fun x1 =>
    if x1 ≤ v3 then (
      Option.bind (f_X0_cellsOf g v1 s) fun r3 =>
      if r3.1 < v2 then (
        some ((0 : Int32), r3.2))
      else (
        some ((1 : Int32), r3.2)))
    else (
      Option.bind (f_X0_lengthOf g v1 v3 s) fun r5 =>
      Option.bind (f_X0_needsGapAhead g v1 v3 r5.2) fun r6 =>
      if r6.1 = 0 then (
        f_X0_fitsItsCells_35 g (f_X0_fitsItsCells_4 g n) v1 v3 (0 : Int32) r5.1 v2 r6.2)
      else (
        f_X0_fitsItsCells_35 g (f_X0_fitsItsCells_4 g n) v1 v3 (1 : Int32) r5.1 v2 r6.2))
set_option maxRecDepth 100000 in
set_option maxHeartbeats 4000000 in
theorem w_X0_fitsItsCells_4 {r : Int32 × St} {g : Nat}  (hg : clO g = 0) : ∀ (n : Nat) (v1 : Int32) (v2 : Int32) (v3 : Int32) (s : St), f_X0_fitsItsCells_4 g  n v1 v2 v3 s = some r → Wp m_X0_fitsItsCells 1 (PR (some (.int r.1)) r.2) 4 [some (.ref g), some (.int v1), some (.int v2), some (.int v3)] [] s := by
  intro n
  induction n with
  | zero => intro v1 v2 v3 s h; cases h
  | succ n ih =>
    intro v1 v2 v3 s h
    unfold f_X0_fitsItsCells_4 at h
    refine wp_iload_n (i := 3) dX0_fitsItsCells_4 rfl rfl ?_
    refine wp_aload_n (i := 0) dX0_fitsItsCells_5 rfl rfl ?_
    refine wp_getR (t := rf g 0) dX0_fitsItsCells_6 fl_X0_9 hg (kr_0_0 _ hg) ?_
    refine wp_iload_n (i := 1) dX0_fitsItsCells_9 rfl rfl ?_
    obtain ⟨x1, ex1, h⟩ := ob h
    refine wp_aI dX0_fitsItsCells_10 ex1 ?_
    refine wp_icmp_ge (tgt := 44) dX0_fitsItsCells_11 (by decide) (fun c2 => ?_) (fun c2 => ?_)
    · rw [if_pos c2] at h
      refine wp_iload_n (i := 2) dX0_fitsItsCells_44 rfl rfl ?_
      refine wp_aload_n (i := 0) dX0_fitsItsCells_45 rfl rfl ?_
      refine wp_iload_n (i := 1) dX0_fitsItsCells_46 rfl rfl ?_
      obtain ⟨r3, er3, h⟩ := ob h
      refine wp_cVi (N := m_X0_cellsOf) (As := [.int v1]) (rest := [.int v2]) dX0_fitsItsCells_47 ml_X0_58 mo_X0_cellsOf vo_X0_cellsOf hg rfl (ok_X0_cellsOf er3) (by decide) (Nat.le_of_ble_eq_true rfl) ?_
      refine wp_icmp_gt (tgt := 57) dX0_fitsItsCells_50 (by decide) (fun c4 => ?_) (fun c4 => ?_)
      · rw [if_pos c4] at h
        refine wp_iconst (v := 0) dX0_fitsItsCells_57 (by decide +kernel) ?_
        obtain rfl := Option.some.inj h
        exact wp_iret dX0_fitsItsCells_58 rfl (narrow_z (Or.inl rfl)).1
      · rw [if_neg c4] at h
        refine wp_iconst (v := 1) dX0_fitsItsCells_53 (by decide +kernel) ?_
        refine wp_goto (tgt := 58) dX0_fitsItsCells_54 (by decide) ?_
        obtain rfl := Option.some.inj h
        exact wp_iret dX0_fitsItsCells_58 rfl (narrow_z (Or.inr rfl)).1
    · rw [if_neg c2] at h
      refine wp_iload_n (i := 2) dX0_fitsItsCells_14 rfl rfl ?_
      refine wp_aload_n (i := 0) dX0_fitsItsCells_15 rfl rfl ?_
      refine wp_iload_n (i := 1) dX0_fitsItsCells_16 rfl rfl ?_
      refine wp_iload_n (i := 3) dX0_fitsItsCells_17 rfl rfl ?_
      obtain ⟨r5, er5, h⟩ := ob h
      refine wp_cVi (N := m_X0_lengthOf) (As := [.int v1, .int v3]) (rest := [.int v2]) dX0_fitsItsCells_18 ml_X0_50 mo_X0_lengthOf vo_X0_lengthOf hg rfl (ok_X0_lengthOf er5) (by decide) (Nat.le_of_ble_eq_true rfl) ?_
      refine wp_aload_n (i := 0) dX0_fitsItsCells_21 rfl rfl ?_
      refine wp_iload_n (i := 1) dX0_fitsItsCells_22 rfl rfl ?_
      refine wp_iload_n (i := 3) dX0_fitsItsCells_23 rfl rfl ?_
      obtain ⟨r6, er6, h⟩ := ob h
      refine wp_cVi (N := m_X0_needsGapAhead) (As := [.int v1, .int v3]) (rest := [.int r5.1, .int v2]) dX0_fitsItsCells_24 ml_X0_54 mo_X0_needsGapAhead vo_X0_needsGapAhead hg rfl (ok_X0_needsGapAhead er6) (by decide) (Nat.le_of_ble_eq_true rfl) ?_
      refine wp_if_eq (tgt := 34) dX0_fitsItsCells_27 (by decide) (fun c7 => ?_) (fun c7 => ?_)
      · rw [if_pos c7] at h
        refine wp_iconst (v := 0) dX0_fitsItsCells_34 (by decide +kernel) ?_
        exact wp_sub (ls' := [some (.ref g), some (.int v1), none, some (.int v3)]) ⟨rfl, rfl, rfl, trivial⟩ (w_X0_fitsItsCells_35 ih hg h)
      · rw [if_neg c7] at h
        refine wp_iconst (v := 1) dX0_fitsItsCells_30 (by decide +kernel) ?_
        refine wp_goto (tgt := 35) dX0_fitsItsCells_31 (by decide) ?_
        exact wp_sub (ls' := [some (.ref g), some (.int v1), none, some (.int v3)]) ⟨rfl, rfl, rfl, trivial⟩ (w_X0_fitsItsCells_35 ih hg h)
def f_X0_fitsItsCells (g : Nat) (a1 : Int32) (s : St) : Option (Int32 × St) :=
  if ¬ clO g = 0 then none else
  f_X0_fitsItsCells_4 g FU a1 (0 : Int32) (0 : Int32) s
theorem ck_X0_fitsItsCells {g : Nat} {a1 : Int32} {s : St} {r : Int32 × St} (h : f_X0_fitsItsCells g a1 s = some r) : clO g = 0 := by
  unfold f_X0_fitsItsCells at h
  exact (ifc h).1
set_option maxRecDepth 100000 in
set_option maxHeartbeats 4000000 in
theorem ok_X0_fitsItsCells {g : Nat} {a1 : Int32} {s : St} {r : Int32 × St} (h : f_X0_fitsItsCells g a1 s = some r) : Ct 1 m_X0_fitsItsCells [.ref g, .int a1] s (some (.int r.1)) r.2 := by
  unfold f_X0_fitsItsCells at h
  obtain ⟨hg, h⟩ := ifc h
  refine ct_of [some (.ref g), some (.int a1), none, none] 2 (by decide) rfl (Nat.le_of_ble_eq_true rfl) ?_
  refine wp_iconst (v := 0) dX0_fitsItsCells_0 (by decide +kernel) ?_
  refine wp_istore_n (ls' := [some (.ref g), some (.int a1), some (.int (0 : Int32)), none]) dX0_fitsItsCells_1 rfl (by decide) rfl rfl ?_
  refine wp_iconst (v := 0) dX0_fitsItsCells_2 (by decide +kernel) ?_
  refine wp_istore_n (ls' := [some (.ref g), some (.int a1), some (.int (0 : Int32)), some (.int (0 : Int32))]) dX0_fitsItsCells_3 rfl (by decide) rfl rfl ?_
  exact wp_sub (ls' := [some (.ref g), some (.int a1), some (.int (0 : Int32)), some (.int (0 : Int32))]) ⟨rfl, rfl, rfl, rfl, trivial⟩ (w_X0_fitsItsCells_4 hg _ _ _ _ _ h)
def f_X0_cellsTold_53 (g : Nat) (K6 : Int32 → Int32 → Int32 → Int32 → St → Option (Int32 × St)) (K15 : Int32 → Int32 → Int32 → Int32 → Int32 → St → Option (Int32 × St)) (v2 : Int32) (v3 : Int32) (v5 : Int32) (v6 : Int32) (t0 : Int32) (t1 : Int32) (s : St) : Option (Int32 × St) :=
  K15 v2 v3 (t1 + t0) v5 (v6 + 1) s
set_option maxRecDepth 100000 in
set_option maxHeartbeats 4000000 in
theorem w_X0_cellsTold_53 {r : Int32 × St} {g : Nat} {K6 : Int32 → Int32 → Int32 → Int32 → St → Option (Int32 × St)} (hK6 : ∀ (v2 : Int32) (v3 : Int32) (v4 : Int32) (v5 : Int32) (s : St), K6 v2 v3 v4 v5 s = some r → Wp m_X0_cellsTold 1 (PR (some (.int r.1)) r.2) 6 [some (.ref g), none, some (.int v2), some (.int v3), some (.int v4), some (.int v5), none] [] s) {K15 : Int32 → Int32 → Int32 → Int32 → Int32 → St → Option (Int32 × St)} (hK15 : ∀ (v2 : Int32) (v3 : Int32) (v4 : Int32) (v5 : Int32) (v6 : Int32) (s : St), K15 v2 v3 v4 v5 v6 s = some r → Wp m_X0_cellsTold 1 (PR (some (.int r.1)) r.2) 15 [some (.ref g), none, some (.int v2), some (.int v3), some (.int v4), some (.int v5), some (.int v6)] [] s) {v2 : Int32} {v3 : Int32} {v5 : Int32} {v6 : Int32} {t0 : Int32} {t1 : Int32} (hg : clO g = 0) {s : St} (h : f_X0_cellsTold_53 g K6 K15 v2 v3 v5 v6 t0 t1 s = some r) : Wp m_X0_cellsTold 1 (PR (some (.int r.1)) r.2) 53 [some (.ref g), none, some (.int v2), some (.int v3), none, some (.int v5), some (.int v6)] [.int t0, .int t1] s := by
  unfold f_X0_cellsTold_53 at h
  refine wp_iadd dX0_cellsTold_53 ?_
  refine wp_istore (ls' := [some (.ref g), none, some (.int v2), some (.int v3), some (.int (t1 + t0)), some (.int v5), some (.int v6)]) dX0_cellsTold_54 (by decide) rfl rfl ?_
  refine wp_inc (c := 1) (ls' := [some (.ref g), none, some (.int v2), some (.int v3), some (.int (t1 + t0)), some (.int v5), some (.int (v6 + 1))]) dX0_cellsTold_56 rfl (by decide +kernel) (by decide) rfl rfl ?_
  refine wp_goto (tgt := 15) dX0_cellsTold_59 (by decide) ?_
  exact wp_sub (ls' := [some (.ref g), none, some (.int v2), some (.int v3), some (.int (t1 + t0)), some (.int v5), some (.int (v6 + 1))]) ⟨rfl, rfl, rfl, rfl, rfl, rfl, trivial⟩ (hK15 _ _ _ _ _ _ h)
def f_X0_cellsTold_15 (g : Nat) (K6 : Int32 → Int32 → Int32 → Int32 → St → Option (Int32 × St)) : Nat → Int32 → Int32 → Int32 → Int32 → Int32 → St → Option (Int32 × St)
  | 0, _, _, _, _, _, _ => none
  | n + 1, v2, v3, v4, v5, v6, s =>
    Option.bind (aI s (rf g 0) v5) fun x1 =>
    if x1 ≤ v6 then (
      K6 v2 v3 v4 (v5 + 1) s)
    else (
      Option.bind (f_X0_colourOf g v5 v6 s) fun r3 =>
      if r3.1 = v3 then (
        Option.bind (f_X0_lengthOf g v5 v6 r3.2) fun r5 =>
        f_X0_cellsTold_53 g K6 (f_X0_cellsTold_15 g K6 n) v2 v3 v5 v6 r5.1 v4 r5.2)
      else (
        f_X0_cellsTold_53 g K6 (f_X0_cellsTold_15 g K6 n) v2 v3 v5 v6 (0 : Int32) v4 r3.2))
set_option maxRecDepth 100000 in
set_option maxHeartbeats 4000000 in
theorem w_X0_cellsTold_15 {r : Int32 × St} {g : Nat} {K6 : Int32 → Int32 → Int32 → Int32 → St → Option (Int32 × St)} (hK6 : ∀ (v2 : Int32) (v3 : Int32) (v4 : Int32) (v5 : Int32) (s : St), K6 v2 v3 v4 v5 s = some r → Wp m_X0_cellsTold 1 (PR (some (.int r.1)) r.2) 6 [some (.ref g), none, some (.int v2), some (.int v3), some (.int v4), some (.int v5), none] [] s)  (hg : clO g = 0) : ∀ (n : Nat) (v2 : Int32) (v3 : Int32) (v4 : Int32) (v5 : Int32) (v6 : Int32) (s : St), f_X0_cellsTold_15 g K6 n v2 v3 v4 v5 v6 s = some r → Wp m_X0_cellsTold 1 (PR (some (.int r.1)) r.2) 15 [some (.ref g), none, some (.int v2), some (.int v3), some (.int v4), some (.int v5), some (.int v6)] [] s := by
  intro n
  induction n with
  | zero => intro v2 v3 v4 v5 v6 s h; cases h
  | succ n ih =>
    intro v2 v3 v4 v5 v6 s h
    unfold f_X0_cellsTold_15 at h
    refine wp_iload dX0_cellsTold_15 rfl ?_
    refine wp_aload_n (i := 0) dX0_cellsTold_17 rfl rfl ?_
    refine wp_getR (t := rf g 0) dX0_cellsTold_18 fl_X0_9 hg (kr_0_0 _ hg) ?_
    refine wp_iload dX0_cellsTold_21 rfl ?_
    obtain ⟨x1, ex1, h⟩ := ob h
    refine wp_aI dX0_cellsTold_23 ex1 ?_
    refine wp_icmp_ge (tgt := 62) dX0_cellsTold_24 (by decide) (fun c2 => ?_) (fun c2 => ?_)
    · rw [if_pos c2] at h
      refine wp_inc (c := 1) (ls' := [some (.ref g), none, some (.int v2), some (.int v3), some (.int v4), some (.int (v5 + 1)), some (.int v6)]) dX0_cellsTold_62 rfl (by decide +kernel) (by decide) rfl rfl ?_
      refine wp_goto (tgt := 6) dX0_cellsTold_65 (by decide) ?_
      exact wp_sub (ls' := [some (.ref g), none, some (.int v2), some (.int v3), some (.int v4), some (.int (v5 + 1)), none]) ⟨rfl, rfl, rfl, rfl, rfl, trivial⟩ (hK6 _ _ _ _ _ h)
    · rw [if_neg c2] at h
      refine wp_iload dX0_cellsTold_27 rfl ?_
      refine wp_aload_n (i := 0) dX0_cellsTold_29 rfl rfl ?_
      refine wp_iload dX0_cellsTold_30 rfl ?_
      refine wp_iload dX0_cellsTold_32 rfl ?_
      obtain ⟨r3, er3, h⟩ := ob h
      refine wp_cVi (N := m_X0_colourOf) (As := [.int v5, .int v6]) (rest := [.int v4]) dX0_cellsTold_34 ml_X0_66 mo_X0_colourOf vo_X0_colourOf hg rfl (ok_X0_colourOf er3) (by decide) (Nat.le_of_ble_eq_true rfl) ?_
      refine wp_iload_n (i := 3) dX0_cellsTold_37 rfl rfl ?_
      refine wp_icmp_ne (tgt := 52) dX0_cellsTold_38 (by decide) (fun c4 => ?_) (fun c4 => ?_)
      · rw [if_neg c4] at h
        refine wp_iconst (v := 0) dX0_cellsTold_52 (by decide +kernel) ?_
        exact wp_sub (ls' := [some (.ref g), none, some (.int v2), some (.int v3), none, some (.int v5), some (.int v6)]) ⟨rfl, rfl, rfl, rfl, rfl, trivial⟩ (w_X0_cellsTold_53 hK6 ih hg h)
      · rw [if_pos c4] at h
        refine wp_aload_n (i := 0) dX0_cellsTold_41 rfl rfl ?_
        refine wp_iload dX0_cellsTold_42 rfl ?_
        refine wp_iload dX0_cellsTold_44 rfl ?_
        obtain ⟨r5, er5, h⟩ := ob h
        refine wp_cVi (N := m_X0_lengthOf) (As := [.int v5, .int v6]) (rest := [.int v4]) dX0_cellsTold_46 ml_X0_50 mo_X0_lengthOf vo_X0_lengthOf hg rfl (ok_X0_lengthOf er5) (by decide) (Nat.le_of_ble_eq_true rfl) ?_
        refine wp_goto (tgt := 53) dX0_cellsTold_49 (by decide) ?_
        exact wp_sub (ls' := [some (.ref g), none, some (.int v2), some (.int v3), none, some (.int v5), some (.int v6)]) ⟨rfl, rfl, rfl, rfl, rfl, trivial⟩ (w_X0_cellsTold_53 hK6 ih hg h)
def f_X0_cellsTold_6 (g : Nat) : Nat → Int32 → Int32 → Int32 → Int32 → St → Option (Int32 × St)
  | 0, _, _, _, _, _ => none
  | n + 1, v2, v3, v4, v5, s =>
    if v2 ≤ v5 then (
      some (v4, s))
    else (
      f_X0_cellsTold_15 g (f_X0_cellsTold_6 g n) FU v2 v3 v4 v5 (0 : Int32) s)
set_option maxRecDepth 100000 in
set_option maxHeartbeats 4000000 in
theorem w_X0_cellsTold_6 {r : Int32 × St} {g : Nat}  (hg : clO g = 0) : ∀ (n : Nat) (v2 : Int32) (v3 : Int32) (v4 : Int32) (v5 : Int32) (s : St), f_X0_cellsTold_6 g  n v2 v3 v4 v5 s = some r → Wp m_X0_cellsTold 1 (PR (some (.int r.1)) r.2) 6 [some (.ref g), none, some (.int v2), some (.int v3), some (.int v4), some (.int v5), none] [] s := by
  intro n
  induction n with
  | zero => intro v2 v3 v4 v5 s h; cases h
  | succ n ih =>
    intro v2 v3 v4 v5 s h
    unfold f_X0_cellsTold_6 at h
    refine wp_iload dX0_cellsTold_6 rfl ?_
    refine wp_iload_n (i := 2) dX0_cellsTold_8 rfl rfl ?_
    refine wp_icmp_ge (tgt := 68) dX0_cellsTold_9 (by decide) (fun c1 => ?_) (fun c1 => ?_)
    · rw [if_pos c1] at h
      refine wp_iload dX0_cellsTold_68 rfl ?_
      obtain rfl := Option.some.inj h
      exact wp_iret dX0_cellsTold_70 rfl rfl
    · rw [if_neg c1] at h
      refine wp_iconst (v := 0) dX0_cellsTold_12 (by decide +kernel) ?_
      refine wp_istore (ls' := [some (.ref g), none, some (.int v2), some (.int v3), some (.int v4), some (.int v5), some (.int (0 : Int32))]) dX0_cellsTold_13 (by decide) rfl rfl ?_
      exact wp_sub (ls' := [some (.ref g), none, some (.int v2), some (.int v3), some (.int v4), some (.int v5), some (.int (0 : Int32))]) ⟨rfl, rfl, rfl, rfl, rfl, rfl, trivial⟩ (w_X0_cellsTold_15 ih hg _ _ _ _ _ _ _ h)
def f_X0_cellsTold (g : Nat) (a1 : Int32) (a2 : Int32) (a3 : Int32) (s : St) : Option (Int32 × St) :=
  if ¬ clO g = 0 then none else
  f_X0_cellsTold_6 g FU a2 a3 (0 : Int32) a1 s
theorem ck_X0_cellsTold {g : Nat} {a1 : Int32} {a2 : Int32} {a3 : Int32} {s : St} {r : Int32 × St} (h : f_X0_cellsTold g a1 a2 a3 s = some r) : clO g = 0 := by
  unfold f_X0_cellsTold at h
  exact (ifc h).1
set_option maxRecDepth 100000 in
set_option maxHeartbeats 4000000 in
theorem ok_X0_cellsTold {g : Nat} {a1 : Int32} {a2 : Int32} {a3 : Int32} {s : St} {r : Int32 × St} (h : f_X0_cellsTold g a1 a2 a3 s = some r) : Ct 1 m_X0_cellsTold [.ref g, .int a1, .int a2, .int a3] s (some (.int r.1)) r.2 := by
  unfold f_X0_cellsTold at h
  obtain ⟨hg, h⟩ := ifc h
  refine ct_of [some (.ref g), some (.int a1), some (.int a2), some (.int a3), none, none, none] 3 (by decide) rfl (Nat.le_of_ble_eq_true rfl) ?_
  refine wp_iconst (v := 0) dX0_cellsTold_0 (by decide +kernel) ?_
  refine wp_istore (ls' := [some (.ref g), some (.int a1), some (.int a2), some (.int a3), some (.int (0 : Int32)), none, none]) dX0_cellsTold_1 (by decide) rfl rfl ?_
  refine wp_iload_n (i := 1) dX0_cellsTold_3 rfl rfl ?_
  refine wp_istore (ls' := [some (.ref g), some (.int a1), some (.int a2), some (.int a3), some (.int (0 : Int32)), some (.int a1), none]) dX0_cellsTold_4 (by decide) rfl rfl ?_
  exact wp_sub (ls' := [some (.ref g), none, some (.int a2), some (.int a3), some (.int (0 : Int32)), some (.int a1), none]) ⟨rfl, rfl, rfl, rfl, rfl, trivial⟩ (w_X0_cellsTold_6 hg _ _ _ _ _ _ h)
def f_X0_isBalanced_2 (g : Nat) : Nat → Int32 → St → Option (Int32 × St)
  | 0, _, _ => none
  | n + 1, v1, s =>
    if (s.1 g 5) < v1 then (
      some ((1 : Int32), s))
    else (
      Option.bind (f_X0_cellsTold g (0 : Int32) (s.1 g 4) v1 s) fun r2 =>
      Option.bind (f_X0_lines g r2.2) fun r3 =>
      Option.bind (f_X0_cellsTold g (r2.2.1 g 4) r3.1 v1 r3.2) fun r4 =>
      if r2.1 = r4.1 then (
        f_X0_isBalanced_2 g n (v1 + 1) r4.2)
      else (
        some ((0 : Int32), r4.2)))
set_option maxRecDepth 100000 in
set_option maxHeartbeats 4000000 in
theorem w_X0_isBalanced_2 {r : Int32 × St} {g : Nat}  (hg : clO g = 0) : ∀ (n : Nat) (v1 : Int32) (s : St), f_X0_isBalanced_2 g  n v1 s = some r → Wp m_X0_isBalanced 2 (PR (some (.int r.1)) r.2) 2 [some (.ref g), some (.int v1)] [] s := by
  intro n
  induction n with
  | zero => intro v1 s h; cases h
  | succ n ih =>
    intro v1 s h
    unfold f_X0_isBalanced_2 at h
    refine wp_iload_n (i := 1) dX0_isBalanced_2 rfl rfl ?_
    refine wp_aload_n (i := 0) dX0_isBalanced_3 rfl rfl ?_
    refine wp_getI dX0_isBalanced_4 fl_X0_28 hg (kr_0_5 _ hg) ?_
    refine wp_icmp_gt (tgt := 44) dX0_isBalanced_7 (by decide) (fun c1 => ?_) (fun c1 => ?_)
    · rw [if_pos c1] at h
      refine wp_iconst (v := 1) dX0_isBalanced_44 (by decide +kernel) ?_
      obtain rfl := Option.some.inj h
      exact wp_iret dX0_isBalanced_45 rfl (narrow_z (Or.inr rfl)).1
    · rw [if_neg c1] at h
      refine wp_aload_n (i := 0) dX0_isBalanced_10 rfl rfl ?_
      refine wp_iconst (v := 0) dX0_isBalanced_11 (by decide +kernel) ?_
      refine wp_aload_n (i := 0) dX0_isBalanced_12 rfl rfl ?_
      refine wp_getI dX0_isBalanced_13 fl_X0_25 hg (kr_0_4 _ hg) ?_
      refine wp_iload_n (i := 1) dX0_isBalanced_16 rfl rfl ?_
      obtain ⟨r2, er2, h⟩ := ob h
      refine wp_cVi (N := m_X0_cellsTold) (As := [.int (0 : Int32), .int (s.1 g 4), .int v1]) (rest := []) dX0_isBalanced_17 ml_X0_62 mo_X0_cellsTold vo_X0_cellsTold hg rfl (ok_X0_cellsTold er2) (by decide) (Nat.le_of_ble_eq_true rfl) ?_
      refine wp_aload_n (i := 0) dX0_isBalanced_20 rfl rfl ?_
      refine wp_aload_n (i := 0) dX0_isBalanced_21 rfl rfl ?_
      refine wp_getI dX0_isBalanced_22 fl_X0_25 hg (kr_0_4 _ hg) ?_
      refine wp_aload_n (i := 0) dX0_isBalanced_25 rfl rfl ?_
      obtain ⟨r3, er3, h⟩ := ob h
      refine wp_cVi (N := m_X0_lines) (As := []) (rest := [.int (r2.2.1 g 4), .ref g, .int r2.1]) dX0_isBalanced_26 ml_X0_46 mo_X0_lines vo_X0_lines hg rfl (ok_X0_lines er3) (by decide) (Nat.le_of_ble_eq_true rfl) ?_
      refine wp_iload_n (i := 1) dX0_isBalanced_29 rfl rfl ?_
      obtain ⟨r4, er4, h⟩ := ob h
      refine wp_cVi (N := m_X0_cellsTold) (As := [.int (r2.2.1 g 4), .int r3.1, .int v1]) (rest := [.int r2.1]) dX0_isBalanced_30 ml_X0_62 mo_X0_cellsTold vo_X0_cellsTold hg rfl (ok_X0_cellsTold er4) (by decide) (Nat.le_of_ble_eq_true rfl) ?_
      refine wp_icmp_eq (tgt := 38) dX0_isBalanced_33 (by decide) (fun c5 => ?_) (fun c5 => ?_)
      · rw [if_pos c5] at h
        refine wp_inc (c := 1) (ls' := [some (.ref g), some (.int (v1 + 1))]) dX0_isBalanced_38 rfl (by decide +kernel) (by decide) rfl rfl ?_
        refine wp_goto (tgt := 2) dX0_isBalanced_41 (by decide) ?_
        exact wp_sub (ls' := [some (.ref g), some (.int (v1 + 1))]) ⟨rfl, rfl, trivial⟩ (ih _ _ h)
      · rw [if_neg c5] at h
        refine wp_iconst (v := 0) dX0_isBalanced_36 (by decide +kernel) ?_
        obtain rfl := Option.some.inj h
        exact wp_iret dX0_isBalanced_37 rfl (narrow_z (Or.inl rfl)).1
def f_X0_isBalanced (g : Nat) (s : St) : Option (Int32 × St) :=
  if ¬ clO g = 0 then none else
  f_X0_isBalanced_2 g FU (1 : Int32) s
theorem ck_X0_isBalanced {g : Nat} {s : St} {r : Int32 × St} (h : f_X0_isBalanced g s = some r) : clO g = 0 := by
  unfold f_X0_isBalanced at h
  exact (ifc h).1
set_option maxRecDepth 100000 in
set_option maxHeartbeats 4000000 in
theorem ok_X0_isBalanced {g : Nat} {s : St} {r : Int32 × St} (h : f_X0_isBalanced g s = some r) : Ct 2 m_X0_isBalanced [.ref g] s (some (.int r.1)) r.2 := by
  unfold f_X0_isBalanced at h
  obtain ⟨hg, h⟩ := ifc h
  refine ct_of [some (.ref g), none] 1 (by decide) rfl (Nat.le_of_ble_eq_true rfl) ?_
  refine wp_iconst (v := 1) dX0_isBalanced_0 (by decide +kernel) ?_
  refine wp_istore_n (ls' := [some (.ref g), some (.int (1 : Int32))]) dX0_isBalanced_1 rfl (by decide) rfl rfl ?_
  exact wp_sub (ls' := [some (.ref g), some (.int (1 : Int32))]) ⟨rfl, rfl, trivial⟩ (w_X0_isBalanced_2 hg _ _ _ h)
def f_X0_addStretch (g : Nat) (a1 : Int32) (a2 : Int32) (a3 : Int32) (s : St) : Option (St) :=
  if ¬ clO g = 0 then none else
  if a3 = 0 then (
    some s)
  else (
    Option.bind (f_X0_add g a1 a2 a3 s) fun s2 =>
    some s2)
theorem ck_X0_addStretch {g : Nat} {a1 : Int32} {a2 : Int32} {a3 : Int32} {s : St} {r : St} (h : f_X0_addStretch g a1 a2 a3 s = some r) : clO g = 0 := by
  unfold f_X0_addStretch at h
  exact (ifc h).1
set_option maxRecDepth 100000 in
set_option maxHeartbeats 4000000 in
theorem ok_X0_addStretch {g : Nat} {a1 : Int32} {a2 : Int32} {a3 : Int32} {s : St} {r : St} (h : f_X0_addStretch g a1 a2 a3 s = some r) : Ct 1 m_X0_addStretch [.ref g, .int a1, .int a2, .int a3] s none r := by
  unfold f_X0_addStretch at h
  obtain ⟨hg, h⟩ := ifc h
  refine ct_of [some (.ref g), some (.int a1), some (.int a2), some (.int a3)] 0 (by decide) rfl (Nat.le_of_ble_eq_true rfl) ?_
  refine wp_iload_n (i := 3) dX0_addStretch_0 rfl rfl ?_
  refine wp_if_eq (tgt := 11) dX0_addStretch_1 (by decide) (fun c1 => ?_) (fun c1 => ?_)
  · rw [if_pos c1] at h
    obtain rfl := Option.some.inj h
    exact wp_vret dX0_addStretch_11 rfl
  · rw [if_neg c1] at h
    refine wp_aload_n (i := 0) dX0_addStretch_4 rfl rfl ?_
    refine wp_iload_n (i := 1) dX0_addStretch_5 rfl rfl ?_
    refine wp_iload_n (i := 2) dX0_addStretch_6 rfl rfl ?_
    refine wp_iload_n (i := 3) dX0_addStretch_7 rfl rfl ?_
    obtain ⟨s2, es2, h⟩ := ob h
    refine wp_cVv (N := m_X0_add) (As := [.int a1, .int a2, .int a3]) (rest := []) dX0_addStretch_8 ml_X0_84 mo_X0_add vo_X0_add hg rfl (ok_X0_add es2) (by decide) (Nat.le_of_ble_eq_true rfl) ?_
    obtain rfl := Option.some.inj h
    exact wp_vret dX0_addStretch_11 rfl
def f_X0_readLine_59 (g : Nat) (a2 : Nat) (K8 : Int32 → Int32 → Int32 → Int32 → St → Option (St)) (v1 : Int32) (v3 : Int32) (v4 : Int32) (v5 : Int32) (s : St) : Option (St) :=
  K8 v1 (v3 + 1) v4 (v5 + 1) s
set_option maxRecDepth 100000 in
set_option maxHeartbeats 4000000 in
theorem w_X0_readLine_59 {r : St} {g : Nat} {a2 : Nat} {K8 : Int32 → Int32 → Int32 → Int32 → St → Option (St)} (hK8 : ∀ (v1 : Int32) (v3 : Int32) (v4 : Int32) (v5 : Int32) (s : St), K8 v1 v3 v4 v5 s = some r → Wp m_X0_readLine 2 (PR none r) 8 [some (.ref g), some (.int v1), some (.ref a2), some (.int v3), some (.int v4), some (.int v5), none] [] s) {v1 : Int32} {v3 : Int32} {v4 : Int32} {v5 : Int32} (hg : clO g = 0) (ha2 : clO a2 = 2) {s : St} (h : f_X0_readLine_59 g a2 K8 v1 v3 v4 v5 s = some r) : Wp m_X0_readLine 2 (PR none r) 59 [some (.ref g), some (.int v1), some (.ref a2), some (.int v3), some (.int v4), some (.int v5), none] [] s := by
  unfold f_X0_readLine_59 at h
  refine wp_inc (c := 1) (ls' := [some (.ref g), some (.int v1), some (.ref a2), some (.int (v3 + 1)), some (.int v4), some (.int v5), none]) dX0_readLine_59 rfl (by decide +kernel) (by decide) rfl rfl ?_
  refine wp_inc (c := 1) (ls' := [some (.ref g), some (.int v1), some (.ref a2), some (.int (v3 + 1)), some (.int v4), some (.int (v5 + 1)), none]) dX0_readLine_62 rfl (by decide +kernel) (by decide) rfl rfl ?_
  refine wp_goto (tgt := 8) dX0_readLine_65 (by decide) ?_
  exact wp_sub (ls' := [some (.ref g), some (.int v1), some (.ref a2), some (.int (v3 + 1)), some (.int v4), some (.int (v5 + 1)), none]) ⟨rfl, rfl, rfl, rfl, rfl, rfl, trivial⟩ (hK8 _ _ _ _ _ h)
def f_X0_readLine_8 (g : Nat) (a2 : Nat) : Nat → Int32 → Int32 → Int32 → Int32 → St → Option (St)
  | 0, _, _, _, _, _ => none
  | n + 1, v1, v3, v4, v5, s =>
    Option.bind (f_X0_cellsOf g v1 s) fun r1 =>
    if r1.1 ≤ v5 then (
      Option.bind (f_X0_addStretch g v1 v3 v4 r1.2) fun s3 =>
      some s3)
    else (
      Option.bind (f_X0_xOf g v1 v5 r1.2) fun r4 =>
      Option.bind (f_X0_yOf g v1 v5 r4.2) fun r5 =>
      Option.bind (f_X2_valueAt a2 r4.1 r5.1 r5.2) fun r6 =>
      if r6.1 = v4 then (
        f_X0_readLine_59 g a2 (f_X0_readLine_8 g a2 n) v1 v3 v4 v5 r6.2)
      else (
        Option.bind (f_X0_addStretch g v1 v3 v4 r6.2) fun s8 =>
        f_X0_readLine_59 g a2 (f_X0_readLine_8 g a2 n) v1 (0 : Int32) r6.1 v5 s8))
set_option maxRecDepth 100000 in
set_option maxHeartbeats 4000000 in
theorem w_X0_readLine_8 {r : St} {g : Nat} {a2 : Nat}  (hg : clO g = 0) (ha2 : clO a2 = 2) : ∀ (n : Nat) (v1 : Int32) (v3 : Int32) (v4 : Int32) (v5 : Int32) (s : St), f_X0_readLine_8 g a2  n v1 v3 v4 v5 s = some r → Wp m_X0_readLine 2 (PR none r) 8 [some (.ref g), some (.int v1), some (.ref a2), some (.int v3), some (.int v4), some (.int v5), none] [] s := by
  intro n
  induction n with
  | zero => intro v1 v3 v4 v5 s h; cases h
  | succ n ih =>
    intro v1 v3 v4 v5 s h
    unfold f_X0_readLine_8 at h
    refine wp_iload dX0_readLine_8 rfl ?_
    refine wp_aload_n (i := 0) dX0_readLine_10 rfl rfl ?_
    refine wp_iload_n (i := 1) dX0_readLine_11 rfl rfl ?_
    obtain ⟨r1, er1, h⟩ := ob h
    refine wp_cVi (N := m_X0_cellsOf) (As := [.int v1]) (rest := [.int v5]) dX0_readLine_12 ml_X0_58 mo_X0_cellsOf vo_X0_cellsOf hg rfl (ok_X0_cellsOf er1) (by decide) (Nat.le_of_ble_eq_true rfl) ?_
    refine wp_icmp_ge (tgt := 68) dX0_readLine_15 (by decide) (fun c2 => ?_) (fun c2 => ?_)
    · rw [if_pos c2] at h
      refine wp_aload_n (i := 0) dX0_readLine_68 rfl rfl ?_
      refine wp_iload_n (i := 1) dX0_readLine_69 rfl rfl ?_
      refine wp_iload_n (i := 3) dX0_readLine_70 rfl rfl ?_
      refine wp_iload dX0_readLine_71 rfl ?_
      obtain ⟨s3, es3, h⟩ := ob h
      refine wp_cVv (N := m_X0_addStretch) (As := [.int v1, .int v3, .int v4]) (rest := []) dX0_readLine_73 ml_X0_80 mo_X0_addStretch vo_X0_addStretch hg rfl (ok_X0_addStretch es3) (by decide) (Nat.le_of_ble_eq_true rfl) ?_
      obtain rfl := Option.some.inj h
      exact wp_vret dX0_readLine_76 rfl
    · rw [if_neg c2] at h
      refine wp_aload_n (i := 2) dX0_readLine_18 rfl rfl ?_
      refine wp_aload_n (i := 0) dX0_readLine_19 rfl rfl ?_
      refine wp_iload_n (i := 1) dX0_readLine_20 rfl rfl ?_
      refine wp_iload dX0_readLine_21 rfl ?_
      obtain ⟨r4, er4, h⟩ := ob h
      refine wp_cVi (N := m_X0_xOf) (As := [.int v1, .int v5]) (rest := [.ref a2]) dX0_readLine_23 ml_X0_69 mo_X0_xOf vo_X0_xOf hg rfl (ok_X0_xOf er4) (by decide) (Nat.le_of_ble_eq_true rfl) ?_
      refine wp_aload_n (i := 0) dX0_readLine_26 rfl rfl ?_
      refine wp_iload_n (i := 1) dX0_readLine_27 rfl rfl ?_
      refine wp_iload dX0_readLine_28 rfl ?_
      obtain ⟨r5, er5, h⟩ := ob h
      refine wp_cVi (N := m_X0_yOf) (As := [.int v1, .int v5]) (rest := [.int r4.1, .ref a2]) dX0_readLine_30 ml_X0_72 mo_X0_yOf vo_X0_yOf hg rfl (ok_X0_yOf er5) (by decide) (Nat.le_of_ble_eq_true rfl) ?_
      obtain ⟨r6, er6, h⟩ := ob h
      refine wp_cVi (N := m_X2_valueAt) (As := [.int r4.1, .int r5.1]) (rest := []) dX0_readLine_33 ml_X0_75 mo_X2_valueAt vo_X2_valueAt ha2 rfl (ok_X2_valueAt er6) (by decide) (Nat.le_of_ble_eq_true rfl) ?_
      refine wp_istore (ls' := [some (.ref g), some (.int v1), some (.ref a2), some (.int v3), some (.int v4), some (.int v5), some (.int r6.1)]) dX0_readLine_36 (by decide) rfl rfl ?_
      refine wp_iload dX0_readLine_38 rfl ?_
      refine wp_iload dX0_readLine_40 rfl ?_
      refine wp_icmp_eq (tgt := 59) dX0_readLine_42 (by decide) (fun c7 => ?_) (fun c7 => ?_)
      · rw [if_pos c7] at h
        exact wp_sub (ls' := [some (.ref g), some (.int v1), some (.ref a2), some (.int v3), some (.int v4), some (.int v5), none]) ⟨rfl, rfl, rfl, rfl, rfl, rfl, trivial⟩ (w_X0_readLine_59 ih hg ha2 h)
      · rw [if_neg c7] at h
        refine wp_aload_n (i := 0) dX0_readLine_45 rfl rfl ?_
        refine wp_iload_n (i := 1) dX0_readLine_46 rfl rfl ?_
        refine wp_iload_n (i := 3) dX0_readLine_47 rfl rfl ?_
        refine wp_iload dX0_readLine_48 rfl ?_
        obtain ⟨s8, es8, h⟩ := ob h
        refine wp_cVv (N := m_X0_addStretch) (As := [.int v1, .int v3, .int v4]) (rest := []) dX0_readLine_50 ml_X0_80 mo_X0_addStretch vo_X0_addStretch hg rfl (ok_X0_addStretch es8) (by decide) (Nat.le_of_ble_eq_true rfl) ?_
        refine wp_iconst (v := 0) dX0_readLine_53 (by decide +kernel) ?_
        refine wp_istore_n (ls' := [some (.ref g), some (.int v1), some (.ref a2), some (.int (0 : Int32)), some (.int v4), some (.int v5), some (.int r6.1)]) dX0_readLine_54 rfl (by decide) rfl rfl ?_
        refine wp_iload dX0_readLine_55 rfl ?_
        refine wp_istore (ls' := [some (.ref g), some (.int v1), some (.ref a2), some (.int (0 : Int32)), some (.int r6.1), some (.int v5), some (.int r6.1)]) dX0_readLine_57 (by decide) rfl rfl ?_
        exact wp_sub (ls' := [some (.ref g), some (.int v1), some (.ref a2), some (.int (0 : Int32)), some (.int r6.1), some (.int v5), none]) ⟨rfl, rfl, rfl, rfl, rfl, rfl, trivial⟩ (w_X0_readLine_59 ih hg ha2 h)
def f_X0_readLine (g : Nat) (a1 : Int32) (a2 : Nat) (s : St) : Option (St) :=
  if ¬ clO g = 0 then none else
  if ¬ clO a2 = 2 then none else
  f_X0_readLine_8 g a2 FU a1 (0 : Int32) (0 : Int32) (0 : Int32) s
theorem ck_X0_readLine {g : Nat} {a1 : Int32} {a2 : Nat} {s : St} {r : St} (h : f_X0_readLine g a1 a2 s = some r) : clO g = 0 := by
  unfold f_X0_readLine at h
  exact (ifc h).1
set_option maxRecDepth 100000 in
set_option maxHeartbeats 4000000 in
theorem ok_X0_readLine {g : Nat} {a1 : Int32} {a2 : Nat} {s : St} {r : St} (h : f_X0_readLine g a1 a2 s = some r) : Ct 2 m_X0_readLine [.ref g, .int a1, .ref a2] s none r := by
  unfold f_X0_readLine at h
  obtain ⟨hg, h⟩ := ifc h
  obtain ⟨ha2, h⟩ := ifc h
  refine ct_of [some (.ref g), some (.int a1), some (.ref a2), none, none, none, none] 4 (by decide) rfl (Nat.le_of_ble_eq_true rfl) ?_
  refine wp_iconst (v := 0) dX0_readLine_0 (by decide +kernel) ?_
  refine wp_istore_n (ls' := [some (.ref g), some (.int a1), some (.ref a2), some (.int (0 : Int32)), none, none, none]) dX0_readLine_1 rfl (by decide) rfl rfl ?_
  refine wp_iconst (v := 0) dX0_readLine_2 (by decide +kernel) ?_
  refine wp_istore (ls' := [some (.ref g), some (.int a1), some (.ref a2), some (.int (0 : Int32)), some (.int (0 : Int32)), none, none]) dX0_readLine_3 (by decide) rfl rfl ?_
  refine wp_iconst (v := 0) dX0_readLine_5 (by decide +kernel) ?_
  refine wp_istore (ls' := [some (.ref g), some (.int a1), some (.ref a2), some (.int (0 : Int32)), some (.int (0 : Int32)), some (.int (0 : Int32)), none]) dX0_readLine_6 (by decide) rfl rfl ?_
  exact wp_sub (ls' := [some (.ref g), some (.int a1), some (.ref a2), some (.int (0 : Int32)), some (.int (0 : Int32)), some (.int (0 : Int32)), none]) ⟨rfl, rfl, rfl, rfl, rfl, rfl, trivial⟩ (w_X0_readLine_8 hg ha2 _ _ _ _ _ _ h)
def f_X0_isLineLike_19 (g : Nat) (a2 : Nat) : Nat → Int32 → Int32 → St → Option (Int32 × St)
  | 0, _, _, _ => none
  | n + 1, v1, v3, s =>
    Option.bind (aI s (rf g 0) v1) fun x1 =>
    if x1 ≤ v3 then (
      some ((1 : Int32), s))
    else (
      Option.bind (f_X0_lengthOf g v1 v3 s) fun r3 =>
      Option.bind (f_X0_lengthOf a2 v1 v3 r3.2) fun r4 =>
      if r3.1 = r4.1 then (
        Option.bind (f_X0_colourOf g v1 v3 r4.2) fun r6 =>
        Option.bind (f_X0_colourOf a2 v1 v3 r6.2) fun r7 =>
        if r6.1 = r7.1 then (
          f_X0_isLineLike_19 g a2 n v1 (v3 + 1) r7.2)
        else (
          some ((0 : Int32), r7.2)))
      else (
        some ((0 : Int32), r4.2)))
set_option maxRecDepth 100000 in
set_option maxHeartbeats 4000000 in
theorem w_X0_isLineLike_19 {r : Int32 × St} {g : Nat} {a2 : Nat}  (hg : clO g = 0) (ha2 : clO a2 = 0) : ∀ (n : Nat) (v1 : Int32) (v3 : Int32) (s : St), f_X0_isLineLike_19 g a2  n v1 v3 s = some r → Wp m_X0_isLineLike 1 (PR (some (.int r.1)) r.2) 19 [some (.ref g), some (.int v1), some (.ref a2), some (.int v3)] [] s := by
  intro n
  induction n with
  | zero => intro v1 v3 s h; cases h
  | succ n ih =>
    intro v1 v3 s h
    unfold f_X0_isLineLike_19 at h
    refine wp_iload_n (i := 3) dX0_isLineLike_19 rfl rfl ?_
    refine wp_aload_n (i := 0) dX0_isLineLike_20 rfl rfl ?_
    refine wp_getR (t := rf g 0) dX0_isLineLike_21 fl_X0_9 hg (kr_0_0 _ hg) ?_
    refine wp_iload_n (i := 1) dX0_isLineLike_24 rfl rfl ?_
    obtain ⟨x1, ex1, h⟩ := ob h
    refine wp_aI dX0_isLineLike_25 ex1 ?_
    refine wp_icmp_ge (tgt := 67) dX0_isLineLike_26 (by decide) (fun c2 => ?_) (fun c2 => ?_)
    · rw [if_pos c2] at h
      refine wp_iconst (v := 1) dX0_isLineLike_67 (by decide +kernel) ?_
      obtain rfl := Option.some.inj h
      exact wp_iret dX0_isLineLike_68 rfl (narrow_z (Or.inr rfl)).1
    · rw [if_neg c2] at h
      refine wp_aload_n (i := 0) dX0_isLineLike_29 rfl rfl ?_
      refine wp_iload_n (i := 1) dX0_isLineLike_30 rfl rfl ?_
      refine wp_iload_n (i := 3) dX0_isLineLike_31 rfl rfl ?_
      obtain ⟨r3, er3, h⟩ := ob h
      refine wp_cVi (N := m_X0_lengthOf) (As := [.int v1, .int v3]) (rest := []) dX0_isLineLike_32 ml_X0_50 mo_X0_lengthOf vo_X0_lengthOf hg rfl (ok_X0_lengthOf er3) (by decide) (Nat.le_of_ble_eq_true rfl) ?_
      refine wp_aload_n (i := 2) dX0_isLineLike_35 rfl rfl ?_
      refine wp_iload_n (i := 1) dX0_isLineLike_36 rfl rfl ?_
      refine wp_iload_n (i := 3) dX0_isLineLike_37 rfl rfl ?_
      obtain ⟨r4, er4, h⟩ := ob h
      refine wp_cVi (N := m_X0_lengthOf) (As := [.int v1, .int v3]) (rest := [.int r3.1]) dX0_isLineLike_38 ml_X0_50 mo_X0_lengthOf vo_X0_lengthOf ha2 rfl (ok_X0_lengthOf er4) (by decide) (Nat.le_of_ble_eq_true rfl) ?_
      refine wp_icmp_ne (tgt := 59) dX0_isLineLike_41 (by decide) (fun c5 => ?_) (fun c5 => ?_)
      · rw [if_neg c5] at h
        refine wp_iconst (v := 0) dX0_isLineLike_59 (by decide +kernel) ?_
        obtain rfl := Option.some.inj h
        exact wp_iret dX0_isLineLike_60 rfl (narrow_z (Or.inl rfl)).1
      · rw [if_pos c5] at h
        refine wp_aload_n (i := 0) dX0_isLineLike_44 rfl rfl ?_
        refine wp_iload_n (i := 1) dX0_isLineLike_45 rfl rfl ?_
        refine wp_iload_n (i := 3) dX0_isLineLike_46 rfl rfl ?_
        obtain ⟨r6, er6, h⟩ := ob h
        refine wp_cVi (N := m_X0_colourOf) (As := [.int v1, .int v3]) (rest := []) dX0_isLineLike_47 ml_X0_66 mo_X0_colourOf vo_X0_colourOf hg rfl (ok_X0_colourOf er6) (by decide) (Nat.le_of_ble_eq_true rfl) ?_
        refine wp_aload_n (i := 2) dX0_isLineLike_50 rfl rfl ?_
        refine wp_iload_n (i := 1) dX0_isLineLike_51 rfl rfl ?_
        refine wp_iload_n (i := 3) dX0_isLineLike_52 rfl rfl ?_
        obtain ⟨r7, er7, h⟩ := ob h
        refine wp_cVi (N := m_X0_colourOf) (As := [.int v1, .int v3]) (rest := [.int r6.1]) dX0_isLineLike_53 ml_X0_66 mo_X0_colourOf vo_X0_colourOf ha2 rfl (ok_X0_colourOf er7) (by decide) (Nat.le_of_ble_eq_true rfl) ?_
        refine wp_icmp_eq (tgt := 61) dX0_isLineLike_56 (by decide) (fun c8 => ?_) (fun c8 => ?_)
        · rw [if_pos c8] at h
          refine wp_inc (c := 1) (ls' := [some (.ref g), some (.int v1), some (.ref a2), some (.int (v3 + 1))]) dX0_isLineLike_61 rfl (by decide +kernel) (by decide) rfl rfl ?_
          refine wp_goto (tgt := 19) dX0_isLineLike_64 (by decide) ?_
          exact wp_sub (ls' := [some (.ref g), some (.int v1), some (.ref a2), some (.int (v3 + 1))]) ⟨rfl, rfl, rfl, rfl, trivial⟩ (ih _ _ _ h)
        · rw [if_neg c8] at h
          refine wp_iconst (v := 0) dX0_isLineLike_59 (by decide +kernel) ?_
          obtain rfl := Option.some.inj h
          exact wp_iret dX0_isLineLike_60 rfl (narrow_z (Or.inl rfl)).1
def f_X0_isLineLike (g : Nat) (a1 : Int32) (a2 : Nat) (s : St) : Option (Int32 × St) :=
  if ¬ clO g = 0 then none else
  if ¬ clO a2 = 0 then none else
  Option.bind (aI s (rf g 0) a1) fun x1 =>
  Option.bind (aI s (rf a2 0) a1) fun x2 =>
  if x1 = x2 then (
    f_X0_isLineLike_19 g a2 FU a1 (0 : Int32) s)
  else (
    some ((0 : Int32), s))
theorem ck_X0_isLineLike {g : Nat} {a1 : Int32} {a2 : Nat} {s : St} {r : Int32 × St} (h : f_X0_isLineLike g a1 a2 s = some r) : clO g = 0 := by
  unfold f_X0_isLineLike at h
  exact (ifc h).1
set_option maxRecDepth 100000 in
set_option maxHeartbeats 4000000 in
theorem ok_X0_isLineLike {g : Nat} {a1 : Int32} {a2 : Nat} {s : St} {r : Int32 × St} (h : f_X0_isLineLike g a1 a2 s = some r) : Ct 1 m_X0_isLineLike [.ref g, .int a1, .ref a2] s (some (.int r.1)) r.2 := by
  unfold f_X0_isLineLike at h
  obtain ⟨hg, h⟩ := ifc h
  obtain ⟨ha2, h⟩ := ifc h
  refine ct_of [some (.ref g), some (.int a1), some (.ref a2), none] 1 (by decide) rfl (Nat.le_of_ble_eq_true rfl) ?_
  refine wp_aload_n (i := 0) dX0_isLineLike_0 rfl rfl ?_
  refine wp_getR (t := rf g 0) dX0_isLineLike_1 fl_X0_9 hg (kr_0_0 _ hg) ?_
  refine wp_iload_n (i := 1) dX0_isLineLike_4 rfl rfl ?_
  obtain ⟨x1, ex1, h⟩ := ob h
  refine wp_aI dX0_isLineLike_5 ex1 ?_
  refine wp_aload_n (i := 2) dX0_isLineLike_6 rfl rfl ?_
  refine wp_getR (t := rf a2 0) dX0_isLineLike_7 fl_X0_9 ha2 (kr_0_0 _ ha2) ?_
  refine wp_iload_n (i := 1) dX0_isLineLike_10 rfl rfl ?_
  obtain ⟨x2, ex2, h⟩ := ob h
  refine wp_aI dX0_isLineLike_11 ex2 ?_
  refine wp_icmp_eq (tgt := 17) dX0_isLineLike_12 (by decide) (fun c3 => ?_) (fun c3 => ?_)
  · rw [if_pos c3] at h
    refine wp_iconst (v := 0) dX0_isLineLike_17 (by decide +kernel) ?_
    refine wp_istore_n (ls' := [some (.ref g), some (.int a1), some (.ref a2), some (.int (0 : Int32))]) dX0_isLineLike_18 rfl (by decide) rfl rfl ?_
    exact wp_sub (ls' := [some (.ref g), some (.int a1), some (.ref a2), some (.int (0 : Int32))]) ⟨rfl, rfl, rfl, rfl, trivial⟩ (w_X0_isLineLike_19 hg ha2 _ _ _ _ h)
  · rw [if_neg c3] at h
    refine wp_iconst (v := 0) dX0_isLineLike_15 (by decide +kernel) ?_
    obtain rfl := Option.some.inj h
    exact wp_iret dX0_isLineLike_16 rfl (narrow_z (Or.inl rfl)).1
def f_X0_hasRunsOf_2 (g : Nat) (a1 : Nat) : Nat → Int32 → St → Option (Int32 × St)
  | 0, _, _ => none
  | n + 1, v2, s =>
    Option.bind (f_X0_lines g s) fun r1 =>
    if r1.1 ≤ v2 then (
      some ((1 : Int32), r1.2))
    else (
      Option.bind (f_X0_isLineLike g v2 a1 r1.2) fun r3 =>
      if r3.1 = 0 then (
        some ((0 : Int32), r3.2))
      else (
        f_X0_hasRunsOf_2 g a1 n (v2 + 1) r3.2))
set_option maxRecDepth 100000 in
set_option maxHeartbeats 4000000 in
theorem w_X0_hasRunsOf_2 {r : Int32 × St} {g : Nat} {a1 : Nat}  (hg : clO g = 0) (ha1 : clO a1 = 0) : ∀ (n : Nat) (v2 : Int32) (s : St), f_X0_hasRunsOf_2 g a1  n v2 s = some r → Wp m_X0_hasRunsOf 2 (PR (some (.int r.1)) r.2) 2 [some (.ref g), some (.ref a1), some (.int v2)] [] s := by
  intro n
  induction n with
  | zero => intro v2 s h; cases h
  | succ n ih =>
    intro v2 s h
    unfold f_X0_hasRunsOf_2 at h
    refine wp_iload_n (i := 2) dX0_hasRunsOf_2 rfl rfl ?_
    refine wp_aload_n (i := 0) dX0_hasRunsOf_3 rfl rfl ?_
    obtain ⟨r1, er1, h⟩ := ob h
    refine wp_cVi (N := m_X0_lines) (As := []) (rest := [.int v2]) dX0_hasRunsOf_4 ml_X0_46 mo_X0_lines vo_X0_lines hg rfl (ok_X0_lines er1) (by decide) (Nat.le_of_ble_eq_true rfl) ?_
    refine wp_icmp_ge (tgt := 27) dX0_hasRunsOf_7 (by decide) (fun c2 => ?_) (fun c2 => ?_)
    · rw [if_pos c2] at h
      refine wp_iconst (v := 1) dX0_hasRunsOf_27 (by decide +kernel) ?_
      obtain rfl := Option.some.inj h
      exact wp_iret dX0_hasRunsOf_28 rfl (narrow_z (Or.inr rfl)).1
    · rw [if_neg c2] at h
      refine wp_aload_n (i := 0) dX0_hasRunsOf_10 rfl rfl ?_
      refine wp_iload_n (i := 2) dX0_hasRunsOf_11 rfl rfl ?_
      refine wp_aload_n (i := 1) dX0_hasRunsOf_12 rfl rfl ?_
      obtain ⟨r3, er3, h⟩ := ob h
      refine wp_cVi (N := m_X0_isLineLike) (As := [.int v2, .ref a1]) (rest := []) dX0_hasRunsOf_13 ml_X0_87 mo_X0_isLineLike vo_X0_isLineLike hg rfl (ok_X0_isLineLike er3) (by decide) (Nat.le_of_ble_eq_true rfl) ?_
      refine wp_if_ne (tgt := 21) dX0_hasRunsOf_16 (by decide) (fun c4 => ?_) (fun c4 => ?_)
      · rw [if_neg c4] at h
        refine wp_inc (c := 1) (ls' := [some (.ref g), some (.ref a1), some (.int (v2 + 1))]) dX0_hasRunsOf_21 rfl (by decide +kernel) (by decide) rfl rfl ?_
        refine wp_goto (tgt := 2) dX0_hasRunsOf_24 (by decide) ?_
        exact wp_sub (ls' := [some (.ref g), some (.ref a1), some (.int (v2 + 1))]) ⟨rfl, rfl, rfl, trivial⟩ (ih _ _ h)
      · rw [if_pos c4] at h
        refine wp_iconst (v := 0) dX0_hasRunsOf_19 (by decide +kernel) ?_
        obtain rfl := Option.some.inj h
        exact wp_iret dX0_hasRunsOf_20 rfl (narrow_z (Or.inl rfl)).1
def f_X0_hasRunsOf (g : Nat) (a1 : Nat) (s : St) : Option (Int32 × St) :=
  if ¬ clO g = 0 then none else
  if ¬ clO a1 = 0 then none else
  f_X0_hasRunsOf_2 g a1 FU (0 : Int32) s
theorem ck_X0_hasRunsOf {g : Nat} {a1 : Nat} {s : St} {r : Int32 × St} (h : f_X0_hasRunsOf g a1 s = some r) : clO g = 0 := by
  unfold f_X0_hasRunsOf at h
  exact (ifc h).1
set_option maxRecDepth 100000 in
set_option maxHeartbeats 4000000 in
theorem ok_X0_hasRunsOf {g : Nat} {a1 : Nat} {s : St} {r : Int32 × St} (h : f_X0_hasRunsOf g a1 s = some r) : Ct 2 m_X0_hasRunsOf [.ref g, .ref a1] s (some (.int r.1)) r.2 := by
  unfold f_X0_hasRunsOf at h
  obtain ⟨hg, h⟩ := ifc h
  obtain ⟨ha1, h⟩ := ifc h
  refine ct_of [some (.ref g), some (.ref a1), none] 1 (by decide) rfl (Nat.le_of_ble_eq_true rfl) ?_
  refine wp_iconst (v := 0) dX0_hasRunsOf_0 (by decide +kernel) ?_
  refine wp_istore_n (ls' := [some (.ref g), some (.ref a1), some (.int (0 : Int32))]) dX0_hasRunsOf_1 rfl (by decide) rfl rfl ?_
  exact wp_sub (ls' := [some (.ref g), some (.ref a1), some (.int (0 : Int32))]) ⟨rfl, rfl, rfl, trivial⟩ (w_X0_hasRunsOf_2 hg ha1 _ _ _ h)
