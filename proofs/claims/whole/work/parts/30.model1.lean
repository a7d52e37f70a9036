/-! decompiled by wip/gen/gen.py -/
theorem dX9_in_0 : decode cX9_in 0 = .ok (.iload_n 0, 1) := by decide +kernel
theorem dX9_in_1 : decode cX9_in 1 = .ok (.iload_n 1, 1) := by decide +kernel
theorem dX9_in_2 : decode cX9_in 2 = .ok (.if_icmp .lt 12, 3) := by decide +kernel
theorem dX9_in_5 : decode cX9_in 5 = .ok (.iload_n 0, 1) := by decide +kernel
theorem dX9_in_6 : decode cX9_in 6 = .ok (.iload_n 2, 1) := by decide +kernel
theorem dX9_in_7 : decode cX9_in 7 = .ok (.if_icmp .gt 7, 3) := by decide +kernel
theorem dX9_in_10 : decode cX9_in 10 = .ok (.iconst 1, 1) := by decide +kernel
theorem dX9_in_11 : decode cX9_in 11 = .ok (.goto 4, 3) := by decide +kernel
theorem dX9_in_14 : decode cX9_in 14 = .ok (.iconst 0, 1) := by decide +kernel
theorem dX9_in_15 : decode cX9_in 15 = .ok (.ireturn, 1) := by decide +kernel
theorem dX9_is_0 : decode cX9_is 0 = .ok (.aload_n 0, 1) := by decide +kernel
theorem dX9_is_1 : decode cX9_is 1 = .ok (.getfield 83, 3) := by decide +kernel
theorem dX9_is_4 : decode cX9_is 4 = .ok (.ifCond .le 7, 3) := by decide +kernel
theorem dX9_is_7 : decode cX9_is 7 = .ok (.iconst 1, 1) := by decide +kernel
theorem dX9_is_8 : decode cX9_is 8 = .ok (.goto 4, 3) := by decide +kernel
theorem dX9_is_11 : decode cX9_is 11 = .ok (.iconst 0, 1) := by decide +kernel
theorem dX9_is_12 : decode cX9_is 12 = .ok (.ireturn, 1) := by decide +kernel
theorem dX9_lines_0 : decode cX9_lines 0 = .ok (.aload_n 0, 1) := by decide +kernel
theorem dX9_lines_1 : decode cX9_lines 1 = .ok (.getfield 83, 3) := by decide +kernel
theorem dX9_lines_4 : decode cX9_lines 4 = .ok (.aload_n 0, 1) := by decide +kernel
theorem dX9_lines_5 : decode cX9_lines 5 = .ok (.getfield 86, 3) := by decide +kernel
theorem dX9_lines_8 : decode cX9_lines 8 = .ok (.iadd, 1) := by decide +kernel
theorem dX9_lines_9 : decode cX9_lines 9 = .ok (.ireturn, 1) := by decide +kernel
theorem dX9_isLine_0 : decode cX9_isLine 0 = .ok (.aload_n 0, 1) := by decide +kernel
theorem dX9_isLine_1 : decode cX9_isLine 1 = .ok (.invokevirtual 89, 3) := by decide +kernel
theorem dX9_isLine_4 : decode cX9_isLine 4 = .ok (.ifCond .eq 21, 3) := by decide +kernel
theorem dX9_isLine_7 : decode cX9_isLine 7 = .ok (.iload_n 1, 1) := by decide +kernel
theorem dX9_isLine_8 : decode cX9_isLine 8 = .ok (.iconst 0, 1) := by decide +kernel
theorem dX9_isLine_9 : decode cX9_isLine 9 = .ok (.aload_n 0, 1) := by decide +kernel
theorem dX9_isLine_10 : decode cX9_isLine 10 = .ok (.invokevirtual 93, 3) := by decide +kernel
theorem dX9_isLine_13 : decode cX9_isLine 13 = .ok (.iconst 1, 1) := by decide +kernel
theorem dX9_isLine_14 : decode cX9_isLine 14 = .ok (.isub, 1) := by decide +kernel
theorem dX9_isLine_15 : decode cX9_isLine 15 = .ok (.invokestatic 97, 3) := by decide +kernel
theorem dX9_isLine_18 : decode cX9_isLine 18 = .ok (.ifCond .eq 7, 3) := by decide +kernel
theorem dX9_isLine_21 : decode cX9_isLine 21 = .ok (.iconst 1, 1) := by decide +kernel
theorem dX9_isLine_22 : decode cX9_isLine 22 = .ok (.goto 4, 3) := by decide +kernel
theorem dX9_isLine_25 : decode cX9_isLine 25 = .ok (.iconst 0, 1) := by decide +kernel
theorem dX9_isLine_26 : decode cX9_isLine 26 = .ok (.ireturn, 1) := by decide +kernel
theorem dX9_isCell_0 : decode cX9_isCell 0 = .ok (.aload_n 0, 1) := by decide +kernel
theorem dX9_isCell_1 : decode cX9_isCell 1 = .ok (.invokevirtual 89, 3) := by decide +kernel
theorem dX9_isCell_4 : decode cX9_isCell 4 = .ok (.ifCond .eq 35, 3) := by decide +kernel
theorem dX9_isCell_7 : decode cX9_isCell 7 = .ok (.iload_n 1, 1) := by decide +kernel
theorem dX9_isCell_8 : decode cX9_isCell 8 = .ok (.iconst 0, 1) := by decide +kernel
theorem dX9_isCell_9 : decode cX9_isCell 9 = .ok (.aload_n 0, 1) := by decide +kernel
theorem dX9_isCell_10 : decode cX9_isCell 10 = .ok (.getfield 83, 3) := by decide +kernel
theorem dX9_isCell_13 : decode cX9_isCell 13 = .ok (.iconst 1, 1) := by decide +kernel
theorem dX9_isCell_14 : decode cX9_isCell 14 = .ok (.isub, 1) := by decide +kernel
theorem dX9_isCell_15 : decode cX9_isCell 15 = .ok (.invokestatic 97, 3) := by decide +kernel
theorem dX9_isCell_18 : decode cX9_isCell 18 = .ok (.ifCond .eq 21, 3) := by decide +kernel
theorem dX9_isCell_21 : decode cX9_isCell 21 = .ok (.iload_n 2, 1) := by decide +kernel
theorem dX9_isCell_22 : decode cX9_isCell 22 = .ok (.iconst 0, 1) := by decide +kernel
theorem dX9_isCell_23 : decode cX9_isCell 23 = .ok (.aload_n 0, 1) := by decide +kernel
theorem dX9_isCell_24 : decode cX9_isCell 24 = .ok (.getfield 86, 3) := by decide +kernel
theorem dX9_isCell_27 : decode cX9_isCell 27 = .ok (.iconst 1, 1) := by decide +kernel
theorem dX9_isCell_28 : decode cX9_isCell 28 = .ok (.isub, 1) := by decide +kernel
theorem dX9_isCell_29 : decode cX9_isCell 29 = .ok (.invokestatic 97, 3) := by decide +kernel
theorem dX9_isCell_32 : decode cX9_isCell 32 = .ok (.ifCond .eq 7, 3) := by decide +kernel
theorem dX9_isCell_35 : decode cX9_isCell 35 = .ok (.iconst 1, 1) := by decide +kernel
theorem dX9_isCell_36 : decode cX9_isCell 36 = .ok (.goto 4, 3) := by decide +kernel
theorem dX9_isCell_39 : decode cX9_isCell 39 = .ok (.iconst 0, 1) := by decide +kernel
theorem dX9_isCell_40 : decode cX9_isCell 40 = .ok (.ireturn, 1) := by decide +kernel
theorem dX9_sizeOf_0 : decode cX9_sizeOf 0 = .ok (.iload_n 1, 1) := by decide +kernel
theorem dX9_sizeOf_1 : decode cX9_sizeOf 1 = .ok (.aload_n 0, 1) := by decide +kernel
theorem dX9_sizeOf_2 : decode cX9_sizeOf 2 = .ok (.getfield 86, 3) := by decide +kernel
theorem dX9_sizeOf_5 : decode cX9_sizeOf 5 = .ok (.if_icmp .ge 10, 3) := by decide +kernel
theorem dX9_sizeOf_8 : decode cX9_sizeOf 8 = .ok (.aload_n 0, 1) := by decide +kernel
theorem dX9_sizeOf_9 : decode cX9_sizeOf 9 = .ok (.getfield 83, 3) := by decide +kernel
theorem dX9_sizeOf_12 : decode cX9_sizeOf 12 = .ok (.goto 7, 3) := by decide +kernel
theorem dX9_sizeOf_15 : decode cX9_sizeOf 15 = .ok (.aload_n 0, 1) := by decide +kernel
theorem dX9_sizeOf_16 : decode cX9_sizeOf 16 = .ok (.getfield 86, 3) := by decide +kernel
theorem dX9_sizeOf_19 : decode cX9_sizeOf 19 = .ok (.ireturn, 1) := by decide +kernel
theorem dX9_cellOf_0 : decode cX9_cellOf 0 = .ok (.iload_n 1, 1) := by decide +kernel
theorem dX9_cellOf_1 : decode cX9_cellOf 1 = .ok (.aload_n 0, 1) := by decide +kernel
theorem dX9_cellOf_2 : decode cX9_cellOf 2 = .ok (.getfield 86, 3) := by decide +kernel
theorem dX9_cellOf_5 : decode cX9_cellOf 5 = .ok (.if_icmp .ge 12, 3) := by decide +kernel
theorem dX9_cellOf_8 : decode cX9_cellOf 8 = .ok (.bipush 12, 2) := by decide +kernel
theorem dX9_cellOf_10 : decode cX9_cellOf 10 = .ok (.iload_n 1, 1) := by decide +kernel
theorem dX9_cellOf_11 : decode cX9_cellOf 11 = .ok (.imul, 1) := by decide +kernel
theorem dX9_cellOf_12 : decode cX9_cellOf 12 = .ok (.iload_n 2, 1) := by decide +kernel
theorem dX9_cellOf_13 : decode cX9_cellOf 13 = .ok (.iadd, 1) := by decide +kernel
theorem dX9_cellOf_14 : decode cX9_cellOf 14 = .ok (.goto 14, 3) := by decide +kernel
theorem dX9_cellOf_17 : decode cX9_cellOf 17 = .ok (.bipush 12, 2) := by decide +kernel
theorem dX9_cellOf_19 : decode cX9_cellOf 19 = .ok (.iload_n 2, 1) := by decide +kernel
theorem dX9_cellOf_20 : decode cX9_cellOf 20 = .ok (.imul, 1) := by decide +kernel
theorem dX9_cellOf_21 : decode cX9_cellOf 21 = .ok (.iload_n 1, 1) := by decide +kernel
theorem dX9_cellOf_22 : decode cX9_cellOf 22 = .ok (.iadd, 1) := by decide +kernel
theorem dX9_cellOf_23 : decode cX9_cellOf 23 = .ok (.aload_n 0, 1) := by decide +kernel
theorem dX9_cellOf_24 : decode cX9_cellOf 24 = .ok (.getfield 86, 3) := by decide +kernel
theorem dX9_cellOf_27 : decode cX9_cellOf 27 = .ok (.isub, 1) := by decide +kernel
theorem dX9_cellOf_28 : decode cX9_cellOf 28 = .ok (.ireturn, 1) := by decide +kernel
theorem dX9_inOrder_0 : decode cX9_inOrder 0 = .ok (.bipush 12, 2) := by decide +kernel
theorem dX9_inOrder_2 : decode cX9_inOrder 2 = .ok (.iload_n 1, 1) := by decide +kernel
theorem dX9_inOrder_3 : decode cX9_inOrder 3 = .ok (.aload_n 0, 1) := by decide +kernel
theorem dX9_inOrder_4 : decode cX9_inOrder 4 = .ok (.getfield 83, 3) := by decide +kernel
theorem dX9_inOrder_7 : decode cX9_inOrder 7 = .ok (.idiv, 1) := by decide +kernel
theorem dX9_inOrder_8 : decode cX9_inOrder 8 = .ok (.imul, 1) := by decide +kernel
theorem dX9_inOrder_9 : decode cX9_inOrder 9 = .ok (.iload_n 1, 1) := by decide +kernel
theorem dX9_inOrder_10 : decode cX9_inOrder 10 = .ok (.aload_n 0, 1) := by decide +kernel
theorem dX9_inOrder_11 : decode cX9_inOrder 11 = .ok (.getfield 83, 3) := by decide +kernel
theorem dX9_inOrder_14 : decode cX9_inOrder 14 = .ok (.irem, 1) := by decide +kernel
theorem dX9_inOrder_15 : decode cX9_inOrder 15 = .ok (.iadd, 1) := by decide +kernel
theorem dX9_inOrder_16 : decode cX9_inOrder 16 = .ok (.ireturn, 1) := by decide +kernel
theorem dX9_isNew_0 : decode cX9_isNew 0 = .ok (.aload_n 0, 1) := by decide +kernel
theorem dX9_isNew_1 : decode cX9_isNew 1 = .ok (.iconst 0, 1) := by decide +kernel
theorem dX9_isNew_2 : decode cX9_isNew 2 = .ok (.putfield 101, 3) := by decide +kernel
theorem dX9_isNew_5 : decode cX9_isNew 5 = .ok (.aload_n 0, 1) := by decide +kernel
theorem dX9_isNew_6 : decode cX9_isNew 6 = .ok (.iconst 0, 1) := by decide +kernel
theorem dX9_isNew_7 : decode cX9_isNew 7 = .ok (.putfield 105, 3) := by decide +kernel
theorem dX9_isNew_10 : decode cX9_isNew 10 = .ok (.aload_n 0, 1) := by decide +kernel
theorem dX9_isNew_11 : decode cX9_isNew 11 = .ok (.iconst (-1), 1) := by decide +kernel
theorem dX9_isNew_12 : decode cX9_isNew 12 = .ok (.putfield 28, 3) := by decide +kernel
theorem dX9_isNew_15 : decode cX9_isNew 15 = .ok (.iconst 0, 1) := by decide +kernel
theorem dX9_isNew_16 : decode cX9_isNew 16 = .ok (.istore_n 1, 1) := by decide +kernel
theorem dX9_isNew_17 : decode cX9_isNew 17 = .ok (.iload_n 1, 1) := by decide +kernel
theorem dX9_isNew_18 : decode cX9_isNew 18 = .ok (.sipush 144, 3) := by decide +kernel
theorem dX9_isNew_21 : decode cX9_isNew 21 = .ok (.if_icmp .ge 16, 3) := by decide +kernel
theorem dX9_isNew_24 : decode cX9_isNew 24 = .ok (.aload_n 0, 1) := by decide +kernel
theorem dX9_isNew_25 : decode cX9_isNew 25 = .ok (.getfield 19, 3) := by decide +kernel
theorem dX9_isNew_28 : decode cX9_isNew 28 = .ok (.iload_n 1, 1) := by decide +kernel
theorem dX9_isNew_29 : decode cX9_isNew 29 = .ok (.iconst (-1), 1) := by decide +kernel
theorem dX9_isNew_30 : decode cX9_isNew 30 = .ok (.iastore, 1) := by decide +kernel
theorem dX9_isNew_31 : decode cX9_isNew 31 = .ok (.iinc 1 1, 3) := by decide +kernel
theorem dX9_isNew_34 : decode cX9_isNew 34 = .ok (.goto (-17), 3) := by decide +kernel
theorem dX9_isNew_37 : decode cX9_isNew 37 = .ok (.return_, 1) := by decide +kernel
theorem dX9_noMarks_0 : decode cX9_noMarks 0 = .ok (.iconst 0, 1) := by decide +kernel
theorem dX9_noMarks_1 : decode cX9_noMarks 1 = .ok (.istore_n 1, 1) := by decide +kernel
theorem dX9_noMarks_2 : decode cX9_noMarks 2 = .ok (.iload_n 1, 1) := by decide +kernel
theorem dX9_noMarks_3 : decode cX9_noMarks 3 = .ok (.sipush 144, 3) := by decide +kernel
theorem dX9_noMarks_6 : decode cX9_noMarks 6 = .ok (.if_icmp .ge 16, 3) := by decide +kernel
theorem dX9_noMarks_9 : decode cX9_noMarks 9 = .ok (.aload_n 0, 1) := by decide +kernel
theorem dX9_noMarks_10 : decode cX9_noMarks 10 = .ok (.getfield 22, 3) := by decide +kernel
theorem dX9_noMarks_13 : decode cX9_noMarks 13 = .ok (.iload_n 1, 1) := by decide +kernel
theorem dX9_noMarks_14 : decode cX9_noMarks 14 = .ok (.iconst (-1), 1) := by decide +kernel
theorem dX9_noMarks_15 : decode cX9_noMarks 15 = .ok (.iastore, 1) := by decide +kernel
theorem dX9_noMarks_16 : decode cX9_noMarks 16 = .ok (.iinc 1 1, 3) := by decide +kernel
theorem dX9_noMarks_19 : decode cX9_noMarks 19 = .ok (.goto (-17), 3) := by decide +kernel
theorem dX9_noMarks_22 : decode cX9_noMarks 22 = .ok (.return_, 1) := by decide +kernel
theorem dX9_runMany_0 : decode cX9_runMany 0 = .ok (.iconst 0, 1) := by decide +kernel
theorem dX9_runMany_1 : decode cX9_runMany 1 = .ok (.istore_n 1, 1) := by decide +kernel
theorem dX9_runMany_2 : decode cX9_runMany 2 = .ok (.iconst 0, 1) := by decide +kernel
theorem dX9_runMany_3 : decode cX9_runMany 3 = .ok (.istore_n 2, 1) := by decide +kernel
theorem dX9_runMany_4 : decode cX9_runMany 4 = .ok (.iload_n 2, 1) := by decide +kernel
theorem dX9_runMany_5 : decode cX9_runMany 5 = .ok (.aload_n 0, 1) := by decide +kernel
theorem dX9_runMany_6 : decode cX9_runMany 6 = .ok (.invokevirtual 93, 3) := by decide +kernel
theorem dX9_runMany_9 : decode cX9_runMany 9 = .ok (.if_icmp .ge 18, 3) := by decide +kernel
theorem dX9_runMany_12 : decode cX9_runMany 12 = .ok (.iload_n 1, 1) := by decide +kernel
theorem dX9_runMany_13 : decode cX9_runMany 13 = .ok (.aload_n 0, 1) := by decide +kernel
theorem dX9_runMany_14 : decode cX9_runMany 14 = .ok (.getfield 9, 3) := by decide +kernel
theorem dX9_runMany_17 : decode cX9_runMany 17 = .ok (.iload_n 2, 1) := by decide +kernel
theorem dX9_runMany_18 : decode cX9_runMany 18 = .ok (.iaload, 1) := by decide +kernel
theorem dX9_runMany_19 : decode cX9_runMany 19 = .ok (.iadd, 1) := by decide +kernel
theorem dX9_runMany_20 : decode cX9_runMany 20 = .ok (.istore_n 1, 1) := by decide +kernel
theorem dX9_runMany_21 : decode cX9_runMany 21 = .ok (.iinc 2 1, 3) := by decide +kernel
theorem dX9_runMany_24 : decode cX9_runMany 24 = .ok (.goto (-20), 3) := by decide +kernel
theorem dX9_runMany_27 : decode cX9_runMany 27 = .ok (.iload_n 1, 1) := by decide +kernel
theorem dX9_runMany_28 : decode cX9_runMany 28 = .ok (.ireturn, 1) := by decide +kernel
theorem dX9_four_0 : decode cX9_four 0 = .ok (.iconst 3, 1) := by decide +kernel
theorem dX9_four_1 : decode cX9_four 1 = .ok (.istore_n 2, 1) := by decide +kernel
theorem dX9_four_2 : decode cX9_four 2 = .ok (.iload_n 2, 1) := by decide +kernel
theorem dX9_four_3 : decode cX9_four 3 = .ok (.ifCond .lt 38, 3) := by decide +kernel
theorem dX9_four_6 : decode cX9_four 6 = .ok (.aload_n 0, 1) := by decide +kernel
theorem dX9_four_7 : decode cX9_four 7 = .ok (.getfield 35, 3) := by decide +kernel
theorem dX9_four_10 : decode cX9_four 10 = .ok (.aload_n 0, 1) := by decide +kernel
theorem dX9_four_11 : decode cX9_four 11 = .ok (.getfield 108, 3) := by decide +kernel
theorem dX9_four_14 : decode cX9_four 14 = .ok (.iload_n 1, 1) := by decide +kernel
theorem dX9_four_15 : decode cX9_four 15 = .ok (.bipush 8, 2) := by decide +kernel
theorem dX9_four_17 : decode cX9_four 17 = .ok (.iload_n 2, 1) := by decide +kernel
theorem dX9_four_18 : decode cX9_four 18 = .ok (.imul, 1) := by decide +kernel
theorem dX9_four_19 : decode cX9_four 19 = .ok (.ishr, 1) := by decide +kernel
theorem dX9_four_20 : decode cX9_four 20 = .ok (.sipush 255, 3) := by decide +kernel
theorem dX9_four_23 : decode cX9_four 23 = .ok (.iand, 1) := by decide +kernel
theorem dX9_four_24 : decode cX9_four 24 = .ok (.iastore, 1) := by decide +kernel
theorem dX9_four_25 : decode cX9_four 25 = .ok (.aload_n 0, 1) := by decide +kernel
theorem dX9_four_26 : decode cX9_four 26 = .ok (.dup, 1) := by decide +kernel
theorem dX9_four_27 : decode cX9_four 27 = .ok (.getfield 108, 3) := by decide +kernel
theorem dX9_four_30 : decode cX9_four 30 = .ok (.iconst 1, 1) := by decide +kernel
theorem dX9_four_31 : decode cX9_four 31 = .ok (.iadd, 1) := by decide +kernel
theorem dX9_four_32 : decode cX9_four 32 = .ok (.putfield 108, 3) := by decide +kernel
theorem dX9_four_35 : decode cX9_four 35 = .ok (.iinc 2 (-1), 3) := by decide +kernel
theorem dX9_four_38 : decode cX9_four 38 = .ok (.goto (-36), 3) := by decide +kernel
theorem dX9_four_41 : decode cX9_four 41 = .ok (.return_, 1) := by decide +kernel
theorem dX9_feed_0 : decode cX9_feed 0 = .ok (.aload_n 0, 1) := by decide +kernel
theorem dX9_feed_1 : decode cX9_feed 1 = .ok (.iconst 0, 1) := by decide +kernel
theorem dX9_feed_2 : decode cX9_feed 2 = .ok (.putfield 80, 3) := by decide +kernel
theorem dX9_feed_5 : decode cX9_feed 5 = .ok (.aload_n 0, 1) := by decide +kernel
theorem dX9_feed_6 : decode cX9_feed 6 = .ok (.getfield 108, 3) := by decide +kernel
theorem dX9_feed_9 : decode cX9_feed 9 = .ok (.bipush 20, 2) := by decide +kernel
theorem dX9_feed_11 : decode cX9_feed 11 = .ok (.iadd, 1) := by decide +kernel
theorem dX9_feed_12 : decode cX9_feed 12 = .ok (.sipush 900, 3) := by decide +kernel
theorem dX9_feed_15 : decode cX9_feed 15 = .ok (.if_icmp .le 5, 3) := by decide +kernel
theorem dX9_feed_18 : decode cX9_feed 18 = .ok (.iconst (-1), 1) := by decide +kernel
theorem dX9_feed_19 : decode cX9_feed 19 = .ok (.ireturn, 1) := by decide +kernel
theorem dX9_feed_20 : decode cX9_feed 20 = .ok (.aload_n 0, 1) := by decide +kernel
theorem dX9_feed_21 : decode cX9_feed 21 = .ok (.iload_n 1, 1) := by decide +kernel
theorem dX9_feed_22 : decode cX9_feed 22 = .ok (.invokevirtual 111, 3) := by decide +kernel
theorem dX9_feed_25 : decode cX9_feed 25 = .ok (.aload_n 0, 1) := by decide +kernel
theorem dX9_feed_26 : decode cX9_feed 26 = .ok (.iload_n 2, 1) := by decide +kernel
theorem dX9_feed_27 : decode cX9_feed 27 = .ok (.invokevirtual 111, 3) := by decide +kernel
theorem dX9_feed_30 : decode cX9_feed 30 = .ok (.aload_n 0, 1) := by decide +kernel
theorem dX9_feed_31 : decode cX9_feed 31 = .ok (.iload_n 3, 1) := by decide +kernel
theorem dX9_feed_32 : decode cX9_feed 32 = .ok (.invokevirtual 111, 3) := by decide +kernel
theorem dX9_feed_35 : decode cX9_feed 35 = .ok (.aload_n 0, 1) := by decide +kernel
theorem dX9_feed_36 : decode cX9_feed 36 = .ok (.iload 4, 2) := by decide +kernel
theorem dX9_feed_38 : decode cX9_feed 38 = .ok (.invokevirtual 111, 3) := by decide +kernel
theorem dX9_feed_41 : decode cX9_feed 41 = .ok (.aload_n 0, 1) := by decide +kernel
theorem dX9_feed_42 : decode cX9_feed 42 = .ok (.iload 5, 2) := by decide +kernel
theorem dX9_feed_44 : decode cX9_feed 44 = .ok (.invokevirtual 111, 3) := by decide +kernel
theorem dX9_feed_47 : decode cX9_feed 47 = .ok (.aload_n 0, 1) := by decide +kernel
theorem dX9_feed_48 : decode cX9_feed 48 = .ok (.getfield 108, 3) := by decide +kernel
theorem dX9_feed_51 : decode cX9_feed 51 = .ok (.ireturn, 1) := by decide +kernel
theorem dX9_end_0 : decode cX9_end 0 = .ok (.aload_n 0, 1) := by decide +kernel
theorem dX9_end_1 : decode cX9_end 1 = .ok (.iconst 0, 1) := by decide +kernel
theorem dX9_end_2 : decode cX9_end 2 = .ok (.putfield 80, 3) := by decide +kernel
theorem dX9_end_5 : decode cX9_end 5 = .ok (.iload_n 1, 1) := by decide +kernel
theorem dX9_end_6 : decode cX9_end 6 = .ok (.iconst 0, 1) := by decide +kernel
theorem dX9_end_7 : decode cX9_end 7 = .ok (.aload_n 0, 1) := by decide +kernel
theorem dX9_end_8 : decode cX9_end 8 = .ok (.getfield 108, 3) := by decide +kernel
theorem dX9_end_11 : decode cX9_end 11 = .ok (.invokestatic 97, 3) := by decide +kernel
theorem dX9_end_14 : decode cX9_end 14 = .ok (.ifCond .ne 5, 3) := by decide +kernel
theorem dX9_end_17 : decode cX9_end 17 = .ok (.iconst (-1), 1) := by decide +kernel
theorem dX9_end_18 : decode cX9_end 18 = .ok (.ireturn, 1) := by decide +kernel
theorem dX9_end_19 : decode cX9_end 19 = .ok (.aload_n 0, 1) := by decide +kernel
theorem dX9_end_20 : decode cX9_end 20 = .ok (.iload_n 1, 1) := by decide +kernel
theorem dX9_end_21 : decode cX9_end 21 = .ok (.putfield 108, 3) := by decide +kernel
theorem dX9_end_24 : decode cX9_end 24 = .ok (.iload_n 1, 1) := by decide +kernel
theorem dX9_end_25 : decode cX9_end 25 = .ok (.ireturn, 1) := by decide +kernel
theorem dX9_fails_0 : decode cX9_fails 0 = .ok (.aload_n 0, 1) := by decide +kernel
theorem dX9_fails_1 : decode cX9_fails 1 = .ok (.getfield 115, 3) := by decide +kernel
theorem dX9_fails_4 : decode cX9_fails 4 = .ok (.ifCond .le 4, 3) := by decide +kernel
theorem dX9_fails_7 : decode cX9_fails 7 = .ok (.return_, 1) := by decide +kernel
theorem dX9_fails_8 : decode cX9_fails 8 = .ok (.aload_n 0, 1) := by decide +kernel
theorem dX9_fails_9 : decode cX9_fails 9 = .ok (.iload_n 1, 1) := by decide +kernel
theorem dX9_fails_10 : decode cX9_fails 10 = .ok (.putfield 115, 3) := by decide +kernel
theorem dX9_fails_13 : decode cX9_fails 13 = .ok (.aload_n 0, 1) := by decide +kernel
theorem dX9_fails_14 : decode cX9_fails 14 = .ok (.iload_n 2, 1) := by decide +kernel
theorem dX9_fails_15 : decode cX9_fails 15 = .ok (.putfield 118, 3) := by decide +kernel
theorem dX9_fails_18 : decode cX9_fails 18 = .ok (.return_, 1) := by decide +kernel
theorem dX9_good_0 : decode cX9_good 0 = .ok (.aload_n 0, 1) := by decide +kernel
theorem dX9_good_1 : decode cX9_good 1 = .ok (.getfield 115, 3) := by decide +kernel
theorem dX9_good_4 : decode cX9_good 4 = .ok (.ifCond .ne 7, 3) := by decide +kernel
theorem dX9_good_7 : decode cX9_good 7 = .ok (.iconst 1, 1) := by decide +kernel
theorem dX9_good_8 : decode cX9_good 8 = .ok (.goto 4, 3) := by decide +kernel
theorem dX9_good_11 : decode cX9_good 11 = .ok (.iconst 0, 1) := by decide +kernel
theorem dX9_good_12 : decode cX9_good 12 = .ok (.ireturn, 1) := by decide +kernel
theorem dX9_token_0 : decode cX9_token 0 = .ok (.aload_n 0, 1) := by decide +kernel
theorem dX9_token_1 : decode cX9_token 1 = .ok (.getfield 38, 3) := by decide +kernel
theorem dX9_token_4 : decode cX9_token 4 = .ok (.aload_n 0, 1) := by decide +kernel
theorem dX9_token_5 : decode cX9_token 5 = .ok (.getfield 121, 3) := by decide +kernel
theorem dX9_token_8 : decode cX9_token 8 = .ok (.iload_n 1, 1) := by decide +kernel
theorem dX9_token_9 : decode cX9_token 9 = .ok (.iastore, 1) := by decide +kernel
theorem dX9_token_10 : decode cX9_token 10 = .ok (.aload_n 0, 1) := by decide +kernel
theorem dX9_token_11 : decode cX9_token 11 = .ok (.getfield 41, 3) := by decide +kernel
theorem dX9_token_14 : decode cX9_token 14 = .ok (.aload_n 0, 1) := by decide +kernel
theorem dX9_token_15 : decode cX9_token 15 = .ok (.getfield 121, 3) := by decide +kernel
theorem dX9_token_18 : decode cX9_token 18 = .ok (.iload_n 2, 1) := by decide +kernel
theorem dX9_token_19 : decode cX9_token 19 = .ok (.iastore, 1) := by decide +kernel
theorem dX9_token_20 : decode cX9_token 20 = .ok (.aload_n 0, 1) := by decide +kernel
theorem dX9_token_21 : decode cX9_token 21 = .ok (.getfield 44, 3) := by decide +kernel
theorem dX9_token_24 : decode cX9_token 24 = .ok (.aload_n 0, 1) := by decide +kernel
theorem dX9_token_25 : decode cX9_token 25 = .ok (.getfield 121, 3) := by decide +kernel
theorem dX9_token_28 : decode cX9_token 28 = .ok (.iload_n 3, 1) := by decide +kernel
theorem dX9_token_29 : decode cX9_token 29 = .ok (.iastore, 1) := by decide +kernel
theorem dX9_token_30 : decode cX9_token 30 = .ok (.aload_n 0, 1) := by decide +kernel
theorem dX9_token_31 : decode cX9_token 31 = .ok (.dup, 1) := by decide +kernel
theorem dX9_token_32 : decode cX9_token 32 = .ok (.getfield 121, 3) := by decide +kernel
theorem dX9_token_35 : decode cX9_token 35 = .ok (.iconst 1, 1) := by decide +kernel
theorem dX9_token_36 : decode cX9_token 36 = .ok (.iadd, 1) := by decide +kernel
theorem dX9_token_37 : decode cX9_token 37 = .ok (.putfield 121, 3) := by decide +kernel
theorem dX9_token_40 : decode cX9_token 40 = .ok (.return_, 1) := by decide +kernel
theorem dX9_cut_0 : decode cX9_cut 0 = .ok (.aload_n 0, 1) := by decide +kernel
theorem dX9_cut_1 : decode cX9_cut 1 = .ok (.iconst 0, 1) := by decide +kernel
theorem dX9_cut_2 : decode cX9_cut 2 = .ok (.putfield 121, 3) := by decide +kernel
theorem dX9_cut_5 : decode cX9_cut 5 = .ok (.iconst 0, 1) := by decide +kernel
theorem dX9_cut_6 : decode cX9_cut 6 = .ok (.istore_n 1, 1) := by decide +kernel
theorem dX9_cut_7 : decode cX9_cut 7 = .ok (.iload_n 1, 1) := by decide +kernel
theorem dX9_cut_8 : decode cX9_cut 8 = .ok (.aload_n 0, 1) := by decide +kernel
theorem dX9_cut_9 : decode cX9_cut 9 = .ok (.getfield 108, 3) := by decide +kernel
theorem dX9_cut_12 : decode cX9_cut 12 = .ok (.if_icmp .ge 183, 3) := by decide +kernel
theorem dX9_cut_15 : decode cX9_cut 15 = .ok (.aload_n 0, 1) := by decide +kernel
theorem dX9_cut_16 : decode cX9_cut 16 = .ok (.invokevirtual 124, 3) := by decide +kernel
theorem dX9_cut_19 : decode cX9_cut 19 = .ok (.ifCond .eq 176, 3) := by decide +kernel
theorem dX9_cut_22 : decode cX9_cut 22 = .ok (.aload_n 0, 1) := by decide +kernel
theorem dX9_cut_23 : decode cX9_cut 23 = .ok (.getfield 35, 3) := by decide +kernel
theorem dX9_cut_26 : decode cX9_cut 26 = .ok (.iload_n 1, 1) := by decide +kernel
theorem dX9_cut_27 : decode cX9_cut 27 = .ok (.iaload, 1) := by decide +kernel
theorem dX9_cut_28 : decode cX9_cut 28 = .ok (.istore_n 2, 1) := by decide +kernel
theorem dX9_cut_29 : decode cX9_cut 29 = .ok (.iload_n 1, 1) := by decide +kernel
theorem dX9_cut_30 : decode cX9_cut 30 = .ok (.istore_n 3, 1) := by decide +kernel
theorem dX9_cut_31 : decode cX9_cut 31 = .ok (.iinc 1 1, 3) := by decide +kernel
theorem dX9_cut_34 : decode cX9_cut 34 = .ok (.iload_n 2, 1) := by decide +kernel
theorem dX9_cut_35 : decode cX9_cut 35 = .ok (.bipush 32, 2) := by decide +kernel
theorem dX9_cut_37 : decode cX9_cut 37 = .ok (.if_icmp .eq (-30), 3) := by decide +kernel
theorem dX9_cut_40 : decode cX9_cut 40 = .ok (.iload_n 2, 1) := by decide +kernel
theorem dX9_cut_41 : decode cX9_cut 41 = .ok (.bipush 10, 2) := by decide +kernel
theorem dX9_cut_43 : decode cX9_cut 43 = .ok (.if_icmp .ne 6, 3) := by decide +kernel
theorem dX9_cut_46 : decode cX9_cut 46 = .ok (.goto (-39), 3) := by decide +kernel
theorem dX9_cut_49 : decode cX9_cut 49 = .ok (.iload_n 2, 1) := by decide +kernel
theorem dX9_cut_50 : decode cX9_cut 50 = .ok (.bipush 48, 2) := by decide +kernel
theorem dX9_cut_52 : decode cX9_cut 52 = .ok (.bipush 57, 2) := by decide +kernel
theorem dX9_cut_54 : decode cX9_cut 54 = .ok (.invokestatic 97, 3) := by decide +kernel
theorem dX9_cut_57 : decode cX9_cut 57 = .ok (.ifCond .eq 87, 3) := by decide +kernel
theorem dX9_cut_60 : decode cX9_cut 60 = .ok (.iload_n 2, 1) := by decide +kernel
theorem dX9_cut_61 : decode cX9_cut 61 = .ok (.bipush 48, 2) := by decide +kernel
theorem dX9_cut_63 : decode cX9_cut 63 = .ok (.isub, 1) := by decide +kernel
theorem dX9_cut_64 : decode cX9_cut 64 = .ok (.istore 4, 2) := by decide +kernel
theorem dX9_cut_66 : decode cX9_cut 66 = .ok (.iload_n 1, 1) := by decide +kernel
theorem dX9_cut_67 : decode cX9_cut 67 = .ok (.aload_n 0, 1) := by decide +kernel
theorem dX9_cut_68 : decode cX9_cut 68 = .ok (.getfield 108, 3) := by decide +kernel
theorem dX9_cut_71 : decode cX9_cut 71 = .ok (.if_icmp .ge 49, 3) := by decide +kernel
theorem dX9_cut_74 : decode cX9_cut 74 = .ok (.aload_n 0, 1) := by decide +kernel
theorem dX9_cut_75 : decode cX9_cut 75 = .ok (.getfield 35, 3) := by decide +kernel
theorem dX9_cut_78 : decode cX9_cut 78 = .ok (.iload_n 1, 1) := by decide +kernel
theorem dX9_cut_79 : decode cX9_cut 79 = .ok (.iaload, 1) := by decide +kernel
theorem dX9_cut_80 : decode cX9_cut 80 = .ok (.bipush 48, 2) := by decide +kernel
theorem dX9_cut_82 : decode cX9_cut 82 = .ok (.bipush 57, 2) := by decide +kernel
theorem dX9_cut_84 : decode cX9_cut 84 = .ok (.invokestatic 97, 3) := by decide +kernel
theorem dX9_cut_87 : decode cX9_cut 87 = .ok (.ifCond .eq 33, 3) := by decide +kernel
theorem dX9_cut_90 : decode cX9_cut 90 = .ok (.iload_n 1, 1) := by decide +kernel
theorem dX9_cut_91 : decode cX9_cut 91 = .ok (.iload_n 3, 1) := by decide +kernel
theorem dX9_cut_92 : decode cX9_cut 92 = .ok (.isub, 1) := by decide +kernel
theorem dX9_cut_93 : decode cX9_cut 93 = .ok (.iconst 2, 1) := by decide +kernel
theorem dX9_cut_94 : decode cX9_cut 94 = .ok (.if_icmp .ge 20, 3) := by decide +kernel
theorem dX9_cut_97 : decode cX9_cut 97 = .ok (.bipush 10, 2) := by decide +kernel
theorem dX9_cut_99 : decode cX9_cut 99 = .ok (.iload 4, 2) := by decide +kernel
theorem dX9_cut_101 : decode cX9_cut 101 = .ok (.imul, 1) := by decide +kernel
theorem dX9_cut_102 : decode cX9_cut 102 = .ok (.aload_n 0, 1) := by decide +kernel
theorem dX9_cut_103 : decode cX9_cut 103 = .ok (.getfield 35, 3) := by decide +kernel
theorem dX9_cut_106 : decode cX9_cut 106 = .ok (.iload_n 1, 1) := by decide +kernel
theorem dX9_cut_107 : decode cX9_cut 107 = .ok (.iaload, 1) := by decide +kernel
theorem dX9_cut_108 : decode cX9_cut 108 = .ok (.iadd, 1) := by decide +kernel
theorem dX9_cut_109 : decode cX9_cut 109 = .ok (.bipush 48, 2) := by decide +kernel
theorem dX9_cut_111 : decode cX9_cut 111 = .ok (.isub, 1) := by decide +kernel
theorem dX9_cut_112 : decode cX9_cut 112 = .ok (.istore 4, 2) := by decide +kernel
theorem dX9_cut_114 : decode cX9_cut 114 = .ok (.iinc 1 1, 3) := by decide +kernel
theorem dX9_cut_117 : decode cX9_cut 117 = .ok (.goto (-51), 3) := by decide +kernel
theorem dX9_cut_120 : decode cX9_cut 120 = .ok (.iload_n 1, 1) := by decide +kernel
theorem dX9_cut_121 : decode cX9_cut 121 = .ok (.iload_n 3, 1) := by decide +kernel
theorem dX9_cut_122 : decode cX9_cut 122 = .ok (.isub, 1) := by decide +kernel
theorem dX9_cut_123 : decode cX9_cut 123 = .ok (.iconst 2, 1) := by decide +kernel
theorem dX9_cut_124 : decode cX9_cut 124 = .ok (.if_icmp .le 9, 3) := by decide +kernel
theorem dX9_cut_127 : decode cX9_cut 127 = .ok (.aload_n 0, 1) := by decide +kernel
theorem dX9_cut_128 : decode cX9_cut 128 = .ok (.iconst 1, 1) := by decide +kernel
theorem dX9_cut_129 : decode cX9_cut 129 = .ok (.iload_n 3, 1) := by decide +kernel
theorem dX9_cut_130 : decode cX9_cut 130 = .ok (.invokevirtual 127, 3) := by decide +kernel
theorem dX9_cut_133 : decode cX9_cut 133 = .ok (.aload_n 0, 1) := by decide +kernel
theorem dX9_cut_134 : decode cX9_cut 134 = .ok (.iconst 0, 1) := by decide +kernel
theorem dX9_cut_135 : decode cX9_cut 135 = .ok (.iload_n 3, 1) := by decide +kernel
theorem dX9_cut_136 : decode cX9_cut 136 = .ok (.iload 4, 2) := by decide +kernel
theorem dX9_cut_138 : decode cX9_cut 138 = .ok (.invokevirtual 131, 3) := by decide +kernel
theorem dX9_cut_141 : decode cX9_cut 141 = .ok (.goto 51, 3) := by decide +kernel
theorem dX9_cut_144 : decode cX9_cut 144 = .ok (.iload_n 2, 1) := by decide +kernel
theorem dX9_cut_145 : decode cX9_cut 145 = .ok (.bipush 97, 2) := by decide +kernel
theorem dX9_cut_147 : decode cX9_cut 147 = .ok (.bipush 99, 2) := by decide +kernel
theorem dX9_cut_149 : decode cX9_cut 149 = .ok (.invokestatic 97, 3) := by decide +kernel
theorem dX9_cut_152 : decode cX9_cut 152 = .ok (.ifCond .eq 18, 3) := by decide +kernel
theorem dX9_cut_155 : decode cX9_cut 155 = .ok (.aload_n 0, 1) := by decide +kernel
theorem dX9_cut_156 : decode cX9_cut 156 = .ok (.iconst 1, 1) := by decide +kernel
theorem dX9_cut_157 : decode cX9_cut 157 = .ok (.iload_n 3, 1) := by decide +kernel
theorem dX9_cut_158 : decode cX9_cut 158 = .ok (.iload_n 2, 1) := by decide +kernel
theorem dX9_cut_159 : decode cX9_cut 159 = .ok (.bipush 97, 2) := by decide +kernel
theorem dX9_cut_161 : decode cX9_cut 161 = .ok (.isub, 1) := by decide +kernel
theorem dX9_cut_162 : decode cX9_cut 162 = .ok (.iconst 1, 1) := by decide +kernel
theorem dX9_cut_163 : decode cX9_cut 163 = .ok (.iadd, 1) := by decide +kernel
theorem dX9_cut_164 : decode cX9_cut 164 = .ok (.invokevirtual 131, 3) := by decide +kernel
theorem dX9_cut_167 : decode cX9_cut 167 = .ok (.goto 25, 3) := by decide +kernel
theorem dX9_cut_170 : decode cX9_cut 170 = .ok (.iload_n 2, 1) := by decide +kernel
theorem dX9_cut_171 : decode cX9_cut 171 = .ok (.bipush 59, 2) := by decide +kernel
theorem dX9_cut_173 : decode cX9_cut 173 = .ok (.if_icmp .ne 13, 3) := by decide +kernel
theorem dX9_cut_176 : decode cX9_cut 176 = .ok (.aload_n 0, 1) := by decide +kernel
theorem dX9_cut_177 : decode cX9_cut 177 = .ok (.iconst 2, 1) := by decide +kernel
theorem dX9_cut_178 : decode cX9_cut 178 = .ok (.iload_n 3, 1) := by decide +kernel
theorem dX9_cut_179 : decode cX9_cut 179 = .ok (.iconst 0, 1) := by decide +kernel
theorem dX9_cut_180 : decode cX9_cut 180 = .ok (.invokevirtual 131, 3) := by decide +kernel
theorem dX9_cut_183 : decode cX9_cut 183 = .ok (.goto 9, 3) := by decide +kernel
theorem dX9_cut_186 : decode cX9_cut 186 = .ok (.aload_n 0, 1) := by decide +kernel
theorem dX9_cut_187 : decode cX9_cut 187 = .ok (.iconst 1, 1) := by decide +kernel
theorem dX9_cut_188 : decode cX9_cut 188 = .ok (.iload_n 3, 1) := by decide +kernel
theorem dX9_cut_189 : decode cX9_cut 189 = .ok (.invokevirtual 127, 3) := by decide +kernel
theorem dX9_cut_192 : decode cX9_cut 192 = .ok (.goto (-185), 3) := by decide +kernel
theorem dX9_cut_195 : decode cX9_cut 195 = .ok (.aload_n 0, 1) := by decide +kernel
theorem dX9_cut_196 : decode cX9_cut 196 = .ok (.iconst 3, 1) := by decide +kernel
theorem dX9_cut_197 : decode cX9_cut 197 = .ok (.aload_n 0, 1) := by decide +kernel
theorem dX9_cut_198 : decode cX9_cut 198 = .ok (.getfield 108, 3) := by decide +kernel
theorem dX9_cut_201 : decode cX9_cut 201 = .ok (.iconst 0, 1) := by decide +kernel
theorem dX9_cut_202 : decode cX9_cut 202 = .ok (.invokevirtual 131, 3) := by decide +kernel
theorem dX9_cut_205 : decode cX9_cut 205 = .ok (.return_, 1) := by decide +kernel
theorem dX9_number_0 : decode cX9_number 0 = .ok (.aload_n 0, 1) := by decide +kernel
theorem dX9_number_1 : decode cX9_number 1 = .ok (.invokevirtual 124, 3) := by decide +kernel
theorem dX9_number_4 : decode cX9_number 4 = .ok (.ifCond .ne 5, 3) := by decide +kernel
theorem dX9_number_7 : decode cX9_number 7 = .ok (.iload_n 1, 1) := by decide +kernel
theorem dX9_number_8 : decode cX9_number 8 = .ok (.ireturn, 1) := by decide +kernel
theorem dX9_number_9 : decode cX9_number 9 = .ok (.aload_n 0, 1) := by decide +kernel
theorem dX9_number_10 : decode cX9_number 10 = .ok (.getfield 38, 3) := by decide +kernel
theorem dX9_number_13 : decode cX9_number 13 = .ok (.aload_n 0, 1) := by decide +kernel
theorem dX9_number_14 : decode cX9_number 14 = .ok (.getfield 135, 3) := by decide +kernel
theorem dX9_number_17 : decode cX9_number 17 = .ok (.iaload, 1) := by decide +kernel
theorem dX9_number_18 : decode cX9_number 18 = .ok (.ifCond .eq 20, 3) := by decide +kernel
theorem dX9_number_21 : decode cX9_number 21 = .ok (.aload_n 0, 1) := by decide +kernel
theorem dX9_number_22 : decode cX9_number 22 = .ok (.iconst 2, 1) := by decide +kernel
theorem dX9_number_23 : decode cX9_number 23 = .ok (.aload_n 0, 1) := by decide +kernel
theorem dX9_number_24 : decode cX9_number 24 = .ok (.getfield 41, 3) := by decide +kernel
theorem dX9_number_27 : decode cX9_number 27 = .ok (.aload_n 0, 1) := by decide +kernel
theorem dX9_number_28 : decode cX9_number 28 = .ok (.getfield 135, 3) := by decide +kernel
theorem dX9_number_31 : decode cX9_number 31 = .ok (.iaload, 1) := by decide +kernel
theorem dX9_number_32 : decode cX9_number 32 = .ok (.invokevirtual 127, 3) := by decide +kernel
theorem dX9_number_35 : decode cX9_number 35 = .ok (.goto 34, 3) := by decide +kernel
theorem dX9_number_38 : decode cX9_number 38 = .ok (.aload_n 0, 1) := by decide +kernel
theorem dX9_number_39 : decode cX9_number 39 = .ok (.getfield 44, 3) := by decide +kernel
theorem dX9_number_42 : decode cX9_number 42 = .ok (.aload_n 0, 1) := by decide +kernel
theorem dX9_number_43 : decode cX9_number 43 = .ok (.getfield 135, 3) := by decide +kernel
theorem dX9_number_46 : decode cX9_number 46 = .ok (.iaload, 1) := by decide +kernel
theorem dX9_number_47 : decode cX9_number 47 = .ok (.iload_n 1, 1) := by decide +kernel
theorem dX9_number_48 : decode cX9_number 48 = .ok (.iload_n 2, 1) := by decide +kernel
theorem dX9_number_49 : decode cX9_number 49 = .ok (.invokestatic 97, 3) := by decide +kernel
theorem dX9_number_52 : decode cX9_number 52 = .ok (.ifCond .ne 17, 3) := by decide +kernel
theorem dX9_number_55 : decode cX9_number 55 = .ok (.aload_n 0, 1) := by decide +kernel
theorem dX9_number_56 : decode cX9_number 56 = .ok (.iconst 3, 1) := by decide +kernel
theorem dX9_number_57 : decode cX9_number 57 = .ok (.aload_n 0, 1) := by decide +kernel
theorem dX9_number_58 : decode cX9_number 58 = .ok (.getfield 41, 3) := by decide +kernel
theorem dX9_number_61 : decode cX9_number 61 = .ok (.aload_n 0, 1) := by decide +kernel
theorem dX9_number_62 : decode cX9_number 62 = .ok (.getfield 135, 3) := by decide +kernel
theorem dX9_number_65 : decode cX9_number 65 = .ok (.iaload, 1) := by decide +kernel
theorem dX9_number_66 : decode cX9_number 66 = .ok (.invokevirtual 127, 3) := by decide +kernel
theorem dX9_number_69 : decode cX9_number 69 = .ok (.aload_n 0, 1) := by decide +kernel
theorem dX9_number_70 : decode cX9_number 70 = .ok (.dup, 1) := by decide +kernel
theorem dX9_number_71 : decode cX9_number 71 = .ok (.getfield 135, 3) := by decide +kernel
theorem dX9_number_74 : decode cX9_number 74 = .ok (.iconst 1, 1) := by decide +kernel
theorem dX9_number_75 : decode cX9_number 75 = .ok (.iadd, 1) := by decide +kernel
theorem dX9_number_76 : decode cX9_number 76 = .ok (.putfield 135, 3) := by decide +kernel
theorem dX9_number_79 : decode cX9_number 79 = .ok (.aload_n 0, 1) := by decide +kernel
theorem dX9_number_80 : decode cX9_number 80 = .ok (.getfield 44, 3) := by decide +kernel
theorem dX9_number_83 : decode cX9_number 83 = .ok (.aload_n 0, 1) := by decide +kernel
theorem dX9_number_84 : decode cX9_number 84 = .ok (.getfield 135, 3) := by decide +kernel
theorem dX9_number_87 : decode cX9_number 87 = .ok (.iconst 1, 1) := by decide +kernel
theorem dX9_number_88 : decode cX9_number 88 = .ok (.isub, 1) := by decide +kernel
theorem dX9_number_89 : decode cX9_number 89 = .ok (.iaload, 1) := by decide +kernel
theorem dX9_number_90 : decode cX9_number 90 = .ok (.ireturn, 1) := by decide +kernel
theorem dX9_semi_0 : decode cX9_semi 0 = .ok (.aload_n 0, 1) := by decide +kernel
theorem dX9_semi_1 : decode cX9_semi 1 = .ok (.invokevirtual 124, 3) := by decide +kernel
theorem dX9_semi_4 : decode cX9_semi 4 = .ok (.ifCond .ne 4, 3) := by decide +kernel
theorem dX9_semi_7 : decode cX9_semi 7 = .ok (.return_, 1) := by decide +kernel
theorem dX9_semi_8 : decode cX9_semi 8 = .ok (.aload_n 0, 1) := by decide +kernel
theorem dX9_semi_9 : decode cX9_semi 9 = .ok (.getfield 38, 3) := by decide +kernel
theorem dX9_semi_12 : decode cX9_semi 12 = .ok (.aload_n 0, 1) := by decide +kernel
theorem dX9_semi_13 : decode cX9_semi 13 = .ok (.getfield 135, 3) := by decide +kernel
theorem dX9_semi_16 : decode cX9_semi 16 = .ok (.iaload, 1) := by decide +kernel
theorem dX9_semi_17 : decode cX9_semi 17 = .ok (.iconst 2, 1) := by decide +kernel
theorem dX9_semi_18 : decode cX9_semi 18 = .ok (.if_icmp .eq 17, 3) := by decide +kernel
theorem dX9_semi_21 : decode cX9_semi 21 = .ok (.aload_n 0, 1) := by decide +kernel
theorem dX9_semi_22 : decode cX9_semi 22 = .ok (.iconst 2, 1) := by decide +kernel
theorem dX9_semi_23 : decode cX9_semi 23 = .ok (.aload_n 0, 1) := by decide +kernel
theorem dX9_semi_24 : decode cX9_semi 24 = .ok (.getfield 41, 3) := by decide +kernel
theorem dX9_semi_27 : decode cX9_semi 27 = .ok (.aload_n 0, 1) := by decide +kernel
theorem dX9_semi_28 : decode cX9_semi 28 = .ok (.getfield 135, 3) := by decide +kernel
theorem dX9_semi_31 : decode cX9_semi 31 = .ok (.iaload, 1) := by decide +kernel
theorem dX9_semi_32 : decode cX9_semi 32 = .ok (.invokevirtual 127, 3) := by decide +kernel
theorem dX9_semi_35 : decode cX9_semi 35 = .ok (.aload_n 0, 1) := by decide +kernel
theorem dX9_semi_36 : decode cX9_semi 36 = .ok (.dup, 1) := by decide +kernel
theorem dX9_semi_37 : decode cX9_semi 37 = .ok (.getfield 135, 3) := by decide +kernel
theorem dX9_semi_40 : decode cX9_semi 40 = .ok (.iconst 1, 1) := by decide +kernel
theorem dX9_semi_41 : decode cX9_semi 41 = .ok (.iadd, 1) := by decide +kernel
theorem dX9_semi_42 : decode cX9_semi 42 = .ok (.putfield 135, 3) := by decide +kernel
theorem dX9_semi_45 : decode cX9_semi 45 = .ok (.return_, 1) := by decide +kernel
theorem dX9_oneRun_0 : decode cX9_oneRun 0 = .ok (.aload_n 0, 1) := by decide +kernel
theorem dX9_oneRun_1 : decode cX9_oneRun 1 = .ok (.getfield 38, 3) := by decide +kernel
theorem dX9_oneRun_4 : decode cX9_oneRun 4 = .ok (.aload_n 0, 1) := by decide +kernel
theorem dX9_oneRun_5 : decode cX9_oneRun 5 = .ok (.getfield 135, 3) := by decide +kernel
theorem dX9_oneRun_8 : decode cX9_oneRun 8 = .ok (.iaload, 1) := by decide +kernel
theorem dX9_oneRun_9 : decode cX9_oneRun 9 = .ok (.ifCond .eq 18, 3) := by decide +kernel
theorem dX9_oneRun_12 : decode cX9_oneRun 12 = .ok (.aload_n 0, 1) := by decide +kernel
theorem dX9_oneRun_13 : decode cX9_oneRun 13 = .ok (.iconst 2, 1) := by decide +kernel
theorem dX9_oneRun_14 : decode cX9_oneRun 14 = .ok (.aload_n 0, 1) := by decide +kernel
theorem dX9_oneRun_15 : decode cX9_oneRun 15 = .ok (.getfield 41, 3) := by decide +kernel
theorem dX9_oneRun_18 : decode cX9_oneRun 18 = .ok (.aload_n 0, 1) := by decide +kernel
theorem dX9_oneRun_19 : decode cX9_oneRun 19 = .ok (.getfield 135, 3) := by decide +kernel
theorem dX9_oneRun_22 : decode cX9_oneRun 22 = .ok (.iaload, 1) := by decide +kernel
theorem dX9_oneRun_23 : decode cX9_oneRun 23 = .ok (.invokevirtual 127, 3) := by decide +kernel
theorem dX9_oneRun_26 : decode cX9_oneRun 26 = .ok (.return_, 1) := by decide +kernel
theorem dX9_oneRun_27 : decode cX9_oneRun 27 = .ok (.aload_n 0, 1) := by decide +kernel
theorem dX9_oneRun_28 : decode cX9_oneRun 28 = .ok (.getfield 44, 3) := by decide +kernel
theorem dX9_oneRun_31 : decode cX9_oneRun 31 = .ok (.aload_n 0, 1) := by decide +kernel
theorem dX9_oneRun_32 : decode cX9_oneRun 32 = .ok (.getfield 135, 3) := by decide +kernel
theorem dX9_oneRun_35 : decode cX9_oneRun 35 = .ok (.iaload, 1) := by decide +kernel
theorem dX9_oneRun_36 : decode cX9_oneRun 36 = .ok (.ifCond .ne 18, 3) := by decide +kernel
theorem dX9_oneRun_39 : decode cX9_oneRun 39 = .ok (.aload_n 0, 1) := by decide +kernel
theorem dX9_oneRun_40 : decode cX9_oneRun 40 = .ok (.iconst 4, 1) := by decide +kernel
theorem dX9_oneRun_41 : decode cX9_oneRun 41 = .ok (.aload_n 0, 1) := by decide +kernel
theorem dX9_oneRun_42 : decode cX9_oneRun 42 = .ok (.getfield 41, 3) := by decide +kernel
theorem dX9_oneRun_45 : decode cX9_oneRun 45 = .ok (.aload_n 0, 1) := by decide +kernel
theorem dX9_oneRun_46 : decode cX9_oneRun 46 = .ok (.getfield 135, 3) := by decide +kernel
theorem dX9_oneRun_49 : decode cX9_oneRun 49 = .ok (.iaload, 1) := by decide +kernel
theorem dX9_oneRun_50 : decode cX9_oneRun 50 = .ok (.invokevirtual 127, 3) := by decide +kernel
theorem dX9_oneRun_53 : decode cX9_oneRun 53 = .ok (.return_, 1) := by decide +kernel
theorem dX9_oneRun_54 : decode cX9_oneRun 54 = .ok (.aload_n 0, 1) := by decide +kernel
theorem dX9_oneRun_55 : decode cX9_oneRun 55 = .ok (.getfield 47, 3) := by decide +kernel
theorem dX9_oneRun_58 : decode cX9_oneRun 58 = .ok (.iload_n 1, 1) := by decide +kernel
theorem dX9_oneRun_59 : decode cX9_oneRun 59 = .ok (.iaload, 1) := by decide +kernel
theorem dX9_oneRun_60 : decode cX9_oneRun 60 = .ok (.bipush 12, 2) := by decide +kernel
theorem dX9_oneRun_62 : decode cX9_oneRun 62 = .ok (.if_icmp .ne 18, 3) := by decide +kernel
theorem dX9_oneRun_65 : decode cX9_oneRun 65 = .ok (.aload_n 0, 1) := by decide +kernel
theorem dX9_oneRun_66 : decode cX9_oneRun 66 = .ok (.iconst 5, 1) := by decide +kernel
theorem dX9_oneRun_67 : decode cX9_oneRun 67 = .ok (.aload_n 0, 1) := by decide +kernel
theorem dX9_oneRun_68 : decode cX9_oneRun 68 = .ok (.getfield 41, 3) := by decide +kernel
theorem dX9_oneRun_71 : decode cX9_oneRun 71 = .ok (.aload_n 0, 1) := by decide +kernel
theorem dX9_oneRun_72 : decode cX9_oneRun 72 = .ok (.getfield 135, 3) := by decide +kernel
theorem dX9_oneRun_75 : decode cX9_oneRun 75 = .ok (.iaload, 1) := by decide +kernel
theorem dX9_oneRun_76 : decode cX9_oneRun 76 = .ok (.invokevirtual 127, 3) := by decide +kernel
theorem dX9_oneRun_79 : decode cX9_oneRun 79 = .ok (.return_, 1) := by decide +kernel
theorem dX9_oneRun_80 : decode cX9_oneRun 80 = .ok (.bipush 12, 2) := by decide +kernel
theorem dX9_oneRun_82 : decode cX9_oneRun 82 = .ok (.iload_n 1, 1) := by decide +kernel
theorem dX9_oneRun_83 : decode cX9_oneRun 83 = .ok (.imul, 1) := by decide +kernel
theorem dX9_oneRun_84 : decode cX9_oneRun 84 = .ok (.aload_n 0, 1) := by decide +kernel
theorem dX9_oneRun_85 : decode cX9_oneRun 85 = .ok (.getfield 47, 3) := by decide +kernel
theorem dX9_oneRun_88 : decode cX9_oneRun 88 = .ok (.iload_n 1, 1) := by decide +kernel
theorem dX9_oneRun_89 : decode cX9_oneRun 89 = .ok (.iaload, 1) := by decide +kernel
theorem dX9_oneRun_90 : decode cX9_oneRun 90 = .ok (.iadd, 1) := by decide +kernel
theorem dX9_oneRun_91 : decode cX9_oneRun 91 = .ok (.istore_n 2, 1) := by decide +kernel
theorem dX9_oneRun_92 : decode cX9_oneRun 92 = .ok (.aload_n 0, 1) := by decide +kernel
theorem dX9_oneRun_93 : decode cX9_oneRun 93 = .ok (.getfield 50, 3) := by decide +kernel
theorem dX9_oneRun_96 : decode cX9_oneRun 96 = .ok (.iload_n 2, 1) := by decide +kernel
theorem dX9_oneRun_97 : decode cX9_oneRun 97 = .ok (.aload_n 0, 1) := by decide +kernel
theorem dX9_oneRun_98 : decode cX9_oneRun 98 = .ok (.getfield 44, 3) := by decide +kernel
theorem dX9_oneRun_101 : decode cX9_oneRun 101 = .ok (.aload_n 0, 1) := by decide +kernel
theorem dX9_oneRun_102 : decode cX9_oneRun 102 = .ok (.getfield 135, 3) := by decide +kernel
theorem dX9_oneRun_105 : decode cX9_oneRun 105 = .ok (.iaload, 1) := by decide +kernel
theorem dX9_oneRun_106 : decode cX9_oneRun 106 = .ok (.iastore, 1) := by decide +kernel
theorem dX9_oneRun_107 : decode cX9_oneRun 107 = .ok (.aload_n 0, 1) := by decide +kernel
theorem dX9_oneRun_108 : decode cX9_oneRun 108 = .ok (.getfield 53, 3) := by decide +kernel
theorem dX9_oneRun_111 : decode cX9_oneRun 111 = .ok (.iload_n 2, 1) := by decide +kernel
theorem dX9_oneRun_112 : decode cX9_oneRun 112 = .ok (.iconst 1, 1) := by decide +kernel
theorem dX9_oneRun_113 : decode cX9_oneRun 113 = .ok (.iastore, 1) := by decide +kernel
theorem dX9_oneRun_114 : decode cX9_oneRun 114 = .ok (.aload_n 0, 1) := by decide +kernel
theorem dX9_oneRun_115 : decode cX9_oneRun 115 = .ok (.getfield 47, 3) := by decide +kernel
theorem dX9_oneRun_118 : decode cX9_oneRun 118 = .ok (.iload_n 1, 1) := by decide +kernel
theorem dX9_oneRun_119 : decode cX9_oneRun 119 = .ok (.dup2, 1) := by decide +kernel
theorem dX9_oneRun_120 : decode cX9_oneRun 120 = .ok (.iaload, 1) := by decide +kernel
theorem dX9_oneRun_121 : decode cX9_oneRun 121 = .ok (.iconst 1, 1) := by decide +kernel
theorem dX9_oneRun_122 : decode cX9_oneRun 122 = .ok (.iadd, 1) := by decide +kernel
theorem dX9_oneRun_123 : decode cX9_oneRun 123 = .ok (.iastore, 1) := by decide +kernel
theorem dX9_oneRun_124 : decode cX9_oneRun 124 = .ok (.aload_n 0, 1) := by decide +kernel
theorem dX9_oneRun_125 : decode cX9_oneRun 125 = .ok (.dup, 1) := by decide +kernel
theorem dX9_oneRun_126 : decode cX9_oneRun 126 = .ok (.getfield 135, 3) := by decide +kernel
theorem dX9_oneRun_129 : decode cX9_oneRun 129 = .ok (.iconst 1, 1) := by decide +kernel
theorem dX9_oneRun_130 : decode cX9_oneRun 130 = .ok (.iadd, 1) := by decide +kernel
theorem dX9_oneRun_131 : decode cX9_oneRun 131 = .ok (.putfield 135, 3) := by decide +kernel
theorem dX9_oneRun_134 : decode cX9_oneRun 134 = .ok (.aload_n 0, 1) := by decide +kernel
theorem dX9_oneRun_135 : decode cX9_oneRun 135 = .ok (.getfield 38, 3) := by decide +kernel
theorem dX9_oneRun_138 : decode cX9_oneRun 138 = .ok (.aload_n 0, 1) := by decide +kernel
theorem dX9_oneRun_139 : decode cX9_oneRun 139 = .ok (.getfield 135, 3) := by decide +kernel
theorem dX9_oneRun_142 : decode cX9_oneRun 142 = .ok (.iaload, 1) := by decide +kernel
theorem dX9_oneRun_143 : decode cX9_oneRun 143 = .ok (.iconst 1, 1) := by decide +kernel
theorem dX9_oneRun_144 : decode cX9_oneRun 144 = .ok (.if_icmp .eq 4, 3) := by decide +kernel
theorem dX9_oneRun_147 : decode cX9_oneRun 147 = .ok (.return_, 1) := by decide +kernel
theorem dX9_oneRun_148 : decode cX9_oneRun 148 = .ok (.aload_n 0, 1) := by decide +kernel
theorem dX9_oneRun_149 : decode cX9_oneRun 149 = .ok (.getfield 44, 3) := by decide +kernel
theorem dX9_oneRun_152 : decode cX9_oneRun 152 = .ok (.aload_n 0, 1) := by decide +kernel
theorem dX9_oneRun_153 : decode cX9_oneRun 153 = .ok (.getfield 135, 3) := by decide +kernel
theorem dX9_oneRun_156 : decode cX9_oneRun 156 = .ok (.iaload, 1) := by decide +kernel
theorem dX9_oneRun_157 : decode cX9_oneRun 157 = .ok (.aload_n 0, 1) := by decide +kernel
theorem dX9_oneRun_158 : decode cX9_oneRun 158 = .ok (.getfield 138, 3) := by decide +kernel
theorem dX9_oneRun_161 : decode cX9_oneRun 161 = .ok (.if_icmp .le 17, 3) := by decide +kernel
theorem dX9_oneRun_164 : decode cX9_oneRun 164 = .ok (.aload_n 0, 1) := by decide +kernel
theorem dX9_oneRun_165 : decode cX9_oneRun 165 = .ok (.iconst 4, 1) := by decide +kernel
theorem dX9_oneRun_166 : decode cX9_oneRun 166 = .ok (.aload_n 0, 1) := by decide +kernel
theorem dX9_oneRun_167 : decode cX9_oneRun 167 = .ok (.getfield 41, 3) := by decide +kernel
theorem dX9_oneRun_170 : decode cX9_oneRun 170 = .ok (.aload_n 0, 1) := by decide +kernel
theorem dX9_oneRun_171 : decode cX9_oneRun 171 = .ok (.getfield 135, 3) := by decide +kernel
theorem dX9_oneRun_174 : decode cX9_oneRun 174 = .ok (.iaload, 1) := by decide +kernel
theorem dX9_oneRun_175 : decode cX9_oneRun 175 = .ok (.invokevirtual 127, 3) := by decide +kernel
theorem dX9_oneRun_178 : decode cX9_oneRun 178 = .ok (.aload_n 0, 1) := by decide +kernel
theorem dX9_oneRun_179 : decode cX9_oneRun 179 = .ok (.getfield 53, 3) := by decide +kernel
theorem dX9_oneRun_182 : decode cX9_oneRun 182 = .ok (.iload_n 2, 1) := by decide +kernel
theorem dX9_oneRun_183 : decode cX9_oneRun 183 = .ok (.aload_n 0, 1) := by decide +kernel
theorem dX9_oneRun_184 : decode cX9_oneRun 184 = .ok (.getfield 44, 3) := by decide +kernel
theorem dX9_oneRun_187 : decode cX9_oneRun 187 = .ok (.aload_n 0, 1) := by decide +kernel
theorem dX9_oneRun_188 : decode cX9_oneRun 188 = .ok (.getfield 135, 3) := by decide +kernel
theorem dX9_oneRun_191 : decode cX9_oneRun 191 = .ok (.iaload, 1) := by decide +kernel
theorem dX9_oneRun_192 : decode cX9_oneRun 192 = .ok (.iastore, 1) := by decide +kernel
theorem dX9_oneRun_193 : decode cX9_oneRun 193 = .ok (.aload_n 0, 1) := by decide +kernel
theorem dX9_oneRun_194 : decode cX9_oneRun 194 = .ok (.dup, 1) := by decide +kernel
theorem dX9_oneRun_195 : decode cX9_oneRun 195 = .ok (.getfield 135, 3) := by decide +kernel
theorem dX9_oneRun_198 : decode cX9_oneRun 198 = .ok (.iconst 1, 1) := by decide +kernel
theorem dX9_oneRun_199 : decode cX9_oneRun 199 = .ok (.iadd, 1) := by decide +kernel
theorem dX9_oneRun_200 : decode cX9_oneRun 200 = .ok (.putfield 135, 3) := by decide +kernel
theorem dX9_oneRun_203 : decode cX9_oneRun 203 = .ok (.return_, 1) := by decide +kernel
theorem dX9_oneLine_0 : decode cX9_oneLine 0 = .ok (.aload_n 0, 1) := by decide +kernel
theorem dX9_oneLine_1 : decode cX9_oneLine 1 = .ok (.getfield 47, 3) := by decide +kernel
theorem dX9_oneLine_4 : decode cX9_oneLine 4 = .ok (.iload_n 1, 1) := by decide +kernel
theorem dX9_oneLine_5 : decode cX9_oneLine 5 = .ok (.iconst 0, 1) := by decide +kernel
theorem dX9_oneLine_6 : decode cX9_oneLine 6 = .ok (.iastore, 1) := by decide +kernel
theorem dX9_oneLine_7 : decode cX9_oneLine 7 = .ok (.aload_n 0, 1) := by decide +kernel
theorem dX9_oneLine_8 : decode cX9_oneLine 8 = .ok (.invokevirtual 124, 3) := by decide +kernel
theorem dX9_oneLine_11 : decode cX9_oneLine 11 = .ok (.ifCond .eq 24, 3) := by decide +kernel
theorem dX9_oneLine_14 : decode cX9_oneLine 14 = .ok (.aload_n 0, 1) := by decide +kernel
theorem dX9_oneLine_15 : decode cX9_oneLine 15 = .ok (.getfield 38, 3) := by decide +kernel
theorem dX9_oneLine_18 : decode cX9_oneLine 18 = .ok (.aload_n 0, 1) := by decide +kernel
theorem dX9_oneLine_19 : decode cX9_oneLine 19 = .ok (.getfield 135, 3) := by decide +kernel
theorem dX9_oneLine_22 : decode cX9_oneLine 22 = .ok (.iaload, 1) := by decide +kernel
theorem dX9_oneLine_23 : decode cX9_oneLine 23 = .ok (.iconst 2, 1) := by decide +kernel
theorem dX9_oneLine_24 : decode cX9_oneLine 24 = .ok (.if_icmp .eq 11, 3) := by decide +kernel
theorem dX9_oneLine_27 : decode cX9_oneLine 27 = .ok (.aload_n 0, 1) := by decide +kernel
theorem dX9_oneLine_28 : decode cX9_oneLine 28 = .ok (.iload_n 1, 1) := by decide +kernel
theorem dX9_oneLine_29 : decode cX9_oneLine 29 = .ok (.invokevirtual 141, 3) := by decide +kernel
theorem dX9_oneLine_32 : decode cX9_oneLine 32 = .ok (.goto (-25), 3) := by decide +kernel
theorem dX9_oneLine_35 : decode cX9_oneLine 35 = .ok (.aload_n 0, 1) := by decide +kernel
theorem dX9_oneLine_36 : decode cX9_oneLine 36 = .ok (.invokevirtual 124, 3) := by decide +kernel
theorem dX9_oneLine_39 : decode cX9_oneLine 39 = .ok (.ifCond .ne 4, 3) := by decide +kernel
theorem dX9_oneLine_42 : decode cX9_oneLine 42 = .ok (.return_, 1) := by decide +kernel
theorem dX9_oneLine_43 : decode cX9_oneLine 43 = .ok (.iconst 0, 1) := by decide +kernel
theorem dX9_oneLine_44 : decode cX9_oneLine 44 = .ok (.istore_n 2, 1) := by decide +kernel
theorem dX9_oneLine_45 : decode cX9_oneLine 45 = .ok (.iconst 0, 1) := by decide +kernel
theorem dX9_oneLine_46 : decode cX9_oneLine 46 = .ok (.istore_n 3, 1) := by decide +kernel
theorem dX9_oneLine_47 : decode cX9_oneLine 47 = .ok (.iload_n 3, 1) := by decide +kernel
theorem dX9_oneLine_48 : decode cX9_oneLine 48 = .ok (.aload_n 0, 1) := by decide +kernel
theorem dX9_oneLine_49 : decode cX9_oneLine 49 = .ok (.getfield 47, 3) := by decide +kernel
theorem dX9_oneLine_52 : decode cX9_oneLine 52 = .ok (.iload_n 1, 1) := by decide +kernel
theorem dX9_oneLine_53 : decode cX9_oneLine 53 = .ok (.iaload, 1) := by decide +kernel
theorem dX9_oneLine_54 : decode cX9_oneLine 54 = .ok (.if_icmp .ge 60, 3) := by decide +kernel
theorem dX9_oneLine_57 : decode cX9_oneLine 57 = .ok (.iload_n 2, 1) := by decide +kernel
theorem dX9_oneLine_58 : decode cX9_oneLine 58 = .ok (.aload_n 0, 1) := by decide +kernel
theorem dX9_oneLine_59 : decode cX9_oneLine 59 = .ok (.getfield 50, 3) := by decide +kernel
theorem dX9_oneLine_62 : decode cX9_oneLine 62 = .ok (.bipush 12, 2) := by decide +kernel
theorem dX9_oneLine_64 : decode cX9_oneLine 64 = .ok (.iload_n 1, 1) := by decide +kernel
theorem dX9_oneLine_65 : decode cX9_oneLine 65 = .ok (.imul, 1) := by decide +kernel
theorem dX9_oneLine_66 : decode cX9_oneLine 66 = .ok (.iload_n 3, 1) := by decide +kernel
theorem dX9_oneLine_67 : decode cX9_oneLine 67 = .ok (.iadd, 1) := by decide +kernel
theorem dX9_oneLine_68 : decode cX9_oneLine 68 = .ok (.iaload, 1) := by decide +kernel
theorem dX9_oneLine_69 : decode cX9_oneLine 69 = .ok (.iload_n 3, 1) := by decide +kernel
theorem dX9_oneLine_70 : decode cX9_oneLine 70 = .ok (.ifCond .le 34, 3) := by decide +kernel
theorem dX9_oneLine_73 : decode cX9_oneLine 73 = .ok (.aload_n 0, 1) := by decide +kernel
theorem dX9_oneLine_74 : decode cX9_oneLine 74 = .ok (.getfield 53, 3) := by decide +kernel
theorem dX9_oneLine_77 : decode cX9_oneLine 77 = .ok (.bipush 12, 2) := by decide +kernel
theorem dX9_oneLine_79 : decode cX9_oneLine 79 = .ok (.iload_n 1, 1) := by decide +kernel
theorem dX9_oneLine_80 : decode cX9_oneLine 80 = .ok (.imul, 1) := by decide +kernel
theorem dX9_oneLine_81 : decode cX9_oneLine 81 = .ok (.iload_n 3, 1) := by decide +kernel
theorem dX9_oneLine_82 : decode cX9_oneLine 82 = .ok (.iadd, 1) := by decide +kernel
theorem dX9_oneLine_83 : decode cX9_oneLine 83 = .ok (.iaload, 1) := by decide +kernel
theorem dX9_oneLine_84 : decode cX9_oneLine 84 = .ok (.aload_n 0, 1) := by decide +kernel
theorem dX9_oneLine_85 : decode cX9_oneLine 85 = .ok (.getfield 53, 3) := by decide +kernel
theorem dX9_oneLine_88 : decode cX9_oneLine 88 = .ok (.bipush 12, 2) := by decide +kernel
theorem dX9_oneLine_90 : decode cX9_oneLine 90 = .ok (.iload_n 1, 1) := by decide +kernel
theorem dX9_oneLine_91 : decode cX9_oneLine 91 = .ok (.imul, 1) := by decide +kernel
theorem dX9_oneLine_92 : decode cX9_oneLine 92 = .ok (.iload_n 3, 1) := by decide +kernel
theorem dX9_oneLine_93 : decode cX9_oneLine 93 = .ok (.iadd, 1) := by decide +kernel
theorem dX9_oneLine_94 : decode cX9_oneLine 94 = .ok (.iconst 1, 1) := by decide +kernel
theorem dX9_oneLine_95 : decode cX9_oneLine 95 = .ok (.isub, 1) := by decide +kernel
theorem dX9_oneLine_96 : decode cX9_oneLine 96 = .ok (.iaload, 1) := by decide +kernel
theorem dX9_oneLine_97 : decode cX9_oneLine 97 = .ok (.if_icmp .ne 7, 3) := by decide +kernel
theorem dX9_oneLine_100 : decode cX9_oneLine 100 = .ok (.iconst 1, 1) := by decide +kernel
theorem dX9_oneLine_101 : decode cX9_oneLine 101 = .ok (.goto 4, 3) := by decide +kernel
theorem dX9_oneLine_104 : decode cX9_oneLine 104 = .ok (.iconst 0, 1) := by decide +kernel
theorem dX9_oneLine_105 : decode cX9_oneLine 105 = .ok (.iadd, 1) := by decide +kernel
theorem dX9_oneLine_106 : decode cX9_oneLine 106 = .ok (.iadd, 1) := by decide +kernel
theorem dX9_oneLine_107 : decode cX9_oneLine 107 = .ok (.istore_n 2, 1) := by decide +kernel
theorem dX9_oneLine_108 : decode cX9_oneLine 108 = .ok (.iinc 3 1, 3) := by decide +kernel
theorem dX9_oneLine_111 : decode cX9_oneLine 111 = .ok (.goto (-64), 3) := by decide +kernel
theorem dX9_oneLine_114 : decode cX9_oneLine 114 = .ok (.iload_n 2, 1) := by decide +kernel
theorem dX9_oneLine_115 : decode cX9_oneLine 115 = .ok (.iload_n 1, 1) := by decide +kernel
theorem dX9_oneLine_116 : decode cX9_oneLine 116 = .ok (.aload_n 0, 1) := by decide +kernel
theorem dX9_oneLine_117 : decode cX9_oneLine 117 = .ok (.getfield 144, 3) := by decide +kernel
theorem dX9_oneLine_120 : decode cX9_oneLine 120 = .ok (.if_icmp .ge 10, 3) := by decide +kernel
theorem dX9_oneLine_123 : decode cX9_oneLine 123 = .ok (.aload_n 0, 1) := by decide +kernel
theorem dX9_oneLine_124 : decode cX9_oneLine 124 = .ok (.getfield 147, 3) := by decide +kernel
theorem dX9_oneLine_127 : decode cX9_oneLine 127 = .ok (.goto 7, 3) := by decide +kernel
theorem dX9_oneLine_130 : decode cX9_oneLine 130 = .ok (.aload_n 0, 1) := by decide +kernel
theorem dX9_oneLine_131 : decode cX9_oneLine 131 = .ok (.getfield 144, 3) := by decide +kernel
theorem dX9_oneLine_134 : decode cX9_oneLine 134 = .ok (.if_icmp .le 18, 3) := by decide +kernel
theorem dX9_oneLine_137 : decode cX9_oneLine 137 = .ok (.aload_n 0, 1) := by decide +kernel
theorem dX9_oneLine_138 : decode cX9_oneLine 138 = .ok (.bipush 6, 2) := by decide +kernel
theorem dX9_oneLine_140 : decode cX9_oneLine 140 = .ok (.aload_n 0, 1) := by decide +kernel
theorem dX9_oneLine_141 : decode cX9_oneLine 141 = .ok (.getfield 41, 3) := by decide +kernel
theorem dX9_oneLine_144 : decode cX9_oneLine 144 = .ok (.aload_n 0, 1) := by decide +kernel
theorem dX9_oneLine_145 : decode cX9_oneLine 145 = .ok (.getfield 135, 3) := by decide +kernel
theorem dX9_oneLine_148 : decode cX9_oneLine 148 = .ok (.iaload, 1) := by decide +kernel
theorem dX9_oneLine_149 : decode cX9_oneLine 149 = .ok (.invokevirtual 127, 3) := by decide +kernel
theorem dX9_oneLine_152 : decode cX9_oneLine 152 = .ok (.aload_n 0, 1) := by decide +kernel
theorem dX9_oneLine_153 : decode cX9_oneLine 153 = .ok (.dup, 1) := by decide +kernel
theorem dX9_oneLine_154 : decode cX9_oneLine 154 = .ok (.getfield 135, 3) := by decide +kernel
theorem dX9_oneLine_157 : decode cX9_oneLine 157 = .ok (.iconst 1, 1) := by decide +kernel
theorem dX9_oneLine_158 : decode cX9_oneLine 158 = .ok (.iadd, 1) := by decide +kernel
theorem dX9_oneLine_159 : decode cX9_oneLine 159 = .ok (.putfield 135, 3) := by decide +kernel
theorem dX9_oneLine_162 : decode cX9_oneLine 162 = .ok (.return_, 1) := by decide +kernel
theorem dX9_colourSumsDiffer_0 : decode cX9_colourSumsDiffer 0 = .ok (.iconst 1, 1) := by decide +kernel
theorem dX9_colourSumsDiffer_1 : decode cX9_colourSumsDiffer 1 = .ok (.istore_n 1, 1) := by decide +kernel
theorem dX9_colourSumsDiffer_2 : decode cX9_colourSumsDiffer 2 = .ok (.iload_n 1, 1) := by decide +kernel
theorem dX9_colourSumsDiffer_3 : decode cX9_colourSumsDiffer 3 = .ok (.aload_n 0, 1) := by decide +kernel
theorem dX9_colourSumsDiffer_4 : decode cX9_colourSumsDiffer 4 = .ok (.getfield 138, 3) := by decide +kernel
theorem dX9_colourSumsDiffer_7 : decode cX9_colourSumsDiffer 7 = .ok (.if_icmp .gt 113, 3) := by decide +kernel
theorem dX9_colourSumsDiffer_10 : decode cX9_colourSumsDiffer 10 = .ok (.iconst 0, 1) := by decide +kernel
theorem dX9_colourSumsDiffer_11 : decode cX9_colourSumsDiffer 11 = .ok (.istore_n 2, 1) := by decide +kernel
theorem dX9_colourSumsDiffer_12 : decode cX9_colourSumsDiffer 12 = .ok (.iconst 0, 1) := by decide +kernel
theorem dX9_colourSumsDiffer_13 : decode cX9_colourSumsDiffer 13 = .ok (.istore_n 3, 1) := by decide +kernel
theorem dX9_colourSumsDiffer_14 : decode cX9_colourSumsDiffer 14 = .ok (.iload_n 3, 1) := by decide +kernel
theorem dX9_colourSumsDiffer_15 : decode cX9_colourSumsDiffer 15 = .ok (.aload_n 0, 1) := by decide +kernel
theorem dX9_colourSumsDiffer_16 : decode cX9_colourSumsDiffer 16 = .ok (.getfield 147, 3) := by decide +kernel
theorem dX9_colourSumsDiffer_19 : decode cX9_colourSumsDiffer 19 = .ok (.aload_n 0, 1) := by decide +kernel
theorem dX9_colourSumsDiffer_20 : decode cX9_colourSumsDiffer 20 = .ok (.getfield 144, 3) := by decide +kernel
theorem dX9_colourSumsDiffer_23 : decode cX9_colourSumsDiffer 23 = .ok (.iadd, 1) := by decide +kernel
theorem dX9_colourSumsDiffer_24 : decode cX9_colourSumsDiffer 24 = .ok (.if_icmp .ge 84, 3) := by decide +kernel
theorem dX9_colourSumsDiffer_27 : decode cX9_colourSumsDiffer 27 = .ok (.iconst 0, 1) := by decide +kernel
theorem dX9_colourSumsDiffer_28 : decode cX9_colourSumsDiffer 28 = .ok (.istore 4, 2) := by decide +kernel
theorem dX9_colourSumsDiffer_30 : decode cX9_colourSumsDiffer 30 = .ok (.iload 4, 2) := by decide +kernel
theorem dX9_colourSumsDiffer_32 : decode cX9_colourSumsDiffer 32 = .ok (.aload_n 0, 1) := by decide +kernel
theorem dX9_colourSumsDiffer_33 : decode cX9_colourSumsDiffer 33 = .ok (.getfield 47, 3) := by decide +kernel
theorem dX9_colourSumsDiffer_36 : decode cX9_colourSumsDiffer 36 = .ok (.iload_n 3, 1) := by decide +kernel
theorem dX9_colourSumsDiffer_37 : decode cX9_colourSumsDiffer 37 = .ok (.iaload, 1) := by decide +kernel
theorem dX9_colourSumsDiffer_38 : decode cX9_colourSumsDiffer 38 = .ok (.if_icmp .ge 64, 3) := by decide +kernel
theorem dX9_colourSumsDiffer_41 : decode cX9_colourSumsDiffer 41 = .ok (.aload_n 0, 1) := by decide +kernel
theorem dX9_colourSumsDiffer_42 : decode cX9_colourSumsDiffer 42 = .ok (.getfield 53, 3) := by decide +kernel
theorem dX9_colourSumsDiffer_45 : decode cX9_colourSumsDiffer 45 = .ok (.bipush 12, 2) := by decide +kernel
theorem dX9_colourSumsDiffer_47 : decode cX9_colourSumsDiffer 47 = .ok (.iload_n 3, 1) := by decide +kernel
theorem dX9_colourSumsDiffer_48 : decode cX9_colourSumsDiffer 48 = .ok (.imul, 1) := by decide +kernel
theorem dX9_colourSumsDiffer_49 : decode cX9_colourSumsDiffer 49 = .ok (.iload 4, 2) := by decide +kernel
theorem dX9_colourSumsDiffer_51 : decode cX9_colourSumsDiffer 51 = .ok (.iadd, 1) := by decide +kernel
theorem dX9_colourSumsDiffer_52 : decode cX9_colourSumsDiffer 52 = .ok (.iaload, 1) := by decide +kernel
theorem dX9_colourSumsDiffer_53 : decode cX9_colourSumsDiffer 53 = .ok (.iload_n 1, 1) := by decide +kernel
theorem dX9_colourSumsDiffer_54 : decode cX9_colourSumsDiffer 54 = .ok (.if_icmp .ne 42, 3) := by decide +kernel
theorem dX9_colourSumsDiffer_57 : decode cX9_colourSumsDiffer 57 = .ok (.iload_n 2, 1) := by decide +kernel
theorem dX9_colourSumsDiffer_58 : decode cX9_colourSumsDiffer 58 = .ok (.iload_n 3, 1) := by decide +kernel
theorem dX9_colourSumsDiffer_59 : decode cX9_colourSumsDiffer 59 = .ok (.aload_n 0, 1) := by decide +kernel
theorem dX9_colourSumsDiffer_60 : decode cX9_colourSumsDiffer 60 = .ok (.getfield 144, 3) := by decide +kernel
theorem dX9_colourSumsDiffer_63 : decode cX9_colourSumsDiffer 63 = .ok (.if_icmp .ge 18, 3) := by decide +kernel
theorem dX9_colourSumsDiffer_66 : decode cX9_colourSumsDiffer 66 = .ok (.aload_n 0, 1) := by decide +kernel
theorem dX9_colourSumsDiffer_67 : decode cX9_colourSumsDiffer 67 = .ok (.getfield 50, 3) := by decide +kernel
theorem dX9_colourSumsDiffer_70 : decode cX9_colourSumsDiffer 70 = .ok (.bipush 12, 2) := by decide +kernel
theorem dX9_colourSumsDiffer_72 : decode cX9_colourSumsDiffer 72 = .ok (.iload_n 3, 1) := by decide +kernel
theorem dX9_colourSumsDiffer_73 : decode cX9_colourSumsDiffer 73 = .ok (.imul, 1) := by decide +kernel
theorem dX9_colourSumsDiffer_74 : decode cX9_colourSumsDiffer 74 = .ok (.iload 4, 2) := by decide +kernel
theorem dX9_colourSumsDiffer_76 : decode cX9_colourSumsDiffer 76 = .ok (.iadd, 1) := by decide +kernel
theorem dX9_colourSumsDiffer_77 : decode cX9_colourSumsDiffer 77 = .ok (.iaload, 1) := by decide +kernel
theorem dX9_colourSumsDiffer_78 : decode cX9_colourSumsDiffer 78 = .ok (.goto 16, 3) := by decide +kernel
theorem dX9_colourSumsDiffer_81 : decode cX9_colourSumsDiffer 81 = .ok (.aload_n 0, 1) := by decide +kernel
theorem dX9_colourSumsDiffer_82 : decode cX9_colourSumsDiffer 82 = .ok (.getfield 50, 3) := by decide +kernel
theorem dX9_colourSumsDiffer_85 : decode cX9_colourSumsDiffer 85 = .ok (.bipush 12, 2) := by decide +kernel
theorem dX9_colourSumsDiffer_87 : decode cX9_colourSumsDiffer 87 = .ok (.iload_n 3, 1) := by decide +kernel
theorem dX9_colourSumsDiffer_88 : decode cX9_colourSumsDiffer 88 = .ok (.imul, 1) := by decide +kernel
theorem dX9_colourSumsDiffer_89 : decode cX9_colourSumsDiffer 89 = .ok (.iload 4, 2) := by decide +kernel
theorem dX9_colourSumsDiffer_91 : decode cX9_colourSumsDiffer 91 = .ok (.iadd, 1) := by decide +kernel
theorem dX9_colourSumsDiffer_92 : decode cX9_colourSumsDiffer 92 = .ok (.iaload, 1) := by decide +kernel
theorem dX9_colourSumsDiffer_93 : decode cX9_colourSumsDiffer 93 = .ok (.ineg, 1) := by decide +kernel
theorem dX9_colourSumsDiffer_94 : decode cX9_colourSumsDiffer 94 = .ok (.iadd, 1) := by decide +kernel
theorem dX9_colourSumsDiffer_95 : decode cX9_colourSumsDiffer 95 = .ok (.istore_n 2, 1) := by decide +kernel
theorem dX9_colourSumsDiffer_96 : decode cX9_colourSumsDiffer 96 = .ok (.iinc 4 1, 3) := by decide +kernel
theorem dX9_colourSumsDiffer_99 : decode cX9_colourSumsDiffer 99 = .ok (.goto (-69), 3) := by decide +kernel
theorem dX9_colourSumsDiffer_102 : decode cX9_colourSumsDiffer 102 = .ok (.iinc 3 1, 3) := by decide +kernel
theorem dX9_colourSumsDiffer_105 : decode cX9_colourSumsDiffer 105 = .ok (.goto (-91), 3) := by decide +kernel
theorem dX9_colourSumsDiffer_108 : decode cX9_colourSumsDiffer 108 = .ok (.iload_n 2, 1) := by decide +kernel
theorem dX9_colourSumsDiffer_109 : decode cX9_colourSumsDiffer 109 = .ok (.ifCond .eq 5, 3) := by decide +kernel
theorem dX9_colourSumsDiffer_112 : decode cX9_colourSumsDiffer 112 = .ok (.iconst 1, 1) := by decide +kernel
theorem dX9_colourSumsDiffer_113 : decode cX9_colourSumsDiffer 113 = .ok (.ireturn, 1) := by decide +kernel
theorem dX9_colourSumsDiffer_114 : decode cX9_colourSumsDiffer 114 = .ok (.iinc 1 1, 3) := by decide +kernel
theorem dX9_colourSumsDiffer_117 : decode cX9_colourSumsDiffer 117 = .ok (.goto (-115), 3) := by decide +kernel
theorem dX9_colourSumsDiffer_120 : decode cX9_colourSumsDiffer 120 = .ok (.iconst 0, 1) := by decide +kernel
theorem dX9_colourSumsDiffer_121 : decode cX9_colourSumsDiffer 121 = .ok (.ireturn, 1) := by decide +kernel
theorem dX9_load_0 : decode cX9_load 0 = .ok (.aload_n 0, 1) := by decide +kernel
theorem dX9_load_1 : decode cX9_load 1 = .ok (.iconst 0, 1) := by decide +kernel
theorem dX9_load_2 : decode cX9_load 2 = .ok (.putfield 80, 3) := by decide +kernel
theorem dX9_load_5 : decode cX9_load 5 = .ok (.aload_n 0, 1) := by decide +kernel
theorem dX9_load_6 : decode cX9_load 6 = .ok (.iconst 0, 1) := by decide +kernel
theorem dX9_load_7 : decode cX9_load 7 = .ok (.putfield 115, 3) := by decide +kernel
theorem dX9_load_10 : decode cX9_load 10 = .ok (.aload_n 0, 1) := by decide +kernel
theorem dX9_load_11 : decode cX9_load 11 = .ok (.invokevirtual 150, 3) := by decide +kernel
theorem dX9_load_14 : decode cX9_load 14 = .ok (.aload_n 0, 1) := by decide +kernel
theorem dX9_load_15 : decode cX9_load 15 = .ok (.iconst 0, 1) := by decide +kernel
theorem dX9_load_16 : decode cX9_load 16 = .ok (.putfield 135, 3) := by decide +kernel
theorem dX9_load_19 : decode cX9_load 19 = .ok (.aload_n 0, 1) := by decide +kernel
theorem dX9_load_20 : decode cX9_load 20 = .ok (.invokevirtual 124, 3) := by decide +kernel
theorem dX9_load_23 : decode cX9_load 23 = .ok (.ifCond .eq 39, 3) := by decide +kernel
theorem dX9_load_26 : decode cX9_load 26 = .ok (.aload_n 0, 1) := by decide +kernel
theorem dX9_load_27 : decode cX9_load 27 = .ok (.aload_n 0, 1) := by decide +kernel
theorem dX9_load_28 : decode cX9_load 28 = .ok (.iconst 1, 1) := by decide +kernel
theorem dX9_load_29 : decode cX9_load 29 = .ok (.bipush 12, 2) := by decide +kernel
theorem dX9_load_31 : decode cX9_load 31 = .ok (.invokevirtual 153, 3) := by decide +kernel
theorem dX9_load_34 : decode cX9_load 34 = .ok (.putfield 147, 3) := by decide +kernel
theorem dX9_load_37 : decode cX9_load 37 = .ok (.aload_n 0, 1) := by decide +kernel
theorem dX9_load_38 : decode cX9_load 38 = .ok (.aload_n 0, 1) := by decide +kernel
theorem dX9_load_39 : decode cX9_load 39 = .ok (.iconst 1, 1) := by decide +kernel
theorem dX9_load_40 : decode cX9_load 40 = .ok (.bipush 12, 2) := by decide +kernel
theorem dX9_load_42 : decode cX9_load 42 = .ok (.invokevirtual 153, 3) := by decide +kernel
theorem dX9_load_45 : decode cX9_load 45 = .ok (.putfield 144, 3) := by decide +kernel
theorem dX9_load_48 : decode cX9_load 48 = .ok (.aload_n 0, 1) := by decide +kernel
theorem dX9_load_49 : decode cX9_load 49 = .ok (.aload_n 0, 1) := by decide +kernel
theorem dX9_load_50 : decode cX9_load 50 = .ok (.iconst 1, 1) := by decide +kernel
theorem dX9_load_51 : decode cX9_load 51 = .ok (.iconst 3, 1) := by decide +kernel
theorem dX9_load_52 : decode cX9_load 52 = .ok (.invokevirtual 153, 3) := by decide +kernel
theorem dX9_load_55 : decode cX9_load 55 = .ok (.putfield 138, 3) := by decide +kernel
theorem dX9_load_58 : decode cX9_load 58 = .ok (.aload_n 0, 1) := by decide +kernel
theorem dX9_load_59 : decode cX9_load 59 = .ok (.invokevirtual 157, 3) := by decide +kernel
theorem dX9_load_62 : decode cX9_load 62 = .ok (.iconst 0, 1) := by decide +kernel
theorem dX9_load_63 : decode cX9_load 63 = .ok (.istore_n 1, 1) := by decide +kernel
theorem dX9_load_64 : decode cX9_load 64 = .ok (.aload_n 0, 1) := by decide +kernel
theorem dX9_load_65 : decode cX9_load 65 = .ok (.invokevirtual 124, 3) := by decide +kernel
theorem dX9_load_68 : decode cX9_load 68 = .ok (.ifCond .eq 27, 3) := by decide +kernel
theorem dX9_load_71 : decode cX9_load 71 = .ok (.iload_n 1, 1) := by decide +kernel
theorem dX9_load_72 : decode cX9_load 72 = .ok (.aload_n 0, 1) := by decide +kernel
theorem dX9_load_73 : decode cX9_load 73 = .ok (.getfield 147, 3) := by decide +kernel
theorem dX9_load_76 : decode cX9_load 76 = .ok (.aload_n 0, 1) := by decide +kernel
theorem dX9_load_77 : decode cX9_load 77 = .ok (.getfield 144, 3) := by decide +kernel
theorem dX9_load_80 : decode cX9_load 80 = .ok (.iadd, 1) := by decide +kernel
theorem dX9_load_81 : decode cX9_load 81 = .ok (.if_icmp .ge 14, 3) := by decide +kernel
theorem dX9_load_84 : decode cX9_load 84 = .ok (.aload_n 0, 1) := by decide +kernel
theorem dX9_load_85 : decode cX9_load 85 = .ok (.iload_n 1, 1) := by decide +kernel
theorem dX9_load_86 : decode cX9_load 86 = .ok (.invokevirtual 160, 3) := by decide +kernel
theorem dX9_load_89 : decode cX9_load 89 = .ok (.iinc 1 1, 3) := by decide +kernel
theorem dX9_load_92 : decode cX9_load 92 = .ok (.goto (-28), 3) := by decide +kernel
theorem dX9_load_95 : decode cX9_load 95 = .ok (.aload_n 0, 1) := by decide +kernel
theorem dX9_load_96 : decode cX9_load 96 = .ok (.invokevirtual 124, 3) := by decide +kernel
theorem dX9_load_99 : decode cX9_load 99 = .ok (.ifCond .eq 30, 3) := by decide +kernel
theorem dX9_load_102 : decode cX9_load 102 = .ok (.aload_n 0, 1) := by decide +kernel
theorem dX9_load_103 : decode cX9_load 103 = .ok (.getfield 38, 3) := by decide +kernel
theorem dX9_load_106 : decode cX9_load 106 = .ok (.aload_n 0, 1) := by decide +kernel
theorem dX9_load_107 : decode cX9_load 107 = .ok (.getfield 135, 3) := by decide +kernel
theorem dX9_load_110 : decode cX9_load 110 = .ok (.iaload, 1) := by decide +kernel
theorem dX9_load_111 : decode cX9_load 111 = .ok (.iconst 3, 1) := by decide +kernel
theorem dX9_load_112 : decode cX9_load 112 = .ok (.if_icmp .eq 17, 3) := by decide +kernel
theorem dX9_load_115 : decode cX9_load 115 = .ok (.aload_n 0, 1) := by decide +kernel
theorem dX9_load_116 : decode cX9_load 116 = .ok (.iconst 2, 1) := by decide +kernel
theorem dX9_load_117 : decode cX9_load 117 = .ok (.aload_n 0, 1) := by decide +kernel
theorem dX9_load_118 : decode cX9_load 118 = .ok (.getfield 41, 3) := by decide +kernel
theorem dX9_load_121 : decode cX9_load 121 = .ok (.aload_n 0, 1) := by decide +kernel
theorem dX9_load_122 : decode cX9_load 122 = .ok (.getfield 135, 3) := by decide +kernel
theorem dX9_load_125 : decode cX9_load 125 = .ok (.iaload, 1) := by decide +kernel
theorem dX9_load_126 : decode cX9_load 126 = .ok (.invokevirtual 127, 3) := by decide +kernel
theorem dX9_load_129 : decode cX9_load 129 = .ok (.aload_n 0, 1) := by decide +kernel
theorem dX9_load_130 : decode cX9_load 130 = .ok (.invokevirtual 124, 3) := by decide +kernel
theorem dX9_load_133 : decode cX9_load 133 = .ok (.ifCond .eq 20, 3) := by decide +kernel
theorem dX9_load_136 : decode cX9_load 136 = .ok (.aload_n 0, 1) := by decide +kernel
theorem dX9_load_137 : decode cX9_load 137 = .ok (.invokevirtual 163, 3) := by decide +kernel
theorem dX9_load_140 : decode cX9_load 140 = .ok (.ifCond .eq 13, 3) := by decide +kernel
theorem dX9_load_143 : decode cX9_load 143 = .ok (.aload_n 0, 1) := by decide +kernel
theorem dX9_load_144 : decode cX9_load 144 = .ok (.bipush 7, 2) := by decide +kernel
theorem dX9_load_146 : decode cX9_load 146 = .ok (.aload_n 0, 1) := by decide +kernel
theorem dX9_load_147 : decode cX9_load 147 = .ok (.getfield 108, 3) := by decide +kernel
theorem dX9_load_150 : decode cX9_load 150 = .ok (.invokevirtual 127, 3) := by decide +kernel
theorem dX9_load_153 : decode cX9_load 153 = .ok (.aload_n 0, 1) := by decide +kernel
theorem dX9_load_154 : decode cX9_load 154 = .ok (.iconst 0, 1) := by decide +kernel
theorem dX9_load_155 : decode cX9_load 155 = .ok (.putfield 108, 3) := by decide +kernel
theorem dX9_load_158 : decode cX9_load 158 = .ok (.aload_n 0, 1) := by decide +kernel
theorem dX9_load_159 : decode cX9_load 159 = .ok (.aload_n 0, 1) := by decide +kernel
theorem dX9_load_160 : decode cX9_load 160 = .ok (.getfield 115, 3) := by decide +kernel
theorem dX9_load_163 : decode cX9_load 163 = .ok (.putfield 166, 3) := by decide +kernel
theorem dX9_load_166 : decode cX9_load 166 = .ok (.aload_n 0, 1) := by decide +kernel
theorem dX9_load_167 : decode cX9_load 167 = .ok (.invokevirtual 124, 3) := by decide +kernel
theorem dX9_load_170 : decode cX9_load 170 = .ok (.ifCond .ne 10, 3) := by decide +kernel
theorem dX9_load_173 : decode cX9_load 173 = .ok (.iconst (-1), 1) := by decide +kernel
theorem dX9_load_174 : decode cX9_load 174 = .ok (.aload_n 0, 1) := by decide +kernel
theorem dX9_load_175 : decode cX9_load 175 = .ok (.getfield 118, 3) := by decide +kernel
theorem dX9_load_178 : decode cX9_load 178 = .ok (.isub, 1) := by decide +kernel
theorem dX9_load_179 : decode cX9_load 179 = .ok (.ireturn, 1) := by decide +kernel
theorem dX9_load_180 : decode cX9_load 180 = .ok (.aload_n 0, 1) := by decide +kernel
theorem dX9_load_181 : decode cX9_load 181 = .ok (.aload_n 0, 1) := by decide +kernel
theorem dX9_load_182 : decode cX9_load 182 = .ok (.getfield 147, 3) := by decide +kernel
theorem dX9_load_185 : decode cX9_load 185 = .ok (.putfield 83, 3) := by decide +kernel
theorem dX9_load_188 : decode cX9_load 188 = .ok (.aload_n 0, 1) := by decide +kernel
theorem dX9_load_189 : decode cX9_load 189 = .ok (.aload_n 0, 1) := by decide +kernel
theorem dX9_load_190 : decode cX9_load 190 = .ok (.getfield 144, 3) := by decide +kernel
theorem dX9_load_193 : decode cX9_load 193 = .ok (.putfield 86, 3) := by decide +kernel
theorem dX9_load_196 : decode cX9_load 196 = .ok (.aload_n 0, 1) := by decide +kernel
theorem dX9_load_197 : decode cX9_load 197 = .ok (.aload_n 0, 1) := by decide +kernel
theorem dX9_load_198 : decode cX9_load 198 = .ok (.getfield 138, 3) := by decide +kernel
theorem dX9_load_201 : decode cX9_load 201 = .ok (.putfield 169, 3) := by decide +kernel
theorem dX9_load_204 : decode cX9_load 204 = .ok (.iconst 0, 1) := by decide +kernel
theorem dX9_load_205 : decode cX9_load 205 = .ok (.istore_n 1, 1) := by decide +kernel
theorem dX9_load_206 : decode cX9_load 206 = .ok (.iload_n 1, 1) := by decide +kernel
theorem dX9_load_207 : decode cX9_load 207 = .ok (.bipush 24, 2) := by decide +kernel
theorem dX9_load_209 : decode cX9_load 209 = .ok (.if_icmp .ge 21, 3) := by decide +kernel
theorem dX9_load_212 : decode cX9_load 212 = .ok (.aload_n 0, 1) := by decide +kernel
theorem dX9_load_213 : decode cX9_load 213 = .ok (.getfield 9, 3) := by decide +kernel
theorem dX9_load_216 : decode cX9_load 216 = .ok (.iload_n 1, 1) := by decide +kernel
theorem dX9_load_217 : decode cX9_load 217 = .ok (.aload_n 0, 1) := by decide +kernel
theorem dX9_load_218 : decode cX9_load 218 = .ok (.getfield 47, 3) := by decide +kernel
theorem dX9_load_221 : decode cX9_load 221 = .ok (.iload_n 1, 1) := by decide +kernel
theorem dX9_load_222 : decode cX9_load 222 = .ok (.iaload, 1) := by decide +kernel
theorem dX9_load_223 : decode cX9_load 223 = .ok (.iastore, 1) := by decide +kernel
theorem dX9_load_224 : decode cX9_load 224 = .ok (.iinc 1 1, 3) := by decide +kernel
theorem dX9_load_227 : decode cX9_load 227 = .ok (.goto (-21), 3) := by decide +kernel
theorem dX9_load_230 : decode cX9_load 230 = .ok (.iconst 0, 1) := by decide +kernel
theorem dX9_load_231 : decode cX9_load 231 = .ok (.istore_n 1, 1) := by decide +kernel
theorem dX9_load_232 : decode cX9_load 232 = .ok (.iload_n 1, 1) := by decide +kernel
theorem dX9_load_233 : decode cX9_load 233 = .ok (.sipush 288, 3) := by decide +kernel
theorem dX9_load_236 : decode cX9_load 236 = .ok (.if_icmp .ge 33, 3) := by decide +kernel
theorem dX9_load_239 : decode cX9_load 239 = .ok (.aload_n 0, 1) := by decide +kernel
theorem dX9_load_240 : decode cX9_load 240 = .ok (.getfield 13, 3) := by decide +kernel
theorem dX9_load_243 : decode cX9_load 243 = .ok (.iload_n 1, 1) := by decide +kernel
theorem dX9_load_244 : decode cX9_load 244 = .ok (.aload_n 0, 1) := by decide +kernel
theorem dX9_load_245 : decode cX9_load 245 = .ok (.getfield 50, 3) := by decide +kernel
theorem dX9_load_248 : decode cX9_load 248 = .ok (.iload_n 1, 1) := by decide +kernel
theorem dX9_load_249 : decode cX9_load 249 = .ok (.iaload, 1) := by decide +kernel
theorem dX9_load_250 : decode cX9_load 250 = .ok (.iastore, 1) := by decide +kernel
theorem dX9_load_251 : decode cX9_load 251 = .ok (.aload_n 0, 1) := by decide +kernel
theorem dX9_load_252 : decode cX9_load 252 = .ok (.getfield 16, 3) := by decide +kernel
theorem dX9_load_255 : decode cX9_load 255 = .ok (.iload_n 1, 1) := by decide +kernel
theorem dX9_load_256 : decode cX9_load 256 = .ok (.aload_n 0, 1) := by decide +kernel
theorem dX9_load_257 : decode cX9_load 257 = .ok (.getfield 53, 3) := by decide +kernel
theorem dX9_load_260 : decode cX9_load 260 = .ok (.iload_n 1, 1) := by decide +kernel
theorem dX9_load_261 : decode cX9_load 261 = .ok (.iaload, 1) := by decide +kernel
theorem dX9_load_262 : decode cX9_load 262 = .ok (.iastore, 1) := by decide +kernel
theorem dX9_load_263 : decode cX9_load 263 = .ok (.iinc 1 1, 3) := by decide +kernel
theorem dX9_load_266 : decode cX9_load 266 = .ok (.goto (-34), 3) := by decide +kernel
theorem dX9_load_269 : decode cX9_load 269 = .ok (.aload_n 0, 1) := by decide +kernel
theorem dX9_load_270 : decode cX9_load 270 = .ok (.invokevirtual 172, 3) := by decide +kernel
theorem dX9_load_273 : decode cX9_load 273 = .ok (.aload_n 0, 1) := by decide +kernel
theorem dX9_load_274 : decode cX9_load 274 = .ok (.invokevirtual 175, 3) := by decide +kernel
theorem dX9_load_277 : decode cX9_load 277 = .ok (.aload_n 0, 1) := by decide +kernel
theorem dX9_load_278 : decode cX9_load 278 = .ok (.invokevirtual 178, 3) := by decide +kernel
theorem dX9_load_281 : decode cX9_load 281 = .ok (.ireturn, 1) := by decide +kernel
def f_X9_in (a1 : Int32) (a2 : Int32) (a3 : Int32) (s : St) : Option (Int32 × St) :=
  if a1 < a2 then (
    some ((0 : Int32), s))
  else (
    if a3 < a1 then (
      some ((0 : Int32), s))
    else (
      some ((1 : Int32), s)))
set_option maxRecDepth 100000 in
set_option maxHeartbeats 4000000 in
theorem ok_X9_in {a1 : Int32} {a2 : Int32} {a3 : Int32} {s : St} {r : Int32 × St} (h : f_X9_in a1 a2 a3 s = some r) : Ct 0 m_X9_in [.int a1, .int a2, .int a3] s (some (.int r.1)) r.2 := by
  unfold f_X9_in at h
  refine ct_of [some (.int a1), some (.int a2), some (.int a3)] 0 (by decide) rfl (Nat.le_of_ble_eq_true rfl) ?_
  refine wp_iload_n (i := 0) dX9_in_0 rfl rfl ?_
  refine wp_iload_n (i := 1) dX9_in_1 rfl rfl ?_
  refine wp_icmp_lt (tgt := 14) dX9_in_2 (by decide) (fun c1 => ?_) (fun c1 => ?_)
  · rw [if_pos c1] at h
    refine wp_iconst (v := 0) dX9_in_14 (by decide +kernel) ?_
    obtain rfl := Option.some.inj h
    exact wp_iret dX9_in_15 rfl (narrow_z (Or.inl rfl)).1
  · rw [if_neg c1] at h
    refine wp_iload_n (i := 0) dX9_in_5 rfl rfl ?_
    refine wp_iload_n (i := 2) dX9_in_6 rfl rfl ?_
    refine wp_icmp_gt (tgt := 14) dX9_in_7 (by decide) (fun c2 => ?_) (fun c2 => ?_)
    · rw [if_pos c2] at h
      refine wp_iconst (v := 0) dX9_in_14 (by decide +kernel) ?_
      obtain rfl := Option.some.inj h
      exact wp_iret dX9_in_15 rfl (narrow_z (Or.inl rfl)).1
    · rw [if_neg c2] at h
      refine wp_iconst (v := 1) dX9_in_10 (by decide +kernel) ?_
      refine wp_goto (tgt := 15) dX9_in_11 (by decide) ?_
      obtain rfl := Option.some.inj h
      exact wp_iret dX9_in_15 rfl (narrow_z (Or.inr rfl)).1
def f_X9_is  (s : St) : Option (Int32 × St) :=
  if (s.1 43 1) ≤ 0 then (
    some ((0 : Int32), s))
  else (
    some ((1 : Int32), s))
set_option maxRecDepth 100000 in
set_option maxHeartbeats 4000000 in
theorem ok_X9_is  {s : St} {r : Int32 × St} (h : f_X9_is  s = some r) : Ct 0 m_X9_is [.ref 43] s (some (.int r.1)) r.2 := by
  unfold f_X9_is at h
  refine ct_of [some (.ref 43)] 0 (by decide) rfl (Nat.le_of_ble_eq_true rfl) ?_
  refine wp_aload_n (i := 0) dX9_is_0 rfl rfl ?_
  refine wp_getI dX9_is_1 fl_X9_83 rfl rfl ?_
  refine wp_if_le (tgt := 11) dX9_is_4 (by decide) (fun c1 => ?_) (fun c1 => ?_)
  · rw [if_pos c1] at h
    refine wp_iconst (v := 0) dX9_is_11 (by decide +kernel) ?_
    obtain rfl := Option.some.inj h
    exact wp_iret dX9_is_12 rfl (narrow_z (Or.inl rfl)).1
  · rw [if_neg c1] at h
    refine wp_iconst (v := 1) dX9_is_7 (by decide +kernel) ?_
    refine wp_goto (tgt := 12) dX9_is_8 (by decide) ?_
    obtain rfl := Option.some.inj h
    exact wp_iret dX9_is_12 rfl (narrow_z (Or.inr rfl)).1
def f_X9_lines  (s : St) : Option (Int32 × St) :=
  some ((s.1 43 1) + (s.1 43 2), s)
set_option maxRecDepth 100000 in
set_option maxHeartbeats 4000000 in
theorem ok_X9_lines  {s : St} {r : Int32 × St} (h : f_X9_lines  s = some r) : Ct 0 m_X9_lines [.ref 43] s (some (.int r.1)) r.2 := by
  unfold f_X9_lines at h
  refine ct_of [some (.ref 43)] 0 (by decide) rfl (Nat.le_of_ble_eq_true rfl) ?_
  refine wp_aload_n (i := 0) dX9_lines_0 rfl rfl ?_
  refine wp_getI dX9_lines_1 fl_X9_83 rfl rfl ?_
  refine wp_aload_n (i := 0) dX9_lines_4 rfl rfl ?_
  refine wp_getI dX9_lines_5 fl_X9_86 rfl rfl ?_
  refine wp_iadd dX9_lines_8 ?_
  obtain rfl := Option.some.inj h
  exact wp_iret dX9_lines_9 rfl rfl
def f_X9_isLine (a1 : Int32) (s : St) : Option (Int32 × St) :=
  Option.bind (f_X9_is s) fun r1 =>
  if r1.1 = 0 then (
    some ((0 : Int32), r1.2))
  else (
    Option.bind (f_X9_lines r1.2) fun r3 =>
    Option.bind (f_X9_in a1 (0 : Int32) (r3.1 - (1 : Int32)) r3.2) fun r4 =>
    if r4.1 = 0 then (
      some ((0 : Int32), r4.2))
    else (
      some ((1 : Int32), r4.2)))
set_option maxRecDepth 100000 in
set_option maxHeartbeats 4000000 in
theorem ok_X9_isLine {a1 : Int32} {s : St} {r : Int32 × St} (h : f_X9_isLine a1 s = some r) : Ct 1 m_X9_isLine [.ref 43, .int a1] s (some (.int r.1)) r.2 := by
  unfold f_X9_isLine at h
  refine ct_of [some (.ref 43), some (.int a1)] 0 (by decide) rfl (Nat.le_of_ble_eq_true rfl) ?_
  refine wp_aload_n (i := 0) dX9_isLine_0 rfl rfl ?_
  obtain ⟨r1, er1, h⟩ := ob h
  refine wp_cVi (N := m_X9_is) (As := []) (rest := []) dX9_isLine_1 ml_X9_89 mo_X9_is vo_X9_is rfl rfl (ok_X9_is er1) (by decide) (Nat.le_of_ble_eq_true rfl) ?_
  refine wp_if_eq (tgt := 25) dX9_isLine_4 (by decide) (fun c2 => ?_) (fun c2 => ?_)
  · rw [if_pos c2] at h
    refine wp_iconst (v := 0) dX9_isLine_25 (by decide +kernel) ?_
    obtain rfl := Option.some.inj h
    exact wp_iret dX9_isLine_26 rfl (narrow_z (Or.inl rfl)).1
  · rw [if_neg c2] at h
    refine wp_iload_n (i := 1) dX9_isLine_7 rfl rfl ?_
    refine wp_iconst (v := 0) dX9_isLine_8 (by decide +kernel) ?_
    refine wp_aload_n (i := 0) dX9_isLine_9 rfl rfl ?_
    obtain ⟨r3, er3, h⟩ := ob h
    refine wp_cVi (N := m_X9_lines) (As := []) (rest := [.int (0 : Int32), .int a1]) dX9_isLine_10 ml_X9_93 mo_X9_lines vo_X9_lines rfl rfl (ok_X9_lines er3) (by decide) (Nat.le_of_ble_eq_true rfl) ?_
    refine wp_iconst (v := 1) dX9_isLine_13 (by decide +kernel) ?_
    refine wp_isub dX9_isLine_14 ?_
    obtain ⟨r4, er4, h⟩ := ob h
    refine wp_cSi (N := m_X9_in) (As := [.int a1, .int (0 : Int32), .int (r3.1 - (1 : Int32))]) (rest := []) dX9_isLine_15 ml_X9_97 mo_X9_in vo_X9_in rfl (ok_X9_in er4) (by decide) (Nat.le_of_ble_eq_true rfl) ?_
    refine wp_if_eq (tgt := 25) dX9_isLine_18 (by decide) (fun c5 => ?_) (fun c5 => ?_)
    · rw [if_pos c5] at h
      refine wp_iconst (v := 0) dX9_isLine_25 (by decide +kernel) ?_
      obtain rfl := Option.some.inj h
      exact wp_iret dX9_isLine_26 rfl (narrow_z (Or.inl rfl)).1
    · rw [if_neg c5] at h
      refine wp_iconst (v := 1) dX9_isLine_21 (by decide +kernel) ?_
      refine wp_goto (tgt := 26) dX9_isLine_22 (by decide) ?_
      obtain rfl := Option.some.inj h
      exact wp_iret dX9_isLine_26 rfl (narrow_z (Or.inr rfl)).1
def f_X9_isCell (a1 : Int32) (a2 : Int32) (s : St) : Option (Int32 × St) :=
  Option.bind (f_X9_is s) fun r1 =>
  if r1.1 = 0 then (
    some ((0 : Int32), r1.2))
  else (
    Option.bind (f_X9_in a1 (0 : Int32) ((r1.2.1 43 1) - (1 : Int32)) r1.2) fun r3 =>
    if r3.1 = 0 then (
      some ((0 : Int32), r3.2))
    else (
      Option.bind (f_X9_in a2 (0 : Int32) ((r3.2.1 43 2) - (1 : Int32)) r3.2) fun r5 =>
      if r5.1 = 0 then (
        some ((0 : Int32), r5.2))
      else (
        some ((1 : Int32), r5.2))))
set_option maxRecDepth 100000 in
set_option maxHeartbeats 4000000 in
theorem ok_X9_isCell {a1 : Int32} {a2 : Int32} {s : St} {r : Int32 × St} (h : f_X9_isCell a1 a2 s = some r) : Ct 1 m_X9_isCell [.ref 43, .int a1, .int a2] s (some (.int r.1)) r.2 := by
  unfold f_X9_isCell at h
  refine ct_of [some (.ref 43), some (.int a1), some (.int a2)] 0 (by decide) rfl (Nat.le_of_ble_eq_true rfl) ?_
  refine wp_aload_n (i := 0) dX9_isCell_0 rfl rfl ?_
  obtain ⟨r1, er1, h⟩ := ob h
  refine wp_cVi (N := m_X9_is) (As := []) (rest := []) dX9_isCell_1 ml_X9_89 mo_X9_is vo_X9_is rfl rfl (ok_X9_is er1) (by decide) (Nat.le_of_ble_eq_true rfl) ?_
  refine wp_if_eq (tgt := 39) dX9_isCell_4 (by decide) (fun c2 => ?_) (fun c2 => ?_)
  · rw [if_pos c2] at h
    refine wp_iconst (v := 0) dX9_isCell_39 (by decide +kernel) ?_
    obtain rfl := Option.some.inj h
    exact wp_iret dX9_isCell_40 rfl (narrow_z (Or.inl rfl)).1
  · rw [if_neg c2] at h
    refine wp_iload_n (i := 1) dX9_isCell_7 rfl rfl ?_
    refine wp_iconst (v := 0) dX9_isCell_8 (by decide +kernel) ?_
    refine wp_aload_n (i := 0) dX9_isCell_9 rfl rfl ?_
    refine wp_getI dX9_isCell_10 fl_X9_83 rfl rfl ?_
    refine wp_iconst (v := 1) dX9_isCell_13 (by decide +kernel) ?_
    refine wp_isub dX9_isCell_14 ?_
    obtain ⟨r3, er3, h⟩ := ob h
    refine wp_cSi (N := m_X9_in) (As := [.int a1, .int (0 : Int32), .int ((r1.2.1 43 1) - (1 : Int32))]) (rest := []) dX9_isCell_15 ml_X9_97 mo_X9_in vo_X9_in rfl (ok_X9_in er3) (by decide) (Nat.le_of_ble_eq_true rfl) ?_
    refine wp_if_eq (tgt := 39) dX9_isCell_18 (by decide) (fun c4 => ?_) (fun c4 => ?_)
    · rw [if_pos c4] at h
      refine wp_iconst (v := 0) dX9_isCell_39 (by decide +kernel) ?_
      obtain rfl := Option.some.inj h
      exact wp_iret dX9_isCell_40 rfl (narrow_z (Or.inl rfl)).1
    · rw [if_neg c4] at h
      refine wp_iload_n (i := 2) dX9_isCell_21 rfl rfl ?_
      refine wp_iconst (v := 0) dX9_isCell_22 (by decide +kernel) ?_
      refine wp_aload_n (i := 0) dX9_isCell_23 rfl rfl ?_
      refine wp_getI dX9_isCell_24 fl_X9_86 rfl rfl ?_
      refine wp_iconst (v := 1) dX9_isCell_27 (by decide +kernel) ?_
      refine wp_isub dX9_isCell_28 ?_
      obtain ⟨r5, er5, h⟩ := ob h
      refine wp_cSi (N := m_X9_in) (As := [.int a2, .int (0 : Int32), .int ((r3.2.1 43 2) - (1 : Int32))]) (rest := []) dX9_isCell_29 ml_X9_97 mo_X9_in vo_X9_in rfl (ok_X9_in er5) (by decide) (Nat.le_of_ble_eq_true rfl) ?_
      refine wp_if_eq (tgt := 39) dX9_isCell_32 (by decide) (fun c6 => ?_) (fun c6 => ?_)
      · rw [if_pos c6] at h
        refine wp_iconst (v := 0) dX9_isCell_39 (by decide +kernel) ?_
        obtain rfl := Option.some.inj h
        exact wp_iret dX9_isCell_40 rfl (narrow_z (Or.inl rfl)).1
      · rw [if_neg c6] at h
        refine wp_iconst (v := 1) dX9_isCell_35 (by decide +kernel) ?_
        refine wp_goto (tgt := 40) dX9_isCell_36 (by decide) ?_
        obtain rfl := Option.some.inj h
        exact wp_iret dX9_isCell_40 rfl (narrow_z (Or.inr rfl)).1
def f_X9_sizeOf (a1 : Int32) (s : St) : Option (Int32 × St) :=
  if (s.1 43 2) ≤ a1 then (
    some (s.1 43 2, s))
  else (
    some (s.1 43 1, s))
set_option maxRecDepth 100000 in
set_option maxHeartbeats 4000000 in
theorem ok_X9_sizeOf {a1 : Int32} {s : St} {r : Int32 × St} (h : f_X9_sizeOf a1 s = some r) : Ct 0 m_X9_sizeOf [.ref 43, .int a1] s (some (.int r.1)) r.2 := by
  unfold f_X9_sizeOf at h
  refine ct_of [some (.ref 43), some (.int a1)] 0 (by decide) rfl (Nat.le_of_ble_eq_true rfl) ?_
  refine wp_iload_n (i := 1) dX9_sizeOf_0 rfl rfl ?_
  refine wp_aload_n (i := 0) dX9_sizeOf_1 rfl rfl ?_
  refine wp_getI dX9_sizeOf_2 fl_X9_86 rfl rfl ?_
  refine wp_icmp_ge (tgt := 15) dX9_sizeOf_5 (by decide) (fun c1 => ?_) (fun c1 => ?_)
  · rw [if_pos c1] at h
    refine wp_aload_n (i := 0) dX9_sizeOf_15 rfl rfl ?_
    refine wp_getI dX9_sizeOf_16 fl_X9_86 rfl rfl ?_
    obtain rfl := Option.some.inj h
    exact wp_iret dX9_sizeOf_19 rfl rfl
  · rw [if_neg c1] at h
    refine wp_aload_n (i := 0) dX9_sizeOf_8 rfl rfl ?_
    refine wp_getI dX9_sizeOf_9 fl_X9_83 rfl rfl ?_
    refine wp_goto (tgt := 19) dX9_sizeOf_12 (by decide) ?_
    obtain rfl := Option.some.inj h
    exact wp_iret dX9_sizeOf_19 rfl rfl
def f_X9_cellOf (a1 : Int32) (a2 : Int32) (s : St) : Option (Int32 × St) :=
  if (s.1 43 2) ≤ a1 then (
    some ((((12 : Int32) * a2) + a1) - (s.1 43 2), s))
  else (
    some (((12 : Int32) * a1) + a2, s))
set_option maxRecDepth 100000 in
set_option maxHeartbeats 4000000 in
theorem ok_X9_cellOf {a1 : Int32} {a2 : Int32} {s : St} {r : Int32 × St} (h : f_X9_cellOf a1 a2 s = some r) : Ct 0 m_X9_cellOf [.ref 43, .int a1, .int a2] s (some (.int r.1)) r.2 := by
  unfold f_X9_cellOf at h
  refine ct_of [some (.ref 43), some (.int a1), some (.int a2)] 0 (by decide) rfl (Nat.le_of_ble_eq_true rfl) ?_
  refine wp_iload_n (i := 1) dX9_cellOf_0 rfl rfl ?_
  refine wp_aload_n (i := 0) dX9_cellOf_1 rfl rfl ?_
  refine wp_getI dX9_cellOf_2 fl_X9_86 rfl rfl ?_
  refine wp_icmp_ge (tgt := 17) dX9_cellOf_5 (by decide) (fun c1 => ?_) (fun c1 => ?_)
  · rw [if_pos c1] at h
    refine wp_bipush (v := 12) dX9_cellOf_17 (by decide +kernel) ?_
    refine wp_iload_n (i := 2) dX9_cellOf_19 rfl rfl ?_
    refine wp_imul dX9_cellOf_20 ?_
    refine wp_iload_n (i := 1) dX9_cellOf_21 rfl rfl ?_
    refine wp_iadd dX9_cellOf_22 ?_
    refine wp_aload_n (i := 0) dX9_cellOf_23 rfl rfl ?_
    refine wp_getI dX9_cellOf_24 fl_X9_86 rfl rfl ?_
    refine wp_isub dX9_cellOf_27 ?_
    obtain rfl := Option.some.inj h
    exact wp_iret dX9_cellOf_28 rfl rfl
  · rw [if_neg c1] at h
    refine wp_bipush (v := 12) dX9_cellOf_8 (by decide +kernel) ?_
    refine wp_iload_n (i := 1) dX9_cellOf_10 rfl rfl ?_
    refine wp_imul dX9_cellOf_11 ?_
    refine wp_iload_n (i := 2) dX9_cellOf_12 rfl rfl ?_
    refine wp_iadd dX9_cellOf_13 ?_
    refine wp_goto (tgt := 28) dX9_cellOf_14 (by decide) ?_
    obtain rfl := Option.some.inj h
    exact wp_iret dX9_cellOf_28 rfl rfl
def f_X9_inOrder (a1 : Int32) (s : St) : Option (Int32 × St) :=
  if s.1 43 1 = 0 then none else
  if s.1 43 1 = 0 then none else
  some (((12 : Int32) * (a1 / (s.1 43 1))) + (a1 - a1 / (s.1 43 1) * (s.1 43 1)), s)
set_option maxRecDepth 100000 in
set_option maxHeartbeats 4000000 in
theorem ok_X9_inOrder {a1 : Int32} {s : St} {r : Int32 × St} (h : f_X9_inOrder a1 s = some r) : Ct 0 m_X9_inOrder [.ref 43, .int a1] s (some (.int r.1)) r.2 := by
  unfold f_X9_inOrder at h
  refine ct_of [some (.ref 43), some (.int a1)] 0 (by decide) rfl (Nat.le_of_ble_eq_true rfl) ?_
  refine wp_bipush (v := 12) dX9_inOrder_0 (by decide +kernel) ?_
  refine wp_iload_n (i := 1) dX9_inOrder_2 rfl rfl ?_
  refine wp_aload_n (i := 0) dX9_inOrder_3 rfl rfl ?_
  refine wp_getI dX9_inOrder_4 fl_X9_83 rfl rfl ?_
  obtain ⟨z1, h⟩ := ifz h
  refine wp_idiv dX9_inOrder_7 z1 ?_
  refine wp_imul dX9_inOrder_8 ?_
  refine wp_iload_n (i := 1) dX9_inOrder_9 rfl rfl ?_
  refine wp_aload_n (i := 0) dX9_inOrder_10 rfl rfl ?_
  refine wp_getI dX9_inOrder_11 fl_X9_83 rfl rfl ?_
  obtain ⟨z2, h⟩ := ifz h
  refine wp_irem dX9_inOrder_14 z2 ?_
  refine wp_iadd dX9_inOrder_15 ?_
  obtain rfl := Option.some.inj h
  exact wp_iret dX9_inOrder_16 rfl rfl
def f_X9_isNew_17 : Nat → Int32 → St → Option (St)
  | 0, _, _ => none
  | n + 1, v1, s =>
    if (144 : Int32) ≤ v1 then (
      some s)
    else (
      Option.bind (pI s 47 v1 (-1 : Int32)) fun s2 =>
      f_X9_isNew_17 n (v1 + 1) s2)
set_option maxRecDepth 100000 in
set_option maxHeartbeats 4000000 in
theorem w_X9_isNew_17 {r : St}   : ∀ (n : Nat) (v1 : Int32) (s : St), f_X9_isNew_17  n v1 s = some r → Wp m_X9_isNew 0 (PR none r) 17 [some (.ref 43), some (.int v1)] [] s := by
  intro n
  induction n with
  | zero => intro v1 s h; cases h
  | succ n ih =>
    intro v1 s h
    unfold f_X9_isNew_17 at h
    refine wp_iload_n (i := 1) dX9_isNew_17 rfl rfl ?_
    refine wp_sipush (v := 144) dX9_isNew_18 (by decide +kernel) ?_
    refine wp_icmp_ge (tgt := 37) dX9_isNew_21 (by decide) (fun c1 => ?_) (fun c1 => ?_)
    · rw [if_pos c1] at h
      obtain rfl := Option.some.inj h
      exact wp_vret dX9_isNew_37 rfl
    · rw [if_neg c1] at h
      refine wp_aload_n (i := 0) dX9_isNew_24 rfl rfl ?_
      refine wp_getR (t := 47) dX9_isNew_25 fl_X9_19 rfl rfl ?_
      refine wp_iload_n (i := 1) dX9_isNew_28 rfl rfl ?_
      refine wp_iconst (v := -1) dX9_isNew_29 (by decide +kernel) ?_
      obtain ⟨s2, es2, h⟩ := ob h
      refine wp_pI dX9_isNew_30 es2 ?_
      refine wp_inc (c := 1) (ls' := [some (.ref 43), some (.int (v1 + 1))]) dX9_isNew_31 rfl (by decide +kernel) (by decide) rfl rfl ?_
      refine wp_goto (tgt := 17) dX9_isNew_34 (by decide) ?_
      exact wp_sub (ls' := [some (.ref 43), some (.int (v1 + 1))]) ⟨rfl, rfl, trivial⟩ (ih _ _ h)
def f_X9_isNew  (s : St) : Option (St) :=
  Option.bind (some (sF s 43 10 (0 : Int32))) fun s1 =>
  Option.bind (some (sF s1 43 11 (0 : Int32))) fun s2 =>
  Option.bind (some (sF s2 43 12 (-1 : Int32))) fun s3 =>
  f_X9_isNew_17 FU (0 : Int32) s3
set_option maxRecDepth 100000 in
set_option maxHeartbeats 4000000 in
theorem ok_X9_isNew  {s : St} {r : St} (h : f_X9_isNew  s = some r) : Ct 0 m_X9_isNew [.ref 43] s none r := by
  unfold f_X9_isNew at h
  refine ct_of [some (.ref 43), none] 1 (by decide) rfl (Nat.le_of_ble_eq_true rfl) ?_
  refine wp_aload_n (i := 0) dX9_isNew_0 rfl rfl ?_
  refine wp_iconst (v := 0) dX9_isNew_1 (by decide +kernel) ?_
  obtain ⟨s1, es1, h⟩ := ob h
  refine wp_putZ2 dX9_isNew_2 fl_X9_101 rfl rfl rfl rfl (Or.inl rfl) es1 ?_
  refine wp_aload_n (i := 0) dX9_isNew_5 rfl rfl ?_
  refine wp_iconst (v := 0) dX9_isNew_6 (by decide +kernel) ?_
  obtain ⟨s2, es2, h⟩ := ob h
  refine wp_putZ2 dX9_isNew_7 fl_X9_105 rfl rfl rfl rfl (Or.inl rfl) es2 ?_
  refine wp_aload_n (i := 0) dX9_isNew_10 rfl rfl ?_
  refine wp_iconst (v := -1) dX9_isNew_11 (by decide +kernel) ?_
  obtain ⟨s3, es3, h⟩ := ob h
  refine wp_putI2 dX9_isNew_12 fl_X9_28 rfl rfl rfl rfl es3 ?_
  refine wp_iconst (v := 0) dX9_isNew_15 (by decide +kernel) ?_
  refine wp_istore_n (ls' := [some (.ref 43), some (.int (0 : Int32))]) dX9_isNew_16 rfl (by decide) rfl rfl ?_
  exact wp_sub (ls' := [some (.ref 43), some (.int (0 : Int32))]) ⟨rfl, rfl, trivial⟩ (w_X9_isNew_17 _ _ _ h)
def f_X9_noMarks_2 : Nat → Int32 → St → Option (St)
  | 0, _, _ => none
  | n + 1, v1, s =>
    if (144 : Int32) ≤ v1 then (
      some s)
    else (
      Option.bind (pI s 48 v1 (-1 : Int32)) fun s2 =>
      f_X9_noMarks_2 n (v1 + 1) s2)
set_option maxRecDepth 100000 in
set_option maxHeartbeats 4000000 in
theorem w_X9_noMarks_2 {r : St}   : ∀ (n : Nat) (v1 : Int32) (s : St), f_X9_noMarks_2  n v1 s = some r → Wp m_X9_noMarks 0 (PR none r) 2 [some (.ref 43), some (.int v1)] [] s := by
  intro n
  induction n with
  | zero => intro v1 s h; cases h
  | succ n ih =>
    intro v1 s h
    unfold f_X9_noMarks_2 at h
    refine wp_iload_n (i := 1) dX9_noMarks_2 rfl rfl ?_
    refine wp_sipush (v := 144) dX9_noMarks_3 (by decide +kernel) ?_
    refine wp_icmp_ge (tgt := 22) dX9_noMarks_6 (by decide) (fun c1 => ?_) (fun c1 => ?_)
    · rw [if_pos c1] at h
      obtain rfl := Option.some.inj h
      exact wp_vret dX9_noMarks_22 rfl
    · rw [if_neg c1] at h
      refine wp_aload_n (i := 0) dX9_noMarks_9 rfl rfl ?_
      refine wp_getR (t := 48) dX9_noMarks_10 fl_X9_22 rfl rfl ?_
      refine wp_iload_n (i := 1) dX9_noMarks_13 rfl rfl ?_
      refine wp_iconst (v := -1) dX9_noMarks_14 (by decide +kernel) ?_
      obtain ⟨s2, es2, h⟩ := ob h
      refine wp_pI dX9_noMarks_15 es2 ?_
      refine wp_inc (c := 1) (ls' := [some (.ref 43), some (.int (v1 + 1))]) dX9_noMarks_16 rfl (by decide +kernel) (by decide) rfl rfl ?_
      refine wp_goto (tgt := 2) dX9_noMarks_19 (by decide) ?_
      exact wp_sub (ls' := [some (.ref 43), some (.int (v1 + 1))]) ⟨rfl, rfl, trivial⟩ (ih _ _ h)
def f_X9_noMarks  (s : St) : Option (St) :=
  f_X9_noMarks_2 FU (0 : Int32) s
set_option maxRecDepth 100000 in
set_option maxHeartbeats 4000000 in
theorem ok_X9_noMarks  {s : St} {r : St} (h : f_X9_noMarks  s = some r) : Ct 0 m_X9_noMarks [.ref 43] s none r := by
  unfold f_X9_noMarks at h
  refine ct_of [some (.ref 43), none] 1 (by decide) rfl (Nat.le_of_ble_eq_true rfl) ?_
  refine wp_iconst (v := 0) dX9_noMarks_0 (by decide +kernel) ?_
  refine wp_istore_n (ls' := [some (.ref 43), some (.int (0 : Int32))]) dX9_noMarks_1 rfl (by decide) rfl rfl ?_
  exact wp_sub (ls' := [some (.ref 43), some (.int (0 : Int32))]) ⟨rfl, rfl, trivial⟩ (w_X9_noMarks_2 _ _ _ h)
def f_X9_runMany_4 : Nat → Int32 → Int32 → St → Option (Int32 × St)
  | 0, _, _, _ => none
  | n + 1, v1, v2, s =>
    Option.bind (f_X9_lines s) fun r1 =>
    if r1.1 ≤ v2 then (
      some (v1, r1.2))
    else (
      Option.bind (aI r1.2 44 v2) fun x3 =>
      f_X9_runMany_4 n (v1 + x3) (v2 + 1) r1.2)
set_option maxRecDepth 100000 in
set_option maxHeartbeats 4000000 in
theorem w_X9_runMany_4 {r : Int32 × St}   : ∀ (n : Nat) (v1 : Int32) (v2 : Int32) (s : St), f_X9_runMany_4  n v1 v2 s = some r → Wp m_X9_runMany 1 (PR (some (.int r.1)) r.2) 4 [some (.ref 43), some (.int v1), some (.int v2)] [] s := by
  intro n
  induction n with
  | zero => intro v1 v2 s h; cases h
  | succ n ih =>
    intro v1 v2 s h
    unfold f_X9_runMany_4 at h
    refine wp_iload_n (i := 2) dX9_runMany_4 rfl rfl ?_
    refine wp_aload_n (i := 0) dX9_runMany_5 rfl rfl ?_
    obtain ⟨r1, er1, h⟩ := ob h
    refine wp_cVi (N := m_X9_lines) (As := []) (rest := [.int v2]) dX9_runMany_6 ml_X9_93 mo_X9_lines vo_X9_lines rfl rfl (ok_X9_lines er1) (by decide) (Nat.le_of_ble_eq_true rfl) ?_
    refine wp_icmp_ge (tgt := 27) dX9_runMany_9 (by decide) (fun c2 => ?_) (fun c2 => ?_)
    · rw [if_pos c2] at h
      refine wp_iload_n (i := 1) dX9_runMany_27 rfl rfl ?_
      obtain rfl := Option.some.inj h
      exact wp_iret dX9_runMany_28 rfl rfl
    · rw [if_neg c2] at h
      refine wp_iload_n (i := 1) dX9_runMany_12 rfl rfl ?_
      refine wp_aload_n (i := 0) dX9_runMany_13 rfl rfl ?_
      refine wp_getR (t := 44) dX9_runMany_14 fl_X9_9 rfl rfl ?_
      refine wp_iload_n (i := 2) dX9_runMany_17 rfl rfl ?_
      obtain ⟨x3, ex3, h⟩ := ob h
      refine wp_aI dX9_runMany_18 ex3 ?_
      refine wp_iadd dX9_runMany_19 ?_
      refine wp_istore_n (ls' := [some (.ref 43), some (.int (v1 + x3)), some (.int v2)]) dX9_runMany_20 rfl (by decide) rfl rfl ?_
      refine wp_inc (c := 1) (ls' := [some (.ref 43), some (.int (v1 + x3)), some (.int (v2 + 1))]) dX9_runMany_21 rfl (by decide +kernel) (by decide) rfl rfl ?_
      refine wp_goto (tgt := 4) dX9_runMany_24 (by decide) ?_
      exact wp_sub (ls' := [some (.ref 43), some (.int (v1 + x3)), some (.int (v2 + 1))]) ⟨rfl, rfl, rfl, trivial⟩ (ih _ _ _ h)
def f_X9_runMany  (s : St) : Option (Int32 × St) :=
  f_X9_runMany_4 FU (0 : Int32) (0 : Int32) s
set_option maxRecDepth 100000 in
set_option maxHeartbeats 4000000 in
theorem ok_X9_runMany  {s : St} {r : Int32 × St} (h : f_X9_runMany  s = some r) : Ct 1 m_X9_runMany [.ref 43] s (some (.int r.1)) r.2 := by
  unfold f_X9_runMany at h
  refine ct_of [some (.ref 43), none, none] 2 (by decide) rfl (Nat.le_of_ble_eq_true rfl) ?_
  refine wp_iconst (v := 0) dX9_runMany_0 (by decide +kernel) ?_
  refine wp_istore_n (ls' := [some (.ref 43), some (.int (0 : Int32)), none]) dX9_runMany_1 rfl (by decide) rfl rfl ?_
  refine wp_iconst (v := 0) dX9_runMany_2 (by decide +kernel) ?_
  refine wp_istore_n (ls' := [some (.ref 43), some (.int (0 : Int32)), some (.int (0 : Int32))]) dX9_runMany_3 rfl (by decide) rfl rfl ?_
  exact wp_sub (ls' := [some (.ref 43), some (.int (0 : Int32)), some (.int (0 : Int32))]) ⟨rfl, rfl, rfl, trivial⟩ (w_X9_runMany_4 _ _ _ _ h)
def f_X9_four_2 : Nat → Int32 → Int32 → St → Option (St)
  | 0, _, _, _ => none
  | n + 1, v1, v2, s =>
    if v2 < 0 then (
      some s)
    else (
      Option.bind (pI s 51 (s.1 43 16) ((v1 >>> (((8 : Int32) * v2) &&& 31)) &&& (255 : Int32))) fun s2 =>
      Option.bind (some (sF s2 43 16 ((s2.1 43 16) + (1 : Int32)))) fun s3 =>
      f_X9_four_2 n v1 (v2 + (-1)) s3)
set_option maxRecDepth 100000 in
set_option maxHeartbeats 4000000 in
theorem w_X9_four_2 {r : St}   : ∀ (n : Nat) (v1 : Int32) (v2 : Int32) (s : St), f_X9_four_2  n v1 v2 s = some r → Wp m_X9_four 0 (PR none r) 2 [some (.ref 43), some (.int v1), some (.int v2)] [] s := by
  intro n
  induction n with
  | zero => intro v1 v2 s h; cases h
  | succ n ih =>
    intro v1 v2 s h
    unfold f_X9_four_2 at h
    refine wp_iload_n (i := 2) dX9_four_2 rfl rfl ?_
    refine wp_if_lt (tgt := 41) dX9_four_3 (by decide) (fun c1 => ?_) (fun c1 => ?_)
    · rw [if_pos c1] at h
      obtain rfl := Option.some.inj h
      exact wp_vret dX9_four_41 rfl
    · rw [if_neg c1] at h
      refine wp_aload_n (i := 0) dX9_four_6 rfl rfl ?_
      refine wp_getR (t := 51) dX9_four_7 fl_X9_35 rfl rfl ?_
      refine wp_aload_n (i := 0) dX9_four_10 rfl rfl ?_
      refine wp_getI dX9_four_11 fl_X9_108 rfl rfl ?_
      refine wp_iload_n (i := 1) dX9_four_14 rfl rfl ?_
      refine wp_bipush (v := 8) dX9_four_15 (by decide +kernel) ?_
      refine wp_iload_n (i := 2) dX9_four_17 rfl rfl ?_
      refine wp_imul dX9_four_18 ?_
      refine wp_ishr dX9_four_19 ?_
      refine wp_sipush (v := 255) dX9_four_20 (by decide +kernel) ?_
      refine wp_iand dX9_four_23 ?_
      obtain ⟨s2, es2, h⟩ := ob h
      refine wp_pI dX9_four_24 es2 ?_
      refine wp_aload_n (i := 0) dX9_four_25 rfl rfl ?_
      refine wp_dup_r dX9_four_26 ?_
      refine wp_getI dX9_four_27 fl_X9_108 rfl rfl ?_
      refine wp_iconst (v := 1) dX9_four_30 (by decide +kernel) ?_
      refine wp_iadd dX9_four_31 ?_
      obtain ⟨s3, es3, h⟩ := ob h
      refine wp_putI2 dX9_four_32 fl_X9_108 rfl rfl rfl rfl es3 ?_
      refine wp_inc (c := -1) (ls' := [some (.ref 43), some (.int v1), some (.int (v2 + (-1)))]) dX9_four_35 rfl (by decide +kernel) (by decide) rfl rfl ?_
      refine wp_goto (tgt := 2) dX9_four_38 (by decide) ?_
      exact wp_sub (ls' := [some (.ref 43), some (.int v1), some (.int (v2 + (-1)))]) ⟨rfl, rfl, rfl, trivial⟩ (ih _ _ _ h)
def f_X9_four (a1 : Int32) (s : St) : Option (St) :=
  f_X9_four_2 FU a1 (3 : Int32) s
set_option maxRecDepth 100000 in
set_option maxHeartbeats 4000000 in
theorem ok_X9_four {a1 : Int32} {s : St} {r : St} (h : f_X9_four a1 s = some r) : Ct 0 m_X9_four [.ref 43, .int a1] s none r := by
  unfold f_X9_four at h
  refine ct_of [some (.ref 43), some (.int a1), none] 1 (by decide) rfl (Nat.le_of_ble_eq_true rfl) ?_
  refine wp_iconst (v := 3) dX9_four_0 (by decide +kernel) ?_
  refine wp_istore_n (ls' := [some (.ref 43), some (.int a1), some (.int (3 : Int32))]) dX9_four_1 rfl (by decide) rfl rfl ?_
  exact wp_sub (ls' := [some (.ref 43), some (.int a1), some (.int (3 : Int32))]) ⟨rfl, rfl, rfl, trivial⟩ (w_X9_four_2 _ _ _ _ h)
def f_X9_feed (a1 : Int32) (a2 : Int32) (a3 : Int32) (a4 : Int32) (a5 : Int32) (s : St) : Option (Int32 × St) :=
  Option.bind (some (sF s 43 0 (0 : Int32))) fun s1 =>
  if ((s1.1 43 16) + (20 : Int32)) ≤ (900 : Int32) then (
    Option.bind (f_X9_four a1 s1) fun s3 =>
    Option.bind (f_X9_four a2 s3) fun s4 =>
    Option.bind (f_X9_four a3 s4) fun s5 =>
    Option.bind (f_X9_four a4 s5) fun s6 =>
    Option.bind (f_X9_four a5 s6) fun s7 =>
    some (s7.1 43 16, s7))
  else (
    some ((-1 : Int32), s1))
set_option maxRecDepth 100000 in
set_option maxHeartbeats 4000000 in
theorem ok_X9_feed {a1 : Int32} {a2 : Int32} {a3 : Int32} {a4 : Int32} {a5 : Int32} {s : St} {r : Int32 × St} (h : f_X9_feed a1 a2 a3 a4 a5 s = some r) : Ct 1 m_X9_feed [.ref 43, .int a1, .int a2, .int a3, .int a4, .int a5] s (some (.int r.1)) r.2 := by
  unfold f_X9_feed at h
  refine ct_of [some (.ref 43), some (.int a1), some (.int a2), some (.int a3), some (.int a4), some (.int a5)] 0 (by decide) rfl (Nat.le_of_ble_eq_true rfl) ?_
  refine wp_aload_n (i := 0) dX9_feed_0 rfl rfl ?_
  refine wp_iconst (v := 0) dX9_feed_1 (by decide +kernel) ?_
  obtain ⟨s1, es1, h⟩ := ob h
  refine wp_putI2 dX9_feed_2 fl_X9_80 rfl rfl rfl rfl es1 ?_
  refine wp_aload_n (i := 0) dX9_feed_5 rfl rfl ?_
  refine wp_getI dX9_feed_6 fl_X9_108 rfl rfl ?_
  refine wp_bipush (v := 20) dX9_feed_9 (by decide +kernel) ?_
  refine wp_iadd dX9_feed_11 ?_
  refine wp_sipush (v := 900) dX9_feed_12 (by decide +kernel) ?_
  refine wp_icmp_le (tgt := 20) dX9_feed_15 (by decide) (fun c2 => ?_) (fun c2 => ?_)
  · rw [if_pos c2] at h
    refine wp_aload_n (i := 0) dX9_feed_20 rfl rfl ?_
    refine wp_iload_n (i := 1) dX9_feed_21 rfl rfl ?_
    obtain ⟨s3, es3, h⟩ := ob h
    refine wp_cVv (N := m_X9_four) (As := [.int a1]) (rest := []) dX9_feed_22 ml_X9_111 mo_X9_four vo_X9_four rfl rfl (ok_X9_four es3) (by decide) (Nat.le_of_ble_eq_true rfl) ?_
    refine wp_aload_n (i := 0) dX9_feed_25 rfl rfl ?_
    refine wp_iload_n (i := 2) dX9_feed_26 rfl rfl ?_
    obtain ⟨s4, es4, h⟩ := ob h
    refine wp_cVv (N := m_X9_four) (As := [.int a2]) (rest := []) dX9_feed_27 ml_X9_111 mo_X9_four vo_X9_four rfl rfl (ok_X9_four es4) (by decide) (Nat.le_of_ble_eq_true rfl) ?_
    refine wp_aload_n (i := 0) dX9_feed_30 rfl rfl ?_
    refine wp_iload_n (i := 3) dX9_feed_31 rfl rfl ?_
    obtain ⟨s5, es5, h⟩ := ob h
    refine wp_cVv (N := m_X9_four) (As := [.int a3]) (rest := []) dX9_feed_32 ml_X9_111 mo_X9_four vo_X9_four rfl rfl (ok_X9_four es5) (by decide) (Nat.le_of_ble_eq_true rfl) ?_
    refine wp_aload_n (i := 0) dX9_feed_35 rfl rfl ?_
    refine wp_iload dX9_feed_36 rfl ?_
    obtain ⟨s6, es6, h⟩ := ob h
    refine wp_cVv (N := m_X9_four) (As := [.int a4]) (rest := []) dX9_feed_38 ml_X9_111 mo_X9_four vo_X9_four rfl rfl (ok_X9_four es6) (by decide) (Nat.le_of_ble_eq_true rfl) ?_
    refine wp_aload_n (i := 0) dX9_feed_41 rfl rfl ?_
    refine wp_iload dX9_feed_42 rfl ?_
    obtain ⟨s7, es7, h⟩ := ob h
    refine wp_cVv (N := m_X9_four) (As := [.int a5]) (rest := []) dX9_feed_44 ml_X9_111 mo_X9_four vo_X9_four rfl rfl (ok_X9_four es7) (by decide) (Nat.le_of_ble_eq_true rfl) ?_
    refine wp_aload_n (i := 0) dX9_feed_47 rfl rfl ?_
    refine wp_getI dX9_feed_48 fl_X9_108 rfl rfl ?_
    obtain rfl := Option.some.inj h
    exact wp_iret dX9_feed_51 rfl rfl
  · rw [if_neg c2] at h
    refine wp_iconst (v := -1) dX9_feed_18 (by decide +kernel) ?_
    obtain rfl := Option.some.inj h
    exact wp_iret dX9_feed_19 rfl rfl
def f_X9_end (a1 : Int32) (s : St) : Option (Int32 × St) :=
  Option.bind (some (sF s 43 0 (0 : Int32))) fun s1 =>
  Option.bind (f_X9_in a1 (0 : Int32) (s1.1 43 16) s1) fun r2 =>
  if r2.1 = 0 then (
    some ((-1 : Int32), r2.2))
  else (
    Option.bind (some (sF r2.2 43 16 a1)) fun s4 =>
    some (a1, s4))
set_option maxRecDepth 100000 in
set_option maxHeartbeats 4000000 in
theorem ok_X9_end {a1 : Int32} {s : St} {r : Int32 × St} (h : f_X9_end a1 s = some r) : Ct 1 m_X9_end [.ref 43, .int a1] s (some (.int r.1)) r.2 := by
  unfold f_X9_end at h
  refine ct_of [some (.ref 43), some (.int a1)] 0 (by decide) rfl (Nat.le_of_ble_eq_true rfl) ?_
  refine wp_aload_n (i := 0) dX9_end_0 rfl rfl ?_
  refine wp_iconst (v := 0) dX9_end_1 (by decide +kernel) ?_
  obtain ⟨s1, es1, h⟩ := ob h
  refine wp_putI2 dX9_end_2 fl_X9_80 rfl rfl rfl rfl es1 ?_
  refine wp_iload_n (i := 1) dX9_end_5 rfl rfl ?_
  refine wp_iconst (v := 0) dX9_end_6 (by decide +kernel) ?_
  refine wp_aload_n (i := 0) dX9_end_7 rfl rfl ?_
  refine wp_getI dX9_end_8 fl_X9_108 rfl rfl ?_
  obtain ⟨r2, er2, h⟩ := ob h
  refine wp_cSi (N := m_X9_in) (As := [.int a1, .int (0 : Int32), .int (s1.1 43 16)]) (rest := []) dX9_end_11 ml_X9_97 mo_X9_in vo_X9_in rfl (ok_X9_in er2) (by decide) (Nat.le_of_ble_eq_true rfl) ?_
  refine wp_if_ne (tgt := 19) dX9_end_14 (by decide) (fun c3 => ?_) (fun c3 => ?_)
  · rw [if_neg c3] at h
    refine wp_aload_n (i := 0) dX9_end_19 rfl rfl ?_
    refine wp_iload_n (i := 1) dX9_end_20 rfl rfl ?_
    obtain ⟨s4, es4, h⟩ := ob h
    refine wp_putI2 dX9_end_21 fl_X9_108 rfl rfl rfl rfl es4 ?_
    refine wp_iload_n (i := 1) dX9_end_24 rfl rfl ?_
    obtain rfl := Option.some.inj h
    exact wp_iret dX9_end_25 rfl rfl
  · rw [if_pos c3] at h
    refine wp_iconst (v := -1) dX9_end_17 (by decide +kernel) ?_
    obtain rfl := Option.some.inj h
    exact wp_iret dX9_end_18 rfl rfl
def f_X9_fails (a1 : Int32) (a2 : Int32) (s : St) : Option (St) :=
  if (s.1 43 17) ≤ 0 then (
    Option.bind (some (sF s 43 17 a1)) fun s2 =>
    Option.bind (some (sF s2 43 18 a2)) fun s3 =>
    some s3)
  else (
    some s)
set_option maxRecDepth 100000 in
set_option maxHeartbeats 4000000 in
theorem ok_X9_fails {a1 : Int32} {a2 : Int32} {s : St} {r : St} (h : f_X9_fails a1 a2 s = some r) : Ct 0 m_X9_fails [.ref 43, .int a1, .int a2] s none r := by
  unfold f_X9_fails at h
  refine ct_of [some (.ref 43), some (.int a1), some (.int a2)] 0 (by decide) rfl (Nat.le_of_ble_eq_true rfl) ?_
  refine wp_aload_n (i := 0) dX9_fails_0 rfl rfl ?_
  refine wp_getI dX9_fails_1 fl_X9_115 rfl rfl ?_
  refine wp_if_le (tgt := 8) dX9_fails_4 (by decide) (fun c1 => ?_) (fun c1 => ?_)
  · rw [if_pos c1] at h
    refine wp_aload_n (i := 0) dX9_fails_8 rfl rfl ?_
    refine wp_iload_n (i := 1) dX9_fails_9 rfl rfl ?_
    obtain ⟨s2, es2, h⟩ := ob h
    refine wp_putI2 dX9_fails_10 fl_X9_115 rfl rfl rfl rfl es2 ?_
    refine wp_aload_n (i := 0) dX9_fails_13 rfl rfl ?_
    refine wp_iload_n (i := 2) dX9_fails_14 rfl rfl ?_
    obtain ⟨s3, es3, h⟩ := ob h
    refine wp_putI2 dX9_fails_15 fl_X9_118 rfl rfl rfl rfl es3 ?_
    obtain rfl := Option.some.inj h
    exact wp_vret dX9_fails_18 rfl
  · rw [if_neg c1] at h
    obtain rfl := Option.some.inj h
    exact wp_vret dX9_fails_7 rfl
def f_X9_good  (s : St) : Option (Int32 × St) :=
  if (s.1 43 17) = 0 then (
    some ((1 : Int32), s))
  else (
    some ((0 : Int32), s))
set_option maxRecDepth 100000 in
set_option maxHeartbeats 4000000 in
theorem ok_X9_good  {s : St} {r : Int32 × St} (h : f_X9_good  s = some r) : Ct 0 m_X9_good [.ref 43] s (some (.int r.1)) r.2 := by
  unfold f_X9_good at h
  refine ct_of [some (.ref 43)] 0 (by decide) rfl (Nat.le_of_ble_eq_true rfl) ?_
  refine wp_aload_n (i := 0) dX9_good_0 rfl rfl ?_
  refine wp_getI dX9_good_1 fl_X9_115 rfl rfl ?_
  refine wp_if_ne (tgt := 11) dX9_good_4 (by decide) (fun c1 => ?_) (fun c1 => ?_)
  · rw [if_neg c1] at h
    refine wp_iconst (v := 0) dX9_good_11 (by decide +kernel) ?_
    obtain rfl := Option.some.inj h
    exact wp_iret dX9_good_12 rfl (narrow_z (Or.inl rfl)).1
  · rw [if_pos c1] at h
    refine wp_iconst (v := 1) dX9_good_7 (by decide +kernel) ?_
    refine wp_goto (tgt := 12) dX9_good_8 (by decide) ?_
    obtain rfl := Option.some.inj h
    exact wp_iret dX9_good_12 rfl (narrow_z (Or.inr rfl)).1
def f_X9_token (a1 : Int32) (a2 : Int32) (a3 : Int32) (s : St) : Option (St) :=
  Option.bind (pI s 52 (s.1 43 23) a1) fun s1 =>
  Option.bind (pI s1 53 (s1.1 43 23) a2) fun s2 =>
  Option.bind (pI s2 54 (s2.1 43 23) a3) fun s3 =>
  Option.bind (some (sF s3 43 23 ((s3.1 43 23) + (1 : Int32)))) fun s4 =>
  some s4
set_option maxRecDepth 100000 in
set_option maxHeartbeats 4000000 in
theorem ok_X9_token {a1 : Int32} {a2 : Int32} {a3 : Int32} {s : St} {r : St} (h : f_X9_token a1 a2 a3 s = some r) : Ct 0 m_X9_token [.ref 43, .int a1, .int a2, .int a3] s none r := by
  unfold f_X9_token at h
  refine ct_of [some (.ref 43), some (.int a1), some (.int a2), some (.int a3)] 0 (by decide) rfl (Nat.le_of_ble_eq_true rfl) ?_
  refine wp_aload_n (i := 0) dX9_token_0 rfl rfl ?_
  refine wp_getR (t := 52) dX9_token_1 fl_X9_38 rfl rfl ?_
  refine wp_aload_n (i := 0) dX9_token_4 rfl rfl ?_
  refine wp_getI dX9_token_5 fl_X9_121 rfl rfl ?_
  refine wp_iload_n (i := 1) dX9_token_8 rfl rfl ?_
  obtain ⟨s1, es1, h⟩ := ob h
  refine wp_pI dX9_token_9 es1 ?_
  refine wp_aload_n (i := 0) dX9_token_10 rfl rfl ?_
  refine wp_getR (t := 53) dX9_token_11 fl_X9_41 rfl rfl ?_
  refine wp_aload_n (i := 0) dX9_token_14 rfl rfl ?_
  refine wp_getI dX9_token_15 fl_X9_121 rfl rfl ?_
  refine wp_iload_n (i := 2) dX9_token_18 rfl rfl ?_
  obtain ⟨s2, es2, h⟩ := ob h
  refine wp_pI dX9_token_19 es2 ?_
  refine wp_aload_n (i := 0) dX9_token_20 rfl rfl ?_
  refine wp_getR (t := 54) dX9_token_21 fl_X9_44 rfl rfl ?_
  refine wp_aload_n (i := 0) dX9_token_24 rfl rfl ?_
  refine wp_getI dX9_token_25 fl_X9_121 rfl rfl ?_
  refine wp_iload_n (i := 3) dX9_token_28 rfl rfl ?_
  obtain ⟨s3, es3, h⟩ := ob h
  refine wp_pI dX9_token_29 es3 ?_
  refine wp_aload_n (i := 0) dX9_token_30 rfl rfl ?_
  refine wp_dup_r dX9_token_31 ?_
  refine wp_getI dX9_token_32 fl_X9_121 rfl rfl ?_
  refine wp_iconst (v := 1) dX9_token_35 (by decide +kernel) ?_
  refine wp_iadd dX9_token_36 ?_
  obtain ⟨s4, es4, h⟩ := ob h
  refine wp_putI2 dX9_token_37 fl_X9_121 rfl rfl rfl rfl es4 ?_
  obtain rfl := Option.some.inj h
  exact wp_vret dX9_token_40 rfl
def f_X9_cut_195  (s : St) : Option (St) :=
  Option.bind (f_X9_token (3 : Int32) (s.1 43 16) (0 : Int32) s) fun s1 =>
  some s1
set_option maxRecDepth 100000 in
set_option maxHeartbeats 4000000 in
theorem w_X9_cut_195 {r : St}   {s : St} (h : f_X9_cut_195  s = some r) : Wp m_X9_cut 1 (PR none r) 195 [some (.ref 43), none, none, none, none] [] s := by
  unfold f_X9_cut_195 at h
  refine wp_aload_n (i := 0) dX9_cut_195 rfl rfl ?_
  refine wp_iconst (v := 3) dX9_cut_196 (by decide +kernel) ?_
  refine wp_aload_n (i := 0) dX9_cut_197 rfl rfl ?_
  refine wp_getI dX9_cut_198 fl_X9_108 rfl rfl ?_
  refine wp_iconst (v := 0) dX9_cut_201 (by decide +kernel) ?_
  obtain ⟨s1, es1, h⟩ := ob h
  refine wp_cVv (N := m_X9_token) (As := [.int (3 : Int32), .int (s.1 43 16), .int (0 : Int32)]) (rest := []) dX9_cut_202 ml_X9_131 mo_X9_token vo_X9_token rfl rfl (ok_X9_token es1) (by decide) (Nat.le_of_ble_eq_true rfl) ?_
  obtain rfl := Option.some.inj h
  exact wp_vret dX9_cut_205 rfl
def f_X9_cut_192 (K7 : Int32 → St → Option (St)) (v1 : Int32) (s : St) : Option (St) :=
  K7 v1 s
set_option maxRecDepth 100000 in
set_option maxHeartbeats 4000000 in
theorem w_X9_cut_192 {r : St} {K7 : Int32 → St → Option (St)} (hK7 : ∀ (v1 : Int32) (s : St), K7 v1 s = some r → Wp m_X9_cut 1 (PR none r) 7 [some (.ref 43), some (.int v1), none, none, none] [] s) {v1 : Int32}  {s : St} (h : f_X9_cut_192 K7 v1 s = some r) : Wp m_X9_cut 1 (PR none r) 192 [some (.ref 43), some (.int v1), none, none, none] [] s := by
  unfold f_X9_cut_192 at h
  refine wp_goto (tgt := 7) dX9_cut_192 (by decide) ?_
  exact wp_sub (ls' := [some (.ref 43), some (.int v1), none, none, none]) ⟨rfl, rfl, trivial⟩ (hK7 _ _ h)
def f_X9_cut_133 (K7 : Int32 → St → Option (St)) (v1 : Int32) (v3 : Int32) (v4 : Int32) (s : St) : Option (St) :=
  Option.bind (f_X9_token (0 : Int32) v3 v4 s) fun s1 =>
  f_X9_cut_192 K7 v1 s1
set_option maxRecDepth 100000 in
set_option maxHeartbeats 4000000 in
theorem w_X9_cut_133 {r : St} {K7 : Int32 → St → Option (St)} (hK7 : ∀ (v1 : Int32) (s : St), K7 v1 s = some r → Wp m_X9_cut 1 (PR none r) 7 [some (.ref 43), some (.int v1), none, none, none] [] s) {v1 : Int32} {v3 : Int32} {v4 : Int32}  {s : St} (h : f_X9_cut_133 K7 v1 v3 v4 s = some r) : Wp m_X9_cut 1 (PR none r) 133 [some (.ref 43), some (.int v1), none, some (.int v3), some (.int v4)] [] s := by
  unfold f_X9_cut_133 at h
  refine wp_aload_n (i := 0) dX9_cut_133 rfl rfl ?_
  refine wp_iconst (v := 0) dX9_cut_134 (by decide +kernel) ?_
  refine wp_iload_n (i := 3) dX9_cut_135 rfl rfl ?_
  refine wp_iload dX9_cut_136 rfl ?_
  obtain ⟨s1, es1, h⟩ := ob h
  refine wp_cVv (N := m_X9_token) (As := [.int (0 : Int32), .int v3, .int v4]) (rest := []) dX9_cut_138 ml_X9_131 mo_X9_token vo_X9_token rfl rfl (ok_X9_token es1) (by decide) (Nat.le_of_ble_eq_true rfl) ?_
  refine wp_goto (tgt := 192) dX9_cut_141 (by decide) ?_
  exact wp_sub (ls' := [some (.ref 43), some (.int v1), none, none, none]) ⟨rfl, rfl, trivial⟩ (w_X9_cut_192 hK7 h)
def f_X9_cut_120 (K7 : Int32 → St → Option (St)) (v1 : Int32) (v3 : Int32) (v4 : Int32) (s : St) : Option (St) :=
  if (v1 - v3) ≤ (2 : Int32) then (
    f_X9_cut_133 K7 v1 v3 v4 s)
  else (
    Option.bind (f_X9_fails (1 : Int32) v3 s) fun s2 =>
    f_X9_cut_133 K7 v1 v3 v4 s2)
set_option maxRecDepth 100000 in
set_option maxHeartbeats 4000000 in
theorem w_X9_cut_120 {r : St} {K7 : Int32 → St → Option (St)} (hK7 : ∀ (v1 : Int32) (s : St), K7 v1 s = some r → Wp m_X9_cut 1 (PR none r) 7 [some (.ref 43), some (.int v1), none, none, none] [] s) {v1 : Int32} {v3 : Int32} {v4 : Int32}  {s : St} (h : f_X9_cut_120 K7 v1 v3 v4 s = some r) : Wp m_X9_cut 1 (PR none r) 120 [some (.ref 43), some (.int v1), none, some (.int v3), some (.int v4)] [] s := by
  unfold f_X9_cut_120 at h
  refine wp_iload_n (i := 1) dX9_cut_120 rfl rfl ?_
  refine wp_iload_n (i := 3) dX9_cut_121 rfl rfl ?_
  refine wp_isub dX9_cut_122 ?_
  refine wp_iconst (v := 2) dX9_cut_123 (by decide +kernel) ?_
  refine wp_icmp_le (tgt := 133) dX9_cut_124 (by decide) (fun c1 => ?_) (fun c1 => ?_)
  · rw [if_pos c1] at h
    exact wp_sub (ls' := [some (.ref 43), some (.int v1), none, some (.int v3), some (.int v4)]) ⟨rfl, rfl, rfl, rfl, trivial⟩ (w_X9_cut_133 hK7 h)
  · rw [if_neg c1] at h
    refine wp_aload_n (i := 0) dX9_cut_127 rfl rfl ?_
    refine wp_iconst (v := 1) dX9_cut_128 (by decide +kernel) ?_
    refine wp_iload_n (i := 3) dX9_cut_129 rfl rfl ?_
    obtain ⟨s2, es2, h⟩ := ob h
    refine wp_cVv (N := m_X9_fails) (As := [.int (1 : Int32), .int v3]) (rest := []) dX9_cut_130 ml_X9_127 mo_X9_fails vo_X9_fails rfl rfl (ok_X9_fails es2) (by decide) (Nat.le_of_ble_eq_true rfl) ?_
    exact wp_sub (ls' := [some (.ref 43), some (.int v1), none, some (.int v3), some (.int v4)]) ⟨rfl, rfl, rfl, rfl, trivial⟩ (w_X9_cut_133 hK7 h)
def f_X9_cut_114 (K7 : Int32 → St → Option (St)) (K66 : Int32 → Int32 → Int32 → St → Option (St)) (v1 : Int32) (v3 : Int32) (v4 : Int32) (s : St) : Option (St) :=
  K66 (v1 + 1) v3 v4 s
set_option maxRecDepth 100000 in
set_option maxHeartbeats 4000000 in
theorem w_X9_cut_114 {r : St} {K7 : Int32 → St → Option (St)} (hK7 : ∀ (v1 : Int32) (s : St), K7 v1 s = some r → Wp m_X9_cut 1 (PR none r) 7 [some (.ref 43), some (.int v1), none, none, none] [] s) {K66 : Int32 → Int32 → Int32 → St → Option (St)} (hK66 : ∀ (v1 : Int32) (v3 : Int32) (v4 : Int32) (s : St), K66 v1 v3 v4 s = some r → Wp m_X9_cut 1 (PR none r) 66 [some (.ref 43), some (.int v1), none, some (.int v3), some (.int v4)] [] s) {v1 : Int32} {v3 : Int32} {v4 : Int32}  {s : St} (h : f_X9_cut_114 K7 K66 v1 v3 v4 s = some r) : Wp m_X9_cut 1 (PR none r) 114 [some (.ref 43), some (.int v1), none, some (.int v3), some (.int v4)] [] s := by
  unfold f_X9_cut_114 at h
  refine wp_inc (c := 1) (ls' := [some (.ref 43), some (.int (v1 + 1)), none, some (.int v3), some (.int v4)]) dX9_cut_114 rfl (by decide +kernel) (by decide) rfl rfl ?_
  refine wp_goto (tgt := 66) dX9_cut_117 (by decide) ?_
  exact wp_sub (ls' := [some (.ref 43), some (.int (v1 + 1)), none, some (.int v3), some (.int v4)]) ⟨rfl, rfl, rfl, rfl, trivial⟩ (hK66 _ _ _ _ h)
def f_X9_cut_66 (K7 : Int32 → St → Option (St)) : Nat → Int32 → Int32 → Int32 → St → Option (St)
  | 0, _, _, _, _ => none
  | n + 1, v1, v3, v4, s =>
    if (s.1 43 16) ≤ v1 then (
      f_X9_cut_120 K7 v1 v3 v4 s)
    else (
      Option.bind (aI s 51 v1) fun x2 =>
      Option.bind (f_X9_in x2 (48 : Int32) (57 : Int32) s) fun r3 =>
      if r3.1 = 0 then (
        f_X9_cut_120 K7 v1 v3 v4 r3.2)
      else (
        if (2 : Int32) ≤ (v1 - v3) then (
          f_X9_cut_114 K7 (f_X9_cut_66 K7 n) v1 v3 v4 r3.2)
        else (
          Option.bind (aI r3.2 51 v1) fun x6 =>
          f_X9_cut_114 K7 (f_X9_cut_66 K7 n) v1 v3 ((((10 : Int32) * v4) + x6) - (48 : Int32)) r3.2)))
set_option maxRecDepth 100000 in
set_option maxHeartbeats 4000000 in
theorem w_X9_cut_66 {r : St} {K7 : Int32 → St → Option (St)} (hK7 : ∀ (v1 : Int32) (s : St), K7 v1 s = some r → Wp m_X9_cut 1 (PR none r) 7 [some (.ref 43), some (.int v1), none, none, none] [] s)   : ∀ (n : Nat) (v1 : Int32) (v3 : Int32) (v4 : Int32) (s : St), f_X9_cut_66 K7 n v1 v3 v4 s = some r → Wp m_X9_cut 1 (PR none r) 66 [some (.ref 43), some (.int v1), none, some (.int v3), some (.int v4)] [] s := by
  intro n
  induction n with
  | zero => intro v1 v3 v4 s h; cases h
  | succ n ih =>
    intro v1 v3 v4 s h
    unfold f_X9_cut_66 at h
    refine wp_iload_n (i := 1) dX9_cut_66 rfl rfl ?_
    refine wp_aload_n (i := 0) dX9_cut_67 rfl rfl ?_
    refine wp_getI dX9_cut_68 fl_X9_108 rfl rfl ?_
    refine wp_icmp_ge (tgt := 120) dX9_cut_71 (by decide) (fun c1 => ?_) (fun c1 => ?_)
    · rw [if_pos c1] at h
      exact wp_sub (ls' := [some (.ref 43), some (.int v1), none, some (.int v3), some (.int v4)]) ⟨rfl, rfl, rfl, rfl, trivial⟩ (w_X9_cut_120 hK7 h)
    · rw [if_neg c1] at h
      refine wp_aload_n (i := 0) dX9_cut_74 rfl rfl ?_
      refine wp_getR (t := 51) dX9_cut_75 fl_X9_35 rfl rfl ?_
      refine wp_iload_n (i := 1) dX9_cut_78 rfl rfl ?_
      obtain ⟨x2, ex2, h⟩ := ob h
      refine wp_aI dX9_cut_79 ex2 ?_
      refine wp_bipush (v := 48) dX9_cut_80 (by decide +kernel) ?_
      refine wp_bipush (v := 57) dX9_cut_82 (by decide +kernel) ?_
      obtain ⟨r3, er3, h⟩ := ob h
      refine wp_cSi (N := m_X9_in) (As := [.int x2, .int (48 : Int32), .int (57 : Int32)]) (rest := []) dX9_cut_84 ml_X9_97 mo_X9_in vo_X9_in rfl (ok_X9_in er3) (by decide) (Nat.le_of_ble_eq_true rfl) ?_
      refine wp_if_eq (tgt := 120) dX9_cut_87 (by decide) (fun c4 => ?_) (fun c4 => ?_)
      · rw [if_pos c4] at h
        exact wp_sub (ls' := [some (.ref 43), some (.int v1), none, some (.int v3), some (.int v4)]) ⟨rfl, rfl, rfl, rfl, trivial⟩ (w_X9_cut_120 hK7 h)
      · rw [if_neg c4] at h
        refine wp_iload_n (i := 1) dX9_cut_90 rfl rfl ?_
        refine wp_iload_n (i := 3) dX9_cut_91 rfl rfl ?_
        refine wp_isub dX9_cut_92 ?_
        refine wp_iconst (v := 2) dX9_cut_93 (by decide +kernel) ?_
        refine wp_icmp_ge (tgt := 114) dX9_cut_94 (by decide) (fun c5 => ?_) (fun c5 => ?_)
        · rw [if_pos c5] at h
          exact wp_sub (ls' := [some (.ref 43), some (.int v1), none, some (.int v3), some (.int v4)]) ⟨rfl, rfl, rfl, rfl, trivial⟩ (w_X9_cut_114 hK7 ih h)
        · rw [if_neg c5] at h
          refine wp_bipush (v := 10) dX9_cut_97 (by decide +kernel) ?_
          refine wp_iload dX9_cut_99 rfl ?_
          refine wp_imul dX9_cut_101 ?_
          refine wp_aload_n (i := 0) dX9_cut_102 rfl rfl ?_
          refine wp_getR (t := 51) dX9_cut_103 fl_X9_35 rfl rfl ?_
          refine wp_iload_n (i := 1) dX9_cut_106 rfl rfl ?_
          obtain ⟨x6, ex6, h⟩ := ob h
          refine wp_aI dX9_cut_107 ex6 ?_
          refine wp_iadd dX9_cut_108 ?_
          refine wp_bipush (v := 48) dX9_cut_109 (by decide +kernel) ?_
          refine wp_isub dX9_cut_111 ?_
          refine wp_istore (ls' := [some (.ref 43), some (.int v1), none, some (.int v3), some (.int ((((10 : Int32) * v4) + x6) - (48 : Int32)))]) dX9_cut_112 (by decide) rfl rfl ?_
          exact wp_sub (ls' := [some (.ref 43), some (.int v1), none, some (.int v3), some (.int ((((10 : Int32) * v4) + x6) - (48 : Int32)))]) ⟨rfl, rfl, rfl, rfl, trivial⟩ (w_X9_cut_114 hK7 ih h)
def f_X9_cut_7 : Nat → Int32 → St → Option (St)
  | 0, _, _ => none
  | n + 1, v1, s =>
    if (s.1 43 16) ≤ v1 then (
      f_X9_cut_195 s)
    else (
      Option.bind (f_X9_good s) fun r2 =>
      if r2.1 = 0 then (
        f_X9_cut_195 r2.2)
      else (
        Option.bind (aI r2.2 51 v1) fun x4 =>
        if x4 = (32 : Int32) then (
          f_X9_cut_7 n (v1 + 1) r2.2)
        else (
          if x4 = (10 : Int32) then (
            f_X9_cut_7 n (v1 + 1) r2.2)
          else (
            Option.bind (f_X9_in x4 (48 : Int32) (57 : Int32) r2.2) fun r7 =>
            if r7.1 = 0 then (
              Option.bind (f_X9_in x4 (97 : Int32) (99 : Int32) r7.2) fun r9 =>
              if r9.1 = 0 then (
                if x4 = (59 : Int32) then (
                  Option.bind (f_X9_token (2 : Int32) v1 (0 : Int32) r9.2) fun s13 =>
                  f_X9_cut_192 (f_X9_cut_7 n) (v1 + 1) s13)
                else (
                  Option.bind (f_X9_fails (1 : Int32) v1 r9.2) fun s12 =>
                  f_X9_cut_192 (f_X9_cut_7 n) (v1 + 1) s12))
              else (
                Option.bind (f_X9_token (1 : Int32) v1 ((x4 - (97 : Int32)) + (1 : Int32)) r9.2) fun s14 =>
                f_X9_cut_192 (f_X9_cut_7 n) (v1 + 1) s14))
            else (
              f_X9_cut_66 (f_X9_cut_7 n) FU (v1 + 1) v1 (x4 - (48 : Int32)) r7.2)))))
set_option maxRecDepth 100000 in
set_option maxHeartbeats 4000000 in
theorem w_X9_cut_7 {r : St}   : ∀ (n : Nat) (v1 : Int32) (s : St), f_X9_cut_7  n v1 s = some r → Wp m_X9_cut 1 (PR none r) 7 [some (.ref 43), some (.int v1), none, none, none] [] s := by
  intro n
  induction n with
  | zero => intro v1 s h; cases h
  | succ n ih =>
    intro v1 s h
    unfold f_X9_cut_7 at h
    refine wp_iload_n (i := 1) dX9_cut_7 rfl rfl ?_
    refine wp_aload_n (i := 0) dX9_cut_8 rfl rfl ?_
    refine wp_getI dX9_cut_9 fl_X9_108 rfl rfl ?_
    refine wp_icmp_ge (tgt := 195) dX9_cut_12 (by decide) (fun c1 => ?_) (fun c1 => ?_)
    · rw [if_pos c1] at h
      exact wp_sub (ls' := [some (.ref 43), none, none, none, none]) ⟨rfl, trivial⟩ (w_X9_cut_195 h)
    · rw [if_neg c1] at h
      refine wp_aload_n (i := 0) dX9_cut_15 rfl rfl ?_
      obtain ⟨r2, er2, h⟩ := ob h
      refine wp_cVi (N := m_X9_good) (As := []) (rest := []) dX9_cut_16 ml_X9_124 mo_X9_good vo_X9_good rfl rfl (ok_X9_good er2) (by decide) (Nat.le_of_ble_eq_true rfl) ?_
      refine wp_if_eq (tgt := 195) dX9_cut_19 (by decide) (fun c3 => ?_) (fun c3 => ?_)
      · rw [if_pos c3] at h
        exact wp_sub (ls' := [some (.ref 43), none, none, none, none]) ⟨rfl, trivial⟩ (w_X9_cut_195 h)
      · rw [if_neg c3] at h
        refine wp_aload_n (i := 0) dX9_cut_22 rfl rfl ?_
        refine wp_getR (t := 51) dX9_cut_23 fl_X9_35 rfl rfl ?_
        refine wp_iload_n (i := 1) dX9_cut_26 rfl rfl ?_
        obtain ⟨x4, ex4, h⟩ := ob h
        refine wp_aI dX9_cut_27 ex4 ?_
        refine wp_istore_n (ls' := [some (.ref 43), some (.int v1), some (.int x4), none, none]) dX9_cut_28 rfl (by decide) rfl rfl ?_
        refine wp_iload_n (i := 1) dX9_cut_29 rfl rfl ?_
        refine wp_istore_n (ls' := [some (.ref 43), some (.int v1), some (.int x4), some (.int v1), none]) dX9_cut_30 rfl (by decide) rfl rfl ?_
        refine wp_inc (c := 1) (ls' := [some (.ref 43), some (.int (v1 + 1)), some (.int x4), some (.int v1), none]) dX9_cut_31 rfl (by decide +kernel) (by decide) rfl rfl ?_
        refine wp_iload_n (i := 2) dX9_cut_34 rfl rfl ?_
        refine wp_bipush (v := 32) dX9_cut_35 (by decide +kernel) ?_
        refine wp_icmp_eq (tgt := 7) dX9_cut_37 (by decide) (fun c5 => ?_) (fun c5 => ?_)
        · rw [if_pos c5] at h
          exact wp_sub (ls' := [some (.ref 43), some (.int (v1 + 1)), none, none, none]) ⟨rfl, rfl, trivial⟩ (ih _ _ h)
        · rw [if_neg c5] at h
          refine wp_iload_n (i := 2) dX9_cut_40 rfl rfl ?_
          refine wp_bipush (v := 10) dX9_cut_41 (by decide +kernel) ?_
          refine wp_icmp_ne (tgt := 49) dX9_cut_43 (by decide) (fun c6 => ?_) (fun c6 => ?_)
          · rw [if_neg c6] at h
            refine wp_iload_n (i := 2) dX9_cut_49 rfl rfl ?_
            refine wp_bipush (v := 48) dX9_cut_50 (by decide +kernel) ?_
            refine wp_bipush (v := 57) dX9_cut_52 (by decide +kernel) ?_
            obtain ⟨r7, er7, h⟩ := ob h
            refine wp_cSi (N := m_X9_in) (As := [.int x4, .int (48 : Int32), .int (57 : Int32)]) (rest := []) dX9_cut_54 ml_X9_97 mo_X9_in vo_X9_in rfl (ok_X9_in er7) (by decide) (Nat.le_of_ble_eq_true rfl) ?_
            refine wp_if_eq (tgt := 144) dX9_cut_57 (by decide) (fun c8 => ?_) (fun c8 => ?_)
            · rw [if_pos c8] at h
              refine wp_iload_n (i := 2) dX9_cut_144 rfl rfl ?_
              refine wp_bipush (v := 97) dX9_cut_145 (by decide +kernel) ?_
              refine wp_bipush (v := 99) dX9_cut_147 (by decide +kernel) ?_
              obtain ⟨r9, er9, h⟩ := ob h
              refine wp_cSi (N := m_X9_in) (As := [.int x4, .int (97 : Int32), .int (99 : Int32)]) (rest := []) dX9_cut_149 ml_X9_97 mo_X9_in vo_X9_in rfl (ok_X9_in er9) (by decide) (Nat.le_of_ble_eq_true rfl) ?_
              refine wp_if_eq (tgt := 170) dX9_cut_152 (by decide) (fun c10 => ?_) (fun c10 => ?_)
              · rw [if_pos c10] at h
                refine wp_iload_n (i := 2) dX9_cut_170 rfl rfl ?_
                refine wp_bipush (v := 59) dX9_cut_171 (by decide +kernel) ?_
                refine wp_icmp_ne (tgt := 186) dX9_cut_173 (by decide) (fun c11 => ?_) (fun c11 => ?_)
                · rw [if_neg c11] at h
                  refine wp_aload_n (i := 0) dX9_cut_186 rfl rfl ?_
                  refine wp_iconst (v := 1) dX9_cut_187 (by decide +kernel) ?_
                  refine wp_iload_n (i := 3) dX9_cut_188 rfl rfl ?_
                  obtain ⟨s12, es12, h⟩ := ob h
                  refine wp_cVv (N := m_X9_fails) (As := [.int (1 : Int32), .int v1]) (rest := []) dX9_cut_189 ml_X9_127 mo_X9_fails vo_X9_fails rfl rfl (ok_X9_fails es12) (by decide) (Nat.le_of_ble_eq_true rfl) ?_
                  exact wp_sub (ls' := [some (.ref 43), some (.int (v1 + 1)), none, none, none]) ⟨rfl, rfl, trivial⟩ (w_X9_cut_192 ih h)
                · rw [if_pos c11] at h
                  refine wp_aload_n (i := 0) dX9_cut_176 rfl rfl ?_
                  refine wp_iconst (v := 2) dX9_cut_177 (by decide +kernel) ?_
                  refine wp_iload_n (i := 3) dX9_cut_178 rfl rfl ?_
                  refine wp_iconst (v := 0) dX9_cut_179 (by decide +kernel) ?_
                  obtain ⟨s13, es13, h⟩ := ob h
                  refine wp_cVv (N := m_X9_token) (As := [.int (2 : Int32), .int v1, .int (0 : Int32)]) (rest := []) dX9_cut_180 ml_X9_131 mo_X9_token vo_X9_token rfl rfl (ok_X9_token es13) (by decide) (Nat.le_of_ble_eq_true rfl) ?_
                  refine wp_goto (tgt := 192) dX9_cut_183 (by decide) ?_
                  exact wp_sub (ls' := [some (.ref 43), some (.int (v1 + 1)), none, none, none]) ⟨rfl, rfl, trivial⟩ (w_X9_cut_192 ih h)
              · rw [if_neg c10] at h
                refine wp_aload_n (i := 0) dX9_cut_155 rfl rfl ?_
                refine wp_iconst (v := 1) dX9_cut_156 (by decide +kernel) ?_
                refine wp_iload_n (i := 3) dX9_cut_157 rfl rfl ?_
                refine wp_iload_n (i := 2) dX9_cut_158 rfl rfl ?_
                refine wp_bipush (v := 97) dX9_cut_159 (by decide +kernel) ?_
                refine wp_isub dX9_cut_161 ?_
                refine wp_iconst (v := 1) dX9_cut_162 (by decide +kernel) ?_
                refine wp_iadd dX9_cut_163 ?_
                obtain ⟨s14, es14, h⟩ := ob h
                refine wp_cVv (N := m_X9_token) (As := [.int (1 : Int32), .int v1, .int ((x4 - (97 : Int32)) + (1 : Int32))]) (rest := []) dX9_cut_164 ml_X9_131 mo_X9_token vo_X9_token rfl rfl (ok_X9_token es14) (by decide) (Nat.le_of_ble_eq_true rfl) ?_
                refine wp_goto (tgt := 192) dX9_cut_167 (by decide) ?_
                exact wp_sub (ls' := [some (.ref 43), some (.int (v1 + 1)), none, none, none]) ⟨rfl, rfl, trivial⟩ (w_X9_cut_192 ih h)
            · rw [if_neg c8] at h
              refine wp_iload_n (i := 2) dX9_cut_60 rfl rfl ?_
              refine wp_bipush (v := 48) dX9_cut_61 (by decide +kernel) ?_
              refine wp_isub dX9_cut_63 ?_
              refine wp_istore (ls' := [some (.ref 43), some (.int (v1 + 1)), some (.int x4), some (.int v1), some (.int (x4 - (48 : Int32)))]) dX9_cut_64 (by decide) rfl rfl ?_
              exact wp_sub (ls' := [some (.ref 43), some (.int (v1 + 1)), none, some (.int v1), some (.int (x4 - (48 : Int32)))]) ⟨rfl, rfl, rfl, rfl, trivial⟩ (w_X9_cut_66 ih _ _ _ _ _ h)
          · rw [if_pos c6] at h
            refine wp_goto (tgt := 7) dX9_cut_46 (by decide) ?_
            exact wp_sub (ls' := [some (.ref 43), some (.int (v1 + 1)), none, none, none]) ⟨rfl, rfl, trivial⟩ (ih _ _ h)
def f_X9_cut  (s : St) : Option (St) :=
  Option.bind (some (sF s 43 23 (0 : Int32))) fun s1 =>
  f_X9_cut_7 FU (0 : Int32) s1
set_option maxRecDepth 100000 in
set_option maxHeartbeats 4000000 in
theorem ok_X9_cut  {s : St} {r : St} (h : f_X9_cut  s = some r) : Ct 1 m_X9_cut [.ref 43] s none r := by
  unfold f_X9_cut at h
  refine ct_of [some (.ref 43), none, none, none, none] 4 (by decide) rfl (Nat.le_of_ble_eq_true rfl) ?_
  refine wp_aload_n (i := 0) dX9_cut_0 rfl rfl ?_
  refine wp_iconst (v := 0) dX9_cut_1 (by decide +kernel) ?_
  obtain ⟨s1, es1, h⟩ := ob h
  refine wp_putI2 dX9_cut_2 fl_X9_121 rfl rfl rfl rfl es1 ?_
  refine wp_iconst (v := 0) dX9_cut_5 (by decide +kernel) ?_
  refine wp_istore_n (ls' := [some (.ref 43), some (.int (0 : Int32)), none, none, none]) dX9_cut_6 rfl (by decide) rfl rfl ?_
  exact wp_sub (ls' := [some (.ref 43), some (.int (0 : Int32)), none, none, none]) ⟨rfl, rfl, trivial⟩ (w_X9_cut_7 _ _ _ h)
def f_X9_number_69  (s : St) : Option (Int32 × St) :=
  Option.bind (some (sF s 43 24 ((s.1 43 24) + (1 : Int32)))) fun s1 =>
  Option.bind (aI s1 54 ((s1.1 43 24) - (1 : Int32))) fun x2 =>
  some (x2, s1)
set_option maxRecDepth 100000 in
set_option maxHeartbeats 4000000 in
theorem w_X9_number_69 {r : Int32 × St}   {s : St} (h : f_X9_number_69  s = some r) : Wp m_X9_number 1 (PR (some (.int r.1)) r.2) 69 [some (.ref 43), none, none] [] s := by
  unfold f_X9_number_69 at h
  refine wp_aload_n (i := 0) dX9_number_69 rfl rfl ?_
  refine wp_dup_r dX9_number_70 ?_
  refine wp_getI dX9_number_71 fl_X9_135 rfl rfl ?_
  refine wp_iconst (v := 1) dX9_number_74 (by decide +kernel) ?_
  refine wp_iadd dX9_number_75 ?_
  obtain ⟨s1, es1, h⟩ := ob h
  refine wp_putI2 dX9_number_76 fl_X9_135 rfl rfl rfl rfl es1 ?_
  refine wp_aload_n (i := 0) dX9_number_79 rfl rfl ?_
  refine wp_getR (t := 54) dX9_number_80 fl_X9_44 rfl rfl ?_
  refine wp_aload_n (i := 0) dX9_number_83 rfl rfl ?_
  refine wp_getI dX9_number_84 fl_X9_135 rfl rfl ?_
  refine wp_iconst (v := 1) dX9_number_87 (by decide +kernel) ?_
  refine wp_isub dX9_number_88 ?_
  obtain ⟨x2, ex2, h⟩ := ob h
  refine wp_aI dX9_number_89 ex2 ?_
  obtain rfl := Option.some.inj h
  exact wp_iret dX9_number_90 rfl rfl
def f_X9_number (a1 : Int32) (a2 : Int32) (s : St) : Option (Int32 × St) :=
  Option.bind (f_X9_good s) fun r1 =>
  if r1.1 = 0 then (
    some (a1, r1.2))
  else (
    Option.bind (aI r1.2 52 (r1.2.1 43 24)) fun x3 =>
    if x3 = 0 then (
      Option.bind (aI r1.2 54 (r1.2.1 43 24)) fun x5 =>
      Option.bind (f_X9_in x5 a1 a2 r1.2) fun r6 =>
      if r6.1 = 0 then (
        Option.bind (aI r6.2 53 (r6.2.1 43 24)) fun x8 =>
        Option.bind (f_X9_fails (3 : Int32) x8 r6.2) fun s9 =>
        f_X9_number_69 s9)
      else (
        f_X9_number_69 r6.2))
    else (
      Option.bind (aI r1.2 53 (r1.2.1 43 24)) fun x10 =>
      Option.bind (f_X9_fails (2 : Int32) x10 r1.2) fun s11 =>
      f_X9_number_69 s11))
set_option maxRecDepth 100000 in
set_option maxHeartbeats 4000000 in
theorem ok_X9_number {a1 : Int32} {a2 : Int32} {s : St} {r : Int32 × St} (h : f_X9_number a1 a2 s = some r) : Ct 1 m_X9_number [.ref 43, .int a1, .int a2] s (some (.int r.1)) r.2 := by
  unfold f_X9_number at h
  refine ct_of [some (.ref 43), some (.int a1), some (.int a2)] 0 (by decide) rfl (Nat.le_of_ble_eq_true rfl) ?_
  refine wp_aload_n (i := 0) dX9_number_0 rfl rfl ?_
  obtain ⟨r1, er1, h⟩ := ob h
  refine wp_cVi (N := m_X9_good) (As := []) (rest := []) dX9_number_1 ml_X9_124 mo_X9_good vo_X9_good rfl rfl (ok_X9_good er1) (by decide) (Nat.le_of_ble_eq_true rfl) ?_
  refine wp_if_ne (tgt := 9) dX9_number_4 (by decide) (fun c2 => ?_) (fun c2 => ?_)
  · rw [if_neg c2] at h
    refine wp_aload_n (i := 0) dX9_number_9 rfl rfl ?_
    refine wp_getR (t := 52) dX9_number_10 fl_X9_38 rfl rfl ?_
    refine wp_aload_n (i := 0) dX9_number_13 rfl rfl ?_
    refine wp_getI dX9_number_14 fl_X9_135 rfl rfl ?_
    obtain ⟨x3, ex3, h⟩ := ob h
    refine wp_aI dX9_number_17 ex3 ?_
    refine wp_if_eq (tgt := 38) dX9_number_18 (by decide) (fun c4 => ?_) (fun c4 => ?_)
    · rw [if_pos c4] at h
      refine wp_aload_n (i := 0) dX9_number_38 rfl rfl ?_
      refine wp_getR (t := 54) dX9_number_39 fl_X9_44 rfl rfl ?_
      refine wp_aload_n (i := 0) dX9_number_42 rfl rfl ?_
      refine wp_getI dX9_number_43 fl_X9_135 rfl rfl ?_
      obtain ⟨x5, ex5, h⟩ := ob h
      refine wp_aI dX9_number_46 ex5 ?_
      refine wp_iload_n (i := 1) dX9_number_47 rfl rfl ?_
      refine wp_iload_n (i := 2) dX9_number_48 rfl rfl ?_
      obtain ⟨r6, er6, h⟩ := ob h
      refine wp_cSi (N := m_X9_in) (As := [.int x5, .int a1, .int a2]) (rest := []) dX9_number_49 ml_X9_97 mo_X9_in vo_X9_in rfl (ok_X9_in er6) (by decide) (Nat.le_of_ble_eq_true rfl) ?_
      refine wp_if_ne (tgt := 69) dX9_number_52 (by decide) (fun c7 => ?_) (fun c7 => ?_)
      · rw [if_neg c7] at h
        exact wp_sub (ls' := [some (.ref 43), none, none]) ⟨rfl, trivial⟩ (w_X9_number_69 h)
      · rw [if_pos c7] at h
        refine wp_aload_n (i := 0) dX9_number_55 rfl rfl ?_
        refine wp_iconst (v := 3) dX9_number_56 (by decide +kernel) ?_
        refine wp_aload_n (i := 0) dX9_number_57 rfl rfl ?_
        refine wp_getR (t := 53) dX9_number_58 fl_X9_41 rfl rfl ?_
        refine wp_aload_n (i := 0) dX9_number_61 rfl rfl ?_
        refine wp_getI dX9_number_62 fl_X9_135 rfl rfl ?_
        obtain ⟨x8, ex8, h⟩ := ob h
        refine wp_aI dX9_number_65 ex8 ?_
        obtain ⟨s9, es9, h⟩ := ob h
        refine wp_cVv (N := m_X9_fails) (As := [.int (3 : Int32), .int x8]) (rest := []) dX9_number_66 ml_X9_127 mo_X9_fails vo_X9_fails rfl rfl (ok_X9_fails es9) (by decide) (Nat.le_of_ble_eq_true rfl) ?_
        exact wp_sub (ls' := [some (.ref 43), none, none]) ⟨rfl, trivial⟩ (w_X9_number_69 h)
    · rw [if_neg c4] at h
      refine wp_aload_n (i := 0) dX9_number_21 rfl rfl ?_
      refine wp_iconst (v := 2) dX9_number_22 (by decide +kernel) ?_
      refine wp_aload_n (i := 0) dX9_number_23 rfl rfl ?_
      refine wp_getR (t := 53) dX9_number_24 fl_X9_41 rfl rfl ?_
      refine wp_aload_n (i := 0) dX9_number_27 rfl rfl ?_
      refine wp_getI dX9_number_28 fl_X9_135 rfl rfl ?_
      obtain ⟨x10, ex10, h⟩ := ob h
      refine wp_aI dX9_number_31 ex10 ?_
      obtain ⟨s11, es11, h⟩ := ob h
      refine wp_cVv (N := m_X9_fails) (As := [.int (2 : Int32), .int x10]) (rest := []) dX9_number_32 ml_X9_127 mo_X9_fails vo_X9_fails rfl rfl (ok_X9_fails es11) (by decide) (Nat.le_of_ble_eq_true rfl) ?_
      refine wp_goto (tgt := 69) dX9_number_35 (by decide) ?_
      exact wp_sub (ls' := [some (.ref 43), none, none]) ⟨rfl, trivial⟩ (w_X9_number_69 h)
  · rw [if_pos c2] at h
    refine wp_iload_n (i := 1) dX9_number_7 rfl rfl ?_
    obtain rfl := Option.some.inj h
    exact wp_iret dX9_number_8 rfl rfl
def f_X9_semi_35  (s : St) : Option (St) :=
  Option.bind (some (sF s 43 24 ((s.1 43 24) + (1 : Int32)))) fun s1 =>
  some s1
set_option maxRecDepth 100000 in
set_option maxHeartbeats 4000000 in
theorem w_X9_semi_35 {r : St}   {s : St} (h : f_X9_semi_35  s = some r) : Wp m_X9_semi 1 (PR none r) 35 [some (.ref 43)] [] s := by
  unfold f_X9_semi_35 at h
  refine wp_aload_n (i := 0) dX9_semi_35 rfl rfl ?_
  refine wp_dup_r dX9_semi_36 ?_
  refine wp_getI dX9_semi_37 fl_X9_135 rfl rfl ?_
  refine wp_iconst (v := 1) dX9_semi_40 (by decide +kernel) ?_
  refine wp_iadd dX9_semi_41 ?_
  obtain ⟨s1, es1, h⟩ := ob h
  refine wp_putI2 dX9_semi_42 fl_X9_135 rfl rfl rfl rfl es1 ?_
  obtain rfl := Option.some.inj h
  exact wp_vret dX9_semi_45 rfl
def f_X9_semi  (s : St) : Option (St) :=
  Option.bind (f_X9_good s) fun r1 =>
  if r1.1 = 0 then (
    some r1.2)
  else (
    Option.bind (aI r1.2 52 (r1.2.1 43 24)) fun x3 =>
    if x3 = (2 : Int32) then (
      f_X9_semi_35 r1.2)
    else (
      Option.bind (aI r1.2 53 (r1.2.1 43 24)) fun x5 =>
      Option.bind (f_X9_fails (2 : Int32) x5 r1.2) fun s6 =>
      f_X9_semi_35 s6))
set_option maxRecDepth 100000 in
set_option maxHeartbeats 4000000 in
theorem ok_X9_semi  {s : St} {r : St} (h : f_X9_semi  s = some r) : Ct 1 m_X9_semi [.ref 43] s none r := by
  unfold f_X9_semi at h
  refine ct_of [some (.ref 43)] 0 (by decide) rfl (Nat.le_of_ble_eq_true rfl) ?_
  refine wp_aload_n (i := 0) dX9_semi_0 rfl rfl ?_
  obtain ⟨r1, er1, h⟩ := ob h
  refine wp_cVi (N := m_X9_good) (As := []) (rest := []) dX9_semi_1 ml_X9_124 mo_X9_good vo_X9_good rfl rfl (ok_X9_good er1) (by decide) (Nat.le_of_ble_eq_true rfl) ?_
  refine wp_if_ne (tgt := 8) dX9_semi_4 (by decide) (fun c2 => ?_) (fun c2 => ?_)
  · rw [if_neg c2] at h
    refine wp_aload_n (i := 0) dX9_semi_8 rfl rfl ?_
    refine wp_getR (t := 52) dX9_semi_9 fl_X9_38 rfl rfl ?_
    refine wp_aload_n (i := 0) dX9_semi_12 rfl rfl ?_
    refine wp_getI dX9_semi_13 fl_X9_135 rfl rfl ?_
    obtain ⟨x3, ex3, h⟩ := ob h
    refine wp_aI dX9_semi_16 ex3 ?_
    refine wp_iconst (v := 2) dX9_semi_17 (by decide +kernel) ?_
    refine wp_icmp_eq (tgt := 35) dX9_semi_18 (by decide) (fun c4 => ?_) (fun c4 => ?_)
    · rw [if_pos c4] at h
      exact wp_sub (ls' := [some (.ref 43)]) ⟨rfl, trivial⟩ (w_X9_semi_35 h)
    · rw [if_neg c4] at h
      refine wp_aload_n (i := 0) dX9_semi_21 rfl rfl ?_
      refine wp_iconst (v := 2) dX9_semi_22 (by decide +kernel) ?_
      refine wp_aload_n (i := 0) dX9_semi_23 rfl rfl ?_
      refine wp_getR (t := 53) dX9_semi_24 fl_X9_41 rfl rfl ?_
      refine wp_aload_n (i := 0) dX9_semi_27 rfl rfl ?_
      refine wp_getI dX9_semi_28 fl_X9_135 rfl rfl ?_
      obtain ⟨x5, ex5, h⟩ := ob h
      refine wp_aI dX9_semi_31 ex5 ?_
      obtain ⟨s6, es6, h⟩ := ob h
      refine wp_cVv (N := m_X9_fails) (As := [.int (2 : Int32), .int x5]) (rest := []) dX9_semi_32 ml_X9_127 mo_X9_fails vo_X9_fails rfl rfl (ok_X9_fails es6) (by decide) (Nat.le_of_ble_eq_true rfl) ?_
      exact wp_sub (ls' := [some (.ref 43)]) ⟨rfl, trivial⟩ (w_X9_semi_35 h)
  · rw [if_pos c2] at h
    obtain rfl := Option.some.inj h
    exact wp_vret dX9_semi_7 rfl
def f_X9_oneRun_178 (v2 : Int32) (s : St) : Option (St) :=
  Option.bind (aI s 54 (s.1 43 24)) fun x1 =>
  Option.bind (pI s 57 v2 x1) fun s2 =>
  Option.bind (some (sF s2 43 24 ((s2.1 43 24) + (1 : Int32)))) fun s3 =>
  some s3
set_option maxRecDepth 100000 in
set_option maxHeartbeats 4000000 in
theorem w_X9_oneRun_178 {r : St} {v2 : Int32}  {s : St} (h : f_X9_oneRun_178  v2 s = some r) : Wp m_X9_oneRun 1 (PR none r) 178 [some (.ref 43), none, some (.int v2)] [] s := by
  unfold f_X9_oneRun_178 at h
  refine wp_aload_n (i := 0) dX9_oneRun_178 rfl rfl ?_
  refine wp_getR (t := 57) dX9_oneRun_179 fl_X9_53 rfl rfl ?_
  refine wp_iload_n (i := 2) dX9_oneRun_182 rfl rfl ?_
  refine wp_aload_n (i := 0) dX9_oneRun_183 rfl rfl ?_
  refine wp_getR (t := 54) dX9_oneRun_184 fl_X9_44 rfl rfl ?_
  refine wp_aload_n (i := 0) dX9_oneRun_187 rfl rfl ?_
  refine wp_getI dX9_oneRun_188 fl_X9_135 rfl rfl ?_
  obtain ⟨x1, ex1, h⟩ := ob h
  refine wp_aI dX9_oneRun_191 ex1 ?_
  obtain ⟨s2, es2, h⟩ := ob h
  refine wp_pI dX9_oneRun_192 es2 ?_
  refine wp_aload_n (i := 0) dX9_oneRun_193 rfl rfl ?_
  refine wp_dup_r dX9_oneRun_194 ?_
  refine wp_getI dX9_oneRun_195 fl_X9_135 rfl rfl ?_
  refine wp_iconst (v := 1) dX9_oneRun_198 (by decide +kernel) ?_
  refine wp_iadd dX9_oneRun_199 ?_
  obtain ⟨s3, es3, h⟩ := ob h
  refine wp_putI2 dX9_oneRun_200 fl_X9_135 rfl rfl rfl rfl es3 ?_
  obtain rfl := Option.some.inj h
  exact wp_vret dX9_oneRun_203 rfl
def f_X9_oneRun (a1 : Int32) (s : St) : Option (St) :=
  Option.bind (aI s 52 (s.1 43 24)) fun x1 =>
  if x1 = 0 then (
    Option.bind (aI s 54 (s.1 43 24)) fun x3 =>
    if x3 = 0 then (
      Option.bind (aI s 53 (s.1 43 24)) fun x22 =>
      Option.bind (f_X9_fails (4 : Int32) x22 s) fun s23 =>
      some s23)
    else (
      Option.bind (aI s 55 a1) fun x5 =>
      if x5 = (12 : Int32) then (
        Option.bind (aI s 53 (s.1 43 24)) fun x20 =>
        Option.bind (f_X9_fails (5 : Int32) x20 s) fun s21 =>
        some s21)
      else (
        Option.bind (aI s 55 a1) fun x7 =>
        Option.bind (aI s 54 (s.1 43 24)) fun x8 =>
        Option.bind (pI s 56 (((12 : Int32) * a1) + x7) x8) fun s9 =>
        Option.bind (pI s9 57 (((12 : Int32) * a1) + x7) (1 : Int32)) fun s10 =>
        Option.bind (aI s10 55 a1) fun x11 =>
        Option.bind (pI s10 55 a1 (x11 + (1 : Int32))) fun s12 =>
        Option.bind (some (sF s12 43 24 ((s12.1 43 24) + (1 : Int32)))) fun s13 =>
        Option.bind (aI s13 52 (s13.1 43 24)) fun x14 =>
        if x14 = (1 : Int32) then (
          Option.bind (aI s13 54 (s13.1 43 24)) fun x16 =>
          if x16 ≤ (s13.1 43 27) then (
            f_X9_oneRun_178 (((12 : Int32) * a1) + x7) s13)
          else (
            Option.bind (aI s13 53 (s13.1 43 24)) fun x18 =>
            Option.bind (f_X9_fails (4 : Int32) x18 s13) fun s19 =>
            f_X9_oneRun_178 (((12 : Int32) * a1) + x7) s19))
        else (
          some s13))))
  else (
    Option.bind (aI s 53 (s.1 43 24)) fun x24 =>
    Option.bind (f_X9_fails (2 : Int32) x24 s) fun s25 =>
    some s25)
set_option maxRecDepth 100000 in
set_option maxHeartbeats 4000000 in
theorem ok_X9_oneRun {a1 : Int32} {s : St} {r : St} (h : f_X9_oneRun a1 s = some r) : Ct 1 m_X9_oneRun [.ref 43, .int a1] s none r := by
  unfold f_X9_oneRun at h
  refine ct_of [some (.ref 43), some (.int a1), none] 1 (by decide) rfl (Nat.le_of_ble_eq_true rfl) ?_
  refine wp_aload_n (i := 0) dX9_oneRun_0 rfl rfl ?_
  refine wp_getR (t := 52) dX9_oneRun_1 fl_X9_38 rfl rfl ?_
  refine wp_aload_n (i := 0) dX9_oneRun_4 rfl rfl ?_
  refine wp_getI dX9_oneRun_5 fl_X9_135 rfl rfl ?_
  obtain ⟨x1, ex1, h⟩ := ob h
  refine wp_aI dX9_oneRun_8 ex1 ?_
  refine wp_if_eq (tgt := 27) dX9_oneRun_9 (by decide) (fun c2 => ?_) (fun c2 => ?_)
  · rw [if_pos c2] at h
    refine wp_aload_n (i := 0) dX9_oneRun_27 rfl rfl ?_
    refine wp_getR (t := 54) dX9_oneRun_28 fl_X9_44 rfl rfl ?_
    refine wp_aload_n (i := 0) dX9_oneRun_31 rfl rfl ?_
    refine wp_getI dX9_oneRun_32 fl_X9_135 rfl rfl ?_
    obtain ⟨x3, ex3, h⟩ := ob h
    refine wp_aI dX9_oneRun_35 ex3 ?_
    refine wp_if_ne (tgt := 54) dX9_oneRun_36 (by decide) (fun c4 => ?_) (fun c4 => ?_)
    · rw [if_neg c4] at h
      refine wp_aload_n (i := 0) dX9_oneRun_54 rfl rfl ?_
      refine wp_getR (t := 55) dX9_oneRun_55 fl_X9_47 rfl rfl ?_
      refine wp_iload_n (i := 1) dX9_oneRun_58 rfl rfl ?_
      obtain ⟨x5, ex5, h⟩ := ob h
      refine wp_aI dX9_oneRun_59 ex5 ?_
      refine wp_bipush (v := 12) dX9_oneRun_60 (by decide +kernel) ?_
      refine wp_icmp_ne (tgt := 80) dX9_oneRun_62 (by decide) (fun c6 => ?_) (fun c6 => ?_)
      · rw [if_neg c6] at h
        refine wp_bipush (v := 12) dX9_oneRun_80 (by decide +kernel) ?_
        refine wp_iload_n (i := 1) dX9_oneRun_82 rfl rfl ?_
        refine wp_imul dX9_oneRun_83 ?_
        refine wp_aload_n (i := 0) dX9_oneRun_84 rfl rfl ?_
        refine wp_getR (t := 55) dX9_oneRun_85 fl_X9_47 rfl rfl ?_
        refine wp_iload_n (i := 1) dX9_oneRun_88 rfl rfl ?_
        obtain ⟨x7, ex7, h⟩ := ob h
        refine wp_aI dX9_oneRun_89 ex7 ?_
        refine wp_iadd dX9_oneRun_90 ?_
        refine wp_istore_n (ls' := [some (.ref 43), some (.int a1), some (.int (((12 : Int32) * a1) + x7))]) dX9_oneRun_91 rfl (by decide) rfl rfl ?_
        refine wp_aload_n (i := 0) dX9_oneRun_92 rfl rfl ?_
        refine wp_getR (t := 56) dX9_oneRun_93 fl_X9_50 rfl rfl ?_
        refine wp_iload_n (i := 2) dX9_oneRun_96 rfl rfl ?_
        refine wp_aload_n (i := 0) dX9_oneRun_97 rfl rfl ?_
        refine wp_getR (t := 54) dX9_oneRun_98 fl_X9_44 rfl rfl ?_
        refine wp_aload_n (i := 0) dX9_oneRun_101 rfl rfl ?_
        refine wp_getI dX9_oneRun_102 fl_X9_135 rfl rfl ?_
        obtain ⟨x8, ex8, h⟩ := ob h
        refine wp_aI dX9_oneRun_105 ex8 ?_
        obtain ⟨s9, es9, h⟩ := ob h
        refine wp_pI dX9_oneRun_106 es9 ?_
        refine wp_aload_n (i := 0) dX9_oneRun_107 rfl rfl ?_
        refine wp_getR (t := 57) dX9_oneRun_108 fl_X9_53 rfl rfl ?_
        refine wp_iload_n (i := 2) dX9_oneRun_111 rfl rfl ?_
        refine wp_iconst (v := 1) dX9_oneRun_112 (by decide +kernel) ?_
        obtain ⟨s10, es10, h⟩ := ob h
        refine wp_pI dX9_oneRun_113 es10 ?_
        refine wp_aload_n (i := 0) dX9_oneRun_114 rfl rfl ?_
        refine wp_getR (t := 55) dX9_oneRun_115 fl_X9_47 rfl rfl ?_
        refine wp_iload_n (i := 1) dX9_oneRun_118 rfl rfl ?_
        refine wp_dup2_ir dX9_oneRun_119 ?_
        obtain ⟨x11, ex11, h⟩ := ob h
        refine wp_aI dX9_oneRun_120 ex11 ?_
        refine wp_iconst (v := 1) dX9_oneRun_121 (by decide +kernel) ?_
        refine wp_iadd dX9_oneRun_122 ?_
        obtain ⟨s12, es12, h⟩ := ob h
        refine wp_pI dX9_oneRun_123 es12 ?_
        refine wp_aload_n (i := 0) dX9_oneRun_124 rfl rfl ?_
        refine wp_dup_r dX9_oneRun_125 ?_
        refine wp_getI dX9_oneRun_126 fl_X9_135 rfl rfl ?_
        refine wp_iconst (v := 1) dX9_oneRun_129 (by decide +kernel) ?_
        refine wp_iadd dX9_oneRun_130 ?_
        obtain ⟨s13, es13, h⟩ := ob h
        refine wp_putI2 dX9_oneRun_131 fl_X9_135 rfl rfl rfl rfl es13 ?_
        refine wp_aload_n (i := 0) dX9_oneRun_134 rfl rfl ?_
        refine wp_getR (t := 52) dX9_oneRun_135 fl_X9_38 rfl rfl ?_
        refine wp_aload_n (i := 0) dX9_oneRun_138 rfl rfl ?_
        refine wp_getI dX9_oneRun_139 fl_X9_135 rfl rfl ?_
        obtain ⟨x14, ex14, h⟩ := ob h
        refine wp_aI dX9_oneRun_142 ex14 ?_
        refine wp_iconst (v := 1) dX9_oneRun_143 (by decide +kernel) ?_
        refine wp_icmp_eq (tgt := 148) dX9_oneRun_144 (by decide) (fun c15 => ?_) (fun c15 => ?_)
        · rw [if_pos c15] at h
          refine wp_aload_n (i := 0) dX9_oneRun_148 rfl rfl ?_
          refine wp_getR (t := 54) dX9_oneRun_149 fl_X9_44 rfl rfl ?_
          refine wp_aload_n (i := 0) dX9_oneRun_152 rfl rfl ?_
          refine wp_getI dX9_oneRun_153 fl_X9_135 rfl rfl ?_
          obtain ⟨x16, ex16, h⟩ := ob h
          refine wp_aI dX9_oneRun_156 ex16 ?_
          refine wp_aload_n (i := 0) dX9_oneRun_157 rfl rfl ?_
          refine wp_getI dX9_oneRun_158 fl_X9_138 rfl rfl ?_
          refine wp_icmp_le (tgt := 178) dX9_oneRun_161 (by decide) (fun c17 => ?_) (fun c17 => ?_)
          · rw [if_pos c17] at h
            exact wp_sub (ls' := [some (.ref 43), none, some (.int (((12 : Int32) * a1) + x7))]) ⟨rfl, rfl, trivial⟩ (w_X9_oneRun_178 h)
          · rw [if_neg c17] at h
            refine wp_aload_n (i := 0) dX9_oneRun_164 rfl rfl ?_
            refine wp_iconst (v := 4) dX9_oneRun_165 (by decide +kernel) ?_
            refine wp_aload_n (i := 0) dX9_oneRun_166 rfl rfl ?_
            refine wp_getR (t := 53) dX9_oneRun_167 fl_X9_41 rfl rfl ?_
            refine wp_aload_n (i := 0) dX9_oneRun_170 rfl rfl ?_
            refine wp_getI dX9_oneRun_171 fl_X9_135 rfl rfl ?_
            obtain ⟨x18, ex18, h⟩ := ob h
            refine wp_aI dX9_oneRun_174 ex18 ?_
            obtain ⟨s19, es19, h⟩ := ob h
            refine wp_cVv (N := m_X9_fails) (As := [.int (4 : Int32), .int x18]) (rest := []) dX9_oneRun_175 ml_X9_127 mo_X9_fails vo_X9_fails rfl rfl (ok_X9_fails es19) (by decide) (Nat.le_of_ble_eq_true rfl) ?_
            exact wp_sub (ls' := [some (.ref 43), none, some (.int (((12 : Int32) * a1) + x7))]) ⟨rfl, rfl, trivial⟩ (w_X9_oneRun_178 h)
        · rw [if_neg c15] at h
          obtain rfl := Option.some.inj h
          exact wp_vret dX9_oneRun_147 rfl
      · rw [if_pos c6] at h
        refine wp_aload_n (i := 0) dX9_oneRun_65 rfl rfl ?_
        refine wp_iconst (v := 5) dX9_oneRun_66 (by decide +kernel) ?_
        refine wp_aload_n (i := 0) dX9_oneRun_67 rfl rfl ?_
        refine wp_getR (t := 53) dX9_oneRun_68 fl_X9_41 rfl rfl ?_
        refine wp_aload_n (i := 0) dX9_oneRun_71 rfl rfl ?_
        refine wp_getI dX9_oneRun_72 fl_X9_135 rfl rfl ?_
        obtain ⟨x20, ex20, h⟩ := ob h
        refine wp_aI dX9_oneRun_75 ex20 ?_
        obtain ⟨s21, es21, h⟩ := ob h
        refine wp_cVv (N := m_X9_fails) (As := [.int (5 : Int32), .int x20]) (rest := []) dX9_oneRun_76 ml_X9_127 mo_X9_fails vo_X9_fails rfl rfl (ok_X9_fails es21) (by decide) (Nat.le_of_ble_eq_true rfl) ?_
        obtain rfl := Option.some.inj h
        exact wp_vret dX9_oneRun_79 rfl
    · rw [if_pos c4] at h
      refine wp_aload_n (i := 0) dX9_oneRun_39 rfl rfl ?_
      refine wp_iconst (v := 4) dX9_oneRun_40 (by decide +kernel) ?_
      refine wp_aload_n (i := 0) dX9_oneRun_41 rfl rfl ?_
      refine wp_getR (t := 53) dX9_oneRun_42 fl_X9_41 rfl rfl ?_
      refine wp_aload_n (i := 0) dX9_oneRun_45 rfl rfl ?_
      refine wp_getI dX9_oneRun_46 fl_X9_135 rfl rfl ?_
      obtain ⟨x22, ex22, h⟩ := ob h
      refine wp_aI dX9_oneRun_49 ex22 ?_
      obtain ⟨s23, es23, h⟩ := ob h
      refine wp_cVv (N := m_X9_fails) (As := [.int (4 : Int32), .int x22]) (rest := []) dX9_oneRun_50 ml_X9_127 mo_X9_fails vo_X9_fails rfl rfl (ok_X9_fails es23) (by decide) (Nat.le_of_ble_eq_true rfl) ?_
      obtain rfl := Option.some.inj h
      exact wp_vret dX9_oneRun_53 rfl
  · rw [if_neg c2] at h
    refine wp_aload_n (i := 0) dX9_oneRun_12 rfl rfl ?_
    refine wp_iconst (v := 2) dX9_oneRun_13 (by decide +kernel) ?_
    refine wp_aload_n (i := 0) dX9_oneRun_14 rfl rfl ?_
    refine wp_getR (t := 53) dX9_oneRun_15 fl_X9_41 rfl rfl ?_
    refine wp_aload_n (i := 0) dX9_oneRun_18 rfl rfl ?_
    refine wp_getI dX9_oneRun_19 fl_X9_135 rfl rfl ?_
    obtain ⟨x24, ex24, h⟩ := ob h
    refine wp_aI dX9_oneRun_22 ex24 ?_
    obtain ⟨s25, es25, h⟩ := ob h
    refine wp_cVv (N := m_X9_fails) (As := [.int (2 : Int32), .int x24]) (rest := []) dX9_oneRun_23 ml_X9_127 mo_X9_fails vo_X9_fails rfl rfl (ok_X9_fails es25) (by decide) (Nat.le_of_ble_eq_true rfl) ?_
    obtain rfl := Option.some.inj h
    exact wp_vret dX9_oneRun_26 rfl
def f_X9_oneLine_152  (s : St) : Option (St) :=
  Option.bind (some (sF s 43 24 ((s.1 43 24) + (1 : Int32)))) fun s1 =>
  some s1
set_option maxRecDepth 100000 in
set_option maxHeartbeats 4000000 in
theorem w_X9_oneLine_152 {r : St}   {s : St} (h : f_X9_oneLine_152  s = some r) : Wp m_X9_oneLine 2 (PR none r) 152 [some (.ref 43), none, none, none] [] s := by
  unfold f_X9_oneLine_152 at h
  refine wp_aload_n (i := 0) dX9_oneLine_152 rfl rfl ?_
  refine wp_dup_r dX9_oneLine_153 ?_
  refine wp_getI dX9_oneLine_154 fl_X9_135 rfl rfl ?_
  refine wp_iconst (v := 1) dX9_oneLine_157 (by decide +kernel) ?_
  refine wp_iadd dX9_oneLine_158 ?_
  obtain ⟨s1, es1, h⟩ := ob h
  refine wp_putI2 dX9_oneLine_159 fl_X9_135 rfl rfl rfl rfl es1 ?_
  obtain rfl := Option.some.inj h
  exact wp_vret dX9_oneLine_162 rfl
def f_X9_oneLine_134 (t0 : Int32) (t1 : Int32) (s : St) : Option (St) :=
  if t1 ≤ t0 then (
    f_X9_oneLine_152 s)
  else (
    Option.bind (aI s 53 (s.1 43 24)) fun x2 =>
    Option.bind (f_X9_fails (6 : Int32) x2 s) fun s3 =>
    f_X9_oneLine_152 s3)
set_option maxRecDepth 100000 in
set_option maxHeartbeats 4000000 in
theorem w_X9_oneLine_134 {r : St} {t0 : Int32} {t1 : Int32}  {s : St} (h : f_X9_oneLine_134  t0 t1 s = some r) : Wp m_X9_oneLine 2 (PR none r) 134 [some (.ref 43), none, none, none] [.int t0, .int t1] s := by
  unfold f_X9_oneLine_134 at h
  refine wp_icmp_le (tgt := 152) dX9_oneLine_134 (by decide) (fun c1 => ?_) (fun c1 => ?_)
  · rw [if_pos c1] at h
    exact wp_sub (ls' := [some (.ref 43), none, none, none]) ⟨rfl, trivial⟩ (w_X9_oneLine_152 h)
  · rw [if_neg c1] at h
    refine wp_aload_n (i := 0) dX9_oneLine_137 rfl rfl ?_
    refine wp_bipush (v := 6) dX9_oneLine_138 (by decide +kernel) ?_
    refine wp_aload_n (i := 0) dX9_oneLine_140 rfl rfl ?_
    refine wp_getR (t := 53) dX9_oneLine_141 fl_X9_41 rfl rfl ?_
    refine wp_aload_n (i := 0) dX9_oneLine_144 rfl rfl ?_
    refine wp_getI dX9_oneLine_145 fl_X9_135 rfl rfl ?_
    obtain ⟨x2, ex2, h⟩ := ob h
    refine wp_aI dX9_oneLine_148 ex2 ?_
    obtain ⟨s3, es3, h⟩ := ob h
    refine wp_cVv (N := m_X9_fails) (As := [.int (6 : Int32), .int x2]) (rest := []) dX9_oneLine_149 ml_X9_127 mo_X9_fails vo_X9_fails rfl rfl (ok_X9_fails es3) (by decide) (Nat.le_of_ble_eq_true rfl) ?_
    exact wp_sub (ls' := [some (.ref 43), none, none, none]) ⟨rfl, trivial⟩ (w_X9_oneLine_152 h)
def f_X9_oneLine_105 (K47 : Int32 → Int32 → Int32 → St → Option (St)) (v1 : Int32) (v3 : Int32) (t0 : Int32) (t1 : Int32) (t2 : Int32) (s : St) : Option (St) :=
  K47 v1 (t2 + (t1 + t0)) (v3 + 1) s
set_option maxRecDepth 100000 in
set_option maxHeartbeats 4000000 in
theorem w_X9_oneLine_105 {r : St} {K47 : Int32 → Int32 → Int32 → St → Option (St)} (hK47 : ∀ (v1 : Int32) (v2 : Int32) (v3 : Int32) (s : St), K47 v1 v2 v3 s = some r → Wp m_X9_oneLine 2 (PR none r) 47 [some (.ref 43), some (.int v1), some (.int v2), some (.int v3)] [] s) {v1 : Int32} {v3 : Int32} {t0 : Int32} {t1 : Int32} {t2 : Int32}  {s : St} (h : f_X9_oneLine_105 K47 v1 v3 t0 t1 t2 s = some r) : Wp m_X9_oneLine 2 (PR none r) 105 [some (.ref 43), some (.int v1), none, some (.int v3)] [.int t0, .int t1, .int t2] s := by
  unfold f_X9_oneLine_105 at h
  refine wp_iadd dX9_oneLine_105 ?_
  refine wp_iadd dX9_oneLine_106 ?_
  refine wp_istore_n (ls' := [some (.ref 43), some (.int v1), some (.int (t2 + (t1 + t0))), some (.int v3)]) dX9_oneLine_107 rfl (by decide) rfl rfl ?_
  refine wp_inc (c := 1) (ls' := [some (.ref 43), some (.int v1), some (.int (t2 + (t1 + t0))), some (.int (v3 + 1))]) dX9_oneLine_108 rfl (by decide +kernel) (by decide) rfl rfl ?_
  refine wp_goto (tgt := 47) dX9_oneLine_111 (by decide) ?_
  exact wp_sub (ls' := [some (.ref 43), some (.int v1), some (.int (t2 + (t1 + t0))), some (.int (v3 + 1))]) ⟨rfl, rfl, rfl, rfl, trivial⟩ (hK47 _ _ _ _ h)
def f_X9_oneLine_104 (K47 : Int32 → Int32 → Int32 → St → Option (St)) (v1 : Int32) (v3 : Int32) (t0 : Int32) (t1 : Int32) (s : St) : Option (St) :=
  f_X9_oneLine_105 K47 v1 v3 (0 : Int32) t0 t1 s
set_option maxRecDepth 100000 in
set_option maxHeartbeats 4000000 in
theorem w_X9_oneLine_104 {r : St} {K47 : Int32 → Int32 → Int32 → St → Option (St)} (hK47 : ∀ (v1 : Int32) (v2 : Int32) (v3 : Int32) (s : St), K47 v1 v2 v3 s = some r → Wp m_X9_oneLine 2 (PR none r) 47 [some (.ref 43), some (.int v1), some (.int v2), some (.int v3)] [] s) {v1 : Int32} {v3 : Int32} {t0 : Int32} {t1 : Int32}  {s : St} (h : f_X9_oneLine_104 K47 v1 v3 t0 t1 s = some r) : Wp m_X9_oneLine 2 (PR none r) 104 [some (.ref 43), some (.int v1), none, some (.int v3)] [.int t0, .int t1] s := by
  unfold f_X9_oneLine_104 at h
  refine wp_iconst (v := 0) dX9_oneLine_104 (by decide +kernel) ?_
  exact wp_sub (ls' := [some (.ref 43), some (.int v1), none, some (.int v3)]) ⟨rfl, rfl, rfl, trivial⟩ (w_X9_oneLine_105 hK47 h)
def f_X9_oneLine_47 : Nat → Int32 → Int32 → Int32 → St → Option (St)
  | 0, _, _, _, _ => none
  | n + 1, v1, v2, v3, s =>
    Option.bind (aI s 55 v1) fun x1 =>
    if x1 ≤ v3 then (
      if (s.1 43 26) ≤ v1 then (
        f_X9_oneLine_134 (s.1 43 26) v2 s)
      else (
        f_X9_oneLine_134 (s.1 43 25) v2 s))
    else (
      Option.bind (aI s 56 (((12 : Int32) * v1) + v3)) fun x4 =>
      if v3 ≤ 0 then (
        f_X9_oneLine_104 (f_X9_oneLine_47 n) v1 v3 x4 v2 s)
      else (
        Option.bind (aI s 57 (((12 : Int32) * v1) + v3)) fun x6 =>
        Option.bind (aI s 57 ((((12 : Int32) * v1) + v3) - (1 : Int32))) fun x7 =>
        if x6 = x7 then (
          f_X9_oneLine_105 (f_X9_oneLine_47 n) v1 v3 (1 : Int32) x4 v2 s)
        else (
          f_X9_oneLine_104 (f_X9_oneLine_47 n) v1 v3 x4 v2 s)))
set_option maxRecDepth 100000 in
set_option maxHeartbeats 4000000 in
theorem w_X9_oneLine_47 {r : St}   : ∀ (n : Nat) (v1 : Int32) (v2 : Int32) (v3 : Int32) (s : St), f_X9_oneLine_47  n v1 v2 v3 s = some r → Wp m_X9_oneLine 2 (PR none r) 47 [some (.ref 43), some (.int v1), some (.int v2), some (.int v3)] [] s := by
  intro n
  induction n with
  | zero => intro v1 v2 v3 s h; cases h
  | succ n ih =>
    intro v1 v2 v3 s h
    unfold f_X9_oneLine_47 at h
    refine wp_iload_n (i := 3) dX9_oneLine_47 rfl rfl ?_
    refine wp_aload_n (i := 0) dX9_oneLine_48 rfl rfl ?_
    refine wp_getR (t := 55) dX9_oneLine_49 fl_X9_47 rfl rfl ?_
    refine wp_iload_n (i := 1) dX9_oneLine_52 rfl rfl ?_
    obtain ⟨x1, ex1, h⟩ := ob h
    refine wp_aI dX9_oneLine_53 ex1 ?_
    refine wp_icmp_ge (tgt := 114) dX9_oneLine_54 (by decide) (fun c2 => ?_) (fun c2 => ?_)
    · rw [if_pos c2] at h
      refine wp_iload_n (i := 2) dX9_oneLine_114 rfl rfl ?_
      refine wp_iload_n (i := 1) dX9_oneLine_115 rfl rfl ?_
      refine wp_aload_n (i := 0) dX9_oneLine_116 rfl rfl ?_
      refine wp_getI dX9_oneLine_117 fl_X9_144 rfl rfl ?_
      refine wp_icmp_ge (tgt := 130) dX9_oneLine_120 (by decide) (fun c3 => ?_) (fun c3 => ?_)
      · rw [if_pos c3] at h
        refine wp_aload_n (i := 0) dX9_oneLine_130 rfl rfl ?_
        refine wp_getI dX9_oneLine_131 fl_X9_144 rfl rfl ?_
        exact wp_sub (ls' := [some (.ref 43), none, none, none]) ⟨rfl, trivial⟩ (w_X9_oneLine_134 h)
      · rw [if_neg c3] at h
        refine wp_aload_n (i := 0) dX9_oneLine_123 rfl rfl ?_
        refine wp_getI dX9_oneLine_124 fl_X9_147 rfl rfl ?_
        refine wp_goto (tgt := 134) dX9_oneLine_127 (by decide) ?_
        exact wp_sub (ls' := [some (.ref 43), none, none, none]) ⟨rfl, trivial⟩ (w_X9_oneLine_134 h)
    · rw [if_neg c2] at h
      refine wp_iload_n (i := 2) dX9_oneLine_57 rfl rfl ?_
      refine wp_aload_n (i := 0) dX9_oneLine_58 rfl rfl ?_
      refine wp_getR (t := 56) dX9_oneLine_59 fl_X9_50 rfl rfl ?_
      refine wp_bipush (v := 12) dX9_oneLine_62 (by decide +kernel) ?_
      refine wp_iload_n (i := 1) dX9_oneLine_64 rfl rfl ?_
      refine wp_imul dX9_oneLine_65 ?_
      refine wp_iload_n (i := 3) dX9_oneLine_66 rfl rfl ?_
      refine wp_iadd dX9_oneLine_67 ?_
      obtain ⟨x4, ex4, h⟩ := ob h
      refine wp_aI dX9_oneLine_68 ex4 ?_
      refine wp_iload_n (i := 3) dX9_oneLine_69 rfl rfl ?_
      refine wp_if_le (tgt := 104) dX9_oneLine_70 (by decide) (fun c5 => ?_) (fun c5 => ?_)
      · rw [if_pos c5] at h
        exact wp_sub (ls' := [some (.ref 43), some (.int v1), none, some (.int v3)]) ⟨rfl, rfl, rfl, trivial⟩ (w_X9_oneLine_104 ih h)
      · rw [if_neg c5] at h
        refine wp_aload_n (i := 0) dX9_oneLine_73 rfl rfl ?_
        refine wp_getR (t := 57) dX9_oneLine_74 fl_X9_53 rfl rfl ?_
        refine wp_bipush (v := 12) dX9_oneLine_77 (by decide +kernel) ?_
        refine wp_iload_n (i := 1) dX9_oneLine_79 rfl rfl ?_
        refine wp_imul dX9_oneLine_80 ?_
        refine wp_iload_n (i := 3) dX9_oneLine_81 rfl rfl ?_
        refine wp_iadd dX9_oneLine_82 ?_
        obtain ⟨x6, ex6, h⟩ := ob h
        refine wp_aI dX9_oneLine_83 ex6 ?_
        refine wp_aload_n (i := 0) dX9_oneLine_84 rfl rfl ?_
        refine wp_getR (t := 57) dX9_oneLine_85 fl_X9_53 rfl rfl ?_
        refine wp_bipush (v := 12) dX9_oneLine_88 (by decide +kernel) ?_
        refine wp_iload_n (i := 1) dX9_oneLine_90 rfl rfl ?_
        refine wp_imul dX9_oneLine_91 ?_
        refine wp_iload_n (i := 3) dX9_oneLine_92 rfl rfl ?_
        refine wp_iadd dX9_oneLine_93 ?_
        refine wp_iconst (v := 1) dX9_oneLine_94 (by decide +kernel) ?_
        refine wp_isub dX9_oneLine_95 ?_
        obtain ⟨x7, ex7, h⟩ := ob h
        refine wp_aI dX9_oneLine_96 ex7 ?_
        refine wp_icmp_ne (tgt := 104) dX9_oneLine_97 (by decide) (fun c8 => ?_) (fun c8 => ?_)
        · rw [if_neg c8] at h
          exact wp_sub (ls' := [some (.ref 43), some (.int v1), none, some (.int v3)]) ⟨rfl, rfl, rfl, trivial⟩ (w_X9_oneLine_104 ih h)
        · rw [if_pos c8] at h
          refine wp_iconst (v := 1) dX9_oneLine_100 (by decide +kernel) ?_
          refine wp_goto (tgt := 105) dX9_oneLine_101 (by decide) ?_
          exact wp_sub (ls' := [some (.ref 43), some (.int v1), none, some (.int v3)]) ⟨rfl, rfl, rfl, trivial⟩ (w_X9_oneLine_105 ih h)
def f_X9_oneLine_35 (v1 : Int32) (s : St) : Option (St) :=
  Option.bind (f_X9_good s) fun r1 =>
  if r1.1 = 0 then (
    some r1.2)
  else (
    f_X9_oneLine_47 FU v1 (0 : Int32) (0 : Int32) r1.2)
set_option maxRecDepth 100000 in
set_option maxHeartbeats 4000000 in
theorem w_X9_oneLine_35 {r : St} {v1 : Int32}  {s : St} (h : f_X9_oneLine_35  v1 s = some r) : Wp m_X9_oneLine 2 (PR none r) 35 [some (.ref 43), some (.int v1), none, none] [] s := by
  unfold f_X9_oneLine_35 at h
  refine wp_aload_n (i := 0) dX9_oneLine_35 rfl rfl ?_
  obtain ⟨r1, er1, h⟩ := ob h
  refine wp_cVi (N := m_X9_good) (As := []) (rest := []) dX9_oneLine_36 ml_X9_124 mo_X9_good vo_X9_good rfl rfl (ok_X9_good er1) (by decide) (Nat.le_of_ble_eq_true rfl) ?_
  refine wp_if_ne (tgt := 43) dX9_oneLine_39 (by decide) (fun c2 => ?_) (fun c2 => ?_)
  · rw [if_neg c2] at h
    refine wp_iconst (v := 0) dX9_oneLine_43 (by decide +kernel) ?_
    refine wp_istore_n (ls' := [some (.ref 43), some (.int v1), some (.int (0 : Int32)), none]) dX9_oneLine_44 rfl (by decide) rfl rfl ?_
    refine wp_iconst (v := 0) dX9_oneLine_45 (by decide +kernel) ?_
    refine wp_istore_n (ls' := [some (.ref 43), some (.int v1), some (.int (0 : Int32)), some (.int (0 : Int32))]) dX9_oneLine_46 rfl (by decide) rfl rfl ?_
    exact wp_sub (ls' := [some (.ref 43), some (.int v1), some (.int (0 : Int32)), some (.int (0 : Int32))]) ⟨rfl, rfl, rfl, rfl, trivial⟩ (w_X9_oneLine_47 _ _ _ _ _ h)
  · rw [if_pos c2] at h
    obtain rfl := Option.some.inj h
    exact wp_vret dX9_oneLine_42 rfl
def f_X9_oneLine_7 : Nat → Int32 → St → Option (St)
  | 0, _, _ => none
  | n + 1, v1, s =>
    Option.bind (f_X9_good s) fun r1 =>
    if r1.1 = 0 then (
      f_X9_oneLine_35 v1 r1.2)
    else (
      Option.bind (aI r1.2 52 (r1.2.1 43 24)) fun x3 =>
      if x3 = (2 : Int32) then (
        f_X9_oneLine_35 v1 r1.2)
      else (
        Option.bind (f_X9_oneRun v1 r1.2) fun s5 =>
        f_X9_oneLine_7 n v1 s5))
set_option maxRecDepth 100000 in
set_option maxHeartbeats 4000000 in
theorem w_X9_oneLine_7 {r : St}   : ∀ (n : Nat) (v1 : Int32) (s : St), f_X9_oneLine_7  n v1 s = some r → Wp m_X9_oneLine 2 (PR none r) 7 [some (.ref 43), some (.int v1), none, none] [] s := by
  intro n
  induction n with
  | zero => intro v1 s h; cases h
  | succ n ih =>
    intro v1 s h
    unfold f_X9_oneLine_7 at h
    refine wp_aload_n (i := 0) dX9_oneLine_7 rfl rfl ?_
    obtain ⟨r1, er1, h⟩ := ob h
    refine wp_cVi (N := m_X9_good) (As := []) (rest := []) dX9_oneLine_8 ml_X9_124 mo_X9_good vo_X9_good rfl rfl (ok_X9_good er1) (by decide) (Nat.le_of_ble_eq_true rfl) ?_
    refine wp_if_eq (tgt := 35) dX9_oneLine_11 (by decide) (fun c2 => ?_) (fun c2 => ?_)
    · rw [if_pos c2] at h
      exact wp_sub (ls' := [some (.ref 43), some (.int v1), none, none]) ⟨rfl, rfl, trivial⟩ (w_X9_oneLine_35 h)
    · rw [if_neg c2] at h
      refine wp_aload_n (i := 0) dX9_oneLine_14 rfl rfl ?_
      refine wp_getR (t := 52) dX9_oneLine_15 fl_X9_38 rfl rfl ?_
      refine wp_aload_n (i := 0) dX9_oneLine_18 rfl rfl ?_
      refine wp_getI dX9_oneLine_19 fl_X9_135 rfl rfl ?_
      obtain ⟨x3, ex3, h⟩ := ob h
      refine wp_aI dX9_oneLine_22 ex3 ?_
      refine wp_iconst (v := 2) dX9_oneLine_23 (by decide +kernel) ?_
      refine wp_icmp_eq (tgt := 35) dX9_oneLine_24 (by decide) (fun c4 => ?_) (fun c4 => ?_)
      · rw [if_pos c4] at h
        exact wp_sub (ls' := [some (.ref 43), some (.int v1), none, none]) ⟨rfl, rfl, trivial⟩ (w_X9_oneLine_35 h)
      · rw [if_neg c4] at h
        refine wp_aload_n (i := 0) dX9_oneLine_27 rfl rfl ?_
        refine wp_iload_n (i := 1) dX9_oneLine_28 rfl rfl ?_
        obtain ⟨s5, es5, h⟩ := ob h
        refine wp_cVv (N := m_X9_oneRun) (As := [.int v1]) (rest := []) dX9_oneLine_29 ml_X9_141 mo_X9_oneRun vo_X9_oneRun rfl rfl (ok_X9_oneRun es5) (by decide) (Nat.le_of_ble_eq_true rfl) ?_
        refine wp_goto (tgt := 7) dX9_oneLine_32 (by decide) ?_
        exact wp_sub (ls' := [some (.ref 43), some (.int v1), none, none]) ⟨rfl, rfl, trivial⟩ (ih _ _ h)
def f_X9_oneLine (a1 : Int32) (s : St) : Option (St) :=
  Option.bind (pI s 55 a1 (0 : Int32)) fun s1 =>
  f_X9_oneLine_7 FU a1 s1
set_option maxRecDepth 100000 in
set_option maxHeartbeats 4000000 in
theorem ok_X9_oneLine {a1 : Int32} {s : St} {r : St} (h : f_X9_oneLine a1 s = some r) : Ct 2 m_X9_oneLine [.ref 43, .int a1] s none r := by
  unfold f_X9_oneLine at h
  refine ct_of [some (.ref 43), some (.int a1), none, none] 2 (by decide) rfl (Nat.le_of_ble_eq_true rfl) ?_
  refine wp_aload_n (i := 0) dX9_oneLine_0 rfl rfl ?_
  refine wp_getR (t := 55) dX9_oneLine_1 fl_X9_47 rfl rfl ?_
  refine wp_iload_n (i := 1) dX9_oneLine_4 rfl rfl ?_
  refine wp_iconst (v := 0) dX9_oneLine_5 (by decide +kernel) ?_
  obtain ⟨s1, es1, h⟩ := ob h
  refine wp_pI dX9_oneLine_6 es1 ?_
  exact wp_sub (ls' := [some (.ref 43), some (.int a1), none, none]) ⟨rfl, rfl, trivial⟩ (w_X9_oneLine_7 _ _ _ h)
def f_X9_colourSumsDiffer_96 (K2 : Int32 → St → Option (Int32 × St)) (K14 : Int32 → Int32 → Int32 → St → Option (Int32 × St)) (K30 : Int32 → Int32 → Int32 → Int32 → St → Option (Int32 × St)) (v1 : Int32) (v2 : Int32) (v3 : Int32) (v4 : Int32) (s : St) : Option (Int32 × St) :=
  K30 v1 v2 v3 (v4 + 1) s
set_option maxRecDepth 100000 in
set_option maxHeartbeats 4000000 in
theorem w_X9_colourSumsDiffer_96 {r : Int32 × St} {K2 : Int32 → St → Option (Int32 × St)} (hK2 : ∀ (v1 : Int32) (s : St), K2 v1 s = some r → Wp m_X9_colourSumsDiffer 0 (PR (some (.int r.1)) r.2) 2 [some (.ref 43), some (.int v1), none, none, none] [] s) {K14 : Int32 → Int32 → Int32 → St → Option (Int32 × St)} (hK14 : ∀ (v1 : Int32) (v2 : Int32) (v3 : Int32) (s : St), K14 v1 v2 v3 s = some r → Wp m_X9_colourSumsDiffer 0 (PR (some (.int r.1)) r.2) 14 [some (.ref 43), some (.int v1), some (.int v2), some (.int v3), none] [] s) {K30 : Int32 → Int32 → Int32 → Int32 → St → Option (Int32 × St)} (hK30 : ∀ (v1 : Int32) (v2 : Int32) (v3 : Int32) (v4 : Int32) (s : St), K30 v1 v2 v3 v4 s = some r → Wp m_X9_colourSumsDiffer 0 (PR (some (.int r.1)) r.2) 30 [some (.ref 43), some (.int v1), some (.int v2), some (.int v3), some (.int v4)] [] s) {v1 : Int32} {v2 : Int32} {v3 : Int32} {v4 : Int32}  {s : St} (h : f_X9_colourSumsDiffer_96 K2 K14 K30 v1 v2 v3 v4 s = some r) : Wp m_X9_colourSumsDiffer 0 (PR (some (.int r.1)) r.2) 96 [some (.ref 43), some (.int v1), some (.int v2), some (.int v3), some (.int v4)] [] s := by
  unfold f_X9_colourSumsDiffer_96 at h
  refine wp_inc (c := 1) (ls' := [some (.ref 43), some (.int v1), some (.int v2), some (.int v3), some (.int (v4 + 1))]) dX9_colourSumsDiffer_96 rfl (by decide +kernel) (by decide) rfl rfl ?_
  refine wp_goto (tgt := 30) dX9_colourSumsDiffer_99 (by decide) ?_
  exact wp_sub (ls' := [some (.ref 43), some (.int v1), some (.int v2), some (.int v3), some (.int (v4 + 1))]) ⟨rfl, rfl, rfl, rfl, rfl, trivial⟩ (hK30 _ _ _ _ _ h)
def f_X9_colourSumsDiffer_94 (K2 : Int32 → St → Option (Int32 × St)) (K14 : Int32 → Int32 → Int32 → St → Option (Int32 × St)) (K30 : Int32 → Int32 → Int32 → Int32 → St → Option (Int32 × St)) (v1 : Int32) (v3 : Int32) (v4 : Int32) (t0 : Int32) (t1 : Int32) (s : St) : Option (Int32 × St) :=
  f_X9_colourSumsDiffer_96 K2 K14 K30 v1 (t1 + t0) v3 v4 s
set_option maxRecDepth 100000 in
set_option maxHeartbeats 4000000 in
theorem w_X9_colourSumsDiffer_94 {r : Int32 × St} {K2 : Int32 → St → Option (Int32 × St)} (hK2 : ∀ (v1 : Int32) (s : St), K2 v1 s = some r → Wp m_X9_colourSumsDiffer 0 (PR (some (.int r.1)) r.2) 2 [some (.ref 43), some (.int v1), none, none, none] [] s) {K14 : Int32 → Int32 → Int32 → St → Option (Int32 × St)} (hK14 : ∀ (v1 : Int32) (v2 : Int32) (v3 : Int32) (s : St), K14 v1 v2 v3 s = some r → Wp m_X9_colourSumsDiffer 0 (PR (some (.int r.1)) r.2) 14 [some (.ref 43), some (.int v1), some (.int v2), some (.int v3), none] [] s) {K30 : Int32 → Int32 → Int32 → Int32 → St → Option (Int32 × St)} (hK30 : ∀ (v1 : Int32) (v2 : Int32) (v3 : Int32) (v4 : Int32) (s : St), K30 v1 v2 v3 v4 s = some r → Wp m_X9_colourSumsDiffer 0 (PR (some (.int r.1)) r.2) 30 [some (.ref 43), some (.int v1), some (.int v2), some (.int v3), some (.int v4)] [] s) {v1 : Int32} {v3 : Int32} {v4 : Int32} {t0 : Int32} {t1 : Int32}  {s : St} (h : f_X9_colourSumsDiffer_94 K2 K14 K30 v1 v3 v4 t0 t1 s = some r) : Wp m_X9_colourSumsDiffer 0 (PR (some (.int r.1)) r.2) 94 [some (.ref 43), some (.int v1), none, some (.int v3), some (.int v4)] [.int t0, .int t1] s := by
  unfold f_X9_colourSumsDiffer_94 at h
  refine wp_iadd dX9_colourSumsDiffer_94 ?_
  refine wp_istore_n (ls' := [some (.ref 43), some (.int v1), some (.int (t1 + t0)), some (.int v3), some (.int v4)]) dX9_colourSumsDiffer_95 rfl (by decide) rfl rfl ?_
  exact wp_sub (ls' := [some (.ref 43), some (.int v1), some (.int (t1 + t0)), some (.int v3), some (.int v4)]) ⟨rfl, rfl, rfl, rfl, rfl, trivial⟩ (w_X9_colourSumsDiffer_96 hK2 hK14 hK30 h)
def f_X9_colourSumsDiffer_30 (K2 : Int32 → St → Option (Int32 × St)) (K14 : Int32 → Int32 → Int32 → St → Option (Int32 × St)) : Nat → Int32 → Int32 → Int32 → Int32 → St → Option (Int32 × St)
  | 0, _, _, _, _, _ => none
  | n + 1, v1, v2, v3, v4, s =>
    Option.bind (aI s 55 v3) fun x1 =>
    if x1 ≤ v4 then (
      K14 v1 v2 (v3 + 1) s)
    else (
      Option.bind (aI s 57 (((12 : Int32) * v3) + v4)) fun x3 =>
      if x3 = v1 then (
        if (s.1 43 26) ≤ v3 then (
          Option.bind (aI s 56 (((12 : Int32) * v3) + v4)) fun x6 =>
          f_X9_colourSumsDiffer_94 K2 K14 (f_X9_colourSumsDiffer_30 K2 K14 n) v1 v3 v4 (-x6) v2 s)
        else (
          Option.bind (aI s 56 (((12 : Int32) * v3) + v4)) fun x7 =>
          f_X9_colourSumsDiffer_94 K2 K14 (f_X9_colourSumsDiffer_30 K2 K14 n) v1 v3 v4 x7 v2 s))
      else (
        f_X9_colourSumsDiffer_96 K2 K14 (f_X9_colourSumsDiffer_30 K2 K14 n) v1 v2 v3 v4 s))
set_option maxRecDepth 100000 in
set_option maxHeartbeats 4000000 in
theorem w_X9_colourSumsDiffer_30 {r : Int32 × St} {K2 : Int32 → St → Option (Int32 × St)} (hK2 : ∀ (v1 : Int32) (s : St), K2 v1 s = some r → Wp m_X9_colourSumsDiffer 0 (PR (some (.int r.1)) r.2) 2 [some (.ref 43), some (.int v1), none, none, none] [] s) {K14 : Int32 → Int32 → Int32 → St → Option (Int32 × St)} (hK14 : ∀ (v1 : Int32) (v2 : Int32) (v3 : Int32) (s : St), K14 v1 v2 v3 s = some r → Wp m_X9_colourSumsDiffer 0 (PR (some (.int r.1)) r.2) 14 [some (.ref 43), some (.int v1), some (.int v2), some (.int v3), none] [] s)   : ∀ (n : Nat) (v1 : Int32) (v2 : Int32) (v3 : Int32) (v4 : Int32) (s : St), f_X9_colourSumsDiffer_30 K2 K14 n v1 v2 v3 v4 s = some r → Wp m_X9_colourSumsDiffer 0 (PR (some (.int r.1)) r.2) 30 [some (.ref 43), some (.int v1), some (.int v2), some (.int v3), some (.int v4)] [] s := by
  intro n
  induction n with
  | zero => intro v1 v2 v3 v4 s h; cases h
  | succ n ih =>
    intro v1 v2 v3 v4 s h
    unfold f_X9_colourSumsDiffer_30 at h
    refine wp_iload dX9_colourSumsDiffer_30 rfl ?_
    refine wp_aload_n (i := 0) dX9_colourSumsDiffer_32 rfl rfl ?_
    refine wp_getR (t := 55) dX9_colourSumsDiffer_33 fl_X9_47 rfl rfl ?_
    refine wp_iload_n (i := 3) dX9_colourSumsDiffer_36 rfl rfl ?_
    obtain ⟨x1, ex1, h⟩ := ob h
    refine wp_aI dX9_colourSumsDiffer_37 ex1 ?_
    refine wp_icmp_ge (tgt := 102) dX9_colourSumsDiffer_38 (by decide) (fun c2 => ?_) (fun c2 => ?_)
    · rw [if_pos c2] at h
      refine wp_inc (c := 1) (ls' := [some (.ref 43), some (.int v1), some (.int v2), some (.int (v3 + 1)), some (.int v4)]) dX9_colourSumsDiffer_102 rfl (by decide +kernel) (by decide) rfl rfl ?_
      refine wp_goto (tgt := 14) dX9_colourSumsDiffer_105 (by decide) ?_
      exact wp_sub (ls' := [some (.ref 43), some (.int v1), some (.int v2), some (.int (v3 + 1)), none]) ⟨rfl, rfl, rfl, rfl, trivial⟩ (hK14 _ _ _ _ h)
    · rw [if_neg c2] at h
      refine wp_aload_n (i := 0) dX9_colourSumsDiffer_41 rfl rfl ?_
      refine wp_getR (t := 57) dX9_colourSumsDiffer_42 fl_X9_53 rfl rfl ?_
      refine wp_bipush (v := 12) dX9_colourSumsDiffer_45 (by decide +kernel) ?_
      refine wp_iload_n (i := 3) dX9_colourSumsDiffer_47 rfl rfl ?_
      refine wp_imul dX9_colourSumsDiffer_48 ?_
      refine wp_iload dX9_colourSumsDiffer_49 rfl ?_
      refine wp_iadd dX9_colourSumsDiffer_51 ?_
      obtain ⟨x3, ex3, h⟩ := ob h
      refine wp_aI dX9_colourSumsDiffer_52 ex3 ?_
      refine wp_iload_n (i := 1) dX9_colourSumsDiffer_53 rfl rfl ?_
      refine wp_icmp_ne (tgt := 96) dX9_colourSumsDiffer_54 (by decide) (fun c4 => ?_) (fun c4 => ?_)
      · rw [if_neg c4] at h
        exact wp_sub (ls' := [some (.ref 43), some (.int v1), some (.int v2), some (.int v3), some (.int v4)]) ⟨rfl, rfl, rfl, rfl, rfl, trivial⟩ (w_X9_colourSumsDiffer_96 hK2 hK14 ih h)
      · rw [if_pos c4] at h
        refine wp_iload_n (i := 2) dX9_colourSumsDiffer_57 rfl rfl ?_
        refine wp_iload_n (i := 3) dX9_colourSumsDiffer_58 rfl rfl ?_
        refine wp_aload_n (i := 0) dX9_colourSumsDiffer_59 rfl rfl ?_
        refine wp_getI dX9_colourSumsDiffer_60 fl_X9_144 rfl rfl ?_
        refine wp_icmp_ge (tgt := 81) dX9_colourSumsDiffer_63 (by decide) (fun c5 => ?_) (fun c5 => ?_)
        · rw [if_pos c5] at h
          refine wp_aload_n (i := 0) dX9_colourSumsDiffer_81 rfl rfl ?_
          refine wp_getR (t := 56) dX9_colourSumsDiffer_82 fl_X9_50 rfl rfl ?_
          refine wp_bipush (v := 12) dX9_colourSumsDiffer_85 (by decide +kernel) ?_
          refine wp_iload_n (i := 3) dX9_colourSumsDiffer_87 rfl rfl ?_
          refine wp_imul dX9_colourSumsDiffer_88 ?_
          refine wp_iload dX9_colourSumsDiffer_89 rfl ?_
          refine wp_iadd dX9_colourSumsDiffer_91 ?_
          obtain ⟨x6, ex6, h⟩ := ob h
          refine wp_aI dX9_colourSumsDiffer_92 ex6 ?_
          refine wp_ineg dX9_colourSumsDiffer_93 ?_
          exact wp_sub (ls' := [some (.ref 43), some (.int v1), none, some (.int v3), some (.int v4)]) ⟨rfl, rfl, rfl, rfl, trivial⟩ (w_X9_colourSumsDiffer_94 hK2 hK14 ih h)
        · rw [if_neg c5] at h
          refine wp_aload_n (i := 0) dX9_colourSumsDiffer_66 rfl rfl ?_
          refine wp_getR (t := 56) dX9_colourSumsDiffer_67 fl_X9_50 rfl rfl ?_
          refine wp_bipush (v := 12) dX9_colourSumsDiffer_70 (by decide +kernel) ?_
          refine wp_iload_n (i := 3) dX9_colourSumsDiffer_72 rfl rfl ?_
          refine wp_imul dX9_colourSumsDiffer_73 ?_
          refine wp_iload dX9_colourSumsDiffer_74 rfl ?_
          refine wp_iadd dX9_colourSumsDiffer_76 ?_
          obtain ⟨x7, ex7, h⟩ := ob h
          refine wp_aI dX9_colourSumsDiffer_77 ex7 ?_
          refine wp_goto (tgt := 94) dX9_colourSumsDiffer_78 (by decide) ?_
          exact wp_sub (ls' := [some (.ref 43), some (.int v1), none, some (.int v3), some (.int v4)]) ⟨rfl, rfl, rfl, rfl, trivial⟩ (w_X9_colourSumsDiffer_94 hK2 hK14 ih h)
def f_X9_colourSumsDiffer_14 (K2 : Int32 → St → Option (Int32 × St)) : Nat → Int32 → Int32 → Int32 → St → Option (Int32 × St)
  | 0, _, _, _, _ => none
  | n + 1, v1, v2, v3, s =>
    if ((s.1 43 25) + (s.1 43 26)) ≤ v3 then (
      if v2 = 0 then (
        K2 (v1 + 1) s)
      else (
        some ((1 : Int32), s)))
    else (
      f_X9_colourSumsDiffer_30 K2 (f_X9_colourSumsDiffer_14 K2 n) FU v1 v2 v3 (0 : Int32) s)
set_option maxRecDepth 100000 in
set_option maxHeartbeats 4000000 in
theorem w_X9_colourSumsDiffer_14 {r : Int32 × St} {K2 : Int32 → St → Option (Int32 × St)} (hK2 : ∀ (v1 : Int32) (s : St), K2 v1 s = some r → Wp m_X9_colourSumsDiffer 0 (PR (some (.int r.1)) r.2) 2 [some (.ref 43), some (.int v1), none, none, none] [] s)   : ∀ (n : Nat) (v1 : Int32) (v2 : Int32) (v3 : Int32) (s : St), f_X9_colourSumsDiffer_14 K2 n v1 v2 v3 s = some r → Wp m_X9_colourSumsDiffer 0 (PR (some (.int r.1)) r.2) 14 [some (.ref 43), some (.int v1), some (.int v2), some (.int v3), none] [] s := by
  intro n
  induction n with
  | zero => intro v1 v2 v3 s h; cases h
  | succ n ih =>
    intro v1 v2 v3 s h
    unfold f_X9_colourSumsDiffer_14 at h
    refine wp_iload_n (i := 3) dX9_colourSumsDiffer_14 rfl rfl ?_
    refine wp_aload_n (i := 0) dX9_colourSumsDiffer_15 rfl rfl ?_
    refine wp_getI dX9_colourSumsDiffer_16 fl_X9_147 rfl rfl ?_
    refine wp_aload_n (i := 0) dX9_colourSumsDiffer_19 rfl rfl ?_
    refine wp_getI dX9_colourSumsDiffer_20 fl_X9_144 rfl rfl ?_
    refine wp_iadd dX9_colourSumsDiffer_23 ?_
    refine wp_icmp_ge (tgt := 108) dX9_colourSumsDiffer_24 (by decide) (fun c1 => ?_) (fun c1 => ?_)
    · rw [if_pos c1] at h
      refine wp_iload_n (i := 2) dX9_colourSumsDiffer_108 rfl rfl ?_
      refine wp_if_eq (tgt := 114) dX9_colourSumsDiffer_109 (by decide) (fun c2 => ?_) (fun c2 => ?_)
      · rw [if_pos c2] at h
        refine wp_inc (c := 1) (ls' := [some (.ref 43), some (.int (v1 + 1)), some (.int v2), some (.int v3), none]) dX9_colourSumsDiffer_114 rfl (by decide +kernel) (by decide) rfl rfl ?_
        refine wp_goto (tgt := 2) dX9_colourSumsDiffer_117 (by decide) ?_
        exact wp_sub (ls' := [some (.ref 43), some (.int (v1 + 1)), none, none, none]) ⟨rfl, rfl, trivial⟩ (hK2 _ _ h)
      · rw [if_neg c2] at h
        refine wp_iconst (v := 1) dX9_colourSumsDiffer_112 (by decide +kernel) ?_
        obtain rfl := Option.some.inj h
        exact wp_iret dX9_colourSumsDiffer_113 rfl (narrow_z (Or.inr rfl)).1
    · rw [if_neg c1] at h
      refine wp_iconst (v := 0) dX9_colourSumsDiffer_27 (by decide +kernel) ?_
      refine wp_istore (ls' := [some (.ref 43), some (.int v1), some (.int v2), some (.int v3), some (.int (0 : Int32))]) dX9_colourSumsDiffer_28 (by decide) rfl rfl ?_
      exact wp_sub (ls' := [some (.ref 43), some (.int v1), some (.int v2), some (.int v3), some (.int (0 : Int32))]) ⟨rfl, rfl, rfl, rfl, rfl, trivial⟩ (w_X9_colourSumsDiffer_30 hK2 ih _ _ _ _ _ _ h)
def f_X9_colourSumsDiffer_2 : Nat → Int32 → St → Option (Int32 × St)
  | 0, _, _ => none
  | n + 1, v1, s =>
    if (s.1 43 27) < v1 then (
      some ((0 : Int32), s))
    else (
      f_X9_colourSumsDiffer_14 (f_X9_colourSumsDiffer_2 n) FU v1 (0 : Int32) (0 : Int32) s)
set_option maxRecDepth 100000 in
set_option maxHeartbeats 4000000 in
theorem w_X9_colourSumsDiffer_2 {r : Int32 × St}   : ∀ (n : Nat) (v1 : Int32) (s : St), f_X9_colourSumsDiffer_2  n v1 s = some r → Wp m_X9_colourSumsDiffer 0 (PR (some (.int r.1)) r.2) 2 [some (.ref 43), some (.int v1), none, none, none] [] s := by
  intro n
  induction n with
  | zero => intro v1 s h; cases h
  | succ n ih =>
    intro v1 s h
    unfold f_X9_colourSumsDiffer_2 at h
    refine wp_iload_n (i := 1) dX9_colourSumsDiffer_2 rfl rfl ?_
    refine wp_aload_n (i := 0) dX9_colourSumsDiffer_3 rfl rfl ?_
    refine wp_getI dX9_colourSumsDiffer_4 fl_X9_138 rfl rfl ?_
    refine wp_icmp_gt (tgt := 120) dX9_colourSumsDiffer_7 (by decide) (fun c1 => ?_) (fun c1 => ?_)
    · rw [if_pos c1] at h
      refine wp_iconst (v := 0) dX9_colourSumsDiffer_120 (by decide +kernel) ?_
      obtain rfl := Option.some.inj h
      exact wp_iret dX9_colourSumsDiffer_121 rfl (narrow_z (Or.inl rfl)).1
    · rw [if_neg c1] at h
      refine wp_iconst (v := 0) dX9_colourSumsDiffer_10 (by decide +kernel) ?_
      refine wp_istore_n (ls' := [some (.ref 43), some (.int v1), some (.int (0 : Int32)), none, none]) dX9_colourSumsDiffer_11 rfl (by decide) rfl rfl ?_
      refine wp_iconst (v := 0) dX9_colourSumsDiffer_12 (by decide +kernel) ?_
      refine wp_istore_n (ls' := [some (.ref 43), some (.int v1), some (.int (0 : Int32)), some (.int (0 : Int32)), none]) dX9_colourSumsDiffer_13 rfl (by decide) rfl rfl ?_
      exact wp_sub (ls' := [some (.ref 43), some (.int v1), some (.int (0 : Int32)), some (.int (0 : Int32)), none]) ⟨rfl, rfl, rfl, rfl, trivial⟩ (w_X9_colourSumsDiffer_14 ih _ _ _ _ _ h)
def f_X9_colourSumsDiffer  (s : St) : Option (Int32 × St) :=
  f_X9_colourSumsDiffer_2 FU (1 : Int32) s
set_option maxRecDepth 100000 in
set_option maxHeartbeats 4000000 in
theorem ok_X9_colourSumsDiffer  {s : St} {r : Int32 × St} (h : f_X9_colourSumsDiffer  s = some r) : Ct 0 m_X9_colourSumsDiffer [.ref 43] s (some (.int r.1)) r.2 := by
  unfold f_X9_colourSumsDiffer at h
  refine ct_of [some (.ref 43), none, none, none, none] 4 (by decide) rfl (Nat.le_of_ble_eq_true rfl) ?_
  refine wp_iconst (v := 1) dX9_colourSumsDiffer_0 (by decide +kernel) ?_
  refine wp_istore_n (ls' := [some (.ref 43), some (.int (1 : Int32)), none, none, none]) dX9_colourSumsDiffer_1 rfl (by decide) rfl rfl ?_
  exact wp_sub (ls' := [some (.ref 43), some (.int (1 : Int32)), none, none, none]) ⟨rfl, rfl, trivial⟩ (w_X9_colourSumsDiffer_2 _ _ _ h)
def f_X9_load_232 : Nat → Int32 → St → Option (Int32 × St)
  | 0, _, _ => none
  | n + 1, v1, s =>
    if (288 : Int32) ≤ v1 then (
      Option.bind (f_X9_isNew s) fun s2 =>
      Option.bind (f_X9_noMarks s2) fun s3 =>
      Option.bind (f_X9_runMany s3) fun r4 =>
      some (r4.1, r4.2))
    else (
      Option.bind (aI s 56 v1) fun x5 =>
      Option.bind (pI s 45 v1 x5) fun s6 =>
      Option.bind (aI s6 57 v1) fun x7 =>
      Option.bind (pI s6 46 v1 x7) fun s8 =>
      f_X9_load_232 n (v1 + 1) s8)
set_option maxRecDepth 100000 in
set_option maxHeartbeats 4000000 in
theorem w_X9_load_232 {r : Int32 × St}   : ∀ (n : Nat) (v1 : Int32) (s : St), f_X9_load_232  n v1 s = some r → Wp m_X9_load 3 (PR (some (.int r.1)) r.2) 232 [some (.ref 43), some (.int v1)] [] s := by
  intro n
  induction n with
  | zero => intro v1 s h; cases h
  | succ n ih =>
    intro v1 s h
    unfold f_X9_load_232 at h
    refine wp_iload_n (i := 1) dX9_load_232 rfl rfl ?_
    refine wp_sipush (v := 288) dX9_load_233 (by decide +kernel) ?_
    refine wp_icmp_ge (tgt := 269) dX9_load_236 (by decide) (fun c1 => ?_) (fun c1 => ?_)
    · rw [if_pos c1] at h
      refine wp_aload_n (i := 0) dX9_load_269 rfl rfl ?_
      obtain ⟨s2, es2, h⟩ := ob h
      refine wp_cVv (N := m_X9_isNew) (As := []) (rest := []) dX9_load_270 ml_X9_172 mo_X9_isNew vo_X9_isNew rfl rfl (ok_X9_isNew es2) (by decide) (Nat.le_of_ble_eq_true rfl) ?_
      refine wp_aload_n (i := 0) dX9_load_273 rfl rfl ?_
      obtain ⟨s3, es3, h⟩ := ob h
      refine wp_cVv (N := m_X9_noMarks) (As := []) (rest := []) dX9_load_274 ml_X9_175 mo_X9_noMarks vo_X9_noMarks rfl rfl (ok_X9_noMarks es3) (by decide) (Nat.le_of_ble_eq_true rfl) ?_
      refine wp_aload_n (i := 0) dX9_load_277 rfl rfl ?_
      obtain ⟨r4, er4, h⟩ := ob h
      refine wp_cVi (N := m_X9_runMany) (As := []) (rest := []) dX9_load_278 ml_X9_178 mo_X9_runMany vo_X9_runMany rfl rfl (ok_X9_runMany er4) (by decide) (Nat.le_of_ble_eq_true rfl) ?_
      obtain rfl := Option.some.inj h
      exact wp_iret dX9_load_281 rfl rfl
    · rw [if_neg c1] at h
      refine wp_aload_n (i := 0) dX9_load_239 rfl rfl ?_
      refine wp_getR (t := 45) dX9_load_240 fl_X9_13 rfl rfl ?_
      refine wp_iload_n (i := 1) dX9_load_243 rfl rfl ?_
      refine wp_aload_n (i := 0) dX9_load_244 rfl rfl ?_
      refine wp_getR (t := 56) dX9_load_245 fl_X9_50 rfl rfl ?_
      refine wp_iload_n (i := 1) dX9_load_248 rfl rfl ?_
      obtain ⟨x5, ex5, h⟩ := ob h
      refine wp_aI dX9_load_249 ex5 ?_
      obtain ⟨s6, es6, h⟩ := ob h
      refine wp_pI dX9_load_250 es6 ?_
      refine wp_aload_n (i := 0) dX9_load_251 rfl rfl ?_
      refine wp_getR (t := 46) dX9_load_252 fl_X9_16 rfl rfl ?_
      refine wp_iload_n (i := 1) dX9_load_255 rfl rfl ?_
      refine wp_aload_n (i := 0) dX9_load_256 rfl rfl ?_
      refine wp_getR (t := 57) dX9_load_257 fl_X9_53 rfl rfl ?_
      refine wp_iload_n (i := 1) dX9_load_260 rfl rfl ?_
      obtain ⟨x7, ex7, h⟩ := ob h
      refine wp_aI dX9_load_261 ex7 ?_
      obtain ⟨s8, es8, h⟩ := ob h
      refine wp_pI dX9_load_262 es8 ?_
      refine wp_inc (c := 1) (ls' := [some (.ref 43), some (.int (v1 + 1))]) dX9_load_263 rfl (by decide +kernel) (by decide) rfl rfl ?_
      refine wp_goto (tgt := 232) dX9_load_266 (by decide) ?_
      exact wp_sub (ls' := [some (.ref 43), some (.int (v1 + 1))]) ⟨rfl, rfl, trivial⟩ (ih _ _ h)
def f_X9_load_206 : Nat → Int32 → St → Option (Int32 × St)
  | 0, _, _ => none
  | n + 1, v1, s =>
    if (24 : Int32) ≤ v1 then (
      f_X9_load_232 FU (0 : Int32) s)
    else (
      Option.bind (aI s 55 v1) fun x2 =>
      Option.bind (pI s 44 v1 x2) fun s3 =>
      f_X9_load_206 n (v1 + 1) s3)
set_option maxRecDepth 100000 in
set_option maxHeartbeats 4000000 in
theorem w_X9_load_206 {r : Int32 × St}   : ∀ (n : Nat) (v1 : Int32) (s : St), f_X9_load_206  n v1 s = some r → Wp m_X9_load 3 (PR (some (.int r.1)) r.2) 206 [some (.ref 43), some (.int v1)] [] s := by
  intro n
  induction n with
  | zero => intro v1 s h; cases h
  | succ n ih =>
    intro v1 s h
    unfold f_X9_load_206 at h
    refine wp_iload_n (i := 1) dX9_load_206 rfl rfl ?_
    refine wp_bipush (v := 24) dX9_load_207 (by decide +kernel) ?_
    refine wp_icmp_ge (tgt := 230) dX9_load_209 (by decide) (fun c1 => ?_) (fun c1 => ?_)
    · rw [if_pos c1] at h
      refine wp_iconst (v := 0) dX9_load_230 (by decide +kernel) ?_
      refine wp_istore_n (ls' := [some (.ref 43), some (.int (0 : Int32))]) dX9_load_231 rfl (by decide) rfl rfl ?_
      exact wp_sub (ls' := [some (.ref 43), some (.int (0 : Int32))]) ⟨rfl, rfl, trivial⟩ (w_X9_load_232 _ _ _ h)
    · rw [if_neg c1] at h
      refine wp_aload_n (i := 0) dX9_load_212 rfl rfl ?_
      refine wp_getR (t := 44) dX9_load_213 fl_X9_9 rfl rfl ?_
      refine wp_iload_n (i := 1) dX9_load_216 rfl rfl ?_
      refine wp_aload_n (i := 0) dX9_load_217 rfl rfl ?_
      refine wp_getR (t := 55) dX9_load_218 fl_X9_47 rfl rfl ?_
      refine wp_iload_n (i := 1) dX9_load_221 rfl rfl ?_
      obtain ⟨x2, ex2, h⟩ := ob h
      refine wp_aI dX9_load_222 ex2 ?_
      obtain ⟨s3, es3, h⟩ := ob h
      refine wp_pI dX9_load_223 es3 ?_
      refine wp_inc (c := 1) (ls' := [some (.ref 43), some (.int (v1 + 1))]) dX9_load_224 rfl (by decide +kernel) (by decide) rfl rfl ?_
      refine wp_goto (tgt := 206) dX9_load_227 (by decide) ?_
      exact wp_sub (ls' := [some (.ref 43), some (.int (v1 + 1))]) ⟨rfl, rfl, trivial⟩ (ih _ _ h)
def f_X9_load_153  (s : St) : Option (Int32 × St) :=
  Option.bind (some (sF s 43 16 (0 : Int32))) fun s1 =>
  Option.bind (some (sF s1 43 19 (s1.1 43 17))) fun s2 =>
  Option.bind (f_X9_good s2) fun r3 =>
  if r3.1 = 0 then (
    some ((-1 : Int32) - (r3.2.1 43 18), r3.2))
  else (
    Option.bind (some (sF r3.2 43 1 (r3.2.1 43 25))) fun s5 =>
    Option.bind (some (sF s5 43 2 (s5.1 43 26))) fun s6 =>
    Option.bind (some (sF s6 43 3 (s6.1 43 27))) fun s7 =>
    f_X9_load_206 FU (0 : Int32) s7)
set_option maxRecDepth 100000 in
set_option maxHeartbeats 4000000 in
theorem w_X9_load_153 {r : Int32 × St}   {s : St} (h : f_X9_load_153  s = some r) : Wp m_X9_load 3 (PR (some (.int r.1)) r.2) 153 [some (.ref 43), none] [] s := by
  unfold f_X9_load_153 at h
  refine wp_aload_n (i := 0) dX9_load_153 rfl rfl ?_
  refine wp_iconst (v := 0) dX9_load_154 (by decide +kernel) ?_
  obtain ⟨s1, es1, h⟩ := ob h
  refine wp_putI2 dX9_load_155 fl_X9_108 rfl rfl rfl rfl es1 ?_
  refine wp_aload_n (i := 0) dX9_load_158 rfl rfl ?_
  refine wp_aload_n (i := 0) dX9_load_159 rfl rfl ?_
  refine wp_getI dX9_load_160 fl_X9_115 rfl rfl ?_
  obtain ⟨s2, es2, h⟩ := ob h
  refine wp_putI2 dX9_load_163 fl_X9_166 rfl rfl rfl rfl es2 ?_
  refine wp_aload_n (i := 0) dX9_load_166 rfl rfl ?_
  obtain ⟨r3, er3, h⟩ := ob h
  refine wp_cVi (N := m_X9_good) (As := []) (rest := []) dX9_load_167 ml_X9_124 mo_X9_good vo_X9_good rfl rfl (ok_X9_good er3) (by decide) (Nat.le_of_ble_eq_true rfl) ?_
  refine wp_if_ne (tgt := 180) dX9_load_170 (by decide) (fun c4 => ?_) (fun c4 => ?_)
  · rw [if_neg c4] at h
    refine wp_aload_n (i := 0) dX9_load_180 rfl rfl ?_
    refine wp_aload_n (i := 0) dX9_load_181 rfl rfl ?_
    refine wp_getI dX9_load_182 fl_X9_147 rfl rfl ?_
    obtain ⟨s5, es5, h⟩ := ob h
    refine wp_putI2 dX9_load_185 fl_X9_83 rfl rfl rfl rfl es5 ?_
    refine wp_aload_n (i := 0) dX9_load_188 rfl rfl ?_
    refine wp_aload_n (i := 0) dX9_load_189 rfl rfl ?_
    refine wp_getI dX9_load_190 fl_X9_144 rfl rfl ?_
    obtain ⟨s6, es6, h⟩ := ob h
    refine wp_putI2 dX9_load_193 fl_X9_86 rfl rfl rfl rfl es6 ?_
    refine wp_aload_n (i := 0) dX9_load_196 rfl rfl ?_
    refine wp_aload_n (i := 0) dX9_load_197 rfl rfl ?_
    refine wp_getI dX9_load_198 fl_X9_138 rfl rfl ?_
    obtain ⟨s7, es7, h⟩ := ob h
    refine wp_putI2 dX9_load_201 fl_X9_169 rfl rfl rfl rfl es7 ?_
    refine wp_iconst (v := 0) dX9_load_204 (by decide +kernel) ?_
    refine wp_istore_n (ls' := [some (.ref 43), some (.int (0 : Int32))]) dX9_load_205 rfl (by decide) rfl rfl ?_
    exact wp_sub (ls' := [some (.ref 43), some (.int (0 : Int32))]) ⟨rfl, rfl, trivial⟩ (w_X9_load_206 _ _ _ h)
  · rw [if_pos c4] at h
    refine wp_iconst (v := -1) dX9_load_173 (by decide +kernel) ?_
    refine wp_aload_n (i := 0) dX9_load_174 rfl rfl ?_
    refine wp_getI dX9_load_175 fl_X9_118 rfl rfl ?_
    refine wp_isub dX9_load_178 ?_
    obtain rfl := Option.some.inj h
    exact wp_iret dX9_load_179 rfl rfl
def f_X9_load_129  (s : St) : Option (Int32 × St) :=
  Option.bind (f_X9_good s) fun r1 =>
  if r1.1 = 0 then (
    f_X9_load_153 r1.2)
  else (
    Option.bind (f_X9_colourSumsDiffer r1.2) fun r3 =>
    if r3.1 = 0 then (
      f_X9_load_153 r3.2)
    else (
      Option.bind (f_X9_fails (7 : Int32) (r3.2.1 43 16) r3.2) fun s5 =>
      f_X9_load_153 s5))
set_option maxRecDepth 100000 in
set_option maxHeartbeats 4000000 in
theorem w_X9_load_129 {r : Int32 × St}   {s : St} (h : f_X9_load_129  s = some r) : Wp m_X9_load 3 (PR (some (.int r.1)) r.2) 129 [some (.ref 43), none] [] s := by
  unfold f_X9_load_129 at h
  refine wp_aload_n (i := 0) dX9_load_129 rfl rfl ?_
  obtain ⟨r1, er1, h⟩ := ob h
  refine wp_cVi (N := m_X9_good) (As := []) (rest := []) dX9_load_130 ml_X9_124 mo_X9_good vo_X9_good rfl rfl (ok_X9_good er1) (by decide) (Nat.le_of_ble_eq_true rfl) ?_
  refine wp_if_eq (tgt := 153) dX9_load_133 (by decide) (fun c2 => ?_) (fun c2 => ?_)
  · rw [if_pos c2] at h
    exact wp_sub (ls' := [some (.ref 43), none]) ⟨rfl, trivial⟩ (w_X9_load_153 h)
  · rw [if_neg c2] at h
    refine wp_aload_n (i := 0) dX9_load_136 rfl rfl ?_
    obtain ⟨r3, er3, h⟩ := ob h
    refine wp_cVi (N := m_X9_colourSumsDiffer) (As := []) (rest := []) dX9_load_137 ml_X9_163 mo_X9_colourSumsDiffer vo_X9_colourSumsDiffer rfl rfl (ok_X9_colourSumsDiffer er3) (by decide) (Nat.le_of_ble_eq_true rfl) ?_
    refine wp_if_eq (tgt := 153) dX9_load_140 (by decide) (fun c4 => ?_) (fun c4 => ?_)
    · rw [if_pos c4] at h
      exact wp_sub (ls' := [some (.ref 43), none]) ⟨rfl, trivial⟩ (w_X9_load_153 h)
    · rw [if_neg c4] at h
      refine wp_aload_n (i := 0) dX9_load_143 rfl rfl ?_
      refine wp_bipush (v := 7) dX9_load_144 (by decide +kernel) ?_
      refine wp_aload_n (i := 0) dX9_load_146 rfl rfl ?_
      refine wp_getI dX9_load_147 fl_X9_108 rfl rfl ?_
      obtain ⟨s5, es5, h⟩ := ob h
      refine wp_cVv (N := m_X9_fails) (As := [.int (7 : Int32), .int (r3.2.1 43 16)]) (rest := []) dX9_load_150 ml_X9_127 mo_X9_fails vo_X9_fails rfl rfl (ok_X9_fails es5) (by decide) (Nat.le_of_ble_eq_true rfl) ?_
      exact wp_sub (ls' := [some (.ref 43), none]) ⟨rfl, trivial⟩ (w_X9_load_153 h)
def f_X9_load_95  (s : St) : Option (Int32 × St) :=
  Option.bind (f_X9_good s) fun r1 =>
  if r1.1 = 0 then (
    f_X9_load_129 r1.2)
  else (
    Option.bind (aI r1.2 52 (r1.2.1 43 24)) fun x3 =>
    if x3 = (3 : Int32) then (
      f_X9_load_129 r1.2)
    else (
      Option.bind (aI r1.2 53 (r1.2.1 43 24)) fun x5 =>
      Option.bind (f_X9_fails (2 : Int32) x5 r1.2) fun s6 =>
      f_X9_load_129 s6))
set_option maxRecDepth 100000 in
set_option maxHeartbeats 4000000 in
theorem w_X9_load_95 {r : Int32 × St}   {s : St} (h : f_X9_load_95  s = some r) : Wp m_X9_load 3 (PR (some (.int r.1)) r.2) 95 [some (.ref 43), none] [] s := by
  unfold f_X9_load_95 at h
  refine wp_aload_n (i := 0) dX9_load_95 rfl rfl ?_
  obtain ⟨r1, er1, h⟩ := ob h
  refine wp_cVi (N := m_X9_good) (As := []) (rest := []) dX9_load_96 ml_X9_124 mo_X9_good vo_X9_good rfl rfl (ok_X9_good er1) (by decide) (Nat.le_of_ble_eq_true rfl) ?_
  refine wp_if_eq (tgt := 129) dX9_load_99 (by decide) (fun c2 => ?_) (fun c2 => ?_)
  · rw [if_pos c2] at h
    exact wp_sub (ls' := [some (.ref 43), none]) ⟨rfl, trivial⟩ (w_X9_load_129 h)
  · rw [if_neg c2] at h
    refine wp_aload_n (i := 0) dX9_load_102 rfl rfl ?_
    refine wp_getR (t := 52) dX9_load_103 fl_X9_38 rfl rfl ?_
    refine wp_aload_n (i := 0) dX9_load_106 rfl rfl ?_
    refine wp_getI dX9_load_107 fl_X9_135 rfl rfl ?_
    obtain ⟨x3, ex3, h⟩ := ob h
    refine wp_aI dX9_load_110 ex3 ?_
    refine wp_iconst (v := 3) dX9_load_111 (by decide +kernel) ?_
    refine wp_icmp_eq (tgt := 129) dX9_load_112 (by decide) (fun c4 => ?_) (fun c4 => ?_)
    · rw [if_pos c4] at h
      exact wp_sub (ls' := [some (.ref 43), none]) ⟨rfl, trivial⟩ (w_X9_load_129 h)
    · rw [if_neg c4] at h
      refine wp_aload_n (i := 0) dX9_load_115 rfl rfl ?_
      refine wp_iconst (v := 2) dX9_load_116 (by decide +kernel) ?_
      refine wp_aload_n (i := 0) dX9_load_117 rfl rfl ?_
      refine wp_getR (t := 53) dX9_load_118 fl_X9_41 rfl rfl ?_
      refine wp_aload_n (i := 0) dX9_load_121 rfl rfl ?_
      refine wp_getI dX9_load_122 fl_X9_135 rfl rfl ?_
      obtain ⟨x5, ex5, h⟩ := ob h
      refine wp_aI dX9_load_125 ex5 ?_
      obtain ⟨s6, es6, h⟩ := ob h
      refine wp_cVv (N := m_X9_fails) (As := [.int (2 : Int32), .int x5]) (rest := []) dX9_load_126 ml_X9_127 mo_X9_fails vo_X9_fails rfl rfl (ok_X9_fails es6) (by decide) (Nat.le_of_ble_eq_true rfl) ?_
      exact wp_sub (ls' := [some (.ref 43), none]) ⟨rfl, trivial⟩ (w_X9_load_129 h)
def f_X9_load_64 : Nat → Int32 → St → Option (Int32 × St)
  | 0, _, _ => none
  | n + 1, v1, s =>
    Option.bind (f_X9_good s) fun r1 =>
    if r1.1 = 0 then (
      f_X9_load_95 r1.2)
    else (
      if ((r1.2.1 43 25) + (r1.2.1 43 26)) ≤ v1 then (
        f_X9_load_95 r1.2)
      else (
        Option.bind (f_X9_oneLine v1 r1.2) fun s4 =>
        f_X9_load_64 n (v1 + 1) s4))
set_option maxRecDepth 100000 in
set_option maxHeartbeats 4000000 in
theorem w_X9_load_64 {r : Int32 × St}   : ∀ (n : Nat) (v1 : Int32) (s : St), f_X9_load_64  n v1 s = some r → Wp m_X9_load 3 (PR (some (.int r.1)) r.2) 64 [some (.ref 43), some (.int v1)] [] s := by
  intro n
  induction n with
  | zero => intro v1 s h; cases h
  | succ n ih =>
    intro v1 s h
    unfold f_X9_load_64 at h
    refine wp_aload_n (i := 0) dX9_load_64 rfl rfl ?_
    obtain ⟨r1, er1, h⟩ := ob h
    refine wp_cVi (N := m_X9_good) (As := []) (rest := []) dX9_load_65 ml_X9_124 mo_X9_good vo_X9_good rfl rfl (ok_X9_good er1) (by decide) (Nat.le_of_ble_eq_true rfl) ?_
    refine wp_if_eq (tgt := 95) dX9_load_68 (by decide) (fun c2 => ?_) (fun c2 => ?_)
    · rw [if_pos c2] at h
      exact wp_sub (ls' := [some (.ref 43), none]) ⟨rfl, trivial⟩ (w_X9_load_95 h)
    · rw [if_neg c2] at h
      refine wp_iload_n (i := 1) dX9_load_71 rfl rfl ?_
      refine wp_aload_n (i := 0) dX9_load_72 rfl rfl ?_
      refine wp_getI dX9_load_73 fl_X9_147 rfl rfl ?_
      refine wp_aload_n (i := 0) dX9_load_76 rfl rfl ?_
      refine wp_getI dX9_load_77 fl_X9_144 rfl rfl ?_
      refine wp_iadd dX9_load_80 ?_
      refine wp_icmp_ge (tgt := 95) dX9_load_81 (by decide) (fun c3 => ?_) (fun c3 => ?_)
      · rw [if_pos c3] at h
        exact wp_sub (ls' := [some (.ref 43), none]) ⟨rfl, trivial⟩ (w_X9_load_95 h)
      · rw [if_neg c3] at h
        refine wp_aload_n (i := 0) dX9_load_84 rfl rfl ?_
        refine wp_iload_n (i := 1) dX9_load_85 rfl rfl ?_
        obtain ⟨s4, es4, h⟩ := ob h
        refine wp_cVv (N := m_X9_oneLine) (As := [.int v1]) (rest := []) dX9_load_86 ml_X9_160 mo_X9_oneLine vo_X9_oneLine rfl rfl (ok_X9_oneLine es4) (by decide) (Nat.le_of_ble_eq_true rfl) ?_
        refine wp_inc (c := 1) (ls' := [some (.ref 43), some (.int (v1 + 1))]) dX9_load_89 rfl (by decide +kernel) (by decide) rfl rfl ?_
        refine wp_goto (tgt := 64) dX9_load_92 (by decide) ?_
        exact wp_sub (ls' := [some (.ref 43), some (.int (v1 + 1))]) ⟨rfl, rfl, trivial⟩ (ih _ _ h)
def f_X9_load_62  (s : St) : Option (Int32 × St) :=
  f_X9_load_64 FU (0 : Int32) s
set_option maxRecDepth 100000 in
set_option maxHeartbeats 4000000 in
theorem w_X9_load_62 {r : Int32 × St}   {s : St} (h : f_X9_load_62  s = some r) : Wp m_X9_load 3 (PR (some (.int r.1)) r.2) 62 [some (.ref 43), none] [] s := by
  unfold f_X9_load_62 at h
  refine wp_iconst (v := 0) dX9_load_62 (by decide +kernel) ?_
  refine wp_istore_n (ls' := [some (.ref 43), some (.int (0 : Int32))]) dX9_load_63 rfl (by decide) rfl rfl ?_
  exact wp_sub (ls' := [some (.ref 43), some (.int (0 : Int32))]) ⟨rfl, rfl, trivial⟩ (w_X9_load_64 _ _ _ h)
def f_X9_load  (s : St) : Option (Int32 × St) :=
  Option.bind (some (sF s 43 0 (0 : Int32))) fun s1 =>
  Option.bind (some (sF s1 43 17 (0 : Int32))) fun s2 =>
  Option.bind (f_X9_cut s2) fun s3 =>
  Option.bind (some (sF s3 43 24 (0 : Int32))) fun s4 =>
  Option.bind (f_X9_good s4) fun r5 =>
  if r5.1 = 0 then (
    f_X9_load_62 r5.2)
  else (
    Option.bind (f_X9_number (1 : Int32) (12 : Int32) r5.2) fun r7 =>
    Option.bind (some (sF r7.2 43 25 r7.1)) fun s8 =>
    Option.bind (f_X9_number (1 : Int32) (12 : Int32) s8) fun r9 =>
    Option.bind (some (sF r9.2 43 26 r9.1)) fun s10 =>
    Option.bind (f_X9_number (1 : Int32) (3 : Int32) s10) fun r11 =>
    Option.bind (some (sF r11.2 43 27 r11.1)) fun s12 =>
    Option.bind (f_X9_semi s12) fun s13 =>
    f_X9_load_62 s13)
set_option maxRecDepth 100000 in
set_option maxHeartbeats 4000000 in
theorem ok_X9_load  {s : St} {r : Int32 × St} (h : f_X9_load  s = some r) : Ct 3 m_X9_load [.ref 43] s (some (.int r.1)) r.2 := by
  unfold f_X9_load at h
  refine ct_of [some (.ref 43), none] 1 (by decide) rfl (Nat.le_of_ble_eq_true rfl) ?_
  refine wp_aload_n (i := 0) dX9_load_0 rfl rfl ?_
  refine wp_iconst (v := 0) dX9_load_1 (by decide +kernel) ?_
  obtain ⟨s1, es1, h⟩ := ob h
  refine wp_putI2 dX9_load_2 fl_X9_80 rfl rfl rfl rfl es1 ?_
  refine wp_aload_n (i := 0) dX9_load_5 rfl rfl ?_
  refine wp_iconst (v := 0) dX9_load_6 (by decide +kernel) ?_
  obtain ⟨s2, es2, h⟩ := ob h
  refine wp_putI2 dX9_load_7 fl_X9_115 rfl rfl rfl rfl es2 ?_
  refine wp_aload_n (i := 0) dX9_load_10 rfl rfl ?_
  obtain ⟨s3, es3, h⟩ := ob h
  refine wp_cVv (N := m_X9_cut) (As := []) (rest := []) dX9_load_11 ml_X9_150 mo_X9_cut vo_X9_cut rfl rfl (ok_X9_cut es3) (by decide) (Nat.le_of_ble_eq_true rfl) ?_
  refine wp_aload_n (i := 0) dX9_load_14 rfl rfl ?_
  refine wp_iconst (v := 0) dX9_load_15 (by decide +kernel) ?_
  obtain ⟨s4, es4, h⟩ := ob h
  refine wp_putI2 dX9_load_16 fl_X9_135 rfl rfl rfl rfl es4 ?_
  refine wp_aload_n (i := 0) dX9_load_19 rfl rfl ?_
  obtain ⟨r5, er5, h⟩ := ob h
  refine wp_cVi (N := m_X9_good) (As := []) (rest := []) dX9_load_20 ml_X9_124 mo_X9_good vo_X9_good rfl rfl (ok_X9_good er5) (by decide) (Nat.le_of_ble_eq_true rfl) ?_
  refine wp_if_eq (tgt := 62) dX9_load_23 (by decide) (fun c6 => ?_) (fun c6 => ?_)
  · rw [if_pos c6] at h
    exact wp_sub (ls' := [some (.ref 43), none]) ⟨rfl, trivial⟩ (w_X9_load_62 h)
  · rw [if_neg c6] at h
    refine wp_aload_n (i := 0) dX9_load_26 rfl rfl ?_
    refine wp_aload_n (i := 0) dX9_load_27 rfl rfl ?_
    refine wp_iconst (v := 1) dX9_load_28 (by decide +kernel) ?_
    refine wp_bipush (v := 12) dX9_load_29 (by decide +kernel) ?_
    obtain ⟨r7, er7, h⟩ := ob h
    refine wp_cVi (N := m_X9_number) (As := [.int (1 : Int32), .int (12 : Int32)]) (rest := [.ref 43]) dX9_load_31 ml_X9_153 mo_X9_number vo_X9_number rfl rfl (ok_X9_number er7) (by decide) (Nat.le_of_ble_eq_true rfl) ?_
    obtain ⟨s8, es8, h⟩ := ob h
    refine wp_putI2 dX9_load_34 fl_X9_147 rfl rfl rfl rfl es8 ?_
    refine wp_aload_n (i := 0) dX9_load_37 rfl rfl ?_
    refine wp_aload_n (i := 0) dX9_load_38 rfl rfl ?_
    refine wp_iconst (v := 1) dX9_load_39 (by decide +kernel) ?_
    refine wp_bipush (v := 12) dX9_load_40 (by decide +kernel) ?_
    obtain ⟨r9, er9, h⟩ := ob h
    refine wp_cVi (N := m_X9_number) (As := [.int (1 : Int32), .int (12 : Int32)]) (rest := [.ref 43]) dX9_load_42 ml_X9_153 mo_X9_number vo_X9_number rfl rfl (ok_X9_number er9) (by decide) (Nat.le_of_ble_eq_true rfl) ?_
    obtain ⟨s10, es10, h⟩ := ob h
    refine wp_putI2 dX9_load_45 fl_X9_144 rfl rfl rfl rfl es10 ?_
    refine wp_aload_n (i := 0) dX9_load_48 rfl rfl ?_
    refine wp_aload_n (i := 0) dX9_load_49 rfl rfl ?_
    refine wp_iconst (v := 1) dX9_load_50 (by decide +kernel) ?_
    refine wp_iconst (v := 3) dX9_load_51 (by decide +kernel) ?_
    obtain ⟨r11, er11, h⟩ := ob h
    refine wp_cVi (N := m_X9_number) (As := [.int (1 : Int32), .int (3 : Int32)]) (rest := [.ref 43]) dX9_load_52 ml_X9_153 mo_X9_number vo_X9_number rfl rfl (ok_X9_number er11) (by decide) (Nat.le_of_ble_eq_true rfl) ?_
    obtain ⟨s12, es12, h⟩ := ob h
    refine wp_putI2 dX9_load_55 fl_X9_138 rfl rfl rfl rfl es12 ?_
    refine wp_aload_n (i := 0) dX9_load_58 rfl rfl ?_
    obtain ⟨s13, es13, h⟩ := ob h
    refine wp_cVv (N := m_X9_semi) (As := []) (rest := []) dX9_load_59 ml_X9_157 mo_X9_semi vo_X9_semi rfl rfl (ok_X9_semi es13) (by decide) (Nat.le_of_ble_eq_true rfl) ?_
    exact wp_sub (ls' := [some (.ref 43), none]) ⟨rfl, trivial⟩ (w_X9_load_62 h)
