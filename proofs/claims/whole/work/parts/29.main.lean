/-! decompiled by wip/gen/gen.py -/
theorem dX8_feed_0 : decode cX8_feed 0 = .ok (.aload_n 0, 1) := by decide +kernel
theorem dX8_feed_1 : decode cX8_feed 1 = .ok (.getfield 12, 3) := by decide +kernel
theorem dX8_feed_4 : decode cX8_feed 4 = .ok (.getfield 91, 3) := by decide +kernel
theorem dX8_feed_7 : decode cX8_feed 7 = .ok (.bipush 20, 2) := by decide +kernel
theorem dX8_feed_9 : decode cX8_feed 9 = .ok (.iadd, 1) := by decide +kernel
theorem dX8_feed_10 : decode cX8_feed 10 = .ok (.sipush 900, 3) := by decide +kernel
theorem dX8_feed_13 : decode cX8_feed 13 = .ok (.if_icmp .le 5, 3) := by decide +kernel
theorem dX8_feed_16 : decode cX8_feed 16 = .ok (.iconst (-1), 1) := by decide +kernel
theorem dX8_feed_17 : decode cX8_feed 17 = .ok (.ireturn, 1) := by decide +kernel
theorem dX8_feed_18 : decode cX8_feed 18 = .ok (.aload_n 0, 1) := by decide +kernel
theorem dX8_feed_19 : decode cX8_feed 19 = .ok (.getfield 12, 3) := by decide +kernel
theorem dX8_feed_22 : decode cX8_feed 22 = .ok (.iload_n 1, 1) := by decide +kernel
theorem dX8_feed_23 : decode cX8_feed 23 = .ok (.invokevirtual 94, 3) := by decide +kernel
theorem dX8_feed_26 : decode cX8_feed 26 = .ok (.aload_n 0, 1) := by decide +kernel
theorem dX8_feed_27 : decode cX8_feed 27 = .ok (.getfield 12, 3) := by decide +kernel
theorem dX8_feed_30 : decode cX8_feed 30 = .ok (.iload_n 2, 1) := by decide +kernel
theorem dX8_feed_31 : decode cX8_feed 31 = .ok (.invokevirtual 94, 3) := by decide +kernel
theorem dX8_feed_34 : decode cX8_feed 34 = .ok (.aload_n 0, 1) := by decide +kernel
theorem dX8_feed_35 : decode cX8_feed 35 = .ok (.getfield 12, 3) := by decide +kernel
theorem dX8_feed_38 : decode cX8_feed 38 = .ok (.iload_n 3, 1) := by decide +kernel
theorem dX8_feed_39 : decode cX8_feed 39 = .ok (.invokevirtual 94, 3) := by decide +kernel
theorem dX8_feed_42 : decode cX8_feed 42 = .ok (.aload_n 0, 1) := by decide +kernel
theorem dX8_feed_43 : decode cX8_feed 43 = .ok (.getfield 12, 3) := by decide +kernel
theorem dX8_feed_46 : decode cX8_feed 46 = .ok (.iload 4, 2) := by decide +kernel
theorem dX8_feed_48 : decode cX8_feed 48 = .ok (.invokevirtual 94, 3) := by decide +kernel
theorem dX8_feed_51 : decode cX8_feed 51 = .ok (.aload_n 0, 1) := by decide +kernel
theorem dX8_feed_52 : decode cX8_feed 52 = .ok (.getfield 12, 3) := by decide +kernel
theorem dX8_feed_55 : decode cX8_feed 55 = .ok (.iload 5, 2) := by decide +kernel
theorem dX8_feed_57 : decode cX8_feed 57 = .ok (.invokevirtual 94, 3) := by decide +kernel
theorem dX8_feed_60 : decode cX8_feed 60 = .ok (.aload_n 0, 1) := by decide +kernel
theorem dX8_feed_61 : decode cX8_feed 61 = .ok (.getfield 12, 3) := by decide +kernel
theorem dX8_feed_64 : decode cX8_feed 64 = .ok (.getfield 91, 3) := by decide +kernel
theorem dX8_feed_67 : decode cX8_feed 67 = .ok (.ireturn, 1) := by decide +kernel
theorem dX8_end_0 : decode cX8_end 0 = .ok (.iload_n 1, 1) := by decide +kernel
theorem dX8_end_1 : decode cX8_end 1 = .ok (.ifCond .lt 14, 3) := by decide +kernel
theorem dX8_end_4 : decode cX8_end 4 = .ok (.iload_n 1, 1) := by decide +kernel
theorem dX8_end_5 : decode cX8_end 5 = .ok (.aload_n 0, 1) := by decide +kernel
theorem dX8_end_6 : decode cX8_end 6 = .ok (.getfield 12, 3) := by decide +kernel
theorem dX8_end_9 : decode cX8_end 9 = .ok (.getfield 91, 3) := by decide +kernel
theorem dX8_end_12 : decode cX8_end 12 = .ok (.if_icmp .le 5, 3) := by decide +kernel
theorem dX8_end_15 : decode cX8_end 15 = .ok (.iconst (-1), 1) := by decide +kernel
theorem dX8_end_16 : decode cX8_end 16 = .ok (.ireturn, 1) := by decide +kernel
theorem dX8_end_17 : decode cX8_end 17 = .ok (.aload_n 0, 1) := by decide +kernel
theorem dX8_end_18 : decode cX8_end 18 = .ok (.getfield 12, 3) := by decide +kernel
theorem dX8_end_21 : decode cX8_end 21 = .ok (.iload_n 1, 1) := by decide +kernel
theorem dX8_end_22 : decode cX8_end 22 = .ok (.putfield 91, 3) := by decide +kernel
theorem dX8_end_25 : decode cX8_end 25 = .ok (.iload_n 1, 1) := by decide +kernel
theorem dX8_end_26 : decode cX8_end 26 = .ok (.ireturn, 1) := by decide +kernel
theorem dX8_beginPuzzle_0 : decode cX8_beginPuzzle 0 = .ok (.aload_n 0, 1) := by decide +kernel
theorem dX8_beginPuzzle_1 : decode cX8_beginPuzzle 1 = .ok (.getfield 38, 3) := by decide +kernel
theorem dX8_beginPuzzle_4 : decode cX8_beginPuzzle 4 = .ok (.invokevirtual 111, 3) := by decide +kernel
theorem dX8_beginPuzzle_7 : decode cX8_beginPuzzle 7 = .ok (.aload_n 0, 1) := by decide +kernel
theorem dX8_beginPuzzle_8 : decode cX8_beginPuzzle 8 = .ok (.iconst 0, 1) := by decide +kernel
theorem dX8_beginPuzzle_9 : decode cX8_beginPuzzle 9 = .ok (.putfield 83, 3) := by decide +kernel
theorem dX8_beginPuzzle_12 : decode cX8_beginPuzzle 12 = .ok (.aload_n 0, 1) := by decide +kernel
theorem dX8_beginPuzzle_13 : decode cX8_beginPuzzle 13 = .ok (.getfield 76, 3) := by decide +kernel
theorem dX8_beginPuzzle_16 : decode cX8_beginPuzzle 16 = .ok (.invokevirtual 278, 3) := by decide +kernel
theorem dX8_beginPuzzle_19 : decode cX8_beginPuzzle 19 = .ok (.return_, 1) := by decide +kernel
theorem dX8_load_0 : decode cX8_load 0 = .ok (.aload_n 0, 1) := by decide +kernel
theorem dX8_load_1 : decode cX8_load 1 = .ok (.getfield 31, 3) := by decide +kernel
theorem dX8_load_4 : decode cX8_load 4 = .ok (.invokevirtual 98, 3) := by decide +kernel
theorem dX8_load_7 : decode cX8_load 7 = .ok (.istore_n 1, 1) := by decide +kernel
theorem dX8_load_8 : decode cX8_load 8 = .ok (.aload_n 0, 1) := by decide +kernel
theorem dX8_load_9 : decode cX8_load 9 = .ok (.getfield 12, 3) := by decide +kernel
theorem dX8_load_12 : decode cX8_load 12 = .ok (.iconst 0, 1) := by decide +kernel
theorem dX8_load_13 : decode cX8_load 13 = .ok (.putfield 91, 3) := by decide +kernel
theorem dX8_load_16 : decode cX8_load 16 = .ok (.aload_n 0, 1) := by decide +kernel
theorem dX8_load_17 : decode cX8_load 17 = .ok (.aload_n 0, 1) := by decide +kernel
theorem dX8_load_18 : decode cX8_load 18 = .ok (.getfield 31, 3) := by decide +kernel
theorem dX8_load_21 : decode cX8_load 21 = .ok (.getfield 102, 3) := by decide +kernel
theorem dX8_load_24 : decode cX8_load 24 = .ok (.putfield 87, 3) := by decide +kernel
theorem dX8_load_27 : decode cX8_load 27 = .ok (.iload_n 1, 1) := by decide +kernel
theorem dX8_load_28 : decode cX8_load 28 = .ok (.ifCond .ne 13, 3) := by decide +kernel
theorem dX8_load_31 : decode cX8_load 31 = .ok (.iconst (-1), 1) := by decide +kernel
theorem dX8_load_32 : decode cX8_load 32 = .ok (.aload_n 0, 1) := by decide +kernel
theorem dX8_load_33 : decode cX8_load 33 = .ok (.getfield 31, 3) := by decide +kernel
theorem dX8_load_36 : decode cX8_load 36 = .ok (.getfield 105, 3) := by decide +kernel
theorem dX8_load_39 : decode cX8_load 39 = .ok (.isub, 1) := by decide +kernel
theorem dX8_load_40 : decode cX8_load 40 = .ok (.ireturn, 1) := by decide +kernel
theorem dX8_load_41 : decode cX8_load 41 = .ok (.aload_n 0, 1) := by decide +kernel
theorem dX8_load_42 : decode cX8_load 42 = .ok (.getfield 19, 3) := by decide +kernel
theorem dX8_load_45 : decode cX8_load 45 = .ok (.aload_n 0, 1) := by decide +kernel
theorem dX8_load_46 : decode cX8_load 46 = .ok (.getfield 23, 3) := by decide +kernel
theorem dX8_load_49 : decode cX8_load 49 = .ok (.invokevirtual 108, 3) := by decide +kernel
theorem dX8_load_52 : decode cX8_load 52 = .ok (.aload_n 0, 1) := by decide +kernel
theorem dX8_load_53 : decode cX8_load 53 = .ok (.getfield 42, 3) := by decide +kernel
theorem dX8_load_56 : decode cX8_load 56 = .ok (.invokevirtual 111, 3) := by decide +kernel
theorem dX8_load_59 : decode cX8_load 59 = .ok (.aload_n 0, 1) := by decide +kernel
theorem dX8_load_60 : decode cX8_load 60 = .ok (.invokevirtual 114, 3) := by decide +kernel
theorem dX8_load_63 : decode cX8_load 63 = .ok (.aload_n 0, 1) := by decide +kernel
theorem dX8_load_64 : decode cX8_load 64 = .ok (.getfield 19, 3) := by decide +kernel
theorem dX8_load_67 : decode cX8_load 67 = .ok (.getfield 117, 3) := by decide +kernel
theorem dX8_load_70 : decode cX8_load 70 = .ok (.ireturn, 1) := by decide +kernel
theorem dX8_fault_0 : decode cX8_fault 0 = .ok (.aload_n 0, 1) := by decide +kernel
theorem dX8_fault_1 : decode cX8_fault 1 = .ok (.getfield 87, 3) := by decide +kernel
theorem dX8_fault_4 : decode cX8_fault 4 = .ok (.ireturn, 1) := by decide +kernel
theorem dX8_blank_0 : decode cX8_blank 0 = .ok (.iload_n 1, 1) := by decide +kernel
theorem dX8_blank_1 : decode cX8_blank 1 = .ok (.bipush 12, 2) := by decide +kernel
theorem dX8_blank_3 : decode cX8_blank 3 = .ok (.invokestatic 120, 3) := by decide +kernel
theorem dX8_blank_6 : decode cX8_blank 6 = .ok (.ifCond .eq 20, 3) := by decide +kernel
theorem dX8_blank_9 : decode cX8_blank 9 = .ok (.iload_n 2, 1) := by decide +kernel
theorem dX8_blank_10 : decode cX8_blank 10 = .ok (.bipush 12, 2) := by decide +kernel
theorem dX8_blank_12 : decode cX8_blank 12 = .ok (.invokestatic 120, 3) := by decide +kernel
theorem dX8_blank_15 : decode cX8_blank 15 = .ok (.ifCond .eq 11, 3) := by decide +kernel
theorem dX8_blank_18 : decode cX8_blank 18 = .ok (.iload_n 3, 1) := by decide +kernel
theorem dX8_blank_19 : decode cX8_blank 19 = .ok (.iconst 3, 1) := by decide +kernel
theorem dX8_blank_20 : decode cX8_blank 20 = .ok (.invokestatic 120, 3) := by decide +kernel
theorem dX8_blank_23 : decode cX8_blank 23 = .ok (.ifCond .ne 5, 3) := by decide +kernel
theorem dX8_blank_26 : decode cX8_blank 26 = .ok (.iconst 0, 1) := by decide +kernel
theorem dX8_blank_27 : decode cX8_blank 27 = .ok (.ireturn, 1) := by decide +kernel
theorem dX8_blank_28 : decode cX8_blank 28 = .ok (.aload_n 0, 1) := by decide +kernel
theorem dX8_blank_29 : decode cX8_blank 29 = .ok (.getfield 19, 3) := by decide +kernel
theorem dX8_blank_32 : decode cX8_blank 32 = .ok (.iload_n 1, 1) := by decide +kernel
theorem dX8_blank_33 : decode cX8_blank 33 = .ok (.iload_n 2, 1) := by decide +kernel
theorem dX8_blank_34 : decode cX8_blank 34 = .ok (.iload_n 3, 1) := by decide +kernel
theorem dX8_blank_35 : decode cX8_blank 35 = .ok (.invokevirtual 124, 3) := by decide +kernel
theorem dX8_blank_38 : decode cX8_blank 38 = .ok (.aload_n 0, 1) := by decide +kernel
theorem dX8_blank_39 : decode cX8_blank 39 = .ok (.getfield 42, 3) := by decide +kernel
theorem dX8_blank_42 : decode cX8_blank 42 = .ok (.invokevirtual 111, 3) := by decide +kernel
theorem dX8_blank_45 : decode cX8_blank 45 = .ok (.aload_n 0, 1) := by decide +kernel
theorem dX8_blank_46 : decode cX8_blank 46 = .ok (.invokevirtual 114, 3) := by decide +kernel
theorem dX8_blank_49 : decode cX8_blank 49 = .ok (.iconst 1, 1) := by decide +kernel
theorem dX8_blank_50 : decode cX8_blank 50 = .ok (.ireturn, 1) := by decide +kernel
theorem dX8_hasPuzzle_0 : decode cX8_hasPuzzle 0 = .ok (.aload_n 0, 1) := by decide +kernel
theorem dX8_hasPuzzle_1 : decode cX8_hasPuzzle 1 = .ok (.getfield 19, 3) := by decide +kernel
theorem dX8_hasPuzzle_4 : decode cX8_hasPuzzle 4 = .ok (.getfield 131, 3) := by decide +kernel
theorem dX8_hasPuzzle_7 : decode cX8_hasPuzzle 7 = .ok (.ifCond .le 7, 3) := by decide +kernel
theorem dX8_hasPuzzle_10 : decode cX8_hasPuzzle 10 = .ok (.iconst 1, 1) := by decide +kernel
theorem dX8_hasPuzzle_11 : decode cX8_hasPuzzle 11 = .ok (.goto 4, 3) := by decide +kernel
theorem dX8_hasPuzzle_14 : decode cX8_hasPuzzle 14 = .ok (.iconst 0, 1) := by decide +kernel
theorem dX8_hasPuzzle_15 : decode cX8_hasPuzzle 15 = .ok (.ireturn, 1) := by decide +kernel
theorem dX8_about_0 : decode cX8_about 0 = .ok (.aload_n 0, 1) := by decide +kernel
theorem dX8_about_1 : decode cX8_about 1 = .ok (.invokevirtual 128, 3) := by decide +kernel
theorem dX8_about_4 : decode cX8_about 4 = .ok (.ifCond .ne 5, 3) := by decide +kernel
theorem dX8_about_7 : decode cX8_about 7 = .ok (.iconst (-1), 1) := by decide +kernel
theorem dX8_about_8 : decode cX8_about 8 = .ok (.ireturn, 1) := by decide +kernel
theorem dX8_about_9 : decode cX8_about 9 = .ok (.iload_n 1, 1) := by decide +kernel
theorem dX8_about_10 : decode cX8_about 10 = .ok (.tableswitch 121 0 7 #[46, 54, 62, 70, 78, 86, 94, 102], 46) := by decide +kernel
theorem dX8_about_56 : decode cX8_about 56 = .ok (.aload_n 0, 1) := by decide +kernel
theorem dX8_about_57 : decode cX8_about 57 = .ok (.getfield 19, 3) := by decide +kernel
theorem dX8_about_60 : decode cX8_about 60 = .ok (.getfield 131, 3) := by decide +kernel
theorem dX8_about_63 : decode cX8_about 63 = .ok (.ireturn, 1) := by decide +kernel
theorem dX8_about_64 : decode cX8_about 64 = .ok (.aload_n 0, 1) := by decide +kernel
theorem dX8_about_65 : decode cX8_about 65 = .ok (.getfield 19, 3) := by decide +kernel
theorem dX8_about_68 : decode cX8_about 68 = .ok (.getfield 134, 3) := by decide +kernel
theorem dX8_about_71 : decode cX8_about 71 = .ok (.ireturn, 1) := by decide +kernel
theorem dX8_about_72 : decode cX8_about 72 = .ok (.aload_n 0, 1) := by decide +kernel
theorem dX8_about_73 : decode cX8_about 73 = .ok (.getfield 19, 3) := by decide +kernel
theorem dX8_about_76 : decode cX8_about 76 = .ok (.getfield 137, 3) := by decide +kernel
theorem dX8_about_79 : decode cX8_about 79 = .ok (.ireturn, 1) := by decide +kernel
theorem dX8_about_80 : decode cX8_about 80 = .ok (.aload_n 0, 1) := by decide +kernel
theorem dX8_about_81 : decode cX8_about 81 = .ok (.getfield 19, 3) := by decide +kernel
theorem dX8_about_84 : decode cX8_about 84 = .ok (.invokevirtual 140, 3) := by decide +kernel
theorem dX8_about_87 : decode cX8_about 87 = .ok (.ireturn, 1) := by decide +kernel
theorem dX8_about_88 : decode cX8_about 88 = .ok (.aload_n 0, 1) := by decide +kernel
theorem dX8_about_89 : decode cX8_about 89 = .ok (.getfield 19, 3) := by decide +kernel
theorem dX8_about_92 : decode cX8_about 92 = .ok (.getfield 117, 3) := by decide +kernel
theorem dX8_about_95 : decode cX8_about 95 = .ok (.ireturn, 1) := by decide +kernel
theorem dX8_about_96 : decode cX8_about 96 = .ok (.aload_n 0, 1) := by decide +kernel
theorem dX8_about_97 : decode cX8_about 97 = .ok (.getfield 38, 3) := by decide +kernel
theorem dX8_about_100 : decode cX8_about 100 = .ok (.getfield 144, 3) := by decide +kernel
theorem dX8_about_103 : decode cX8_about 103 = .ok (.ireturn, 1) := by decide +kernel
theorem dX8_about_104 : decode cX8_about 104 = .ok (.aload_n 0, 1) := by decide +kernel
theorem dX8_about_105 : decode cX8_about 105 = .ok (.getfield 42, 3) := by decide +kernel
theorem dX8_about_108 : decode cX8_about 108 = .ok (.getfield 144, 3) := by decide +kernel
theorem dX8_about_111 : decode cX8_about 111 = .ok (.ireturn, 1) := by decide +kernel
theorem dX8_about_112 : decode cX8_about 112 = .ok (.aload_n 0, 1) := by decide +kernel
theorem dX8_about_113 : decode cX8_about 113 = .ok (.getfield 83, 3) := by decide +kernel
theorem dX8_about_116 : decode cX8_about 116 = .ok (.ifCond .eq 13, 3) := by decide +kernel
theorem dX8_about_119 : decode cX8_about 119 = .ok (.aload_n 0, 1) := by decide +kernel
theorem dX8_about_120 : decode cX8_about 120 = .ok (.getfield 66, 3) := by decide +kernel
theorem dX8_about_123 : decode cX8_about 123 = .ok (.invokevirtual 147, 3) := by decide +kernel
theorem dX8_about_126 : decode cX8_about 126 = .ok (.goto 4, 3) := by decide +kernel
theorem dX8_about_129 : decode cX8_about 129 = .ok (.iconst 0, 1) := by decide +kernel
theorem dX8_about_130 : decode cX8_about 130 = .ok (.ireturn, 1) := by decide +kernel
theorem dX8_about_131 : decode cX8_about 131 = .ok (.iconst (-1), 1) := by decide +kernel
theorem dX8_about_132 : decode cX8_about 132 = .ok (.ireturn, 1) := by decide +kernel
theorem dX8_isLine_0 : decode cX8_isLine 0 = .ok (.iload_n 1, 1) := by decide +kernel
theorem dX8_isLine_1 : decode cX8_isLine 1 = .ok (.ifCond .lt 18, 3) := by decide +kernel
theorem dX8_isLine_4 : decode cX8_isLine 4 = .ok (.iload_n 1, 1) := by decide +kernel
theorem dX8_isLine_5 : decode cX8_isLine 5 = .ok (.aload_n 0, 1) := by decide +kernel
theorem dX8_isLine_6 : decode cX8_isLine 6 = .ok (.getfield 19, 3) := by decide +kernel
theorem dX8_isLine_9 : decode cX8_isLine 9 = .ok (.invokevirtual 140, 3) := by decide +kernel
theorem dX8_isLine_12 : decode cX8_isLine 12 = .ok (.if_icmp .ge 7, 3) := by decide +kernel
theorem dX8_isLine_15 : decode cX8_isLine 15 = .ok (.iconst 1, 1) := by decide +kernel
theorem dX8_isLine_16 : decode cX8_isLine 16 = .ok (.goto 4, 3) := by decide +kernel
theorem dX8_isLine_19 : decode cX8_isLine 19 = .ok (.iconst 0, 1) := by decide +kernel
theorem dX8_isLine_20 : decode cX8_isLine 20 = .ok (.ireturn, 1) := by decide +kernel
theorem dX8_run_0 : decode cX8_run 0 = .ok (.aload_n 0, 1) := by decide +kernel
theorem dX8_run_1 : decode cX8_run 1 = .ok (.iload_n 1, 1) := by decide +kernel
theorem dX8_run_2 : decode cX8_run 2 = .ok (.invokevirtual 150, 3) := by decide +kernel
theorem dX8_run_5 : decode cX8_run 5 = .ok (.ifCond .ne 5, 3) := by decide +kernel
theorem dX8_run_8 : decode cX8_run 8 = .ok (.iconst (-1), 1) := by decide +kernel
theorem dX8_run_9 : decode cX8_run 9 = .ok (.ireturn, 1) := by decide +kernel
theorem dX8_run_10 : decode cX8_run 10 = .ok (.iload_n 2, 1) := by decide +kernel
theorem dX8_run_11 : decode cX8_run 11 = .ok (.iconst (-1), 1) := by decide +kernel
theorem dX8_run_12 : decode cX8_run 12 = .ok (.if_icmp .ne 13, 3) := by decide +kernel
theorem dX8_run_15 : decode cX8_run 15 = .ok (.aload_n 0, 1) := by decide +kernel
theorem dX8_run_16 : decode cX8_run 16 = .ok (.getfield 19, 3) := by decide +kernel
theorem dX8_run_19 : decode cX8_run 19 = .ok (.getfield 154, 3) := by decide +kernel
theorem dX8_run_22 : decode cX8_run 22 = .ok (.iload_n 1, 1) := by decide +kernel
theorem dX8_run_23 : decode cX8_run 23 = .ok (.iaload, 1) := by decide +kernel
theorem dX8_run_24 : decode cX8_run 24 = .ok (.ireturn, 1) := by decide +kernel
theorem dX8_run_25 : decode cX8_run 25 = .ok (.iload_n 2, 1) := by decide +kernel
theorem dX8_run_26 : decode cX8_run 26 = .ok (.ifCond .lt 16, 3) := by decide +kernel
theorem dX8_run_29 : decode cX8_run 29 = .ok (.iload_n 2, 1) := by decide +kernel
theorem dX8_run_30 : decode cX8_run 30 = .ok (.aload_n 0, 1) := by decide +kernel
theorem dX8_run_31 : decode cX8_run 31 = .ok (.getfield 19, 3) := by decide +kernel
theorem dX8_run_34 : decode cX8_run 34 = .ok (.getfield 154, 3) := by decide +kernel
theorem dX8_run_37 : decode cX8_run 37 = .ok (.iload_n 1, 1) := by decide +kernel
theorem dX8_run_38 : decode cX8_run 38 = .ok (.iaload, 1) := by decide +kernel
theorem dX8_run_39 : decode cX8_run 39 = .ok (.if_icmp .lt 5, 3) := by decide +kernel
theorem dX8_run_42 : decode cX8_run 42 = .ok (.iconst (-1), 1) := by decide +kernel
theorem dX8_run_43 : decode cX8_run 43 = .ok (.ireturn, 1) := by decide +kernel
theorem dX8_run_44 : decode cX8_run 44 = .ok (.iload_n 3, 1) := by decide +kernel
theorem dX8_run_45 : decode cX8_run 45 = .ok (.lookupswitch 47 #[(0, 27), (1, 37)], 27) := by decide +kernel
theorem dX8_run_72 : decode cX8_run 72 = .ok (.aload_n 0, 1) := by decide +kernel
theorem dX8_run_73 : decode cX8_run 73 = .ok (.getfield 19, 3) := by decide +kernel
theorem dX8_run_76 : decode cX8_run 76 = .ok (.iload_n 1, 1) := by decide +kernel
theorem dX8_run_77 : decode cX8_run 77 = .ok (.iload_n 2, 1) := by decide +kernel
theorem dX8_run_78 : decode cX8_run 78 = .ok (.invokevirtual 158, 3) := by decide +kernel
theorem dX8_run_81 : decode cX8_run 81 = .ok (.ireturn, 1) := by decide +kernel
theorem dX8_run_82 : decode cX8_run 82 = .ok (.aload_n 0, 1) := by decide +kernel
theorem dX8_run_83 : decode cX8_run 83 = .ok (.getfield 19, 3) := by decide +kernel
theorem dX8_run_86 : decode cX8_run 86 = .ok (.iload_n 1, 1) := by decide +kernel
theorem dX8_run_87 : decode cX8_run 87 = .ok (.iload_n 2, 1) := by decide +kernel
theorem dX8_run_88 : decode cX8_run 88 = .ok (.invokevirtual 162, 3) := by decide +kernel
theorem dX8_run_91 : decode cX8_run 91 = .ok (.ireturn, 1) := by decide +kernel
theorem dX8_run_92 : decode cX8_run 92 = .ok (.iconst (-1), 1) := by decide +kernel
theorem dX8_run_93 : decode cX8_run 93 = .ok (.ireturn, 1) := by decide +kernel
theorem dX8_isCell_0 : decode cX8_isCell 0 = .ok (.iload_n 1, 1) := by decide +kernel
theorem dX8_isCell_1 : decode cX8_isCell 1 = .ok (.ifCond .lt 33, 3) := by decide +kernel
theorem dX8_isCell_4 : decode cX8_isCell 4 = .ok (.iload_n 1, 1) := by decide +kernel
theorem dX8_isCell_5 : decode cX8_isCell 5 = .ok (.aload_n 0, 1) := by decide +kernel
theorem dX8_isCell_6 : decode cX8_isCell 6 = .ok (.getfield 19, 3) := by decide +kernel
theorem dX8_isCell_9 : decode cX8_isCell 9 = .ok (.getfield 131, 3) := by decide +kernel
theorem dX8_isCell_12 : decode cX8_isCell 12 = .ok (.if_icmp .ge 22, 3) := by decide +kernel
theorem dX8_isCell_15 : decode cX8_isCell 15 = .ok (.iload_n 2, 1) := by decide +kernel
theorem dX8_isCell_16 : decode cX8_isCell 16 = .ok (.ifCond .lt 18, 3) := by decide +kernel
theorem dX8_isCell_19 : decode cX8_isCell 19 = .ok (.iload_n 2, 1) := by decide +kernel
theorem dX8_isCell_20 : decode cX8_isCell 20 = .ok (.aload_n 0, 1) := by decide +kernel
theorem dX8_isCell_21 : decode cX8_isCell 21 = .ok (.getfield 19, 3) := by decide +kernel
theorem dX8_isCell_24 : decode cX8_isCell 24 = .ok (.getfield 134, 3) := by decide +kernel
theorem dX8_isCell_27 : decode cX8_isCell 27 = .ok (.if_icmp .ge 7, 3) := by decide +kernel
theorem dX8_isCell_30 : decode cX8_isCell 30 = .ok (.iconst 1, 1) := by decide +kernel
theorem dX8_isCell_31 : decode cX8_isCell 31 = .ok (.goto 4, 3) := by decide +kernel
theorem dX8_isCell_34 : decode cX8_isCell 34 = .ok (.iconst 0, 1) := by decide +kernel
theorem dX8_isCell_35 : decode cX8_isCell 35 = .ok (.ireturn, 1) := by decide +kernel
theorem dX8_isValueOrNone_0 : decode cX8_isValueOrNone 0 = .ok (.iload_n 1, 1) := by decide +kernel
theorem dX8_isValueOrNone_1 : decode cX8_isValueOrNone 1 = .ok (.iconst (-1), 1) := by decide +kernel
theorem dX8_isValueOrNone_2 : decode cX8_isValueOrNone 2 = .ok (.if_icmp .lt 18, 3) := by decide +kernel
theorem dX8_isValueOrNone_5 : decode cX8_isValueOrNone 5 = .ok (.iload_n 1, 1) := by decide +kernel
theorem dX8_isValueOrNone_6 : decode cX8_isValueOrNone 6 = .ok (.aload_n 0, 1) := by decide +kernel
theorem dX8_isValueOrNone_7 : decode cX8_isValueOrNone 7 = .ok (.getfield 19, 3) := by decide +kernel
theorem dX8_isValueOrNone_10 : decode cX8_isValueOrNone 10 = .ok (.getfield 137, 3) := by decide +kernel
theorem dX8_isValueOrNone_13 : decode cX8_isValueOrNone 13 = .ok (.if_icmp .gt 7, 3) := by decide +kernel
theorem dX8_isValueOrNone_16 : decode cX8_isValueOrNone 16 = .ok (.iconst 1, 1) := by decide +kernel
theorem dX8_isValueOrNone_17 : decode cX8_isValueOrNone 17 = .ok (.goto 4, 3) := by decide +kernel
theorem dX8_isValueOrNone_20 : decode cX8_isValueOrNone 20 = .ok (.iconst 0, 1) := by decide +kernel
theorem dX8_isValueOrNone_21 : decode cX8_isValueOrNone 21 = .ok (.ireturn, 1) := by decide +kernel
theorem dX8_give_0 : decode cX8_give 0 = .ok (.aload_n 0, 1) := by decide +kernel
theorem dX8_give_1 : decode cX8_give 1 = .ok (.iload_n 1, 1) := by decide +kernel
theorem dX8_give_2 : decode cX8_give 2 = .ok (.iload_n 2, 1) := by decide +kernel
theorem dX8_give_3 : decode cX8_give 3 = .ok (.invokevirtual 165, 3) := by decide +kernel
theorem dX8_give_6 : decode cX8_give 6 = .ok (.ifCond .eq 11, 3) := by decide +kernel
theorem dX8_give_9 : decode cX8_give 9 = .ok (.aload_n 0, 1) := by decide +kernel
theorem dX8_give_10 : decode cX8_give 10 = .ok (.iload_n 3, 1) := by decide +kernel
theorem dX8_give_11 : decode cX8_give 11 = .ok (.invokevirtual 168, 3) := by decide +kernel
theorem dX8_give_14 : decode cX8_give 14 = .ok (.ifCond .ne 5, 3) := by decide +kernel
theorem dX8_give_17 : decode cX8_give 17 = .ok (.iconst 0, 1) := by decide +kernel
theorem dX8_give_18 : decode cX8_give 18 = .ok (.ireturn, 1) := by decide +kernel
theorem dX8_give_19 : decode cX8_give 19 = .ok (.aload_n 0, 1) := by decide +kernel
theorem dX8_give_20 : decode cX8_give 20 = .ok (.getfield 38, 3) := by decide +kernel
theorem dX8_give_23 : decode cX8_give 23 = .ok (.iload_n 1, 1) := by decide +kernel
theorem dX8_give_24 : decode cX8_give 24 = .ok (.iload_n 2, 1) := by decide +kernel
theorem dX8_give_25 : decode cX8_give 25 = .ok (.iload_n 3, 1) := by decide +kernel
theorem dX8_give_26 : decode cX8_give 26 = .ok (.invokevirtual 171, 3) := by decide +kernel
theorem dX8_give_29 : decode cX8_give 29 = .ok (.aload_n 0, 1) := by decide +kernel
theorem dX8_give_30 : decode cX8_give 30 = .ok (.getfield 76, 3) := by decide +kernel
theorem dX8_give_33 : decode cX8_give 33 = .ok (.invokevirtual 174, 3) := by decide +kernel
theorem dX8_give_36 : decode cX8_give 36 = .ok (.iconst 1, 1) := by decide +kernel
theorem dX8_give_37 : decode cX8_give 37 = .ok (.ireturn, 1) := by decide +kernel
theorem dX8_given_0 : decode cX8_given 0 = .ok (.aload_n 0, 1) := by decide +kernel
theorem dX8_given_1 : decode cX8_given 1 = .ok (.iload_n 1, 1) := by decide +kernel
theorem dX8_given_2 : decode cX8_given 2 = .ok (.iload_n 2, 1) := by decide +kernel
theorem dX8_given_3 : decode cX8_given 3 = .ok (.invokevirtual 165, 3) := by decide +kernel
theorem dX8_given_6 : decode cX8_given 6 = .ok (.ifCond .eq 15, 3) := by decide +kernel
theorem dX8_given_9 : decode cX8_given 9 = .ok (.aload_n 0, 1) := by decide +kernel
theorem dX8_given_10 : decode cX8_given 10 = .ok (.getfield 38, 3) := by decide +kernel
theorem dX8_given_13 : decode cX8_given 13 = .ok (.iload_n 1, 1) := by decide +kernel
theorem dX8_given_14 : decode cX8_given 14 = .ok (.iload_n 2, 1) := by decide +kernel
theorem dX8_given_15 : decode cX8_given 15 = .ok (.invokevirtual 177, 3) := by decide +kernel
theorem dX8_given_18 : decode cX8_given 18 = .ok (.goto 4, 3) := by decide +kernel
theorem dX8_given_21 : decode cX8_given 21 = .ok (.iconst (-1), 1) := by decide +kernel
theorem dX8_given_22 : decode cX8_given 22 = .ok (.ireturn, 1) := by decide +kernel
theorem dX8_fresh_0 : decode cX8_fresh 0 = .ok (.aload_n 0, 1) := by decide +kernel
theorem dX8_fresh_1 : decode cX8_fresh 1 = .ok (.invokevirtual 128, 3) := by decide +kernel
theorem dX8_fresh_4 : decode cX8_fresh 4 = .ok (.ifCond .ne 5, 3) := by decide +kernel
theorem dX8_fresh_7 : decode cX8_fresh 7 = .ok (.iconst 0, 1) := by decide +kernel
theorem dX8_fresh_8 : decode cX8_fresh 8 = .ok (.ireturn, 1) := by decide +kernel
theorem dX8_fresh_9 : decode cX8_fresh 9 = .ok (.aload_n 0, 1) := by decide +kernel
theorem dX8_fresh_10 : decode cX8_fresh 10 = .ok (.getfield 66, 3) := by decide +kernel
theorem dX8_fresh_13 : decode cX8_fresh 13 = .ok (.aload_n 0, 1) := by decide +kernel
theorem dX8_fresh_14 : decode cX8_fresh 14 = .ok (.getfield 38, 3) := by decide +kernel
theorem dX8_fresh_17 : decode cX8_fresh 17 = .ok (.invokevirtual 180, 3) := by decide +kernel
theorem dX8_fresh_20 : decode cX8_fresh 20 = .ok (.aload_n 0, 1) := by decide +kernel
theorem dX8_fresh_21 : decode cX8_fresh 21 = .ok (.iconst 1, 1) := by decide +kernel
theorem dX8_fresh_22 : decode cX8_fresh 22 = .ok (.putfield 83, 3) := by decide +kernel
theorem dX8_fresh_25 : decode cX8_fresh 25 = .ok (.iconst 1, 1) := by decide +kernel
theorem dX8_fresh_26 : decode cX8_fresh 26 = .ok (.ireturn, 1) := by decide +kernel
theorem dX8_rule_0 : decode cX8_rule 0 = .ok (.aload_n 0, 1) := by decide +kernel
theorem dX8_rule_1 : decode cX8_rule 1 = .ok (.iload_n 1, 1) := by decide +kernel
theorem dX8_rule_2 : decode cX8_rule 2 = .ok (.invokevirtual 150, 3) := by decide +kernel
theorem dX8_rule_5 : decode cX8_rule 5 = .ok (.ifCond .eq 10, 3) := by decide +kernel
theorem dX8_rule_8 : decode cX8_rule 8 = .ok (.aload_n 0, 1) := by decide +kernel
theorem dX8_rule_9 : decode cX8_rule 9 = .ok (.getfield 83, 3) := by decide +kernel
theorem dX8_rule_12 : decode cX8_rule 12 = .ok (.ifCond .ne 5, 3) := by decide +kernel
theorem dX8_rule_15 : decode cX8_rule 15 = .ok (.iconst (-1), 1) := by decide +kernel
theorem dX8_rule_16 : decode cX8_rule 16 = .ok (.ireturn, 1) := by decide +kernel
theorem dX8_rule_17 : decode cX8_rule 17 = .ok (.aload_n 0, 1) := by decide +kernel
theorem dX8_rule_18 : decode cX8_rule 18 = .ok (.getfield 50, 3) := by decide +kernel
theorem dX8_rule_21 : decode cX8_rule 21 = .ok (.iload_n 1, 1) := by decide +kernel
theorem dX8_rule_22 : decode cX8_rule 22 = .ok (.aload_n 0, 1) := by decide +kernel
theorem dX8_rule_23 : decode cX8_rule 23 = .ok (.getfield 66, 3) := by decide +kernel
theorem dX8_rule_26 : decode cX8_rule 26 = .ok (.getfield 184, 3) := by decide +kernel
theorem dX8_rule_29 : decode cX8_rule 29 = .ok (.iload_n 1, 1) := by decide +kernel
theorem dX8_rule_30 : decode cX8_rule 30 = .ok (.laload, 1) := by decide +kernel
theorem dX8_rule_31 : decode cX8_rule 31 = .ok (.invokevirtual 187, 3) := by decide +kernel
theorem dX8_rule_34 : decode cX8_rule 34 = .ok (.lstore_n 2, 1) := by decide +kernel
theorem dX8_rule_35 : decode cX8_rule 35 = .ok (.lload_n 2, 1) := by decide +kernel
theorem dX8_rule_36 : decode cX8_rule 36 = .ok (.lconst 0, 1) := by decide +kernel
theorem dX8_rule_37 : decode cX8_rule 37 = .ok (.lcmp, 1) := by decide +kernel
theorem dX8_rule_38 : decode cX8_rule 38 = .ok (.ifCond .ne 8, 3) := by decide +kernel
theorem dX8_rule_41 : decode cX8_rule 41 = .ok (.bipush (-2), 2) := by decide +kernel
theorem dX8_rule_43 : decode cX8_rule 43 = .ok (.goto 15, 3) := by decide +kernel
theorem dX8_rule_46 : decode cX8_rule 46 = .ok (.aload_n 0, 1) := by decide +kernel
theorem dX8_rule_47 : decode cX8_rule 47 = .ok (.getfield 66, 3) := by decide +kernel
theorem dX8_rule_50 : decode cX8_rule 50 = .ok (.iload_n 1, 1) := by decide +kernel
theorem dX8_rule_51 : decode cX8_rule 51 = .ok (.lload_n 2, 1) := by decide +kernel
theorem dX8_rule_52 : decode cX8_rule 52 = .ok (.invokevirtual 191, 3) := by decide +kernel
theorem dX8_rule_55 : decode cX8_rule 55 = .ok (.invokestatic 195, 3) := by decide +kernel
theorem dX8_rule_58 : decode cX8_rule 58 = .ok (.ireturn, 1) := by decide +kernel
theorem dX8_ways_0 : decode cX8_ways 0 = .ok (.aload_n 0, 1) := by decide +kernel
theorem dX8_ways_1 : decode cX8_ways 1 = .ok (.iload_n 1, 1) := by decide +kernel
theorem dX8_ways_2 : decode cX8_ways 2 = .ok (.invokevirtual 150, 3) := by decide +kernel
theorem dX8_ways_5 : decode cX8_ways 5 = .ok (.ifCond .eq 10, 3) := by decide +kernel
theorem dX8_ways_8 : decode cX8_ways 8 = .ok (.aload_n 0, 1) := by decide +kernel
theorem dX8_ways_9 : decode cX8_ways 9 = .ok (.getfield 83, 3) := by decide +kernel
theorem dX8_ways_12 : decode cX8_ways 12 = .ok (.ifCond .ne 7, 3) := by decide +kernel
theorem dX8_ways_15 : decode cX8_ways 15 = .ok (.ldc2_w 201, 3) := by decide +kernel
theorem dX8_ways_18 : decode cX8_ways 18 = .ok (.lreturn, 1) := by decide +kernel
theorem dX8_ways_19 : decode cX8_ways 19 = .ok (.aload_n 0, 1) := by decide +kernel
theorem dX8_ways_20 : decode cX8_ways 20 = .ok (.getfield 50, 3) := by decide +kernel
theorem dX8_ways_23 : decode cX8_ways 23 = .ok (.iload_n 1, 1) := by decide +kernel
theorem dX8_ways_24 : decode cX8_ways 24 = .ok (.aload_n 0, 1) := by decide +kernel
theorem dX8_ways_25 : decode cX8_ways 25 = .ok (.getfield 66, 3) := by decide +kernel
theorem dX8_ways_28 : decode cX8_ways 28 = .ok (.getfield 184, 3) := by decide +kernel
theorem dX8_ways_31 : decode cX8_ways 31 = .ok (.iload_n 1, 1) := by decide +kernel
theorem dX8_ways_32 : decode cX8_ways 32 = .ok (.laload, 1) := by decide +kernel
theorem dX8_ways_33 : decode cX8_ways 33 = .ok (.invokevirtual 203, 3) := by decide +kernel
theorem dX8_ways_36 : decode cX8_ways 36 = .ok (.lreturn, 1) := by decide +kernel
theorem dX8_rest_0 : decode cX8_rest 0 = .ok (.aload_n 0, 1) := by decide +kernel
theorem dX8_rest_1 : decode cX8_rest 1 = .ok (.getfield 83, 3) := by decide +kernel
theorem dX8_rest_4 : decode cX8_rest 4 = .ok (.ifCond .ne 12, 3) := by decide +kernel
theorem dX8_rest_7 : decode cX8_rest 7 = .ok (.aload_n 0, 1) := by decide +kernel
theorem dX8_rest_8 : decode cX8_rest 8 = .ok (.invokevirtual 206, 3) := by decide +kernel
theorem dX8_rest_11 : decode cX8_rest 11 = .ok (.ifCond .ne 5, 3) := by decide +kernel
theorem dX8_rest_14 : decode cX8_rest 14 = .ok (.iconst (-1), 1) := by decide +kernel
theorem dX8_rest_15 : decode cX8_rest 15 = .ok (.ireturn, 1) := by decide +kernel
theorem dX8_rest_16 : decode cX8_rest 16 = .ok (.aload_n 0, 1) := by decide +kernel
theorem dX8_rest_17 : decode cX8_rest 17 = .ok (.getfield 59, 3) := by decide +kernel
theorem dX8_rest_20 : decode cX8_rest 20 = .ok (.aload_n 0, 1) := by decide +kernel
theorem dX8_rest_21 : decode cX8_rest 21 = .ok (.getfield 66, 3) := by decide +kernel
theorem dX8_rest_24 : decode cX8_rest 24 = .ok (.aload_n 0, 1) := by decide +kernel
theorem dX8_rest_25 : decode cX8_rest 25 = .ok (.getfield 19, 3) := by decide +kernel
theorem dX8_rest_28 : decode cX8_rest 28 = .ok (.invokevirtual 209, 3) := by decide +kernel
theorem dX8_rest_31 : decode cX8_rest 31 = .ok (.invokevirtual 212, 3) := by decide +kernel
theorem dX8_rest_34 : decode cX8_rest 34 = .ok (.ireturn, 1) := by decide +kernel
theorem dX8_tries_0 : decode cX8_tries 0 = .ok (.aload_n 0, 1) := by decide +kernel
theorem dX8_tries_1 : decode cX8_tries 1 = .ok (.invokevirtual 216, 3) := by decide +kernel
theorem dX8_tries_4 : decode cX8_tries 4 = .ok (.istore_n 1, 1) := by decide +kernel
theorem dX8_tries_5 : decode cX8_tries 5 = .ok (.iload_n 1, 1) := by decide +kernel
theorem dX8_tries_6 : decode cX8_tries 6 = .ok (.ifCond .ge 7, 3) := by decide +kernel
theorem dX8_tries_9 : decode cX8_tries 9 = .ok (.iload_n 1, 1) := by decide +kernel
theorem dX8_tries_10 : decode cX8_tries 10 = .ok (.goto 14, 3) := by decide +kernel
theorem dX8_tries_13 : decode cX8_tries 13 = .ok (.aload_n 0, 1) := by decide +kernel
theorem dX8_tries_14 : decode cX8_tries 14 = .ok (.getfield 59, 3) := by decide +kernel
theorem dX8_tries_17 : decode cX8_tries 17 = .ok (.aload_n 0, 1) := by decide +kernel
theorem dX8_tries_18 : decode cX8_tries 18 = .ok (.getfield 66, 3) := by decide +kernel
theorem dX8_tries_21 : decode cX8_tries 21 = .ok (.invokevirtual 219, 3) := by decide +kernel
theorem dX8_tries_24 : decode cX8_tries 24 = .ok (.ireturn, 1) := by decide +kernel
theorem dX8_set_0 : decode cX8_set 0 = .ok (.aload_n 0, 1) := by decide +kernel
theorem dX8_set_1 : decode cX8_set 1 = .ok (.getfield 83, 3) := by decide +kernel
theorem dX8_set_4 : decode cX8_set 4 = .ok (.ifCond .eq 24, 3) := by decide +kernel
theorem dX8_set_7 : decode cX8_set 7 = .ok (.aload_n 0, 1) := by decide +kernel
theorem dX8_set_8 : decode cX8_set 8 = .ok (.iload_n 1, 1) := by decide +kernel
theorem dX8_set_9 : decode cX8_set 9 = .ok (.iload_n 2, 1) := by decide +kernel
theorem dX8_set_10 : decode cX8_set 10 = .ok (.invokevirtual 165, 3) := by decide +kernel
theorem dX8_set_13 : decode cX8_set 13 = .ok (.ifCond .eq 15, 3) := by decide +kernel
theorem dX8_set_16 : decode cX8_set 16 = .ok (.aload_n 0, 1) := by decide +kernel
theorem dX8_set_17 : decode cX8_set 17 = .ok (.getfield 66, 3) := by decide +kernel
theorem dX8_set_20 : decode cX8_set 20 = .ok (.iload_n 1, 1) := by decide +kernel
theorem dX8_set_21 : decode cX8_set 21 = .ok (.iload_n 2, 1) := by decide +kernel
theorem dX8_set_22 : decode cX8_set 22 = .ok (.invokevirtual 223, 3) := by decide +kernel
theorem dX8_set_25 : decode cX8_set 25 = .ok (.goto 4, 3) := by decide +kernel
theorem dX8_set_28 : decode cX8_set 28 = .ok (.iconst (-1), 1) := by decide +kernel
theorem dX8_set_29 : decode cX8_set 29 = .ok (.ireturn, 1) := by decide +kernel
theorem dX8_search_0 : decode cX8_search 0 = .ok (.aload_n 0, 1) := by decide +kernel
theorem dX8_search_1 : decode cX8_search 1 = .ok (.invokevirtual 128, 3) := by decide +kernel
theorem dX8_search_4 : decode cX8_search 4 = .ok (.ifCond .eq 23, 3) := by decide +kernel
theorem dX8_search_7 : decode cX8_search 7 = .ok (.iload_n 1, 1) := by decide +kernel
theorem dX8_search_8 : decode cX8_search 8 = .ok (.bipush 50, 2) := by decide +kernel
theorem dX8_search_10 : decode cX8_search 10 = .ok (.invokestatic 120, 3) := by decide +kernel
theorem dX8_search_13 : decode cX8_search 13 = .ok (.ifCond .eq 14, 3) := by decide +kernel
theorem dX8_search_16 : decode cX8_search 16 = .ok (.iload_n 2, 1) := by decide +kernel
theorem dX8_search_17 : decode cX8_search 17 = .ok (.ifCond .lt 10, 3) := by decide +kernel
theorem dX8_search_20 : decode cX8_search 20 = .ok (.iload_n 2, 1) := by decide +kernel
theorem dX8_search_21 : decode cX8_search 21 = .ok (.sipush 1000, 3) := by decide +kernel
theorem dX8_search_24 : decode cX8_search 24 = .ok (.if_icmp .le 5, 3) := by decide +kernel
theorem dX8_search_27 : decode cX8_search 27 = .ok (.iconst (-1), 1) := by decide +kernel
theorem dX8_search_28 : decode cX8_search 28 = .ok (.ireturn, 1) := by decide +kernel
theorem dX8_search_29 : decode cX8_search 29 = .ok (.aload_n 0, 1) := by decide +kernel
theorem dX8_search_30 : decode cX8_search 30 = .ok (.getfield 59, 3) := by decide +kernel
theorem dX8_search_33 : decode cX8_search 33 = .ok (.aload_n 0, 1) := by decide +kernel
theorem dX8_search_34 : decode cX8_search 34 = .ok (.getfield 38, 3) := by decide +kernel
theorem dX8_search_37 : decode cX8_search 37 = .ok (.iload_n 1, 1) := by decide +kernel
theorem dX8_search_38 : decode cX8_search 38 = .ok (.iload_n 2, 1) := by decide +kernel
theorem dX8_search_39 : decode cX8_search 39 = .ok (.aload_n 0, 1) := by decide +kernel
theorem dX8_search_40 : decode cX8_search 40 = .ok (.getfield 76, 3) := by decide +kernel
theorem dX8_search_43 : decode cX8_search 43 = .ok (.invokevirtual 226, 3) := by decide +kernel
theorem dX8_search_46 : decode cX8_search 46 = .ok (.aload_n 0, 1) := by decide +kernel
theorem dX8_search_47 : decode cX8_search 47 = .ok (.getfield 76, 3) := by decide +kernel
theorem dX8_search_50 : decode cX8_search 50 = .ok (.getfield 230, 3) := by decide +kernel
theorem dX8_search_53 : decode cX8_search 53 = .ok (.ifCond .eq 8, 3) := by decide +kernel
theorem dX8_search_56 : decode cX8_search 56 = .ok (.bipush (-2), 2) := by decide +kernel
theorem dX8_search_58 : decode cX8_search 58 = .ok (.goto 10, 3) := by decide +kernel
theorem dX8_search_61 : decode cX8_search 61 = .ok (.aload_n 0, 1) := by decide +kernel
theorem dX8_search_62 : decode cX8_search 62 = .ok (.getfield 76, 3) := by decide +kernel
theorem dX8_search_65 : decode cX8_search 65 = .ok (.getfield 233, 3) := by decide +kernel
theorem dX8_search_68 : decode cX8_search 68 = .ok (.ireturn, 1) := by decide +kernel
theorem dX8_nodes_0 : decode cX8_nodes 0 = .ok (.aload_n 0, 1) := by decide +kernel
theorem dX8_nodes_1 : decode cX8_nodes 1 = .ok (.getfield 76, 3) := by decide +kernel
theorem dX8_nodes_4 : decode cX8_nodes 4 = .ok (.getfield 236, 3) := by decide +kernel
theorem dX8_nodes_7 : decode cX8_nodes 7 = .ok (.ireturn, 1) := by decide +kernel
theorem dX8_solution_0 : decode cX8_solution 0 = .ok (.aload_n 0, 1) := by decide +kernel
theorem dX8_solution_1 : decode cX8_solution 1 = .ok (.iload_n 2, 1) := by decide +kernel
theorem dX8_solution_2 : decode cX8_solution 2 = .ok (.iload_n 3, 1) := by decide +kernel
theorem dX8_solution_3 : decode cX8_solution 3 = .ok (.invokevirtual 165, 3) := by decide +kernel
theorem dX8_solution_6 : decode cX8_solution 6 = .ok (.ifCond .eq 14, 3) := by decide +kernel
theorem dX8_solution_9 : decode cX8_solution 9 = .ok (.aload_n 0, 1) := by decide +kernel
theorem dX8_solution_10 : decode cX8_solution 10 = .ok (.getfield 76, 3) := by decide +kernel
theorem dX8_solution_13 : decode cX8_solution 13 = .ok (.iload_n 1, 1) := by decide +kernel
theorem dX8_solution_14 : decode cX8_solution 14 = .ok (.invokevirtual 239, 3) := by decide +kernel
theorem dX8_solution_17 : decode cX8_solution 17 = .ok (.ifCond .ne 5, 3) := by decide +kernel
theorem dX8_solution_20 : decode cX8_solution 20 = .ok (.iconst (-1), 1) := by decide +kernel
theorem dX8_solution_21 : decode cX8_solution 21 = .ok (.ireturn, 1) := by decide +kernel
theorem dX8_solution_22 : decode cX8_solution 22 = .ok (.aload_n 0, 1) := by decide +kernel
theorem dX8_solution_23 : decode cX8_solution 23 = .ok (.getfield 76, 3) := by decide +kernel
theorem dX8_solution_26 : decode cX8_solution 26 = .ok (.iload_n 1, 1) := by decide +kernel
theorem dX8_solution_27 : decode cX8_solution 27 = .ok (.invokevirtual 242, 3) := by decide +kernel
theorem dX8_solution_30 : decode cX8_solution 30 = .ok (.iload_n 2, 1) := by decide +kernel
theorem dX8_solution_31 : decode cX8_solution 31 = .ok (.iload_n 3, 1) := by decide +kernel
theorem dX8_solution_32 : decode cX8_solution 32 = .ok (.invokevirtual 177, 3) := by decide +kernel
theorem dX8_solution_35 : decode cX8_solution 35 = .ok (.ireturn, 1) := by decide +kernel
theorem dX8_level_0 : decode cX8_level 0 = .ok (.aload_n 0, 1) := by decide +kernel
theorem dX8_level_1 : decode cX8_level 1 = .ok (.invokevirtual 128, 3) := by decide +kernel
theorem dX8_level_4 : decode cX8_level 4 = .ok (.ifCond .eq 21, 3) := by decide +kernel
theorem dX8_level_7 : decode cX8_level 7 = .ok (.aload_n 0, 1) := by decide +kernel
theorem dX8_level_8 : decode cX8_level 8 = .ok (.getfield 59, 3) := by decide +kernel
theorem dX8_level_11 : decode cX8_level 11 = .ok (.aload_n 0, 1) := by decide +kernel
theorem dX8_level_12 : decode cX8_level 12 = .ok (.getfield 38, 3) := by decide +kernel
theorem dX8_level_15 : decode cX8_level 15 = .ok (.aload_n 0, 1) := by decide +kernel
theorem dX8_level_16 : decode cX8_level 16 = .ok (.getfield 80, 3) := by decide +kernel
theorem dX8_level_19 : decode cX8_level 19 = .ok (.invokevirtual 246, 3) := by decide +kernel
theorem dX8_level_22 : decode cX8_level 22 = .ok (.goto 4, 3) := by decide +kernel
theorem dX8_level_25 : decode cX8_level 25 = .ok (.iconst (-1), 1) := by decide +kernel
theorem dX8_level_26 : decode cX8_level 26 = .ok (.ireturn, 1) := by decide +kernel
theorem dX8_mark_0 : decode cX8_mark 0 = .ok (.aload_n 0, 1) := by decide +kernel
theorem dX8_mark_1 : decode cX8_mark 1 = .ok (.iload_n 1, 1) := by decide +kernel
theorem dX8_mark_2 : decode cX8_mark 2 = .ok (.iload_n 2, 1) := by decide +kernel
theorem dX8_mark_3 : decode cX8_mark 3 = .ok (.invokevirtual 165, 3) := by decide +kernel
theorem dX8_mark_6 : decode cX8_mark 6 = .ok (.ifCond .eq 11, 3) := by decide +kernel
theorem dX8_mark_9 : decode cX8_mark 9 = .ok (.aload_n 0, 1) := by decide +kernel
theorem dX8_mark_10 : decode cX8_mark 10 = .ok (.iload_n 3, 1) := by decide +kernel
theorem dX8_mark_11 : decode cX8_mark 11 = .ok (.invokevirtual 168, 3) := by decide +kernel
theorem dX8_mark_14 : decode cX8_mark 14 = .ok (.ifCond .ne 5, 3) := by decide +kernel
theorem dX8_mark_17 : decode cX8_mark 17 = .ok (.iconst 0, 1) := by decide +kernel
theorem dX8_mark_18 : decode cX8_mark 18 = .ok (.ireturn, 1) := by decide +kernel
theorem dX8_mark_19 : decode cX8_mark 19 = .ok (.aload_n 0, 1) := by decide +kernel
theorem dX8_mark_20 : decode cX8_mark 20 = .ok (.getfield 42, 3) := by decide +kernel
theorem dX8_mark_23 : decode cX8_mark 23 = .ok (.iload_n 1, 1) := by decide +kernel
theorem dX8_mark_24 : decode cX8_mark 24 = .ok (.iload_n 2, 1) := by decide +kernel
theorem dX8_mark_25 : decode cX8_mark 25 = .ok (.iload_n 3, 1) := by decide +kernel
theorem dX8_mark_26 : decode cX8_mark 26 = .ok (.invokevirtual 171, 3) := by decide +kernel
theorem dX8_mark_29 : decode cX8_mark 29 = .ok (.iconst 1, 1) := by decide +kernel
theorem dX8_mark_30 : decode cX8_mark 30 = .ok (.ireturn, 1) := by decide +kernel
theorem dX8_marked_0 : decode cX8_marked 0 = .ok (.aload_n 0, 1) := by decide +kernel
theorem dX8_marked_1 : decode cX8_marked 1 = .ok (.iload_n 1, 1) := by decide +kernel
theorem dX8_marked_2 : decode cX8_marked 2 = .ok (.iload_n 2, 1) := by decide +kernel
theorem dX8_marked_3 : decode cX8_marked 3 = .ok (.invokevirtual 165, 3) := by decide +kernel
theorem dX8_marked_6 : decode cX8_marked 6 = .ok (.ifCond .eq 15, 3) := by decide +kernel
theorem dX8_marked_9 : decode cX8_marked 9 = .ok (.aload_n 0, 1) := by decide +kernel
theorem dX8_marked_10 : decode cX8_marked 10 = .ok (.getfield 42, 3) := by decide +kernel
theorem dX8_marked_13 : decode cX8_marked 13 = .ok (.iload_n 1, 1) := by decide +kernel
theorem dX8_marked_14 : decode cX8_marked 14 = .ok (.iload_n 2, 1) := by decide +kernel
theorem dX8_marked_15 : decode cX8_marked 15 = .ok (.invokevirtual 177, 3) := by decide +kernel
theorem dX8_marked_18 : decode cX8_marked 18 = .ok (.goto 4, 3) := by decide +kernel
theorem dX8_marked_21 : decode cX8_marked 21 = .ok (.iconst (-1), 1) := by decide +kernel
theorem dX8_marked_22 : decode cX8_marked 22 = .ok (.ireturn, 1) := by decide +kernel
theorem dX8_areGivensMarked_0 : decode cX8_areGivensMarked 0 = .ok (.iconst 0, 1) := by decide +kernel
theorem dX8_areGivensMarked_1 : decode cX8_areGivensMarked 1 = .ok (.istore_n 1, 1) := by decide +kernel
theorem dX8_areGivensMarked_2 : decode cX8_areGivensMarked 2 = .ok (.iload_n 1, 1) := by decide +kernel
theorem dX8_areGivensMarked_3 : decode cX8_areGivensMarked 3 = .ok (.aload_n 0, 1) := by decide +kernel
theorem dX8_areGivensMarked_4 : decode cX8_areGivensMarked 4 = .ok (.getfield 19, 3) := by decide +kernel
theorem dX8_areGivensMarked_7 : decode cX8_areGivensMarked 7 = .ok (.getfield 134, 3) := by decide +kernel
theorem dX8_areGivensMarked_10 : decode cX8_areGivensMarked 10 = .ok (.if_icmp .ge 58, 3) := by decide +kernel
theorem dX8_areGivensMarked_13 : decode cX8_areGivensMarked 13 = .ok (.iconst 0, 1) := by decide +kernel
theorem dX8_areGivensMarked_14 : decode cX8_areGivensMarked 14 = .ok (.istore_n 2, 1) := by decide +kernel
theorem dX8_areGivensMarked_15 : decode cX8_areGivensMarked 15 = .ok (.iload_n 2, 1) := by decide +kernel
theorem dX8_areGivensMarked_16 : decode cX8_areGivensMarked 16 = .ok (.aload_n 0, 1) := by decide +kernel
theorem dX8_areGivensMarked_17 : decode cX8_areGivensMarked 17 = .ok (.getfield 19, 3) := by decide +kernel
theorem dX8_areGivensMarked_20 : decode cX8_areGivensMarked 20 = .ok (.getfield 131, 3) := by decide +kernel
theorem dX8_areGivensMarked_23 : decode cX8_areGivensMarked 23 = .ok (.if_icmp .ge 39, 3) := by decide +kernel
theorem dX8_areGivensMarked_26 : decode cX8_areGivensMarked 26 = .ok (.aload_n 0, 1) := by decide +kernel
theorem dX8_areGivensMarked_27 : decode cX8_areGivensMarked 27 = .ok (.getfield 38, 3) := by decide +kernel
theorem dX8_areGivensMarked_30 : decode cX8_areGivensMarked 30 = .ok (.iload_n 2, 1) := by decide +kernel
theorem dX8_areGivensMarked_31 : decode cX8_areGivensMarked 31 = .ok (.iload_n 1, 1) := by decide +kernel
theorem dX8_areGivensMarked_32 : decode cX8_areGivensMarked 32 = .ok (.invokevirtual 177, 3) := by decide +kernel
theorem dX8_areGivensMarked_35 : decode cX8_areGivensMarked 35 = .ok (.istore_n 3, 1) := by decide +kernel
theorem dX8_areGivensMarked_36 : decode cX8_areGivensMarked 36 = .ok (.iload_n 3, 1) := by decide +kernel
theorem dX8_areGivensMarked_37 : decode cX8_areGivensMarked 37 = .ok (.iconst (-1), 1) := by decide +kernel
theorem dX8_areGivensMarked_38 : decode cX8_areGivensMarked 38 = .ok (.if_icmp .eq 18, 3) := by decide +kernel
theorem dX8_areGivensMarked_41 : decode cX8_areGivensMarked 41 = .ok (.iload_n 3, 1) := by decide +kernel
theorem dX8_areGivensMarked_42 : decode cX8_areGivensMarked 42 = .ok (.aload_n 0, 1) := by decide +kernel
theorem dX8_areGivensMarked_43 : decode cX8_areGivensMarked 43 = .ok (.getfield 42, 3) := by decide +kernel
theorem dX8_areGivensMarked_46 : decode cX8_areGivensMarked 46 = .ok (.iload_n 2, 1) := by decide +kernel
theorem dX8_areGivensMarked_47 : decode cX8_areGivensMarked 47 = .ok (.iload_n 1, 1) := by decide +kernel
theorem dX8_areGivensMarked_48 : decode cX8_areGivensMarked 48 = .ok (.invokevirtual 285, 3) := by decide +kernel
theorem dX8_areGivensMarked_51 : decode cX8_areGivensMarked 51 = .ok (.if_icmp .eq 5, 3) := by decide +kernel
theorem dX8_areGivensMarked_54 : decode cX8_areGivensMarked 54 = .ok (.iconst 0, 1) := by decide +kernel
theorem dX8_areGivensMarked_55 : decode cX8_areGivensMarked 55 = .ok (.ireturn, 1) := by decide +kernel
theorem dX8_areGivensMarked_56 : decode cX8_areGivensMarked 56 = .ok (.iinc 2 1, 3) := by decide +kernel
theorem dX8_areGivensMarked_59 : decode cX8_areGivensMarked 59 = .ok (.goto (-44), 3) := by decide +kernel
theorem dX8_areGivensMarked_62 : decode cX8_areGivensMarked 62 = .ok (.iinc 1 1, 3) := by decide +kernel
theorem dX8_areGivensMarked_65 : decode cX8_areGivensMarked 65 = .ok (.goto (-63), 3) := by decide +kernel
theorem dX8_areGivensMarked_68 : decode cX8_areGivensMarked 68 = .ok (.iconst 1, 1) := by decide +kernel
theorem dX8_areGivensMarked_69 : decode cX8_areGivensMarked 69 = .ok (.ireturn, 1) := by decide +kernel
theorem dX8_draftFromMarks_0 : decode cX8_draftFromMarks 0 = .ok (.aload_n 0, 1) := by decide +kernel
theorem dX8_draftFromMarks_1 : decode cX8_draftFromMarks 1 = .ok (.getfield 23, 3) := by decide +kernel
theorem dX8_draftFromMarks_4 : decode cX8_draftFromMarks 4 = .ok (.aload_n 0, 1) := by decide +kernel
theorem dX8_draftFromMarks_5 : decode cX8_draftFromMarks 5 = .ok (.getfield 19, 3) := by decide +kernel
theorem dX8_draftFromMarks_8 : decode cX8_draftFromMarks 8 = .ok (.getfield 131, 3) := by decide +kernel
theorem dX8_draftFromMarks_11 : decode cX8_draftFromMarks 11 = .ok (.aload_n 0, 1) := by decide +kernel
theorem dX8_draftFromMarks_12 : decode cX8_draftFromMarks 12 = .ok (.getfield 19, 3) := by decide +kernel
theorem dX8_draftFromMarks_15 : decode cX8_draftFromMarks 15 = .ok (.getfield 134, 3) := by decide +kernel
theorem dX8_draftFromMarks_18 : decode cX8_draftFromMarks 18 = .ok (.aload_n 0, 1) := by decide +kernel
theorem dX8_draftFromMarks_19 : decode cX8_draftFromMarks 19 = .ok (.getfield 19, 3) := by decide +kernel
theorem dX8_draftFromMarks_22 : decode cX8_draftFromMarks 22 = .ok (.getfield 137, 3) := by decide +kernel
theorem dX8_draftFromMarks_25 : decode cX8_draftFromMarks 25 = .ok (.invokevirtual 124, 3) := by decide +kernel
theorem dX8_draftFromMarks_28 : decode cX8_draftFromMarks 28 = .ok (.iconst 0, 1) := by decide +kernel
theorem dX8_draftFromMarks_29 : decode cX8_draftFromMarks 29 = .ok (.istore_n 1, 1) := by decide +kernel
theorem dX8_draftFromMarks_30 : decode cX8_draftFromMarks 30 = .ok (.iload_n 1, 1) := by decide +kernel
theorem dX8_draftFromMarks_31 : decode cX8_draftFromMarks 31 = .ok (.aload_n 0, 1) := by decide +kernel
theorem dX8_draftFromMarks_32 : decode cX8_draftFromMarks 32 = .ok (.getfield 23, 3) := by decide +kernel
theorem dX8_draftFromMarks_35 : decode cX8_draftFromMarks 35 = .ok (.invokevirtual 140, 3) := by decide +kernel
theorem dX8_draftFromMarks_38 : decode cX8_draftFromMarks 38 = .ok (.if_icmp .ge 21, 3) := by decide +kernel
theorem dX8_draftFromMarks_41 : decode cX8_draftFromMarks 41 = .ok (.aload_n 0, 1) := by decide +kernel
theorem dX8_draftFromMarks_42 : decode cX8_draftFromMarks 42 = .ok (.getfield 23, 3) := by decide +kernel
theorem dX8_draftFromMarks_45 : decode cX8_draftFromMarks 45 = .ok (.iload_n 1, 1) := by decide +kernel
theorem dX8_draftFromMarks_46 : decode cX8_draftFromMarks 46 = .ok (.aload_n 0, 1) := by decide +kernel
theorem dX8_draftFromMarks_47 : decode cX8_draftFromMarks 47 = .ok (.getfield 42, 3) := by decide +kernel
theorem dX8_draftFromMarks_50 : decode cX8_draftFromMarks 50 = .ok (.invokevirtual 281, 3) := by decide +kernel
theorem dX8_draftFromMarks_53 : decode cX8_draftFromMarks 53 = .ok (.iinc 1 1, 3) := by decide +kernel
theorem dX8_draftFromMarks_56 : decode cX8_draftFromMarks 56 = .ok (.goto (-26), 3) := by decide +kernel
theorem dX8_draftFromMarks_59 : decode cX8_draftFromMarks 59 = .ok (.return_, 1) := by decide +kernel
theorem dX8_done_0 : decode cX8_done 0 = .ok (.aload_n 0, 1) := by decide +kernel
theorem dX8_done_1 : decode cX8_done 1 = .ok (.invokevirtual 128, 3) := by decide +kernel
theorem dX8_done_4 : decode cX8_done 4 = .ok (.ifCond .ne 5, 3) := by decide +kernel
theorem dX8_done_7 : decode cX8_done 7 = .ok (.iconst (-1), 1) := by decide +kernel
theorem dX8_done_8 : decode cX8_done 8 = .ok (.ireturn, 1) := by decide +kernel
theorem dX8_done_9 : decode cX8_done 9 = .ok (.aload_n 0, 1) := by decide +kernel
theorem dX8_done_10 : decode cX8_done 10 = .ok (.invokevirtual 250, 3) := by decide +kernel
theorem dX8_done_13 : decode cX8_done 13 = .ok (.aload_n 0, 1) := by decide +kernel
theorem dX8_done_14 : decode cX8_done 14 = .ok (.getfield 23, 3) := by decide +kernel
theorem dX8_done_17 : decode cX8_done 17 = .ok (.aload_n 0, 1) := by decide +kernel
theorem dX8_done_18 : decode cX8_done 18 = .ok (.getfield 19, 3) := by decide +kernel
theorem dX8_done_21 : decode cX8_done 21 = .ok (.invokevirtual 253, 3) := by decide +kernel
theorem dX8_done_24 : decode cX8_done 24 = .ok (.ifCond .eq 14, 3) := by decide +kernel
theorem dX8_done_27 : decode cX8_done 27 = .ok (.aload_n 0, 1) := by decide +kernel
theorem dX8_done_28 : decode cX8_done 28 = .ok (.invokevirtual 257, 3) := by decide +kernel
theorem dX8_done_31 : decode cX8_done 31 = .ok (.ifCond .eq 7, 3) := by decide +kernel
theorem dX8_done_34 : decode cX8_done 34 = .ok (.iconst 1, 1) := by decide +kernel
theorem dX8_done_35 : decode cX8_done 35 = .ok (.goto 4, 3) := by decide +kernel
theorem dX8_done_38 : decode cX8_done 38 = .ok (.iconst 0, 1) := by decide +kernel
theorem dX8_done_39 : decode cX8_done 39 = .ok (.ireturn, 1) := by decide +kernel
theorem dX8_wrong_0 : decode cX8_wrong 0 = .ok (.aload_n 0, 1) := by decide +kernel
theorem dX8_wrong_1 : decode cX8_wrong 1 = .ok (.invokevirtual 128, 3) := by decide +kernel
theorem dX8_wrong_4 : decode cX8_wrong 4 = .ok (.ifCond .eq 14, 3) := by decide +kernel
theorem dX8_wrong_7 : decode cX8_wrong 7 = .ok (.aload_n 0, 1) := by decide +kernel
theorem dX8_wrong_8 : decode cX8_wrong 8 = .ok (.getfield 76, 3) := by decide +kernel
theorem dX8_wrong_11 : decode cX8_wrong 11 = .ok (.iconst 0, 1) := by decide +kernel
theorem dX8_wrong_12 : decode cX8_wrong 12 = .ok (.invokevirtual 239, 3) := by decide +kernel
theorem dX8_wrong_15 : decode cX8_wrong 15 = .ok (.ifCond .ne 5, 3) := by decide +kernel
theorem dX8_wrong_18 : decode cX8_wrong 18 = .ok (.iconst (-1), 1) := by decide +kernel
theorem dX8_wrong_19 : decode cX8_wrong 19 = .ok (.ireturn, 1) := by decide +kernel
theorem dX8_wrong_20 : decode cX8_wrong 20 = .ok (.iconst 0, 1) := by decide +kernel
theorem dX8_wrong_21 : decode cX8_wrong 21 = .ok (.istore_n 1, 1) := by decide +kernel
theorem dX8_wrong_22 : decode cX8_wrong 22 = .ok (.iconst 0, 1) := by decide +kernel
theorem dX8_wrong_23 : decode cX8_wrong 23 = .ok (.istore_n 2, 1) := by decide +kernel
theorem dX8_wrong_24 : decode cX8_wrong 24 = .ok (.iload_n 2, 1) := by decide +kernel
theorem dX8_wrong_25 : decode cX8_wrong 25 = .ok (.aload_n 0, 1) := by decide +kernel
theorem dX8_wrong_26 : decode cX8_wrong 26 = .ok (.getfield 19, 3) := by decide +kernel
theorem dX8_wrong_29 : decode cX8_wrong 29 = .ok (.getfield 134, 3) := by decide +kernel
theorem dX8_wrong_32 : decode cX8_wrong 32 = .ok (.if_icmp .ge 65, 3) := by decide +kernel
theorem dX8_wrong_35 : decode cX8_wrong 35 = .ok (.iconst 0, 1) := by decide +kernel
theorem dX8_wrong_36 : decode cX8_wrong 36 = .ok (.istore_n 3, 1) := by decide +kernel
theorem dX8_wrong_37 : decode cX8_wrong 37 = .ok (.iload_n 3, 1) := by decide +kernel
theorem dX8_wrong_38 : decode cX8_wrong 38 = .ok (.aload_n 0, 1) := by decide +kernel
theorem dX8_wrong_39 : decode cX8_wrong 39 = .ok (.getfield 19, 3) := by decide +kernel
theorem dX8_wrong_42 : decode cX8_wrong 42 = .ok (.getfield 131, 3) := by decide +kernel
theorem dX8_wrong_45 : decode cX8_wrong 45 = .ok (.if_icmp .ge 46, 3) := by decide +kernel
theorem dX8_wrong_48 : decode cX8_wrong 48 = .ok (.aload_n 0, 1) := by decide +kernel
theorem dX8_wrong_49 : decode cX8_wrong 49 = .ok (.getfield 42, 3) := by decide +kernel
theorem dX8_wrong_52 : decode cX8_wrong 52 = .ok (.iload_n 3, 1) := by decide +kernel
theorem dX8_wrong_53 : decode cX8_wrong 53 = .ok (.iload_n 2, 1) := by decide +kernel
theorem dX8_wrong_54 : decode cX8_wrong 54 = .ok (.invokevirtual 177, 3) := by decide +kernel
theorem dX8_wrong_57 : decode cX8_wrong 57 = .ok (.istore 4, 2) := by decide +kernel
theorem dX8_wrong_59 : decode cX8_wrong 59 = .ok (.iload 4, 2) := by decide +kernel
theorem dX8_wrong_61 : decode cX8_wrong 61 = .ok (.iconst (-1), 1) := by decide +kernel
theorem dX8_wrong_62 : decode cX8_wrong 62 = .ok (.if_icmp .eq 23, 3) := by decide +kernel
theorem dX8_wrong_65 : decode cX8_wrong 65 = .ok (.iload 4, 2) := by decide +kernel
theorem dX8_wrong_67 : decode cX8_wrong 67 = .ok (.aload_n 0, 1) := by decide +kernel
theorem dX8_wrong_68 : decode cX8_wrong 68 = .ok (.getfield 76, 3) := by decide +kernel
theorem dX8_wrong_71 : decode cX8_wrong 71 = .ok (.getfield 260, 3) := by decide +kernel
theorem dX8_wrong_74 : decode cX8_wrong 74 = .ok (.iload_n 3, 1) := by decide +kernel
theorem dX8_wrong_75 : decode cX8_wrong 75 = .ok (.iload_n 2, 1) := by decide +kernel
theorem dX8_wrong_76 : decode cX8_wrong 76 = .ok (.invokevirtual 177, 3) := by decide +kernel
theorem dX8_wrong_79 : decode cX8_wrong 79 = .ok (.if_icmp .eq 6, 3) := by decide +kernel
theorem dX8_wrong_82 : decode cX8_wrong 82 = .ok (.iinc 1 1, 3) := by decide +kernel
theorem dX8_wrong_85 : decode cX8_wrong 85 = .ok (.iinc 3 1, 3) := by decide +kernel
theorem dX8_wrong_88 : decode cX8_wrong 88 = .ok (.goto (-51), 3) := by decide +kernel
theorem dX8_wrong_91 : decode cX8_wrong 91 = .ok (.iinc 2 1, 3) := by decide +kernel
theorem dX8_wrong_94 : decode cX8_wrong 94 = .ok (.goto (-70), 3) := by decide +kernel
theorem dX8_wrong_97 : decode cX8_wrong 97 = .ok (.iload_n 1, 1) := by decide +kernel
theorem dX8_wrong_98 : decode cX8_wrong 98 = .ok (.ireturn, 1) := by decide +kernel
theorem dX8_hintOf_0 : decode cX8_hintOf 0 = .ok (.iconst 0, 1) := by decide +kernel
theorem dX8_hintOf_1 : decode cX8_hintOf 1 = .ok (.istore 4, 2) := by decide +kernel
theorem dX8_hintOf_3 : decode cX8_hintOf 3 = .ok (.iload 4, 2) := by decide +kernel
theorem dX8_hintOf_5 : decode cX8_hintOf 5 = .ok (.aload_n 0, 1) := by decide +kernel
theorem dX8_hintOf_6 : decode cX8_hintOf 6 = .ok (.getfield 19, 3) := by decide +kernel
theorem dX8_hintOf_9 : decode cX8_hintOf 9 = .ok (.iload_n 1, 1) := by decide +kernel
theorem dX8_hintOf_10 : decode cX8_hintOf 10 = .ok (.invokevirtual 288, 3) := by decide +kernel
theorem dX8_hintOf_13 : decode cX8_hintOf 13 = .ok (.if_icmp .ge 117, 3) := by decide +kernel
theorem dX8_hintOf_16 : decode cX8_hintOf 16 = .ok (.aload_n 0, 1) := by decide +kernel
theorem dX8_hintOf_17 : decode cX8_hintOf 17 = .ok (.getfield 19, 3) := by decide +kernel
theorem dX8_hintOf_20 : decode cX8_hintOf 20 = .ok (.iload_n 1, 1) := by decide +kernel
theorem dX8_hintOf_21 : decode cX8_hintOf 21 = .ok (.iload 4, 2) := by decide +kernel
theorem dX8_hintOf_23 : decode cX8_hintOf 23 = .ok (.invokevirtual 291, 3) := by decide +kernel
theorem dX8_hintOf_26 : decode cX8_hintOf 26 = .ok (.istore 5, 2) := by decide +kernel
theorem dX8_hintOf_28 : decode cX8_hintOf 28 = .ok (.aload_n 0, 1) := by decide +kernel
theorem dX8_hintOf_29 : decode cX8_hintOf 29 = .ok (.getfield 19, 3) := by decide +kernel
theorem dX8_hintOf_32 : decode cX8_hintOf 32 = .ok (.iload_n 1, 1) := by decide +kernel
theorem dX8_hintOf_33 : decode cX8_hintOf 33 = .ok (.iload 4, 2) := by decide +kernel
theorem dX8_hintOf_35 : decode cX8_hintOf 35 = .ok (.invokevirtual 294, 3) := by decide +kernel
theorem dX8_hintOf_38 : decode cX8_hintOf 38 = .ok (.istore 6, 2) := by decide +kernel
theorem dX8_hintOf_40 : decode cX8_hintOf 40 = .ok (.lload_n 2, 1) := by decide +kernel
theorem dX8_hintOf_41 : decode cX8_hintOf 41 = .ok (.iload 4, 2) := by decide +kernel
theorem dX8_hintOf_43 : decode cX8_hintOf 43 = .ok (.invokestatic 297, 3) := by decide +kernel
theorem dX8_hintOf_46 : decode cX8_hintOf 46 = .ok (.istore 7, 2) := by decide +kernel
theorem dX8_hintOf_48 : decode cX8_hintOf 48 = .ok (.aload_n 0, 1) := by decide +kernel
theorem dX8_hintOf_49 : decode cX8_hintOf 49 = .ok (.getfield 38, 3) := by decide +kernel
theorem dX8_hintOf_52 : decode cX8_hintOf 52 = .ok (.iload 5, 2) := by decide +kernel
theorem dX8_hintOf_54 : decode cX8_hintOf 54 = .ok (.iload 6, 2) := by decide +kernel
theorem dX8_hintOf_56 : decode cX8_hintOf 56 = .ok (.invokevirtual 177, 3) := by decide +kernel
theorem dX8_hintOf_59 : decode cX8_hintOf 59 = .ok (.iconst (-1), 1) := by decide +kernel
theorem dX8_hintOf_60 : decode cX8_hintOf 60 = .ok (.if_icmp .ne 22, 3) := by decide +kernel
theorem dX8_hintOf_63 : decode cX8_hintOf 63 = .ok (.aload_n 0, 1) := by decide +kernel
theorem dX8_hintOf_64 : decode cX8_hintOf 64 = .ok (.getfield 42, 3) := by decide +kernel
theorem dX8_hintOf_67 : decode cX8_hintOf 67 = .ok (.iload 5, 2) := by decide +kernel
theorem dX8_hintOf_69 : decode cX8_hintOf 69 = .ok (.iload 6, 2) := by decide +kernel
theorem dX8_hintOf_71 : decode cX8_hintOf 71 = .ok (.invokevirtual 177, 3) := by decide +kernel
theorem dX8_hintOf_74 : decode cX8_hintOf 74 = .ok (.iconst (-1), 1) := by decide +kernel
theorem dX8_hintOf_75 : decode cX8_hintOf 75 = .ok (.if_icmp .ne 7, 3) := by decide +kernel
theorem dX8_hintOf_78 : decode cX8_hintOf 78 = .ok (.iconst 1, 1) := by decide +kernel
theorem dX8_hintOf_79 : decode cX8_hintOf 79 = .ok (.goto 4, 3) := by decide +kernel
theorem dX8_hintOf_82 : decode cX8_hintOf 82 = .ok (.iconst 0, 1) := by decide +kernel
theorem dX8_hintOf_83 : decode cX8_hintOf 83 = .ok (.istore 8, 2) := by decide +kernel
theorem dX8_hintOf_85 : decode cX8_hintOf 85 = .ok (.iload 8, 2) := by decide +kernel
theorem dX8_hintOf_87 : decode cX8_hintOf 87 = .ok (.ifCond .eq 37, 3) := by decide +kernel
theorem dX8_hintOf_90 : decode cX8_hintOf 90 = .ok (.iload 7, 2) := by decide +kernel
theorem dX8_hintOf_92 : decode cX8_hintOf 92 = .ok (.invokestatic 195, 3) := by decide +kernel
theorem dX8_hintOf_95 : decode cX8_hintOf 95 = .ok (.iconst 1, 1) := by decide +kernel
theorem dX8_hintOf_96 : decode cX8_hintOf 96 = .ok (.if_icmp .ne 28, 3) := by decide +kernel
theorem dX8_hintOf_99 : decode cX8_hintOf 99 = .ok (.sipush 10000, 3) := by decide +kernel
theorem dX8_hintOf_102 : decode cX8_hintOf 102 = .ok (.iload_n 1, 1) := by decide +kernel
theorem dX8_hintOf_103 : decode cX8_hintOf 103 = .ok (.imul, 1) := by decide +kernel
theorem dX8_hintOf_104 : decode cX8_hintOf 104 = .ok (.sipush 1000, 3) := by decide +kernel
theorem dX8_hintOf_107 : decode cX8_hintOf 107 = .ok (.iload 7, 2) := by decide +kernel
theorem dX8_hintOf_109 : decode cX8_hintOf 109 = .ok (.invokestatic 301, 3) := by decide +kernel
theorem dX8_hintOf_112 : decode cX8_hintOf 112 = .ok (.imul, 1) := by decide +kernel
theorem dX8_hintOf_113 : decode cX8_hintOf 113 = .ok (.iadd, 1) := by decide +kernel
theorem dX8_hintOf_114 : decode cX8_hintOf 114 = .ok (.bipush 12, 2) := by decide +kernel
theorem dX8_hintOf_116 : decode cX8_hintOf 116 = .ok (.iload 6, 2) := by decide +kernel
theorem dX8_hintOf_118 : decode cX8_hintOf 118 = .ok (.imul, 1) := by decide +kernel
theorem dX8_hintOf_119 : decode cX8_hintOf 119 = .ok (.iadd, 1) := by decide +kernel
theorem dX8_hintOf_120 : decode cX8_hintOf 120 = .ok (.iload 5, 2) := by decide +kernel
theorem dX8_hintOf_122 : decode cX8_hintOf 122 = .ok (.iadd, 1) := by decide +kernel
theorem dX8_hintOf_123 : decode cX8_hintOf 123 = .ok (.ireturn, 1) := by decide +kernel
theorem dX8_hintOf_124 : decode cX8_hintOf 124 = .ok (.iinc 4 1, 3) := by decide +kernel
theorem dX8_hintOf_127 : decode cX8_hintOf 127 = .ok (.goto (-124), 3) := by decide +kernel
theorem dX8_hintOf_130 : decode cX8_hintOf 130 = .ok (.iconst (-1), 1) := by decide +kernel
theorem dX8_hintOf_131 : decode cX8_hintOf 131 = .ok (.ireturn, 1) := by decide +kernel
theorem dX8_hint_0 : decode cX8_hint 0 = .ok (.aload_n 0, 1) := by decide +kernel
theorem dX8_hint_1 : decode cX8_hint 1 = .ok (.invokevirtual 128, 3) := by decide +kernel
theorem dX8_hint_4 : decode cX8_hint 4 = .ok (.ifCond .ne 5, 3) := by decide +kernel
theorem dX8_hint_7 : decode cX8_hint 7 = .ok (.iconst (-1), 1) := by decide +kernel
theorem dX8_hint_8 : decode cX8_hint 8 = .ok (.ireturn, 1) := by decide +kernel
theorem dX8_hint_9 : decode cX8_hint 9 = .ok (.aload_n 0, 1) := by decide +kernel
theorem dX8_hint_10 : decode cX8_hint 10 = .ok (.getfield 70, 3) := by decide +kernel
theorem dX8_hint_13 : decode cX8_hint 13 = .ok (.invokevirtual 263, 3) := by decide +kernel
theorem dX8_hint_16 : decode cX8_hint 16 = .ok (.aload_n 0, 1) := by decide +kernel
theorem dX8_hint_17 : decode cX8_hint 17 = .ok (.getfield 70, 3) := by decide +kernel
theorem dX8_hint_20 : decode cX8_hint 20 = .ok (.aload_n 0, 1) := by decide +kernel
theorem dX8_hint_21 : decode cX8_hint 21 = .ok (.getfield 42, 3) := by decide +kernel
theorem dX8_hint_24 : decode cX8_hint 24 = .ok (.invokevirtual 266, 3) := by decide +kernel
theorem dX8_hint_27 : decode cX8_hint 27 = .ok (.aload_n 0, 1) := by decide +kernel
theorem dX8_hint_28 : decode cX8_hint 28 = .ok (.getfield 70, 3) := by decide +kernel
theorem dX8_hint_31 : decode cX8_hint 31 = .ok (.aload_n 0, 1) := by decide +kernel
theorem dX8_hint_32 : decode cX8_hint 32 = .ok (.getfield 38, 3) := by decide +kernel
theorem dX8_hint_35 : decode cX8_hint 35 = .ok (.invokevirtual 266, 3) := by decide +kernel
theorem dX8_hint_38 : decode cX8_hint 38 = .ok (.iconst 0, 1) := by decide +kernel
theorem dX8_hint_39 : decode cX8_hint 39 = .ok (.istore_n 1, 1) := by decide +kernel
theorem dX8_hint_40 : decode cX8_hint 40 = .ok (.iload_n 1, 1) := by decide +kernel
theorem dX8_hint_41 : decode cX8_hint 41 = .ok (.aload_n 0, 1) := by decide +kernel
theorem dX8_hint_42 : decode cX8_hint 42 = .ok (.getfield 19, 3) := by decide +kernel
theorem dX8_hint_45 : decode cX8_hint 45 = .ok (.invokevirtual 140, 3) := by decide +kernel
theorem dX8_hint_48 : decode cX8_hint 48 = .ok (.if_icmp .ge 55, 3) := by decide +kernel
theorem dX8_hint_51 : decode cX8_hint 51 = .ok (.aload_n 0, 1) := by decide +kernel
theorem dX8_hint_52 : decode cX8_hint 52 = .ok (.getfield 50, 3) := by decide +kernel
theorem dX8_hint_55 : decode cX8_hint 55 = .ok (.iload_n 1, 1) := by decide +kernel
theorem dX8_hint_56 : decode cX8_hint 56 = .ok (.aload_n 0, 1) := by decide +kernel
theorem dX8_hint_57 : decode cX8_hint 57 = .ok (.getfield 70, 3) := by decide +kernel
theorem dX8_hint_60 : decode cX8_hint 60 = .ok (.getfield 184, 3) := by decide +kernel
theorem dX8_hint_63 : decode cX8_hint 63 = .ok (.iload_n 1, 1) := by decide +kernel
theorem dX8_hint_64 : decode cX8_hint 64 = .ok (.laload, 1) := by decide +kernel
theorem dX8_hint_65 : decode cX8_hint 65 = .ok (.invokevirtual 187, 3) := by decide +kernel
theorem dX8_hint_68 : decode cX8_hint 68 = .ok (.lstore_n 2, 1) := by decide +kernel
theorem dX8_hint_69 : decode cX8_hint 69 = .ok (.lload_n 2, 1) := by decide +kernel
theorem dX8_hint_70 : decode cX8_hint 70 = .ok (.lconst 0, 1) := by decide +kernel
theorem dX8_hint_71 : decode cX8_hint 71 = .ok (.lcmp, 1) := by decide +kernel
theorem dX8_hint_72 : decode cX8_hint 72 = .ok (.ifCond .ne 8, 3) := by decide +kernel
theorem dX8_hint_75 : decode cX8_hint 75 = .ok (.bipush (-2), 2) := by decide +kernel
theorem dX8_hint_77 : decode cX8_hint 77 = .ok (.iload_n 1, 1) := by decide +kernel
theorem dX8_hint_78 : decode cX8_hint 78 = .ok (.isub, 1) := by decide +kernel
theorem dX8_hint_79 : decode cX8_hint 79 = .ok (.ireturn, 1) := by decide +kernel
theorem dX8_hint_80 : decode cX8_hint 80 = .ok (.aload_n 0, 1) := by decide +kernel
theorem dX8_hint_81 : decode cX8_hint 81 = .ok (.iload_n 1, 1) := by decide +kernel
theorem dX8_hint_82 : decode cX8_hint 82 = .ok (.lload_n 2, 1) := by decide +kernel
theorem dX8_hint_83 : decode cX8_hint 83 = .ok (.invokevirtual 269, 3) := by decide +kernel
theorem dX8_hint_86 : decode cX8_hint 86 = .ok (.istore 4, 2) := by decide +kernel
theorem dX8_hint_88 : decode cX8_hint 88 = .ok (.iload 4, 2) := by decide +kernel
theorem dX8_hint_90 : decode cX8_hint 90 = .ok (.iconst (-1), 1) := by decide +kernel
theorem dX8_hint_91 : decode cX8_hint 91 = .ok (.if_icmp .eq 6, 3) := by decide +kernel
theorem dX8_hint_94 : decode cX8_hint 94 = .ok (.iload 4, 2) := by decide +kernel
theorem dX8_hint_96 : decode cX8_hint 96 = .ok (.ireturn, 1) := by decide +kernel
theorem dX8_hint_97 : decode cX8_hint 97 = .ok (.iinc 1 1, 3) := by decide +kernel
theorem dX8_hint_100 : decode cX8_hint 100 = .ok (.goto (-60), 3) := by decide +kernel
theorem dX8_hint_103 : decode cX8_hint 103 = .ok (.iconst (-1), 1) := by decide +kernel
theorem dX8_hint_104 : decode cX8_hint 104 = .ok (.ireturn, 1) := by decide +kernel
theorem dX8_draw_0 : decode cX8_draw 0 = .ok (.aload_n 0, 1) := by decide +kernel
theorem dX8_draw_1 : decode cX8_draw 1 = .ok (.invokevirtual 128, 3) := by decide +kernel
theorem dX8_draw_4 : decode cX8_draw 4 = .ok (.ifCond .ne 5, 3) := by decide +kernel
theorem dX8_draw_7 : decode cX8_draw 7 = .ok (.iconst (-1), 1) := by decide +kernel
theorem dX8_draw_8 : decode cX8_draw 8 = .ok (.ireturn, 1) := by decide +kernel
theorem dX8_draw_9 : decode cX8_draw 9 = .ok (.aload_n 0, 1) := by decide +kernel
theorem dX8_draw_10 : decode cX8_draw 10 = .ok (.invokevirtual 250, 3) := by decide +kernel
theorem dX8_draw_13 : decode cX8_draw 13 = .ok (.aload_n 0, 1) := by decide +kernel
theorem dX8_draw_14 : decode cX8_draw 14 = .ok (.getfield 19, 3) := by decide +kernel
theorem dX8_draw_17 : decode cX8_draw 17 = .ok (.aload_n 0, 1) := by decide +kernel
theorem dX8_draw_18 : decode cX8_draw 18 = .ok (.getfield 23, 3) := by decide +kernel
theorem dX8_draw_21 : decode cX8_draw 21 = .ok (.invokevirtual 108, 3) := by decide +kernel
theorem dX8_draw_24 : decode cX8_draw 24 = .ok (.aload_n 0, 1) := by decide +kernel
theorem dX8_draw_25 : decode cX8_draw 25 = .ok (.invokevirtual 114, 3) := by decide +kernel
theorem dX8_draw_28 : decode cX8_draw 28 = .ok (.aload_n 0, 1) := by decide +kernel
theorem dX8_draw_29 : decode cX8_draw 29 = .ok (.getfield 19, 3) := by decide +kernel
theorem dX8_draw_32 : decode cX8_draw 32 = .ok (.getfield 117, 3) := by decide +kernel
theorem dX8_draw_35 : decode cX8_draw 35 = .ok (.ireturn, 1) := by decide +kernel
theorem dX8_giveFirstUnlike_0 : decode cX8_giveFirstUnlike 0 = .ok (.iconst 0, 1) := by decide +kernel
theorem dX8_giveFirstUnlike_1 : decode cX8_giveFirstUnlike 1 = .ok (.istore_n 1, 1) := by decide +kernel
theorem dX8_giveFirstUnlike_2 : decode cX8_giveFirstUnlike 2 = .ok (.iload_n 1, 1) := by decide +kernel
theorem dX8_giveFirstUnlike_3 : decode cX8_giveFirstUnlike 3 = .ok (.aload_n 0, 1) := by decide +kernel
theorem dX8_giveFirstUnlike_4 : decode cX8_giveFirstUnlike 4 = .ok (.getfield 19, 3) := by decide +kernel
theorem dX8_giveFirstUnlike_7 : decode cX8_giveFirstUnlike 7 = .ok (.getfield 134, 3) := by decide +kernel
theorem dX8_giveFirstUnlike_10 : decode cX8_giveFirstUnlike 10 = .ok (.if_icmp .ge 72, 3) := by decide +kernel
theorem dX8_giveFirstUnlike_13 : decode cX8_giveFirstUnlike 13 = .ok (.iconst 0, 1) := by decide +kernel
theorem dX8_giveFirstUnlike_14 : decode cX8_giveFirstUnlike 14 = .ok (.istore_n 2, 1) := by decide +kernel
theorem dX8_giveFirstUnlike_15 : decode cX8_giveFirstUnlike 15 = .ok (.iload_n 2, 1) := by decide +kernel
theorem dX8_giveFirstUnlike_16 : decode cX8_giveFirstUnlike 16 = .ok (.aload_n 0, 1) := by decide +kernel
theorem dX8_giveFirstUnlike_17 : decode cX8_giveFirstUnlike 17 = .ok (.getfield 19, 3) := by decide +kernel
theorem dX8_giveFirstUnlike_20 : decode cX8_giveFirstUnlike 20 = .ok (.getfield 131, 3) := by decide +kernel
theorem dX8_giveFirstUnlike_23 : decode cX8_giveFirstUnlike 23 = .ok (.if_icmp .ge 53, 3) := by decide +kernel
theorem dX8_giveFirstUnlike_26 : decode cX8_giveFirstUnlike 26 = .ok (.aload_n 0, 1) := by decide +kernel
theorem dX8_giveFirstUnlike_27 : decode cX8_giveFirstUnlike 27 = .ok (.getfield 80, 3) := by decide +kernel
theorem dX8_giveFirstUnlike_30 : decode cX8_giveFirstUnlike 30 = .ok (.getfield 260, 3) := by decide +kernel
theorem dX8_giveFirstUnlike_33 : decode cX8_giveFirstUnlike 33 = .ok (.iload_n 2, 1) := by decide +kernel
theorem dX8_giveFirstUnlike_34 : decode cX8_giveFirstUnlike 34 = .ok (.iload_n 1, 1) := by decide +kernel
theorem dX8_giveFirstUnlike_35 : decode cX8_giveFirstUnlike 35 = .ok (.invokevirtual 177, 3) := by decide +kernel
theorem dX8_giveFirstUnlike_38 : decode cX8_giveFirstUnlike 38 = .ok (.aload_n 0, 1) := by decide +kernel
theorem dX8_giveFirstUnlike_39 : decode cX8_giveFirstUnlike 39 = .ok (.getfield 80, 3) := by decide +kernel
theorem dX8_giveFirstUnlike_42 : decode cX8_giveFirstUnlike 42 = .ok (.getfield 304, 3) := by decide +kernel
theorem dX8_giveFirstUnlike_45 : decode cX8_giveFirstUnlike 45 = .ok (.iload_n 2, 1) := by decide +kernel
theorem dX8_giveFirstUnlike_46 : decode cX8_giveFirstUnlike 46 = .ok (.iload_n 1, 1) := by decide +kernel
theorem dX8_giveFirstUnlike_47 : decode cX8_giveFirstUnlike 47 = .ok (.invokevirtual 177, 3) := by decide +kernel
theorem dX8_giveFirstUnlike_50 : decode cX8_giveFirstUnlike 50 = .ok (.if_icmp .eq 20, 3) := by decide +kernel
theorem dX8_giveFirstUnlike_53 : decode cX8_giveFirstUnlike 53 = .ok (.aload_n 0, 1) := by decide +kernel
theorem dX8_giveFirstUnlike_54 : decode cX8_giveFirstUnlike 54 = .ok (.iload_n 2, 1) := by decide +kernel
theorem dX8_giveFirstUnlike_55 : decode cX8_giveFirstUnlike 55 = .ok (.iload_n 1, 1) := by decide +kernel
theorem dX8_giveFirstUnlike_56 : decode cX8_giveFirstUnlike 56 = .ok (.aload_n 0, 1) := by decide +kernel
theorem dX8_giveFirstUnlike_57 : decode cX8_giveFirstUnlike 57 = .ok (.getfield 42, 3) := by decide +kernel
theorem dX8_giveFirstUnlike_60 : decode cX8_giveFirstUnlike 60 = .ok (.iload_n 2, 1) := by decide +kernel
theorem dX8_giveFirstUnlike_61 : decode cX8_giveFirstUnlike 61 = .ok (.iload_n 1, 1) := by decide +kernel
theorem dX8_giveFirstUnlike_62 : decode cX8_giveFirstUnlike 62 = .ok (.invokevirtual 285, 3) := by decide +kernel
theorem dX8_giveFirstUnlike_65 : decode cX8_giveFirstUnlike 65 = .ok (.invokevirtual 307, 3) := by decide +kernel
theorem dX8_giveFirstUnlike_68 : decode cX8_giveFirstUnlike 68 = .ok (.pop, 1) := by decide +kernel
theorem dX8_giveFirstUnlike_69 : decode cX8_giveFirstUnlike 69 = .ok (.return_, 1) := by decide +kernel
theorem dX8_giveFirstUnlike_70 : decode cX8_giveFirstUnlike 70 = .ok (.iinc 2 1, 3) := by decide +kernel
theorem dX8_giveFirstUnlike_73 : decode cX8_giveFirstUnlike 73 = .ok (.goto (-58), 3) := by decide +kernel
theorem dX8_giveFirstUnlike_76 : decode cX8_giveFirstUnlike 76 = .ok (.iinc 1 1, 3) := by decide +kernel
theorem dX8_giveFirstUnlike_79 : decode cX8_giveFirstUnlike 79 = .ok (.goto (-77), 3) := by decide +kernel
theorem dX8_giveFirstUnlike_82 : decode cX8_giveFirstUnlike 82 = .ok (.return_, 1) := by decide +kernel
theorem dX8_mend_0 : decode cX8_mend 0 = .ok (.aload_n 0, 1) := by decide +kernel
theorem dX8_mend_1 : decode cX8_mend 1 = .ok (.invokevirtual 272, 3) := by decide +kernel
theorem dX8_mend_4 : decode cX8_mend 4 = .ok (.iconst 1, 1) := by decide +kernel
theorem dX8_mend_5 : decode cX8_mend 5 = .ok (.if_icmp .eq 5, 3) := by decide +kernel
theorem dX8_mend_8 : decode cX8_mend 8 = .ok (.iconst (-1), 1) := by decide +kernel
theorem dX8_mend_9 : decode cX8_mend 9 = .ok (.ireturn, 1) := by decide +kernel
theorem dX8_mend_10 : decode cX8_mend 10 = .ok (.iconst 0, 1) := by decide +kernel
theorem dX8_mend_11 : decode cX8_mend 11 = .ok (.istore_n 1, 1) := by decide +kernel
theorem dX8_mend_12 : decode cX8_mend 12 = .ok (.iconst 0, 1) := by decide +kernel
theorem dX8_mend_13 : decode cX8_mend 13 = .ok (.istore_n 2, 1) := by decide +kernel
theorem dX8_mend_14 : decode cX8_mend 14 = .ok (.iload_n 2, 1) := by decide +kernel
theorem dX8_mend_15 : decode cX8_mend 15 = .ok (.sipush 144, 3) := by decide +kernel
theorem dX8_mend_18 : decode cX8_mend 18 = .ok (.if_icmp .gt 61, 3) := by decide +kernel
theorem dX8_mend_21 : decode cX8_mend 21 = .ok (.aload_n 0, 1) := by decide +kernel
theorem dX8_mend_22 : decode cX8_mend 22 = .ok (.getfield 59, 3) := by decide +kernel
theorem dX8_mend_25 : decode cX8_mend 25 = .ok (.aload_n 0, 1) := by decide +kernel
theorem dX8_mend_26 : decode cX8_mend 26 = .ok (.getfield 38, 3) := by decide +kernel
theorem dX8_mend_29 : decode cX8_mend 29 = .ok (.iconst 2, 1) := by decide +kernel
theorem dX8_mend_30 : decode cX8_mend 30 = .ok (.sipush 400, 3) := by decide +kernel
theorem dX8_mend_33 : decode cX8_mend 33 = .ok (.aload_n 0, 1) := by decide +kernel
theorem dX8_mend_34 : decode cX8_mend 34 = .ok (.getfield 80, 3) := by decide +kernel
theorem dX8_mend_37 : decode cX8_mend 37 = .ok (.invokevirtual 226, 3) := by decide +kernel
theorem dX8_mend_40 : decode cX8_mend 40 = .ok (.aload_n 0, 1) := by decide +kernel
theorem dX8_mend_41 : decode cX8_mend 41 = .ok (.getfield 80, 3) := by decide +kernel
theorem dX8_mend_44 : decode cX8_mend 44 = .ok (.getfield 230, 3) := by decide +kernel
theorem dX8_mend_47 : decode cX8_mend 47 = .ok (.ifCond .eq 6, 3) := by decide +kernel
theorem dX8_mend_50 : decode cX8_mend 50 = .ok (.bipush (-2), 2) := by decide +kernel
theorem dX8_mend_52 : decode cX8_mend 52 = .ok (.ireturn, 1) := by decide +kernel
theorem dX8_mend_53 : decode cX8_mend 53 = .ok (.aload_n 0, 1) := by decide +kernel
theorem dX8_mend_54 : decode cX8_mend 54 = .ok (.getfield 80, 3) := by decide +kernel
theorem dX8_mend_57 : decode cX8_mend 57 = .ok (.getfield 233, 3) := by decide +kernel
theorem dX8_mend_60 : decode cX8_mend 60 = .ok (.iconst 2, 1) := by decide +kernel
theorem dX8_mend_61 : decode cX8_mend 61 = .ok (.if_icmp .ge 5, 3) := by decide +kernel
theorem dX8_mend_64 : decode cX8_mend 64 = .ok (.iload_n 1, 1) := by decide +kernel
theorem dX8_mend_65 : decode cX8_mend 65 = .ok (.ireturn, 1) := by decide +kernel
theorem dX8_mend_66 : decode cX8_mend 66 = .ok (.aload_n 0, 1) := by decide +kernel
theorem dX8_mend_67 : decode cX8_mend 67 = .ok (.invokevirtual 275, 3) := by decide +kernel
theorem dX8_mend_70 : decode cX8_mend 70 = .ok (.iinc 1 1, 3) := by decide +kernel
theorem dX8_mend_73 : decode cX8_mend 73 = .ok (.iinc 2 1, 3) := by decide +kernel
theorem dX8_mend_76 : decode cX8_mend 76 = .ok (.goto (-62), 3) := by decide +kernel
theorem dX8_mend_79 : decode cX8_mend 79 = .ok (.iload_n 1, 1) := by decide +kernel
theorem dX8_mend_80 : decode cX8_mend 80 = .ok (.ireturn, 1) := by decide +kernel
def f_X8_feed (a1 : Int32) (a2 : Int32) (a3 : Int32) (a4 : Int32) (a5 : Int32) (s : St) : Option (Int32 × St) :=
  if ((s.1 1 1) + (20 : Int32)) ≤ (900 : Int32) then (
    Option.bind (f_X6_append a1 s) fun s2 =>
    Option.bind (f_X6_append a2 s2) fun s3 =>
    Option.bind (f_X6_append a3 s3) fun s4 =>
    Option.bind (f_X6_append a4 s4) fun s5 =>
    Option.bind (f_X6_append a5 s5) fun s6 =>
    some (s6.1 1 1, s6))
  else (
    some ((-1 : Int32), s))
set_option maxRecDepth 100000 in
set_option maxHeartbeats 4000000 in
theorem ok_X8_feed {a1 : Int32} {a2 : Int32} {a3 : Int32} {a4 : Int32} {a5 : Int32} {s : St} {r : Int32 × St} (h : f_X8_feed a1 a2 a3 a4 a5 s = some r) : Ct 1 m_X8_feed [.ref 0, .int a1, .int a2, .int a3, .int a4, .int a5] s (some (.int r.1)) r.2 := by
  unfold f_X8_feed at h
  refine ct_of [some (.ref 0), some (.int a1), some (.int a2), some (.int a3), some (.int a4), some (.int a5)] 0 (by decide) rfl (Nat.le_of_ble_eq_true rfl) ?_
  refine wp_aload_n (i := 0) dX8_feed_0 rfl rfl ?_
  refine wp_getR (t := 1) dX8_feed_1 fl_X8_12 rfl rfl ?_
  refine wp_getI dX8_feed_4 fl_X8_91 rfl rfl ?_
  refine wp_bipush (v := 20) dX8_feed_7 (by decide +kernel) ?_
  refine wp_iadd dX8_feed_9 ?_
  refine wp_sipush (v := 900) dX8_feed_10 (by decide +kernel) ?_
  refine wp_icmp_le (tgt := 18) dX8_feed_13 (by decide) (fun c1 => ?_) (fun c1 => ?_)
  · rw [if_pos c1] at h
    refine wp_aload_n (i := 0) dX8_feed_18 rfl rfl ?_
    refine wp_getR (t := 1) dX8_feed_19 fl_X8_12 rfl rfl ?_
    refine wp_iload_n (i := 1) dX8_feed_22 rfl rfl ?_
    obtain ⟨s2, es2, h⟩ := ob h
    refine wp_cVv (N := m_X6_append) (As := [.int a1]) (rest := []) dX8_feed_23 ml_X8_94 mo_X6_append vo_X6_append rfl rfl (ok_X6_append es2) (by decide) (Nat.le_of_ble_eq_true rfl) ?_
    refine wp_aload_n (i := 0) dX8_feed_26 rfl rfl ?_
    refine wp_getR (t := 1) dX8_feed_27 fl_X8_12 rfl rfl ?_
    refine wp_iload_n (i := 2) dX8_feed_30 rfl rfl ?_
    obtain ⟨s3, es3, h⟩ := ob h
    refine wp_cVv (N := m_X6_append) (As := [.int a2]) (rest := []) dX8_feed_31 ml_X8_94 mo_X6_append vo_X6_append rfl rfl (ok_X6_append es3) (by decide) (Nat.le_of_ble_eq_true rfl) ?_
    refine wp_aload_n (i := 0) dX8_feed_34 rfl rfl ?_
    refine wp_getR (t := 1) dX8_feed_35 fl_X8_12 rfl rfl ?_
    refine wp_iload_n (i := 3) dX8_feed_38 rfl rfl ?_
    obtain ⟨s4, es4, h⟩ := ob h
    refine wp_cVv (N := m_X6_append) (As := [.int a3]) (rest := []) dX8_feed_39 ml_X8_94 mo_X6_append vo_X6_append rfl rfl (ok_X6_append es4) (by decide) (Nat.le_of_ble_eq_true rfl) ?_
    refine wp_aload_n (i := 0) dX8_feed_42 rfl rfl ?_
    refine wp_getR (t := 1) dX8_feed_43 fl_X8_12 rfl rfl ?_
    refine wp_iload dX8_feed_46 rfl ?_
    obtain ⟨s5, es5, h⟩ := ob h
    refine wp_cVv (N := m_X6_append) (As := [.int a4]) (rest := []) dX8_feed_48 ml_X8_94 mo_X6_append vo_X6_append rfl rfl (ok_X6_append es5) (by decide) (Nat.le_of_ble_eq_true rfl) ?_
    refine wp_aload_n (i := 0) dX8_feed_51 rfl rfl ?_
    refine wp_getR (t := 1) dX8_feed_52 fl_X8_12 rfl rfl ?_
    refine wp_iload dX8_feed_55 rfl ?_
    obtain ⟨s6, es6, h⟩ := ob h
    refine wp_cVv (N := m_X6_append) (As := [.int a5]) (rest := []) dX8_feed_57 ml_X8_94 mo_X6_append vo_X6_append rfl rfl (ok_X6_append es6) (by decide) (Nat.le_of_ble_eq_true rfl) ?_
    refine wp_aload_n (i := 0) dX8_feed_60 rfl rfl ?_
    refine wp_getR (t := 1) dX8_feed_61 fl_X8_12 rfl rfl ?_
    refine wp_getI dX8_feed_64 fl_X8_91 rfl rfl ?_
    obtain rfl := Option.some.inj h
    exact wp_iret dX8_feed_67 rfl rfl
  · rw [if_neg c1] at h
    refine wp_iconst (v := -1) dX8_feed_16 (by decide +kernel) ?_
    obtain rfl := Option.some.inj h
    exact wp_iret dX8_feed_17 rfl rfl
def f_X8_end (a1 : Int32) (s : St) : Option (Int32 × St) :=
  if a1 < 0 then (
    some ((-1 : Int32), s))
  else (
    if a1 ≤ (s.1 1 1) then (
      Option.bind (some (sF s 1 1 a1)) fun s3 =>
      some (a1, s3))
    else (
      some ((-1 : Int32), s)))
set_option maxRecDepth 100000 in
set_option maxHeartbeats 4000000 in
theorem ok_X8_end {a1 : Int32} {s : St} {r : Int32 × St} (h : f_X8_end a1 s = some r) : Ct 0 m_X8_end [.ref 0, .int a1] s (some (.int r.1)) r.2 := by
  unfold f_X8_end at h
  refine ct_of [some (.ref 0), some (.int a1)] 0 (by decide) rfl (Nat.le_of_ble_eq_true rfl) ?_
  refine wp_iload_n (i := 1) dX8_end_0 rfl rfl ?_
  refine wp_if_lt (tgt := 15) dX8_end_1 (by decide) (fun c1 => ?_) (fun c1 => ?_)
  · rw [if_pos c1] at h
    refine wp_iconst (v := -1) dX8_end_15 (by decide +kernel) ?_
    obtain rfl := Option.some.inj h
    exact wp_iret dX8_end_16 rfl rfl
  · rw [if_neg c1] at h
    refine wp_iload_n (i := 1) dX8_end_4 rfl rfl ?_
    refine wp_aload_n (i := 0) dX8_end_5 rfl rfl ?_
    refine wp_getR (t := 1) dX8_end_6 fl_X8_12 rfl rfl ?_
    refine wp_getI dX8_end_9 fl_X8_91 rfl rfl ?_
    refine wp_icmp_le (tgt := 17) dX8_end_12 (by decide) (fun c2 => ?_) (fun c2 => ?_)
    · rw [if_pos c2] at h
      refine wp_aload_n (i := 0) dX8_end_17 rfl rfl ?_
      refine wp_getR (t := 1) dX8_end_18 fl_X8_12 rfl rfl ?_
      refine wp_iload_n (i := 1) dX8_end_21 rfl rfl ?_
      obtain ⟨s3, es3, h⟩ := ob h
      refine wp_putI2 dX8_end_22 fl_X8_91 rfl rfl rfl rfl es3 ?_
      refine wp_iload_n (i := 1) dX8_end_25 rfl rfl ?_
      obtain rfl := Option.some.inj h
      exact wp_iret dX8_end_26 rfl rfl
    · rw [if_neg c2] at h
      refine wp_iconst (v := -1) dX8_end_15 (by decide +kernel) ?_
      obtain rfl := Option.some.inj h
      exact wp_iret dX8_end_16 rfl rfl
def f_X8_beginPuzzle  (s : St) : Option (St) :=
  Option.bind (f_X2_clear 12 s) fun s1 =>
  Option.bind (some (sF s1 0 12 (0 : Int32))) fun s2 =>
  Option.bind (f_X1_forgetAll 33 s2) fun s3 =>
  some s3
set_option maxRecDepth 100000 in
set_option maxHeartbeats 4000000 in
theorem ok_X8_beginPuzzle  {s : St} {r : St} (h : f_X8_beginPuzzle  s = some r) : Ct 2 m_X8_beginPuzzle [.ref 0] s none r := by
  unfold f_X8_beginPuzzle at h
  refine ct_of [some (.ref 0)] 0 (by decide) rfl (Nat.le_of_ble_eq_true rfl) ?_
  refine wp_aload_n (i := 0) dX8_beginPuzzle_0 rfl rfl ?_
  refine wp_getR (t := 12) dX8_beginPuzzle_1 fl_X8_38 rfl rfl ?_
  obtain ⟨s1, es1, h⟩ := ob h
  refine wp_cVv (N := m_X2_clear) (As := []) (rest := []) dX8_beginPuzzle_4 ml_X8_111 mo_X2_clear vo_X2_clear rfl rfl (ok_X2_clear es1) (by decide) (Nat.le_of_ble_eq_true rfl) ?_
  refine wp_aload_n (i := 0) dX8_beginPuzzle_7 rfl rfl ?_
  refine wp_iconst (v := 0) dX8_beginPuzzle_8 (by decide +kernel) ?_
  obtain ⟨s2, es2, h⟩ := ob h
  refine wp_putZ2 dX8_beginPuzzle_9 fl_X8_83 rfl rfl rfl rfl (Or.inl rfl) es2 ?_
  refine wp_aload_n (i := 0) dX8_beginPuzzle_12 rfl rfl ?_
  refine wp_getR (t := 33) dX8_beginPuzzle_13 fl_X8_76 rfl rfl ?_
  obtain ⟨s3, es3, h⟩ := ob h
  refine wp_cVv (N := m_X1_forgetAll) (As := []) (rest := []) dX8_beginPuzzle_16 ml_X8_278 mo_X1_forgetAll vo_X1_forgetAll rfl rfl (ok_X1_forgetAll es3) (by decide) (Nat.le_of_ble_eq_true rfl) ?_
  obtain rfl := Option.some.inj h
  exact wp_vret dX8_beginPuzzle_19 rfl
def f_X8_load  (s : St) : Option (Int32 × St) :=
  Option.bind (f_X7_readsAll s) fun r1 =>
  Option.bind (some (sF r1.2 1 1 (0 : Int32))) fun s2 =>
  Option.bind (some (sF s2 0 13 (s2.1 11 2))) fun s3 =>
  if r1.1 = 0 then (
    some ((-1 : Int32) - (s3.1 11 3), s3))
  else (
    Option.bind (f_X0_copy 3 7 s3) fun s5 =>
    Option.bind (f_X2_clear 14 s5) fun s6 =>
    Option.bind (f_X8_beginPuzzle s6) fun s7 =>
    some (s7.1 3 6, s7))
set_option maxRecDepth 100000 in
set_option maxHeartbeats 4000000 in
theorem ok_X8_load  {s : St} {r : Int32 × St} (h : f_X8_load  s = some r) : Ct 6 m_X8_load [.ref 0] s (some (.int r.1)) r.2 := by
  unfold f_X8_load at h
  refine ct_of [some (.ref 0), none] 1 (by decide) rfl (Nat.le_of_ble_eq_true rfl) ?_
  refine wp_aload_n (i := 0) dX8_load_0 rfl rfl ?_
  refine wp_getR (t := 11) dX8_load_1 fl_X8_31 rfl rfl ?_
  obtain ⟨r1, er1, h⟩ := ob h
  refine wp_cVi (N := m_X7_readsAll) (As := []) (rest := []) dX8_load_4 ml_X8_98 mo_X7_readsAll vo_X7_readsAll rfl rfl (ok_X7_readsAll er1) (by decide) (Nat.le_of_ble_eq_true rfl) ?_
  refine wp_istore_n (ls' := [some (.ref 0), some (.int r1.1)]) dX8_load_7 rfl (by decide) rfl rfl ?_
  refine wp_aload_n (i := 0) dX8_load_8 rfl rfl ?_
  refine wp_getR (t := 1) dX8_load_9 fl_X8_12 rfl rfl ?_
  refine wp_iconst (v := 0) dX8_load_12 (by decide +kernel) ?_
  obtain ⟨s2, es2, h⟩ := ob h
  refine wp_putI2 dX8_load_13 fl_X8_91 rfl rfl rfl rfl es2 ?_
  refine wp_aload_n (i := 0) dX8_load_16 rfl rfl ?_
  refine wp_aload_n (i := 0) dX8_load_17 rfl rfl ?_
  refine wp_getR (t := 11) dX8_load_18 fl_X8_31 rfl rfl ?_
  refine wp_getI dX8_load_21 fl_X8_102 rfl rfl ?_
  obtain ⟨s3, es3, h⟩ := ob h
  refine wp_putI2 dX8_load_24 fl_X8_87 rfl rfl rfl rfl es3 ?_
  refine wp_iload_n (i := 1) dX8_load_27 rfl rfl ?_
  refine wp_if_ne (tgt := 41) dX8_load_28 (by decide) (fun c4 => ?_) (fun c4 => ?_)
  · rw [if_neg c4] at h
    refine wp_aload_n (i := 0) dX8_load_41 rfl rfl ?_
    refine wp_getR (t := 3) dX8_load_42 fl_X8_19 rfl rfl ?_
    refine wp_aload_n (i := 0) dX8_load_45 rfl rfl ?_
    refine wp_getR (t := 7) dX8_load_46 fl_X8_23 rfl rfl ?_
    obtain ⟨s5, es5, h⟩ := ob h
    refine wp_cVv (N := m_X0_copy) (As := [.ref 7]) (rest := []) dX8_load_49 ml_X8_108 mo_X0_copy vo_X0_copy rfl rfl (ok_X0_copy es5) (by decide) (Nat.le_of_ble_eq_true rfl) ?_
    refine wp_aload_n (i := 0) dX8_load_52 rfl rfl ?_
    refine wp_getR (t := 14) dX8_load_53 fl_X8_42 rfl rfl ?_
    obtain ⟨s6, es6, h⟩ := ob h
    refine wp_cVv (N := m_X2_clear) (As := []) (rest := []) dX8_load_56 ml_X8_111 mo_X2_clear vo_X2_clear rfl rfl (ok_X2_clear es6) (by decide) (Nat.le_of_ble_eq_true rfl) ?_
    refine wp_aload_n (i := 0) dX8_load_59 rfl rfl ?_
    obtain ⟨s7, es7, h⟩ := ob h
    refine wp_cVv (N := m_X8_beginPuzzle) (As := []) (rest := []) dX8_load_60 ml_X8_114 mo_X8_beginPuzzle vo_X8_beginPuzzle rfl rfl (ok_X8_beginPuzzle es7) (by decide) (Nat.le_of_ble_eq_true rfl) ?_
    refine wp_aload_n (i := 0) dX8_load_63 rfl rfl ?_
    refine wp_getR (t := 3) dX8_load_64 fl_X8_19 rfl rfl ?_
    refine wp_getI dX8_load_67 fl_X8_117 rfl rfl ?_
    obtain rfl := Option.some.inj h
    exact wp_iret dX8_load_70 rfl rfl
  · rw [if_pos c4] at h
    refine wp_iconst (v := -1) dX8_load_31 (by decide +kernel) ?_
    refine wp_aload_n (i := 0) dX8_load_32 rfl rfl ?_
    refine wp_getR (t := 11) dX8_load_33 fl_X8_31 rfl rfl ?_
    refine wp_getI dX8_load_36 fl_X8_105 rfl rfl ?_
    refine wp_isub dX8_load_39 ?_
    obtain rfl := Option.some.inj h
    exact wp_iret dX8_load_40 rfl rfl
def f_X8_fault  (s : St) : Option (Int32 × St) :=
  some (s.1 0 13, s)
set_option maxRecDepth 100000 in
set_option maxHeartbeats 4000000 in
theorem ok_X8_fault  {s : St} {r : Int32 × St} (h : f_X8_fault  s = some r) : Ct 0 m_X8_fault [.ref 0] s (some (.int r.1)) r.2 := by
  unfold f_X8_fault at h
  refine ct_of [some (.ref 0)] 0 (by decide) rfl (Nat.le_of_ble_eq_true rfl) ?_
  refine wp_aload_n (i := 0) dX8_fault_0 rfl rfl ?_
  refine wp_getI dX8_fault_1 fl_X8_87 rfl rfl ?_
  obtain rfl := Option.some.inj h
  exact wp_iret dX8_fault_4 rfl rfl
def f_X8_blank (a1 : Int32) (a2 : Int32) (a3 : Int32) (s : St) : Option (Int32 × St) :=
  Option.bind (f_X8_isSize a1 (12 : Int32) s) fun r1 =>
  if r1.1 = 0 then (
    some ((0 : Int32), r1.2))
  else (
    Option.bind (f_X8_isSize a2 (12 : Int32) r1.2) fun r3 =>
    if r3.1 = 0 then (
      some ((0 : Int32), r3.2))
    else (
      Option.bind (f_X8_isSize a3 (3 : Int32) r3.2) fun r5 =>
      if r5.1 = 0 then (
        some ((0 : Int32), r5.2))
      else (
        Option.bind (f_X0_begin 3 a1 a2 a3 r5.2) fun s7 =>
        Option.bind (f_X2_clear 14 s7) fun s8 =>
        Option.bind (f_X8_beginPuzzle s8) fun s9 =>
        some ((1 : Int32), s9))))
set_option maxRecDepth 100000 in
set_option maxHeartbeats 4000000 in
theorem ok_X8_blank {a1 : Int32} {a2 : Int32} {a3 : Int32} {s : St} {r : Int32 × St} (h : f_X8_blank a1 a2 a3 s = some r) : Ct 3 m_X8_blank [.ref 0, .int a1, .int a2, .int a3] s (some (.int r.1)) r.2 := by
  unfold f_X8_blank at h
  refine ct_of [some (.ref 0), some (.int a1), some (.int a2), some (.int a3)] 0 (by decide) rfl (Nat.le_of_ble_eq_true rfl) ?_
  refine wp_iload_n (i := 1) dX8_blank_0 rfl rfl ?_
  refine wp_bipush (v := 12) dX8_blank_1 (by decide +kernel) ?_
  obtain ⟨r1, er1, h⟩ := ob h
  refine wp_cSi (N := m_X8_isSize) (As := [.int a1, .int (12 : Int32)]) (rest := []) dX8_blank_3 ml_X8_120 mo_X8_isSize vo_X8_isSize rfl (ok_X8_isSize er1) (by decide) (Nat.le_of_ble_eq_true rfl) ?_
  refine wp_if_eq (tgt := 26) dX8_blank_6 (by decide) (fun c2 => ?_) (fun c2 => ?_)
  · rw [if_pos c2] at h
    refine wp_iconst (v := 0) dX8_blank_26 (by decide +kernel) ?_
    obtain rfl := Option.some.inj h
    exact wp_iret dX8_blank_27 rfl (narrow_z (Or.inl rfl)).1
  · rw [if_neg c2] at h
    refine wp_iload_n (i := 2) dX8_blank_9 rfl rfl ?_
    refine wp_bipush (v := 12) dX8_blank_10 (by decide +kernel) ?_
    obtain ⟨r3, er3, h⟩ := ob h
    refine wp_cSi (N := m_X8_isSize) (As := [.int a2, .int (12 : Int32)]) (rest := []) dX8_blank_12 ml_X8_120 mo_X8_isSize vo_X8_isSize rfl (ok_X8_isSize er3) (by decide) (Nat.le_of_ble_eq_true rfl) ?_
    refine wp_if_eq (tgt := 26) dX8_blank_15 (by decide) (fun c4 => ?_) (fun c4 => ?_)
    · rw [if_pos c4] at h
      refine wp_iconst (v := 0) dX8_blank_26 (by decide +kernel) ?_
      obtain rfl := Option.some.inj h
      exact wp_iret dX8_blank_27 rfl (narrow_z (Or.inl rfl)).1
    · rw [if_neg c4] at h
      refine wp_iload_n (i := 3) dX8_blank_18 rfl rfl ?_
      refine wp_iconst (v := 3) dX8_blank_19 (by decide +kernel) ?_
      obtain ⟨r5, er5, h⟩ := ob h
      refine wp_cSi (N := m_X8_isSize) (As := [.int a3, .int (3 : Int32)]) (rest := []) dX8_blank_20 ml_X8_120 mo_X8_isSize vo_X8_isSize rfl (ok_X8_isSize er5) (by decide) (Nat.le_of_ble_eq_true rfl) ?_
      refine wp_if_ne (tgt := 28) dX8_blank_23 (by decide) (fun c6 => ?_) (fun c6 => ?_)
      · rw [if_neg c6] at h
        refine wp_aload_n (i := 0) dX8_blank_28 rfl rfl ?_
        refine wp_getR (t := 3) dX8_blank_29 fl_X8_19 rfl rfl ?_
        refine wp_iload_n (i := 1) dX8_blank_32 rfl rfl ?_
        refine wp_iload_n (i := 2) dX8_blank_33 rfl rfl ?_
        refine wp_iload_n (i := 3) dX8_blank_34 rfl rfl ?_
        obtain ⟨s7, es7, h⟩ := ob h
        refine wp_cVv (N := m_X0_begin) (As := [.int a1, .int a2, .int a3]) (rest := []) dX8_blank_35 ml_X8_124 mo_X0_begin vo_X0_begin rfl rfl (ok_X0_begin es7) (by decide) (Nat.le_of_ble_eq_true rfl) ?_
        refine wp_aload_n (i := 0) dX8_blank_38 rfl rfl ?_
        refine wp_getR (t := 14) dX8_blank_39 fl_X8_42 rfl rfl ?_
        obtain ⟨s8, es8, h⟩ := ob h
        refine wp_cVv (N := m_X2_clear) (As := []) (rest := []) dX8_blank_42 ml_X8_111 mo_X2_clear vo_X2_clear rfl rfl (ok_X2_clear es8) (by decide) (Nat.le_of_ble_eq_true rfl) ?_
        refine wp_aload_n (i := 0) dX8_blank_45 rfl rfl ?_
        obtain ⟨s9, es9, h⟩ := ob h
        refine wp_cVv (N := m_X8_beginPuzzle) (As := []) (rest := []) dX8_blank_46 ml_X8_114 mo_X8_beginPuzzle vo_X8_beginPuzzle rfl rfl (ok_X8_beginPuzzle es9) (by decide) (Nat.le_of_ble_eq_true rfl) ?_
        refine wp_iconst (v := 1) dX8_blank_49 (by decide +kernel) ?_
        obtain rfl := Option.some.inj h
        exact wp_iret dX8_blank_50 rfl (narrow_z (Or.inr rfl)).1
      · rw [if_pos c6] at h
        refine wp_iconst (v := 0) dX8_blank_26 (by decide +kernel) ?_
        obtain rfl := Option.some.inj h
        exact wp_iret dX8_blank_27 rfl (narrow_z (Or.inl rfl)).1
def f_X8_hasPuzzle  (s : St) : Option (Int32 × St) :=
  if (s.1 3 3) ≤ 0 then (
    some ((0 : Int32), s))
  else (
    some ((1 : Int32), s))
set_option maxRecDepth 100000 in
set_option maxHeartbeats 4000000 in
theorem ok_X8_hasPuzzle  {s : St} {r : Int32 × St} (h : f_X8_hasPuzzle  s = some r) : Ct 0 m_X8_hasPuzzle [.ref 0] s (some (.int r.1)) r.2 := by
  unfold f_X8_hasPuzzle at h
  refine ct_of [some (.ref 0)] 0 (by decide) rfl (Nat.le_of_ble_eq_true rfl) ?_
  refine wp_aload_n (i := 0) dX8_hasPuzzle_0 rfl rfl ?_
  refine wp_getR (t := 3) dX8_hasPuzzle_1 fl_X8_19 rfl rfl ?_
  refine wp_getI dX8_hasPuzzle_4 fl_X8_131 rfl rfl ?_
  refine wp_if_le (tgt := 14) dX8_hasPuzzle_7 (by decide) (fun c1 => ?_) (fun c1 => ?_)
  · rw [if_pos c1] at h
    refine wp_iconst (v := 0) dX8_hasPuzzle_14 (by decide +kernel) ?_
    obtain rfl := Option.some.inj h
    exact wp_iret dX8_hasPuzzle_15 rfl (narrow_z (Or.inl rfl)).1
  · rw [if_neg c1] at h
    refine wp_iconst (v := 1) dX8_hasPuzzle_10 (by decide +kernel) ?_
    refine wp_goto (tgt := 15) dX8_hasPuzzle_11 (by decide) ?_
    obtain rfl := Option.some.inj h
    exact wp_iret dX8_hasPuzzle_15 rfl (narrow_z (Or.inr rfl)).1
def f_X8_about (a1 : Int32) (s : St) : Option (Int32 × St) :=
  Option.bind (f_X8_hasPuzzle s) fun r1 =>
  if r1.1 = 0 then (
    some ((-1 : Int32), r1.2))
  else (
    if a1 = 0 then (
      some (r1.2.1 3 3, r1.2))
    else
    if a1 = 1 then (
      some (r1.2.1 3 4, r1.2))
    else
    if a1 = 2 then (
      some (r1.2.1 3 5, r1.2))
    else
    if a1 = 3 then (
      Option.bind (f_X0_lines 3 r1.2) fun r7 =>
      some (r7.1, r7.2))
    else
    if a1 = 4 then (
      some (r1.2.1 3 6, r1.2))
    else
    if a1 = 5 then (
      some (r1.2.1 12 1, r1.2))
    else
    if a1 = 6 then (
      some (r1.2.1 14 1, r1.2))
    else
    if a1 = 7 then (
      if (r1.2.1 0 12) = 0 then (
        some ((0 : Int32), r1.2))
      else (
        Option.bind (f_X4_countSingles 29 r1.2) fun r13 =>
        some (r13.1, r13.2)))
    else (
      some ((-1 : Int32), r1.2)))
set_option maxRecDepth 100000 in
set_option maxHeartbeats 4000000 in
theorem ok_X8_about {a1 : Int32} {s : St} {r : Int32 × St} (h : f_X8_about a1 s = some r) : Ct 3 m_X8_about [.ref 0, .int a1] s (some (.int r.1)) r.2 := by
  unfold f_X8_about at h
  refine ct_of [some (.ref 0), some (.int a1)] 0 (by decide) rfl (Nat.le_of_ble_eq_true rfl) ?_
  refine wp_aload_n (i := 0) dX8_about_0 rfl rfl ?_
  obtain ⟨r1, er1, h⟩ := ob h
  refine wp_cVi (N := m_X8_hasPuzzle) (As := []) (rest := []) dX8_about_1 ml_X8_128 mo_X8_hasPuzzle vo_X8_hasPuzzle rfl rfl (ok_X8_hasPuzzle er1) (by decide) (Nat.le_of_ble_eq_true rfl) ?_
  refine wp_if_ne (tgt := 9) dX8_about_4 (by decide) (fun c2 => ?_) (fun c2 => ?_)
  · rw [if_neg c2] at h
    refine wp_iload_n (i := 1) dX8_about_9 rfl rfl ?_
    by_cases c3 : a1 = 0
    · rw [if_pos c3] at h
      refine wp_tIn (tgt := 56) (off := 46) dX8_about_10 (by rw [c3]; decide +kernel) (by rw [c3]; decide +kernel) (by rw [c3]; decide +kernel) (by decide) ?_
      refine wp_aload_n (i := 0) dX8_about_56 rfl rfl ?_
      refine wp_getR (t := 3) dX8_about_57 fl_X8_19 rfl rfl ?_
      refine wp_getI dX8_about_60 fl_X8_131 rfl rfl ?_
      obtain rfl := Option.some.inj h
      exact wp_iret dX8_about_63 rfl rfl
    rw [if_neg c3] at h
    by_cases c4 : a1 = 1
    · rw [if_pos c4] at h
      refine wp_tIn (tgt := 64) (off := 54) dX8_about_10 (by rw [c4]; decide +kernel) (by rw [c4]; decide +kernel) (by rw [c4]; decide +kernel) (by decide) ?_
      refine wp_aload_n (i := 0) dX8_about_64 rfl rfl ?_
      refine wp_getR (t := 3) dX8_about_65 fl_X8_19 rfl rfl ?_
      refine wp_getI dX8_about_68 fl_X8_134 rfl rfl ?_
      obtain rfl := Option.some.inj h
      exact wp_iret dX8_about_71 rfl rfl
    rw [if_neg c4] at h
    by_cases c5 : a1 = 2
    · rw [if_pos c5] at h
      refine wp_tIn (tgt := 72) (off := 62) dX8_about_10 (by rw [c5]; decide +kernel) (by rw [c5]; decide +kernel) (by rw [c5]; decide +kernel) (by decide) ?_
      refine wp_aload_n (i := 0) dX8_about_72 rfl rfl ?_
      refine wp_getR (t := 3) dX8_about_73 fl_X8_19 rfl rfl ?_
      refine wp_getI dX8_about_76 fl_X8_137 rfl rfl ?_
      obtain rfl := Option.some.inj h
      exact wp_iret dX8_about_79 rfl rfl
    rw [if_neg c5] at h
    by_cases c6 : a1 = 3
    · rw [if_pos c6] at h
      refine wp_tIn (tgt := 80) (off := 70) dX8_about_10 (by rw [c6]; decide +kernel) (by rw [c6]; decide +kernel) (by rw [c6]; decide +kernel) (by decide) ?_
      refine wp_aload_n (i := 0) dX8_about_80 rfl rfl ?_
      refine wp_getR (t := 3) dX8_about_81 fl_X8_19 rfl rfl ?_
      obtain ⟨r7, er7, h⟩ := ob h
      refine wp_cVi (N := m_X0_lines) (As := []) (rest := []) dX8_about_84 ml_X8_140 mo_X0_lines vo_X0_lines rfl rfl (ok_X0_lines er7) (by decide) (Nat.le_of_ble_eq_true rfl) ?_
      obtain rfl := Option.some.inj h
      exact wp_iret dX8_about_87 rfl rfl
    rw [if_neg c6] at h
    by_cases c8 : a1 = 4
    · rw [if_pos c8] at h
      refine wp_tIn (tgt := 88) (off := 78) dX8_about_10 (by rw [c8]; decide +kernel) (by rw [c8]; decide +kernel) (by rw [c8]; decide +kernel) (by decide) ?_
      refine wp_aload_n (i := 0) dX8_about_88 rfl rfl ?_
      refine wp_getR (t := 3) dX8_about_89 fl_X8_19 rfl rfl ?_
      refine wp_getI dX8_about_92 fl_X8_117 rfl rfl ?_
      obtain rfl := Option.some.inj h
      exact wp_iret dX8_about_95 rfl rfl
    rw [if_neg c8] at h
    by_cases c9 : a1 = 5
    · rw [if_pos c9] at h
      refine wp_tIn (tgt := 96) (off := 86) dX8_about_10 (by rw [c9]; decide +kernel) (by rw [c9]; decide +kernel) (by rw [c9]; decide +kernel) (by decide) ?_
      refine wp_aload_n (i := 0) dX8_about_96 rfl rfl ?_
      refine wp_getR (t := 12) dX8_about_97 fl_X8_38 rfl rfl ?_
      refine wp_getI dX8_about_100 fl_X8_144 rfl rfl ?_
      obtain rfl := Option.some.inj h
      exact wp_iret dX8_about_103 rfl rfl
    rw [if_neg c9] at h
    by_cases c10 : a1 = 6
    · rw [if_pos c10] at h
      refine wp_tIn (tgt := 104) (off := 94) dX8_about_10 (by rw [c10]; decide +kernel) (by rw [c10]; decide +kernel) (by rw [c10]; decide +kernel) (by decide) ?_
      refine wp_aload_n (i := 0) dX8_about_104 rfl rfl ?_
      refine wp_getR (t := 14) dX8_about_105 fl_X8_42 rfl rfl ?_
      refine wp_getI dX8_about_108 fl_X8_144 rfl rfl ?_
      obtain rfl := Option.some.inj h
      exact wp_iret dX8_about_111 rfl rfl
    rw [if_neg c10] at h
    by_cases c11 : a1 = 7
    · rw [if_pos c11] at h
      refine wp_tIn (tgt := 112) (off := 102) dX8_about_10 (by rw [c11]; decide +kernel) (by rw [c11]; decide +kernel) (by rw [c11]; decide +kernel) (by decide) ?_
      refine wp_aload_n (i := 0) dX8_about_112 rfl rfl ?_
      refine wp_getI dX8_about_113 fl_X8_83 rfl rfl ?_
      refine wp_if_eq (tgt := 129) dX8_about_116 (by decide) (fun c12 => ?_) (fun c12 => ?_)
      · rw [if_pos c12] at h
        refine wp_iconst (v := 0) dX8_about_129 (by decide +kernel) ?_
        obtain rfl := Option.some.inj h
        exact wp_iret dX8_about_130 rfl rfl
      · rw [if_neg c12] at h
        refine wp_aload_n (i := 0) dX8_about_119 rfl rfl ?_
        refine wp_getR (t := 29) dX8_about_120 fl_X8_66 rfl rfl ?_
        obtain ⟨r13, er13, h⟩ := ob h
        refine wp_cVi (N := m_X4_countSingles) (As := []) (rest := []) dX8_about_123 ml_X8_147 mo_X4_countSingles vo_X4_countSingles rfl rfl (ok_X4_countSingles er13) (by decide) (Nat.le_of_ble_eq_true rfl) ?_
        refine wp_goto (tgt := 130) dX8_about_126 (by decide) ?_
        obtain rfl := Option.some.inj h
        exact wp_iret dX8_about_130 rfl rfl
    rw [if_neg c11] at h
    refine wp_tOut (tgt := 131) dX8_about_10 (tsw_out 8 (by decide) (by decide) (fun i hi => by match i, hi with | 0, _ => exact c3 | 1, _ => exact c4 | 2, _ => exact c5 | 3, _ => exact c6 | 4, _ => exact c8 | 5, _ => exact c9 | 6, _ => exact c10 | 7, _ => exact c11)) (by decide) ?_
    refine wp_iconst (v := -1) dX8_about_131 (by decide +kernel) ?_
    obtain rfl := Option.some.inj h
    exact wp_iret dX8_about_132 rfl rfl
  · rw [if_pos c2] at h
    refine wp_iconst (v := -1) dX8_about_7 (by decide +kernel) ?_
    obtain rfl := Option.some.inj h
    exact wp_iret dX8_about_8 rfl rfl
def f_X8_isLine (a1 : Int32) (s : St) : Option (Int32 × St) :=
  if a1 < 0 then (
    some ((0 : Int32), s))
  else (
    Option.bind (f_X0_lines 3 s) fun r2 =>
    if r2.1 ≤ a1 then (
      some ((0 : Int32), r2.2))
    else (
      some ((1 : Int32), r2.2)))
set_option maxRecDepth 100000 in
set_option maxHeartbeats 4000000 in
theorem ok_X8_isLine {a1 : Int32} {s : St} {r : Int32 × St} (h : f_X8_isLine a1 s = some r) : Ct 1 m_X8_isLine [.ref 0, .int a1] s (some (.int r.1)) r.2 := by
  unfold f_X8_isLine at h
  refine ct_of [some (.ref 0), some (.int a1)] 0 (by decide) rfl (Nat.le_of_ble_eq_true rfl) ?_
  refine wp_iload_n (i := 1) dX8_isLine_0 rfl rfl ?_
  refine wp_if_lt (tgt := 19) dX8_isLine_1 (by decide) (fun c1 => ?_) (fun c1 => ?_)
  · rw [if_pos c1] at h
    refine wp_iconst (v := 0) dX8_isLine_19 (by decide +kernel) ?_
    obtain rfl := Option.some.inj h
    exact wp_iret dX8_isLine_20 rfl (narrow_z (Or.inl rfl)).1
  · rw [if_neg c1] at h
    refine wp_iload_n (i := 1) dX8_isLine_4 rfl rfl ?_
    refine wp_aload_n (i := 0) dX8_isLine_5 rfl rfl ?_
    refine wp_getR (t := 3) dX8_isLine_6 fl_X8_19 rfl rfl ?_
    obtain ⟨r2, er2, h⟩ := ob h
    refine wp_cVi (N := m_X0_lines) (As := []) (rest := [.int a1]) dX8_isLine_9 ml_X8_140 mo_X0_lines vo_X0_lines rfl rfl (ok_X0_lines er2) (by decide) (Nat.le_of_ble_eq_true rfl) ?_
    refine wp_icmp_ge (tgt := 19) dX8_isLine_12 (by decide) (fun c3 => ?_) (fun c3 => ?_)
    · rw [if_pos c3] at h
      refine wp_iconst (v := 0) dX8_isLine_19 (by decide +kernel) ?_
      obtain rfl := Option.some.inj h
      exact wp_iret dX8_isLine_20 rfl (narrow_z (Or.inl rfl)).1
    · rw [if_neg c3] at h
      refine wp_iconst (v := 1) dX8_isLine_15 (by decide +kernel) ?_
      refine wp_goto (tgt := 20) dX8_isLine_16 (by decide) ?_
      obtain rfl := Option.some.inj h
      exact wp_iret dX8_isLine_20 rfl (narrow_z (Or.inr rfl)).1
def f_X8_run (a1 : Int32) (a2 : Int32) (a3 : Int32) (s : St) : Option (Int32 × St) :=
  Option.bind (f_X8_isLine a1 s) fun r1 =>
  if r1.1 = 0 then (
    some ((-1 : Int32), r1.2))
  else (
    if a2 = (-1 : Int32) then (
      Option.bind (aI r1.2 4 a1) fun x11 =>
      some (x11, r1.2))
    else (
      if a2 < 0 then (
        some ((-1 : Int32), r1.2))
      else (
        Option.bind (aI r1.2 4 a1) fun x5 =>
        if a2 < x5 then (
          if a3 = 0 then (
            Option.bind (f_X0_lengthOf 3 a1 a2 r1.2) fun r8 =>
            some (r8.1, r8.2))
          else
          if a3 = 1 then (
            Option.bind (f_X0_colourOf 3 a1 a2 r1.2) fun r10 =>
            some (r10.1, r10.2))
          else (
            some ((-1 : Int32), r1.2)))
        else (
          some ((-1 : Int32), r1.2)))))
set_option maxRecDepth 100000 in
set_option maxHeartbeats 4000000 in
theorem ok_X8_run {a1 : Int32} {a2 : Int32} {a3 : Int32} {s : St} {r : Int32 × St} (h : f_X8_run a1 a2 a3 s = some r) : Ct 2 m_X8_run [.ref 0, .int a1, .int a2, .int a3] s (some (.int r.1)) r.2 := by
  unfold f_X8_run at h
  refine ct_of [some (.ref 0), some (.int a1), some (.int a2), some (.int a3)] 0 (by decide) rfl (Nat.le_of_ble_eq_true rfl) ?_
  refine wp_aload_n (i := 0) dX8_run_0 rfl rfl ?_
  refine wp_iload_n (i := 1) dX8_run_1 rfl rfl ?_
  obtain ⟨r1, er1, h⟩ := ob h
  refine wp_cVi (N := m_X8_isLine) (As := [.int a1]) (rest := []) dX8_run_2 ml_X8_150 mo_X8_isLine vo_X8_isLine rfl rfl (ok_X8_isLine er1) (by decide) (Nat.le_of_ble_eq_true rfl) ?_
  refine wp_if_ne (tgt := 10) dX8_run_5 (by decide) (fun c2 => ?_) (fun c2 => ?_)
  · rw [if_neg c2] at h
    refine wp_iload_n (i := 2) dX8_run_10 rfl rfl ?_
    refine wp_iconst (v := -1) dX8_run_11 (by decide +kernel) ?_
    refine wp_icmp_ne (tgt := 25) dX8_run_12 (by decide) (fun c3 => ?_) (fun c3 => ?_)
    · rw [if_neg c3] at h
      refine wp_iload_n (i := 2) dX8_run_25 rfl rfl ?_
      refine wp_if_lt (tgt := 42) dX8_run_26 (by decide) (fun c4 => ?_) (fun c4 => ?_)
      · rw [if_pos c4] at h
        refine wp_iconst (v := -1) dX8_run_42 (by decide +kernel) ?_
        obtain rfl := Option.some.inj h
        exact wp_iret dX8_run_43 rfl rfl
      · rw [if_neg c4] at h
        refine wp_iload_n (i := 2) dX8_run_29 rfl rfl ?_
        refine wp_aload_n (i := 0) dX8_run_30 rfl rfl ?_
        refine wp_getR (t := 3) dX8_run_31 fl_X8_19 rfl rfl ?_
        refine wp_getR (t := 4) dX8_run_34 fl_X8_154 rfl rfl ?_
        refine wp_iload_n (i := 1) dX8_run_37 rfl rfl ?_
        obtain ⟨x5, ex5, h⟩ := ob h
        refine wp_aI dX8_run_38 ex5 ?_
        refine wp_icmp_lt (tgt := 44) dX8_run_39 (by decide) (fun c6 => ?_) (fun c6 => ?_)
        · rw [if_pos c6] at h
          refine wp_iload_n (i := 3) dX8_run_44 rfl rfl ?_
          by_cases c7 : a3 = 0
          · rw [if_pos c7] at h
            refine wp_lsw (tgt := 72) (off := 27) dX8_run_45 (by decide +kernel) (by rw [c7]; decide +kernel) (by decide) ?_
            refine wp_aload_n (i := 0) dX8_run_72 rfl rfl ?_
            refine wp_getR (t := 3) dX8_run_73 fl_X8_19 rfl rfl ?_
            refine wp_iload_n (i := 1) dX8_run_76 rfl rfl ?_
            refine wp_iload_n (i := 2) dX8_run_77 rfl rfl ?_
            obtain ⟨r8, er8, h⟩ := ob h
            refine wp_cVi (N := m_X0_lengthOf) (As := [.int a1, .int a2]) (rest := []) dX8_run_78 ml_X8_158 mo_X0_lengthOf vo_X0_lengthOf rfl rfl (ok_X0_lengthOf er8) (by decide) (Nat.le_of_ble_eq_true rfl) ?_
            obtain rfl := Option.some.inj h
            exact wp_iret dX8_run_81 rfl rfl
          rw [if_neg c7] at h
          by_cases c9 : a3 = 1
          · rw [if_pos c9] at h
            refine wp_lsw (tgt := 82) (off := 37) dX8_run_45 (by decide +kernel) (by rw [c9]; decide +kernel) (by decide) ?_
            refine wp_aload_n (i := 0) dX8_run_82 rfl rfl ?_
            refine wp_getR (t := 3) dX8_run_83 fl_X8_19 rfl rfl ?_
            refine wp_iload_n (i := 1) dX8_run_86 rfl rfl ?_
            refine wp_iload_n (i := 2) dX8_run_87 rfl rfl ?_
            obtain ⟨r10, er10, h⟩ := ob h
            refine wp_cVi (N := m_X0_colourOf) (As := [.int a1, .int a2]) (rest := []) dX8_run_88 ml_X8_162 mo_X0_colourOf vo_X0_colourOf rfl rfl (ok_X0_colourOf er10) (by decide) (Nat.le_of_ble_eq_true rfl) ?_
            obtain rfl := Option.some.inj h
            exact wp_iret dX8_run_91 rfl rfl
          rw [if_neg c9] at h
          refine wp_lsw (tgt := 92) (off := 47) dX8_run_45 (by decide +kernel) (by rw [lv_osw c7 (by decide +kernel)]; rw [lv_osw c9 (by decide +kernel)]; rfl) (by decide) ?_
          refine wp_iconst (v := -1) dX8_run_92 (by decide +kernel) ?_
          obtain rfl := Option.some.inj h
          exact wp_iret dX8_run_93 rfl rfl
        · rw [if_neg c6] at h
          refine wp_iconst (v := -1) dX8_run_42 (by decide +kernel) ?_
          obtain rfl := Option.some.inj h
          exact wp_iret dX8_run_43 rfl rfl
    · rw [if_pos c3] at h
      refine wp_aload_n (i := 0) dX8_run_15 rfl rfl ?_
      refine wp_getR (t := 3) dX8_run_16 fl_X8_19 rfl rfl ?_
      refine wp_getR (t := 4) dX8_run_19 fl_X8_154 rfl rfl ?_
      refine wp_iload_n (i := 1) dX8_run_22 rfl rfl ?_
      obtain ⟨x11, ex11, h⟩ := ob h
      refine wp_aI dX8_run_23 ex11 ?_
      obtain rfl := Option.some.inj h
      exact wp_iret dX8_run_24 rfl rfl
  · rw [if_pos c2] at h
    refine wp_iconst (v := -1) dX8_run_8 (by decide +kernel) ?_
    obtain rfl := Option.some.inj h
    exact wp_iret dX8_run_9 rfl rfl
def f_X8_isCell (a1 : Int32) (a2 : Int32) (s : St) : Option (Int32 × St) :=
  if a1 < 0 then (
    some ((0 : Int32), s))
  else (
    if (s.1 3 3) ≤ a1 then (
      some ((0 : Int32), s))
    else (
      if a2 < 0 then (
        some ((0 : Int32), s))
      else (
        if (s.1 3 4) ≤ a2 then (
          some ((0 : Int32), s))
        else (
          some ((1 : Int32), s)))))
set_option maxRecDepth 100000 in
set_option maxHeartbeats 4000000 in
theorem ok_X8_isCell {a1 : Int32} {a2 : Int32} {s : St} {r : Int32 × St} (h : f_X8_isCell a1 a2 s = some r) : Ct 0 m_X8_isCell [.ref 0, .int a1, .int a2] s (some (.int r.1)) r.2 := by
  unfold f_X8_isCell at h
  refine ct_of [some (.ref 0), some (.int a1), some (.int a2)] 0 (by decide) rfl (Nat.le_of_ble_eq_true rfl) ?_
  refine wp_iload_n (i := 1) dX8_isCell_0 rfl rfl ?_
  refine wp_if_lt (tgt := 34) dX8_isCell_1 (by decide) (fun c1 => ?_) (fun c1 => ?_)
  · rw [if_pos c1] at h
    refine wp_iconst (v := 0) dX8_isCell_34 (by decide +kernel) ?_
    obtain rfl := Option.some.inj h
    exact wp_iret dX8_isCell_35 rfl (narrow_z (Or.inl rfl)).1
  · rw [if_neg c1] at h
    refine wp_iload_n (i := 1) dX8_isCell_4 rfl rfl ?_
    refine wp_aload_n (i := 0) dX8_isCell_5 rfl rfl ?_
    refine wp_getR (t := 3) dX8_isCell_6 fl_X8_19 rfl rfl ?_
    refine wp_getI dX8_isCell_9 fl_X8_131 rfl rfl ?_
    refine wp_icmp_ge (tgt := 34) dX8_isCell_12 (by decide) (fun c2 => ?_) (fun c2 => ?_)
    · rw [if_pos c2] at h
      refine wp_iconst (v := 0) dX8_isCell_34 (by decide +kernel) ?_
      obtain rfl := Option.some.inj h
      exact wp_iret dX8_isCell_35 rfl (narrow_z (Or.inl rfl)).1
    · rw [if_neg c2] at h
      refine wp_iload_n (i := 2) dX8_isCell_15 rfl rfl ?_
      refine wp_if_lt (tgt := 34) dX8_isCell_16 (by decide) (fun c3 => ?_) (fun c3 => ?_)
      · rw [if_pos c3] at h
        refine wp_iconst (v := 0) dX8_isCell_34 (by decide +kernel) ?_
        obtain rfl := Option.some.inj h
        exact wp_iret dX8_isCell_35 rfl (narrow_z (Or.inl rfl)).1
      · rw [if_neg c3] at h
        refine wp_iload_n (i := 2) dX8_isCell_19 rfl rfl ?_
        refine wp_aload_n (i := 0) dX8_isCell_20 rfl rfl ?_
        refine wp_getR (t := 3) dX8_isCell_21 fl_X8_19 rfl rfl ?_
        refine wp_getI dX8_isCell_24 fl_X8_134 rfl rfl ?_
        refine wp_icmp_ge (tgt := 34) dX8_isCell_27 (by decide) (fun c4 => ?_) (fun c4 => ?_)
        · rw [if_pos c4] at h
          refine wp_iconst (v := 0) dX8_isCell_34 (by decide +kernel) ?_
          obtain rfl := Option.some.inj h
          exact wp_iret dX8_isCell_35 rfl (narrow_z (Or.inl rfl)).1
        · rw [if_neg c4] at h
          refine wp_iconst (v := 1) dX8_isCell_30 (by decide +kernel) ?_
          refine wp_goto (tgt := 35) dX8_isCell_31 (by decide) ?_
          obtain rfl := Option.some.inj h
          exact wp_iret dX8_isCell_35 rfl (narrow_z (Or.inr rfl)).1
def f_X8_isValueOrNone (a1 : Int32) (s : St) : Option (Int32 × St) :=
  if a1 < (-1 : Int32) then (
    some ((0 : Int32), s))
  else (
    if (s.1 3 5) < a1 then (
      some ((0 : Int32), s))
    else (
      some ((1 : Int32), s)))
set_option maxRecDepth 100000 in
set_option maxHeartbeats 4000000 in
theorem ok_X8_isValueOrNone {a1 : Int32} {s : St} {r : Int32 × St} (h : f_X8_isValueOrNone a1 s = some r) : Ct 0 m_X8_isValueOrNone [.ref 0, .int a1] s (some (.int r.1)) r.2 := by
  unfold f_X8_isValueOrNone at h
  refine ct_of [some (.ref 0), some (.int a1)] 0 (by decide) rfl (Nat.le_of_ble_eq_true rfl) ?_
  refine wp_iload_n (i := 1) dX8_isValueOrNone_0 rfl rfl ?_
  refine wp_iconst (v := -1) dX8_isValueOrNone_1 (by decide +kernel) ?_
  refine wp_icmp_lt (tgt := 20) dX8_isValueOrNone_2 (by decide) (fun c1 => ?_) (fun c1 => ?_)
  · rw [if_pos c1] at h
    refine wp_iconst (v := 0) dX8_isValueOrNone_20 (by decide +kernel) ?_
    obtain rfl := Option.some.inj h
    exact wp_iret dX8_isValueOrNone_21 rfl (narrow_z (Or.inl rfl)).1
  · rw [if_neg c1] at h
    refine wp_iload_n (i := 1) dX8_isValueOrNone_5 rfl rfl ?_
    refine wp_aload_n (i := 0) dX8_isValueOrNone_6 rfl rfl ?_
    refine wp_getR (t := 3) dX8_isValueOrNone_7 fl_X8_19 rfl rfl ?_
    refine wp_getI dX8_isValueOrNone_10 fl_X8_137 rfl rfl ?_
    refine wp_icmp_gt (tgt := 20) dX8_isValueOrNone_13 (by decide) (fun c2 => ?_) (fun c2 => ?_)
    · rw [if_pos c2] at h
      refine wp_iconst (v := 0) dX8_isValueOrNone_20 (by decide +kernel) ?_
      obtain rfl := Option.some.inj h
      exact wp_iret dX8_isValueOrNone_21 rfl (narrow_z (Or.inl rfl)).1
    · rw [if_neg c2] at h
      refine wp_iconst (v := 1) dX8_isValueOrNone_16 (by decide +kernel) ?_
      refine wp_goto (tgt := 21) dX8_isValueOrNone_17 (by decide) ?_
      obtain rfl := Option.some.inj h
      exact wp_iret dX8_isValueOrNone_21 rfl (narrow_z (Or.inr rfl)).1
def f_X8_give (a1 : Int32) (a2 : Int32) (a3 : Int32) (s : St) : Option (Int32 × St) :=
  Option.bind (f_X8_isCell a1 a2 s) fun r1 =>
  if r1.1 = 0 then (
    some ((0 : Int32), r1.2))
  else (
    Option.bind (f_X8_isValueOrNone a3 r1.2) fun r3 =>
    if r3.1 = 0 then (
      some ((0 : Int32), r3.2))
    else (
      Option.bind (f_X2_put 12 a1 a2 a3 r3.2) fun s5 =>
      Option.bind (f_X1_forgetSolutions 33 s5) fun s6 =>
      some ((1 : Int32), s6)))
set_option maxRecDepth 100000 in
set_option maxHeartbeats 4000000 in
theorem ok_X8_give {a1 : Int32} {a2 : Int32} {a3 : Int32} {s : St} {r : Int32 × St} (h : f_X8_give a1 a2 a3 s = some r) : Ct 2 m_X8_give [.ref 0, .int a1, .int a2, .int a3] s (some (.int r.1)) r.2 := by
  unfold f_X8_give at h
  refine ct_of [some (.ref 0), some (.int a1), some (.int a2), some (.int a3)] 0 (by decide) rfl (Nat.le_of_ble_eq_true rfl) ?_
  refine wp_aload_n (i := 0) dX8_give_0 rfl rfl ?_
  refine wp_iload_n (i := 1) dX8_give_1 rfl rfl ?_
  refine wp_iload_n (i := 2) dX8_give_2 rfl rfl ?_
  obtain ⟨r1, er1, h⟩ := ob h
  refine wp_cVi (N := m_X8_isCell) (As := [.int a1, .int a2]) (rest := []) dX8_give_3 ml_X8_165 mo_X8_isCell vo_X8_isCell rfl rfl (ok_X8_isCell er1) (by decide) (Nat.le_of_ble_eq_true rfl) ?_
  refine wp_if_eq (tgt := 17) dX8_give_6 (by decide) (fun c2 => ?_) (fun c2 => ?_)
  · rw [if_pos c2] at h
    refine wp_iconst (v := 0) dX8_give_17 (by decide +kernel) ?_
    obtain rfl := Option.some.inj h
    exact wp_iret dX8_give_18 rfl (narrow_z (Or.inl rfl)).1
  · rw [if_neg c2] at h
    refine wp_aload_n (i := 0) dX8_give_9 rfl rfl ?_
    refine wp_iload_n (i := 3) dX8_give_10 rfl rfl ?_
    obtain ⟨r3, er3, h⟩ := ob h
    refine wp_cVi (N := m_X8_isValueOrNone) (As := [.int a3]) (rest := []) dX8_give_11 ml_X8_168 mo_X8_isValueOrNone vo_X8_isValueOrNone rfl rfl (ok_X8_isValueOrNone er3) (by decide) (Nat.le_of_ble_eq_true rfl) ?_
    refine wp_if_ne (tgt := 19) dX8_give_14 (by decide) (fun c4 => ?_) (fun c4 => ?_)
    · rw [if_neg c4] at h
      refine wp_aload_n (i := 0) dX8_give_19 rfl rfl ?_
      refine wp_getR (t := 12) dX8_give_20 fl_X8_38 rfl rfl ?_
      refine wp_iload_n (i := 1) dX8_give_23 rfl rfl ?_
      refine wp_iload_n (i := 2) dX8_give_24 rfl rfl ?_
      refine wp_iload_n (i := 3) dX8_give_25 rfl rfl ?_
      obtain ⟨s5, es5, h⟩ := ob h
      refine wp_cVv (N := m_X2_put) (As := [.int a1, .int a2, .int a3]) (rest := []) dX8_give_26 ml_X8_171 mo_X2_put vo_X2_put rfl rfl (ok_X2_put es5) (by decide) (Nat.le_of_ble_eq_true rfl) ?_
      refine wp_aload_n (i := 0) dX8_give_29 rfl rfl ?_
      refine wp_getR (t := 33) dX8_give_30 fl_X8_76 rfl rfl ?_
      obtain ⟨s6, es6, h⟩ := ob h
      refine wp_cVv (N := m_X1_forgetSolutions) (As := []) (rest := []) dX8_give_33 ml_X8_174 mo_X1_forgetSolutions vo_X1_forgetSolutions rfl rfl (ok_X1_forgetSolutions es6) (by decide) (Nat.le_of_ble_eq_true rfl) ?_
      refine wp_iconst (v := 1) dX8_give_36 (by decide +kernel) ?_
      obtain rfl := Option.some.inj h
      exact wp_iret dX8_give_37 rfl (narrow_z (Or.inr rfl)).1
    · rw [if_pos c4] at h
      refine wp_iconst (v := 0) dX8_give_17 (by decide +kernel) ?_
      obtain rfl := Option.some.inj h
      exact wp_iret dX8_give_18 rfl (narrow_z (Or.inl rfl)).1
def f_X8_given (a1 : Int32) (a2 : Int32) (s : St) : Option (Int32 × St) :=
  Option.bind (f_X8_isCell a1 a2 s) fun r1 =>
  if r1.1 = 0 then (
    some ((-1 : Int32), r1.2))
  else (
    Option.bind (f_X2_at 12 a1 a2 r1.2) fun r3 =>
    some (r3.1, r3.2))
set_option maxRecDepth 100000 in
set_option maxHeartbeats 4000000 in
theorem ok_X8_given {a1 : Int32} {a2 : Int32} {s : St} {r : Int32 × St} (h : f_X8_given a1 a2 s = some r) : Ct 1 m_X8_given [.ref 0, .int a1, .int a2] s (some (.int r.1)) r.2 := by
  unfold f_X8_given at h
  refine ct_of [some (.ref 0), some (.int a1), some (.int a2)] 0 (by decide) rfl (Nat.le_of_ble_eq_true rfl) ?_
  refine wp_aload_n (i := 0) dX8_given_0 rfl rfl ?_
  refine wp_iload_n (i := 1) dX8_given_1 rfl rfl ?_
  refine wp_iload_n (i := 2) dX8_given_2 rfl rfl ?_
  obtain ⟨r1, er1, h⟩ := ob h
  refine wp_cVi (N := m_X8_isCell) (As := [.int a1, .int a2]) (rest := []) dX8_given_3 ml_X8_165 mo_X8_isCell vo_X8_isCell rfl rfl (ok_X8_isCell er1) (by decide) (Nat.le_of_ble_eq_true rfl) ?_
  refine wp_if_eq (tgt := 21) dX8_given_6 (by decide) (fun c2 => ?_) (fun c2 => ?_)
  · rw [if_pos c2] at h
    refine wp_iconst (v := -1) dX8_given_21 (by decide +kernel) ?_
    obtain rfl := Option.some.inj h
    exact wp_iret dX8_given_22 rfl rfl
  · rw [if_neg c2] at h
    refine wp_aload_n (i := 0) dX8_given_9 rfl rfl ?_
    refine wp_getR (t := 12) dX8_given_10 fl_X8_38 rfl rfl ?_
    refine wp_iload_n (i := 1) dX8_given_13 rfl rfl ?_
    refine wp_iload_n (i := 2) dX8_given_14 rfl rfl ?_
    obtain ⟨r3, er3, h⟩ := ob h
    refine wp_cVi (N := m_X2_at) (As := [.int a1, .int a2]) (rest := []) dX8_given_15 ml_X8_177 mo_X2_at vo_X2_at rfl rfl (ok_X2_at er3) (by decide) (Nat.le_of_ble_eq_true rfl) ?_
    refine wp_goto (tgt := 22) dX8_given_18 (by decide) ?_
    obtain rfl := Option.some.inj h
    exact wp_iret dX8_given_22 rfl rfl
def f_X8_fresh  (s : St) : Option (Int32 × St) :=
  Option.bind (f_X8_hasPuzzle s) fun r1 =>
  if r1.1 = 0 then (
    some ((0 : Int32), r1.2))
  else (
    Option.bind (f_X4_become 29 12 r1.2) fun s3 =>
    Option.bind (some (sF s3 0 12 (1 : Int32))) fun s4 =>
    some ((1 : Int32), s4))
set_option maxRecDepth 100000 in
set_option maxHeartbeats 4000000 in
theorem ok_X8_fresh  {s : St} {r : Int32 × St} (h : f_X8_fresh  s = some r) : Ct 3 m_X8_fresh [.ref 0] s (some (.int r.1)) r.2 := by
  unfold f_X8_fresh at h
  refine ct_of [some (.ref 0)] 0 (by decide) rfl (Nat.le_of_ble_eq_true rfl) ?_
  refine wp_aload_n (i := 0) dX8_fresh_0 rfl rfl ?_
  obtain ⟨r1, er1, h⟩ := ob h
  refine wp_cVi (N := m_X8_hasPuzzle) (As := []) (rest := []) dX8_fresh_1 ml_X8_128 mo_X8_hasPuzzle vo_X8_hasPuzzle rfl rfl (ok_X8_hasPuzzle er1) (by decide) (Nat.le_of_ble_eq_true rfl) ?_
  refine wp_if_ne (tgt := 9) dX8_fresh_4 (by decide) (fun c2 => ?_) (fun c2 => ?_)
  · rw [if_neg c2] at h
    refine wp_aload_n (i := 0) dX8_fresh_9 rfl rfl ?_
    refine wp_getR (t := 29) dX8_fresh_10 fl_X8_66 rfl rfl ?_
    refine wp_aload_n (i := 0) dX8_fresh_13 rfl rfl ?_
    refine wp_getR (t := 12) dX8_fresh_14 fl_X8_38 rfl rfl ?_
    obtain ⟨s3, es3, h⟩ := ob h
    refine wp_cVv (N := m_X4_become) (As := [.ref 12]) (rest := []) dX8_fresh_17 ml_X8_180 mo_X4_become vo_X4_become rfl rfl (ok_X4_become es3) (by decide) (Nat.le_of_ble_eq_true rfl) ?_
    refine wp_aload_n (i := 0) dX8_fresh_20 rfl rfl ?_
    refine wp_iconst (v := 1) dX8_fresh_21 (by decide +kernel) ?_
    obtain ⟨s4, es4, h⟩ := ob h
    refine wp_putZ2 dX8_fresh_22 fl_X8_83 rfl rfl rfl rfl (Or.inr rfl) es4 ?_
    refine wp_iconst (v := 1) dX8_fresh_25 (by decide +kernel) ?_
    obtain rfl := Option.some.inj h
    exact wp_iret dX8_fresh_26 rfl (narrow_z (Or.inr rfl)).1
  · rw [if_pos c2] at h
    refine wp_iconst (v := 0) dX8_fresh_7 (by decide +kernel) ?_
    obtain rfl := Option.some.inj h
    exact wp_iret dX8_fresh_8 rfl (narrow_z (Or.inl rfl)).1
def f_X8_rule (a1 : Int32) (s : St) : Option (Int32 × St) :=
  Option.bind (f_X8_isLine a1 s) fun r1 =>
  if r1.1 = 0 then (
    some ((-1 : Int32), r1.2))
  else (
    if (r1.2.1 0 12) = 0 then (
      some ((-1 : Int32), r1.2))
    else (
      Option.bind (aJ r1.2 30 a1) fun x4 =>
      Option.bind (f_X3_keptOf a1 x4 r1.2) fun r5 =>
      if (lg_cmp r5.1 (0 : Int64)) = 0 then (
        some ((-2 : Int32), r5.2))
      else (
        Option.bind (f_X4_narrow 29 a1 r5.1 r5.2) fun r7 =>
        Option.bind (f_J6_bitCount_0f7a4 r7.1 r7.2) fun r8 =>
        some (r8.1, r8.2))))
set_option maxRecDepth 100000 in
set_option maxHeartbeats 4000000 in
theorem ok_X8_rule {a1 : Int32} {s : St} {r : Int32 × St} (h : f_X8_rule a1 s = some r) : Ct 2 m_X8_rule [.ref 0, .int a1] s (some (.int r.1)) r.2 := by
  unfold f_X8_rule at h
  refine ct_of [some (.ref 0), some (.int a1), none, none] 2 (by decide) rfl (Nat.le_of_ble_eq_true rfl) ?_
  refine wp_aload_n (i := 0) dX8_rule_0 rfl rfl ?_
  refine wp_iload_n (i := 1) dX8_rule_1 rfl rfl ?_
  obtain ⟨r1, er1, h⟩ := ob h
  refine wp_cVi (N := m_X8_isLine) (As := [.int a1]) (rest := []) dX8_rule_2 ml_X8_150 mo_X8_isLine vo_X8_isLine rfl rfl (ok_X8_isLine er1) (by decide) (Nat.le_of_ble_eq_true rfl) ?_
  refine wp_if_eq (tgt := 15) dX8_rule_5 (by decide) (fun c2 => ?_) (fun c2 => ?_)
  · rw [if_pos c2] at h
    refine wp_iconst (v := -1) dX8_rule_15 (by decide +kernel) ?_
    obtain rfl := Option.some.inj h
    exact wp_iret dX8_rule_16 rfl rfl
  · rw [if_neg c2] at h
    refine wp_aload_n (i := 0) dX8_rule_8 rfl rfl ?_
    refine wp_getI dX8_rule_9 fl_X8_83 rfl rfl ?_
    refine wp_if_ne (tgt := 17) dX8_rule_12 (by decide) (fun c3 => ?_) (fun c3 => ?_)
    · rw [if_neg c3] at h
      refine wp_aload_n (i := 0) dX8_rule_17 rfl rfl ?_
      refine wp_getR (t := 16) dX8_rule_18 fl_X8_50 rfl rfl ?_
      refine wp_iload_n (i := 1) dX8_rule_21 rfl rfl ?_
      refine wp_aload_n (i := 0) dX8_rule_22 rfl rfl ?_
      refine wp_getR (t := 29) dX8_rule_23 fl_X8_66 rfl rfl ?_
      refine wp_getR (t := 30) dX8_rule_26 fl_X8_184 rfl rfl ?_
      refine wp_iload_n (i := 1) dX8_rule_29 rfl rfl ?_
      obtain ⟨x4, ex4, h⟩ := ob h
      refine wp_aJ dX8_rule_30 ex4 ?_
      obtain ⟨r5, er5, h⟩ := ob h
      refine wp_cVl (N := m_X3_keptOf) (As := [.int a1, .long x4]) (rest := []) dX8_rule_31 ml_X8_187 mo_X3_keptOf vo_X3_keptOf rfl rfl (ok_X3_keptOf er5) (by decide) (Nat.le_of_ble_eq_true rfl) ?_
      refine wp_lstore_n (ls' := [some (.ref 0), some (.int a1), some (.long r5.1), none]) dX8_rule_34 rfl (by decide) rfl rfl ?_
      refine wp_lload_n (i := 2) dX8_rule_35 rfl rfl ?_
      refine wp_lconst (v := 0) dX8_rule_36 (by decide +kernel) ?_
      refine wp_lcmp dX8_rule_37 ?_
      refine wp_if_ne (tgt := 46) dX8_rule_38 (by decide) (fun c6 => ?_) (fun c6 => ?_)
      · rw [if_neg c6] at h
        refine wp_aload_n (i := 0) dX8_rule_46 rfl rfl ?_
        refine wp_getR (t := 29) dX8_rule_47 fl_X8_66 rfl rfl ?_
        refine wp_iload_n (i := 1) dX8_rule_50 rfl rfl ?_
        refine wp_lload_n (i := 2) dX8_rule_51 rfl rfl ?_
        obtain ⟨r7, er7, h⟩ := ob h
        refine wp_cVi (N := m_X4_narrow) (As := [.int a1, .long r5.1]) (rest := []) dX8_rule_52 ml_X8_191 mo_X4_narrow vo_X4_narrow rfl rfl (ok_X4_narrow er7) (by decide) (Nat.le_of_ble_eq_true rfl) ?_
        obtain ⟨r8, er8, h⟩ := ob h
        refine wp_cSi (N := m_J6_bitCount_0f7a4) (As := [.int r7.1]) (rest := []) dX8_rule_55 ml_X8_195 mo_J6_bitCount_0f7a4 vo_J6_bitCount_0f7a4 rfl (ok_J6_bitCount_0f7a4 er8) (by decide) (Nat.le_of_ble_eq_true rfl) ?_
        obtain rfl := Option.some.inj h
        exact wp_iret dX8_rule_58 rfl rfl
      · rw [if_pos c6] at h
        refine wp_bipush (v := -2) dX8_rule_41 (by decide +kernel) ?_
        refine wp_goto (tgt := 58) dX8_rule_43 (by decide) ?_
        obtain rfl := Option.some.inj h
        exact wp_iret dX8_rule_58 rfl rfl
    · rw [if_pos c3] at h
      refine wp_iconst (v := -1) dX8_rule_15 (by decide +kernel) ?_
      obtain rfl := Option.some.inj h
      exact wp_iret dX8_rule_16 rfl rfl
def f_X8_ways (a1 : Int32) (s : St) : Option (Int64 × St) :=
  Option.bind (f_X8_isLine a1 s) fun r1 =>
  if r1.1 = 0 then (
    some ((-1 : Int64), r1.2))
  else (
    if (r1.2.1 0 12) = 0 then (
      some ((-1 : Int64), r1.2))
    else (
      Option.bind (aJ r1.2 30 a1) fun x4 =>
      Option.bind (f_X3_countWays a1 x4 r1.2) fun r5 =>
      some (r5.1, r5.2)))
set_option maxRecDepth 100000 in
set_option maxHeartbeats 4000000 in
theorem ok_X8_ways {a1 : Int32} {s : St} {r : Int64 × St} (h : f_X8_ways a1 s = some r) : Ct 3 m_X8_ways [.ref 0, .int a1] s (some (.long r.1)) r.2 := by
  unfold f_X8_ways at h
  refine ct_of [some (.ref 0), some (.int a1)] 0 (by decide) rfl (Nat.le_of_ble_eq_true rfl) ?_
  refine wp_aload_n (i := 0) dX8_ways_0 rfl rfl ?_
  refine wp_iload_n (i := 1) dX8_ways_1 rfl rfl ?_
  obtain ⟨r1, er1, h⟩ := ob h
  refine wp_cVi (N := m_X8_isLine) (As := [.int a1]) (rest := []) dX8_ways_2 ml_X8_150 mo_X8_isLine vo_X8_isLine rfl rfl (ok_X8_isLine er1) (by decide) (Nat.le_of_ble_eq_true rfl) ?_
  refine wp_if_eq (tgt := 15) dX8_ways_5 (by decide) (fun c2 => ?_) (fun c2 => ?_)
  · rw [if_pos c2] at h
    refine wp_ldc2 dX8_ways_15 kc_X8_201 ?_
    obtain rfl := Option.some.inj h
    exact wp_lret dX8_ways_18 rfl
  · rw [if_neg c2] at h
    refine wp_aload_n (i := 0) dX8_ways_8 rfl rfl ?_
    refine wp_getI dX8_ways_9 fl_X8_83 rfl rfl ?_
    refine wp_if_ne (tgt := 19) dX8_ways_12 (by decide) (fun c3 => ?_) (fun c3 => ?_)
    · rw [if_neg c3] at h
      refine wp_aload_n (i := 0) dX8_ways_19 rfl rfl ?_
      refine wp_getR (t := 16) dX8_ways_20 fl_X8_50 rfl rfl ?_
      refine wp_iload_n (i := 1) dX8_ways_23 rfl rfl ?_
      refine wp_aload_n (i := 0) dX8_ways_24 rfl rfl ?_
      refine wp_getR (t := 29) dX8_ways_25 fl_X8_66 rfl rfl ?_
      refine wp_getR (t := 30) dX8_ways_28 fl_X8_184 rfl rfl ?_
      refine wp_iload_n (i := 1) dX8_ways_31 rfl rfl ?_
      obtain ⟨x4, ex4, h⟩ := ob h
      refine wp_aJ dX8_ways_32 ex4 ?_
      obtain ⟨r5, er5, h⟩ := ob h
      refine wp_cVl (N := m_X3_countWays) (As := [.int a1, .long x4]) (rest := []) dX8_ways_33 ml_X8_203 mo_X3_countWays vo_X3_countWays rfl rfl (ok_X3_countWays er5) (by decide) (Nat.le_of_ble_eq_true rfl) ?_
      obtain rfl := Option.some.inj h
      exact wp_lret dX8_ways_36 rfl
    · rw [if_pos c3] at h
      refine wp_ldc2 dX8_ways_15 kc_X8_201 ?_
      obtain rfl := Option.some.inj h
      exact wp_lret dX8_ways_18 rfl
def f_X8_rest_16  (s : St) : Option (Int32 × St) :=
  Option.bind (f_X0_allLines 3 s) fun r1 =>
  Option.bind (f_X5_settle 29 r1.1 r1.2) fun r2 =>
  some (r2.1, r2.2)
set_option maxRecDepth 100000 in
set_option maxHeartbeats 4000000 in
theorem w_X8_rest_16 {r : Int32 × St}   {s : St} (h : f_X8_rest_16  s = some r) : Wp m_X8_rest 4 (PR (some (.int r.1)) r.2) 16 [some (.ref 0)] [] s := by
  unfold f_X8_rest_16 at h
  refine wp_aload_n (i := 0) dX8_rest_16 rfl rfl ?_
  refine wp_getR (t := 21) dX8_rest_17 fl_X8_59 rfl rfl ?_
  refine wp_aload_n (i := 0) dX8_rest_20 rfl rfl ?_
  refine wp_getR (t := 29) dX8_rest_21 fl_X8_66 rfl rfl ?_
  refine wp_aload_n (i := 0) dX8_rest_24 rfl rfl ?_
  refine wp_getR (t := 3) dX8_rest_25 fl_X8_19 rfl rfl ?_
  obtain ⟨r1, er1, h⟩ := ob h
  refine wp_cVi (N := m_X0_allLines) (As := []) (rest := [.ref 29, .ref 21]) dX8_rest_28 ml_X8_209 mo_X0_allLines vo_X0_allLines rfl rfl (ok_X0_allLines er1) (by decide) (Nat.le_of_ble_eq_true rfl) ?_
  obtain ⟨r2, er2, h⟩ := ob h
  refine wp_cVi (N := m_X5_settle) (As := [.ref 29, .int r1.1]) (rest := []) dX8_rest_31 ml_X8_212 mo_X5_settle vo_X5_settle rfl rfl (ok_X5_settle er2) (by decide) (Nat.le_of_ble_eq_true rfl) ?_
  obtain rfl := Option.some.inj h
  exact wp_iret dX8_rest_34 rfl rfl
def f_X8_rest  (s : St) : Option (Int32 × St) :=
  if (s.1 0 12) = 0 then (
    Option.bind (f_X8_fresh s) fun r2 =>
    if r2.1 = 0 then (
      some ((-1 : Int32), r2.2))
    else (
      f_X8_rest_16 r2.2))
  else (
    f_X8_rest_16 s)
set_option maxRecDepth 100000 in
set_option maxHeartbeats 4000000 in
theorem ok_X8_rest  {s : St} {r : Int32 × St} (h : f_X8_rest  s = some r) : Ct 4 m_X8_rest [.ref 0] s (some (.int r.1)) r.2 := by
  unfold f_X8_rest at h
  refine ct_of [some (.ref 0)] 0 (by decide) rfl (Nat.le_of_ble_eq_true rfl) ?_
  refine wp_aload_n (i := 0) dX8_rest_0 rfl rfl ?_
  refine wp_getI dX8_rest_1 fl_X8_83 rfl rfl ?_
  refine wp_if_ne (tgt := 16) dX8_rest_4 (by decide) (fun c1 => ?_) (fun c1 => ?_)
  · rw [if_neg c1] at h
    exact wp_sub (ls' := [some (.ref 0)]) ⟨rfl, trivial⟩ (w_X8_rest_16 h)
  · rw [if_pos c1] at h
    refine wp_aload_n (i := 0) dX8_rest_7 rfl rfl ?_
    obtain ⟨r2, er2, h⟩ := ob h
    refine wp_cVi (N := m_X8_fresh) (As := []) (rest := []) dX8_rest_8 ml_X8_206 mo_X8_fresh vo_X8_fresh rfl rfl (ok_X8_fresh er2) (by decide) (Nat.le_of_ble_eq_true rfl) ?_
    refine wp_if_ne (tgt := 16) dX8_rest_11 (by decide) (fun c3 => ?_) (fun c3 => ?_)
    · rw [if_neg c3] at h
      exact wp_sub (ls' := [some (.ref 0)]) ⟨rfl, trivial⟩ (w_X8_rest_16 h)
    · rw [if_pos c3] at h
      refine wp_iconst (v := -1) dX8_rest_14 (by decide +kernel) ?_
      obtain rfl := Option.some.inj h
      exact wp_iret dX8_rest_15 rfl rfl
def f_X8_tries  (s : St) : Option (Int32 × St) :=
  Option.bind (f_X8_rest s) fun r1 =>
  if 0 ≤ r1.1 then (
    Option.bind (f_X5_sift 29 r1.2) fun r3 =>
    some (r3.1, r3.2))
  else (
    some (r1.1, r1.2))
set_option maxRecDepth 100000 in
set_option maxHeartbeats 4000000 in
theorem ok_X8_tries  {s : St} {r : Int32 × St} (h : f_X8_tries  s = some r) : Ct 5 m_X8_tries [.ref 0] s (some (.int r.1)) r.2 := by
  unfold f_X8_tries at h
  refine ct_of [some (.ref 0), none] 1 (by decide) rfl (Nat.le_of_ble_eq_true rfl) ?_
  refine wp_aload_n (i := 0) dX8_tries_0 rfl rfl ?_
  obtain ⟨r1, er1, h⟩ := ob h
  refine wp_cVi (N := m_X8_rest) (As := []) (rest := []) dX8_tries_1 ml_X8_216 mo_X8_rest vo_X8_rest rfl rfl (ok_X8_rest er1) (by decide) (Nat.le_of_ble_eq_true rfl) ?_
  refine wp_istore_n (ls' := [some (.ref 0), some (.int r1.1)]) dX8_tries_4 rfl (by decide) rfl rfl ?_
  refine wp_iload_n (i := 1) dX8_tries_5 rfl rfl ?_
  refine wp_if_ge (tgt := 13) dX8_tries_6 (by decide) (fun c2 => ?_) (fun c2 => ?_)
  · rw [if_pos c2] at h
    refine wp_aload_n (i := 0) dX8_tries_13 rfl rfl ?_
    refine wp_getR (t := 21) dX8_tries_14 fl_X8_59 rfl rfl ?_
    refine wp_aload_n (i := 0) dX8_tries_17 rfl rfl ?_
    refine wp_getR (t := 29) dX8_tries_18 fl_X8_66 rfl rfl ?_
    obtain ⟨r3, er3, h⟩ := ob h
    refine wp_cVi (N := m_X5_sift) (As := [.ref 29]) (rest := []) dX8_tries_21 ml_X8_219 mo_X5_sift vo_X5_sift rfl rfl (ok_X5_sift er3) (by decide) (Nat.le_of_ble_eq_true rfl) ?_
    obtain rfl := Option.some.inj h
    exact wp_iret dX8_tries_24 rfl rfl
  · rw [if_neg c2] at h
    refine wp_iload_n (i := 1) dX8_tries_9 rfl rfl ?_
    refine wp_goto (tgt := 24) dX8_tries_10 (by decide) ?_
    obtain rfl := Option.some.inj h
    exact wp_iret dX8_tries_24 rfl rfl
def f_X8_set (a1 : Int32) (a2 : Int32) (s : St) : Option (Int32 × St) :=
  if (s.1 0 12) = 0 then (
    some ((-1 : Int32), s))
  else (
    Option.bind (f_X8_isCell a1 a2 s) fun r2 =>
    if r2.1 = 0 then (
      some ((-1 : Int32), r2.2))
    else (
      Option.bind (f_X4_valuesAt 29 a1 a2 r2.2) fun r4 =>
      some (r4.1, r4.2)))
set_option maxRecDepth 100000 in
set_option maxHeartbeats 4000000 in
theorem ok_X8_set {a1 : Int32} {a2 : Int32} {s : St} {r : Int32 × St} (h : f_X8_set a1 a2 s = some r) : Ct 2 m_X8_set [.ref 0, .int a1, .int a2] s (some (.int r.1)) r.2 := by
  unfold f_X8_set at h
  refine ct_of [some (.ref 0), some (.int a1), some (.int a2)] 0 (by decide) rfl (Nat.le_of_ble_eq_true rfl) ?_
  refine wp_aload_n (i := 0) dX8_set_0 rfl rfl ?_
  refine wp_getI dX8_set_1 fl_X8_83 rfl rfl ?_
  refine wp_if_eq (tgt := 28) dX8_set_4 (by decide) (fun c1 => ?_) (fun c1 => ?_)
  · rw [if_pos c1] at h
    refine wp_iconst (v := -1) dX8_set_28 (by decide +kernel) ?_
    obtain rfl := Option.some.inj h
    exact wp_iret dX8_set_29 rfl rfl
  · rw [if_neg c1] at h
    refine wp_aload_n (i := 0) dX8_set_7 rfl rfl ?_
    refine wp_iload_n (i := 1) dX8_set_8 rfl rfl ?_
    refine wp_iload_n (i := 2) dX8_set_9 rfl rfl ?_
    obtain ⟨r2, er2, h⟩ := ob h
    refine wp_cVi (N := m_X8_isCell) (As := [.int a1, .int a2]) (rest := []) dX8_set_10 ml_X8_165 mo_X8_isCell vo_X8_isCell rfl rfl (ok_X8_isCell er2) (by decide) (Nat.le_of_ble_eq_true rfl) ?_
    refine wp_if_eq (tgt := 28) dX8_set_13 (by decide) (fun c3 => ?_) (fun c3 => ?_)
    · rw [if_pos c3] at h
      refine wp_iconst (v := -1) dX8_set_28 (by decide +kernel) ?_
      obtain rfl := Option.some.inj h
      exact wp_iret dX8_set_29 rfl rfl
    · rw [if_neg c3] at h
      refine wp_aload_n (i := 0) dX8_set_16 rfl rfl ?_
      refine wp_getR (t := 29) dX8_set_17 fl_X8_66 rfl rfl ?_
      refine wp_iload_n (i := 1) dX8_set_20 rfl rfl ?_
      refine wp_iload_n (i := 2) dX8_set_21 rfl rfl ?_
      obtain ⟨r4, er4, h⟩ := ob h
      refine wp_cVi (N := m_X4_valuesAt) (As := [.int a1, .int a2]) (rest := []) dX8_set_22 ml_X8_223 mo_X4_valuesAt vo_X4_valuesAt rfl rfl (ok_X4_valuesAt er4) (by decide) (Nat.le_of_ble_eq_true rfl) ?_
      refine wp_goto (tgt := 29) dX8_set_25 (by decide) ?_
      obtain rfl := Option.some.inj h
      exact wp_iret dX8_set_29 rfl rfl
def f_X8_search (a1 : Int32) (a2 : Int32) (s : St) : Option (Int32 × St) :=
  Option.bind (f_X8_hasPuzzle s) fun r1 =>
  if r1.1 = 0 then (
    some ((-1 : Int32), r1.2))
  else (
    Option.bind (f_X8_isSize a1 (50 : Int32) r1.2) fun r3 =>
    if r3.1 = 0 then (
      some ((-1 : Int32), r3.2))
    else (
      if a2 < 0 then (
        some ((-1 : Int32), r3.2))
      else (
        if a2 ≤ (1000 : Int32) then (
          Option.bind (f_X5_seek 12 a1 a2 33 r3.2) fun s7 =>
          if (s7.1 33 4) = 0 then (
            some (s7.1 33 2, s7))
          else (
            some ((-2 : Int32), s7)))
        else (
          some ((-1 : Int32), r3.2)))))
set_option maxRecDepth 100000 in
set_option maxHeartbeats 4000000 in
theorem ok_X8_search {a1 : Int32} {a2 : Int32} {s : St} {r : Int32 × St} (h : f_X8_search a1 a2 s = some r) : Ct 5 m_X8_search [.ref 0, .int a1, .int a2] s (some (.int r.1)) r.2 := by
  unfold f_X8_search at h
  refine ct_of [some (.ref 0), some (.int a1), some (.int a2)] 0 (by decide) rfl (Nat.le_of_ble_eq_true rfl) ?_
  refine wp_aload_n (i := 0) dX8_search_0 rfl rfl ?_
  obtain ⟨r1, er1, h⟩ := ob h
  refine wp_cVi (N := m_X8_hasPuzzle) (As := []) (rest := []) dX8_search_1 ml_X8_128 mo_X8_hasPuzzle vo_X8_hasPuzzle rfl rfl (ok_X8_hasPuzzle er1) (by decide) (Nat.le_of_ble_eq_true rfl) ?_
  refine wp_if_eq (tgt := 27) dX8_search_4 (by decide) (fun c2 => ?_) (fun c2 => ?_)
  · rw [if_pos c2] at h
    refine wp_iconst (v := -1) dX8_search_27 (by decide +kernel) ?_
    obtain rfl := Option.some.inj h
    exact wp_iret dX8_search_28 rfl rfl
  · rw [if_neg c2] at h
    refine wp_iload_n (i := 1) dX8_search_7 rfl rfl ?_
    refine wp_bipush (v := 50) dX8_search_8 (by decide +kernel) ?_
    obtain ⟨r3, er3, h⟩ := ob h
    refine wp_cSi (N := m_X8_isSize) (As := [.int a1, .int (50 : Int32)]) (rest := []) dX8_search_10 ml_X8_120 mo_X8_isSize vo_X8_isSize rfl (ok_X8_isSize er3) (by decide) (Nat.le_of_ble_eq_true rfl) ?_
    refine wp_if_eq (tgt := 27) dX8_search_13 (by decide) (fun c4 => ?_) (fun c4 => ?_)
    · rw [if_pos c4] at h
      refine wp_iconst (v := -1) dX8_search_27 (by decide +kernel) ?_
      obtain rfl := Option.some.inj h
      exact wp_iret dX8_search_28 rfl rfl
    · rw [if_neg c4] at h
      refine wp_iload_n (i := 2) dX8_search_16 rfl rfl ?_
      refine wp_if_lt (tgt := 27) dX8_search_17 (by decide) (fun c5 => ?_) (fun c5 => ?_)
      · rw [if_pos c5] at h
        refine wp_iconst (v := -1) dX8_search_27 (by decide +kernel) ?_
        obtain rfl := Option.some.inj h
        exact wp_iret dX8_search_28 rfl rfl
      · rw [if_neg c5] at h
        refine wp_iload_n (i := 2) dX8_search_20 rfl rfl ?_
        refine wp_sipush (v := 1000) dX8_search_21 (by decide +kernel) ?_
        refine wp_icmp_le (tgt := 29) dX8_search_24 (by decide) (fun c6 => ?_) (fun c6 => ?_)
        · rw [if_pos c6] at h
          refine wp_aload_n (i := 0) dX8_search_29 rfl rfl ?_
          refine wp_getR (t := 21) dX8_search_30 fl_X8_59 rfl rfl ?_
          refine wp_aload_n (i := 0) dX8_search_33 rfl rfl ?_
          refine wp_getR (t := 12) dX8_search_34 fl_X8_38 rfl rfl ?_
          refine wp_iload_n (i := 1) dX8_search_37 rfl rfl ?_
          refine wp_iload_n (i := 2) dX8_search_38 rfl rfl ?_
          refine wp_aload_n (i := 0) dX8_search_39 rfl rfl ?_
          refine wp_getR (t := 33) dX8_search_40 fl_X8_76 rfl rfl ?_
          obtain ⟨s7, es7, h⟩ := ob h
          refine wp_cVv (N := m_X5_seek) (As := [.ref 12, .int a1, .int a2, .ref 33]) (rest := []) dX8_search_43 ml_X8_226 mo_X5_seek vo_X5_seek rfl rfl (ok_X5_seek es7) (by decide) (Nat.le_of_ble_eq_true rfl) ?_
          refine wp_aload_n (i := 0) dX8_search_46 rfl rfl ?_
          refine wp_getR (t := 33) dX8_search_47 fl_X8_76 rfl rfl ?_
          refine wp_getI dX8_search_50 fl_X8_230 rfl rfl ?_
          refine wp_if_eq (tgt := 61) dX8_search_53 (by decide) (fun c8 => ?_) (fun c8 => ?_)
          · rw [if_pos c8] at h
            refine wp_aload_n (i := 0) dX8_search_61 rfl rfl ?_
            refine wp_getR (t := 33) dX8_search_62 fl_X8_76 rfl rfl ?_
            refine wp_getI dX8_search_65 fl_X8_233 rfl rfl ?_
            obtain rfl := Option.some.inj h
            exact wp_iret dX8_search_68 rfl rfl
          · rw [if_neg c8] at h
            refine wp_bipush (v := -2) dX8_search_56 (by decide +kernel) ?_
            refine wp_goto (tgt := 68) dX8_search_58 (by decide) ?_
            obtain rfl := Option.some.inj h
            exact wp_iret dX8_search_68 rfl rfl
        · rw [if_neg c6] at h
          refine wp_iconst (v := -1) dX8_search_27 (by decide +kernel) ?_
          obtain rfl := Option.some.inj h
          exact wp_iret dX8_search_28 rfl rfl
def f_X8_nodes  (s : St) : Option (Int32 × St) :=
  some (s.1 33 3, s)
set_option maxRecDepth 100000 in
set_option maxHeartbeats 4000000 in
theorem ok_X8_nodes  {s : St} {r : Int32 × St} (h : f_X8_nodes  s = some r) : Ct 0 m_X8_nodes [.ref 0] s (some (.int r.1)) r.2 := by
  unfold f_X8_nodes at h
  refine ct_of [some (.ref 0)] 0 (by decide) rfl (Nat.le_of_ble_eq_true rfl) ?_
  refine wp_aload_n (i := 0) dX8_nodes_0 rfl rfl ?_
  refine wp_getR (t := 33) dX8_nodes_1 fl_X8_76 rfl rfl ?_
  refine wp_getI dX8_nodes_4 fl_X8_236 rfl rfl ?_
  obtain rfl := Option.some.inj h
  exact wp_iret dX8_nodes_7 rfl rfl
def f_X8_solution (a1 : Int32) (a2 : Int32) (a3 : Int32) (s : St) : Option (Int32 × St) :=
  Option.bind (f_X8_isCell a2 a3 s) fun r1 =>
  if r1.1 = 0 then (
    some ((-1 : Int32), r1.2))
  else (
    Option.bind (f_X1_isKept 33 a1 r1.2) fun r3 =>
    if r3.1 = 0 then (
      some ((-1 : Int32), r3.2))
    else (
      Option.bind (f_X1_kept 33 a1 r3.2) fun r5 =>
      Option.bind (f_X2_at r5.1 a2 a3 r5.2) fun r6 =>
      some (r6.1, r6.2)))
set_option maxRecDepth 100000 in
set_option maxHeartbeats 4000000 in
theorem ok_X8_solution {a1 : Int32} {a2 : Int32} {a3 : Int32} {s : St} {r : Int32 × St} (h : f_X8_solution a1 a2 a3 s = some r) : Ct 1 m_X8_solution [.ref 0, .int a1, .int a2, .int a3] s (some (.int r.1)) r.2 := by
  unfold f_X8_solution at h
  refine ct_of [some (.ref 0), some (.int a1), some (.int a2), some (.int a3)] 0 (by decide) rfl (Nat.le_of_ble_eq_true rfl) ?_
  refine wp_aload_n (i := 0) dX8_solution_0 rfl rfl ?_
  refine wp_iload_n (i := 2) dX8_solution_1 rfl rfl ?_
  refine wp_iload_n (i := 3) dX8_solution_2 rfl rfl ?_
  obtain ⟨r1, er1, h⟩ := ob h
  refine wp_cVi (N := m_X8_isCell) (As := [.int a2, .int a3]) (rest := []) dX8_solution_3 ml_X8_165 mo_X8_isCell vo_X8_isCell rfl rfl (ok_X8_isCell er1) (by decide) (Nat.le_of_ble_eq_true rfl) ?_
  refine wp_if_eq (tgt := 20) dX8_solution_6 (by decide) (fun c2 => ?_) (fun c2 => ?_)
  · rw [if_pos c2] at h
    refine wp_iconst (v := -1) dX8_solution_20 (by decide +kernel) ?_
    obtain rfl := Option.some.inj h
    exact wp_iret dX8_solution_21 rfl rfl
  · rw [if_neg c2] at h
    refine wp_aload_n (i := 0) dX8_solution_9 rfl rfl ?_
    refine wp_getR (t := 33) dX8_solution_10 fl_X8_76 rfl rfl ?_
    refine wp_iload_n (i := 1) dX8_solution_13 rfl rfl ?_
    obtain ⟨r3, er3, h⟩ := ob h
    refine wp_cVi (N := m_X1_isKept) (As := [.int a1]) (rest := []) dX8_solution_14 ml_X8_239 mo_X1_isKept vo_X1_isKept rfl rfl (ok_X1_isKept er3) (by decide) (Nat.le_of_ble_eq_true rfl) ?_
    refine wp_if_ne (tgt := 22) dX8_solution_17 (by decide) (fun c4 => ?_) (fun c4 => ?_)
    · rw [if_neg c4] at h
      refine wp_aload_n (i := 0) dX8_solution_22 rfl rfl ?_
      refine wp_getR (t := 33) dX8_solution_23 fl_X8_76 rfl rfl ?_
      refine wp_iload_n (i := 1) dX8_solution_26 rfl rfl ?_
      obtain ⟨r5, er5, h⟩ := ob h
      refine wp_cVr (N := m_X1_kept) (As := [.int a1]) (rest := []) dX8_solution_27 ml_X8_242 mo_X1_kept vo_X1_kept rfl rfl (ok_X1_kept er5) (by decide) (Nat.le_of_ble_eq_true rfl) ?_
      refine wp_iload_n (i := 2) dX8_solution_30 rfl rfl ?_
      refine wp_iload_n (i := 3) dX8_solution_31 rfl rfl ?_
      obtain ⟨r6, er6, h⟩ := ob h
      refine wp_cVi (N := m_X2_at) (As := [.int a2, .int a3]) (rest := []) dX8_solution_32 ml_X8_177 mo_X2_at vo_X2_at (ck_X2_at er6) rfl (ok_X2_at er6) (by decide) (Nat.le_of_ble_eq_true rfl) ?_
      obtain rfl := Option.some.inj h
      exact wp_iret dX8_solution_35 rfl rfl
    · rw [if_pos c4] at h
      refine wp_iconst (v := -1) dX8_solution_20 (by decide +kernel) ?_
      obtain rfl := Option.some.inj h
      exact wp_iret dX8_solution_21 rfl rfl
def f_X8_level  (s : St) : Option (Int32 × St) :=
  Option.bind (f_X8_hasPuzzle s) fun r1 =>
  if r1.1 = 0 then (
    some ((-1 : Int32), r1.2))
  else (
    Option.bind (f_X5_judge 12 38 r1.2) fun r3 =>
    some (r3.1, r3.2))
set_option maxRecDepth 100000 in
set_option maxHeartbeats 4000000 in
theorem ok_X8_level  {s : St} {r : Int32 × St} (h : f_X8_level  s = some r) : Ct 6 m_X8_level [.ref 0] s (some (.int r.1)) r.2 := by
  unfold f_X8_level at h
  refine ct_of [some (.ref 0)] 0 (by decide) rfl (Nat.le_of_ble_eq_true rfl) ?_
  refine wp_aload_n (i := 0) dX8_level_0 rfl rfl ?_
  obtain ⟨r1, er1, h⟩ := ob h
  refine wp_cVi (N := m_X8_hasPuzzle) (As := []) (rest := []) dX8_level_1 ml_X8_128 mo_X8_hasPuzzle vo_X8_hasPuzzle rfl rfl (ok_X8_hasPuzzle er1) (by decide) (Nat.le_of_ble_eq_true rfl) ?_
  refine wp_if_eq (tgt := 25) dX8_level_4 (by decide) (fun c2 => ?_) (fun c2 => ?_)
  · rw [if_pos c2] at h
    refine wp_iconst (v := -1) dX8_level_25 (by decide +kernel) ?_
    obtain rfl := Option.some.inj h
    exact wp_iret dX8_level_26 rfl rfl
  · rw [if_neg c2] at h
    refine wp_aload_n (i := 0) dX8_level_7 rfl rfl ?_
    refine wp_getR (t := 21) dX8_level_8 fl_X8_59 rfl rfl ?_
    refine wp_aload_n (i := 0) dX8_level_11 rfl rfl ?_
    refine wp_getR (t := 12) dX8_level_12 fl_X8_38 rfl rfl ?_
    refine wp_aload_n (i := 0) dX8_level_15 rfl rfl ?_
    refine wp_getR (t := 38) dX8_level_16 fl_X8_80 rfl rfl ?_
    obtain ⟨r3, er3, h⟩ := ob h
    refine wp_cVi (N := m_X5_judge) (As := [.ref 12, .ref 38]) (rest := []) dX8_level_19 ml_X8_246 mo_X5_judge vo_X5_judge rfl rfl (ok_X5_judge er3) (by decide) (Nat.le_of_ble_eq_true rfl) ?_
    refine wp_goto (tgt := 26) dX8_level_22 (by decide) ?_
    obtain rfl := Option.some.inj h
    exact wp_iret dX8_level_26 rfl rfl
def f_X8_mark (a1 : Int32) (a2 : Int32) (a3 : Int32) (s : St) : Option (Int32 × St) :=
  Option.bind (f_X8_isCell a1 a2 s) fun r1 =>
  if r1.1 = 0 then (
    some ((0 : Int32), r1.2))
  else (
    Option.bind (f_X8_isValueOrNone a3 r1.2) fun r3 =>
    if r3.1 = 0 then (
      some ((0 : Int32), r3.2))
    else (
      Option.bind (f_X2_put 14 a1 a2 a3 r3.2) fun s5 =>
      some ((1 : Int32), s5)))
set_option maxRecDepth 100000 in
set_option maxHeartbeats 4000000 in
theorem ok_X8_mark {a1 : Int32} {a2 : Int32} {a3 : Int32} {s : St} {r : Int32 × St} (h : f_X8_mark a1 a2 a3 s = some r) : Ct 2 m_X8_mark [.ref 0, .int a1, .int a2, .int a3] s (some (.int r.1)) r.2 := by
  unfold f_X8_mark at h
  refine ct_of [some (.ref 0), some (.int a1), some (.int a2), some (.int a3)] 0 (by decide) rfl (Nat.le_of_ble_eq_true rfl) ?_
  refine wp_aload_n (i := 0) dX8_mark_0 rfl rfl ?_
  refine wp_iload_n (i := 1) dX8_mark_1 rfl rfl ?_
  refine wp_iload_n (i := 2) dX8_mark_2 rfl rfl ?_
  obtain ⟨r1, er1, h⟩ := ob h
  refine wp_cVi (N := m_X8_isCell) (As := [.int a1, .int a2]) (rest := []) dX8_mark_3 ml_X8_165 mo_X8_isCell vo_X8_isCell rfl rfl (ok_X8_isCell er1) (by decide) (Nat.le_of_ble_eq_true rfl) ?_
  refine wp_if_eq (tgt := 17) dX8_mark_6 (by decide) (fun c2 => ?_) (fun c2 => ?_)
  · rw [if_pos c2] at h
    refine wp_iconst (v := 0) dX8_mark_17 (by decide +kernel) ?_
    obtain rfl := Option.some.inj h
    exact wp_iret dX8_mark_18 rfl (narrow_z (Or.inl rfl)).1
  · rw [if_neg c2] at h
    refine wp_aload_n (i := 0) dX8_mark_9 rfl rfl ?_
    refine wp_iload_n (i := 3) dX8_mark_10 rfl rfl ?_
    obtain ⟨r3, er3, h⟩ := ob h
    refine wp_cVi (N := m_X8_isValueOrNone) (As := [.int a3]) (rest := []) dX8_mark_11 ml_X8_168 mo_X8_isValueOrNone vo_X8_isValueOrNone rfl rfl (ok_X8_isValueOrNone er3) (by decide) (Nat.le_of_ble_eq_true rfl) ?_
    refine wp_if_ne (tgt := 19) dX8_mark_14 (by decide) (fun c4 => ?_) (fun c4 => ?_)
    · rw [if_neg c4] at h
      refine wp_aload_n (i := 0) dX8_mark_19 rfl rfl ?_
      refine wp_getR (t := 14) dX8_mark_20 fl_X8_42 rfl rfl ?_
      refine wp_iload_n (i := 1) dX8_mark_23 rfl rfl ?_
      refine wp_iload_n (i := 2) dX8_mark_24 rfl rfl ?_
      refine wp_iload_n (i := 3) dX8_mark_25 rfl rfl ?_
      obtain ⟨s5, es5, h⟩ := ob h
      refine wp_cVv (N := m_X2_put) (As := [.int a1, .int a2, .int a3]) (rest := []) dX8_mark_26 ml_X8_171 mo_X2_put vo_X2_put rfl rfl (ok_X2_put es5) (by decide) (Nat.le_of_ble_eq_true rfl) ?_
      refine wp_iconst (v := 1) dX8_mark_29 (by decide +kernel) ?_
      obtain rfl := Option.some.inj h
      exact wp_iret dX8_mark_30 rfl (narrow_z (Or.inr rfl)).1
    · rw [if_pos c4] at h
      refine wp_iconst (v := 0) dX8_mark_17 (by decide +kernel) ?_
      obtain rfl := Option.some.inj h
      exact wp_iret dX8_mark_18 rfl (narrow_z (Or.inl rfl)).1
def f_X8_marked (a1 : Int32) (a2 : Int32) (s : St) : Option (Int32 × St) :=
  Option.bind (f_X8_isCell a1 a2 s) fun r1 =>
  if r1.1 = 0 then (
    some ((-1 : Int32), r1.2))
  else (
    Option.bind (f_X2_at 14 a1 a2 r1.2) fun r3 =>
    some (r3.1, r3.2))
set_option maxRecDepth 100000 in
set_option maxHeartbeats 4000000 in
theorem ok_X8_marked {a1 : Int32} {a2 : Int32} {s : St} {r : Int32 × St} (h : f_X8_marked a1 a2 s = some r) : Ct 1 m_X8_marked [.ref 0, .int a1, .int a2] s (some (.int r.1)) r.2 := by
  unfold f_X8_marked at h
  refine ct_of [some (.ref 0), some (.int a1), some (.int a2)] 0 (by decide) rfl (Nat.le_of_ble_eq_true rfl) ?_
  refine wp_aload_n (i := 0) dX8_marked_0 rfl rfl ?_
  refine wp_iload_n (i := 1) dX8_marked_1 rfl rfl ?_
  refine wp_iload_n (i := 2) dX8_marked_2 rfl rfl ?_
  obtain ⟨r1, er1, h⟩ := ob h
  refine wp_cVi (N := m_X8_isCell) (As := [.int a1, .int a2]) (rest := []) dX8_marked_3 ml_X8_165 mo_X8_isCell vo_X8_isCell rfl rfl (ok_X8_isCell er1) (by decide) (Nat.le_of_ble_eq_true rfl) ?_
  refine wp_if_eq (tgt := 21) dX8_marked_6 (by decide) (fun c2 => ?_) (fun c2 => ?_)
  · rw [if_pos c2] at h
    refine wp_iconst (v := -1) dX8_marked_21 (by decide +kernel) ?_
    obtain rfl := Option.some.inj h
    exact wp_iret dX8_marked_22 rfl rfl
  · rw [if_neg c2] at h
    refine wp_aload_n (i := 0) dX8_marked_9 rfl rfl ?_
    refine wp_getR (t := 14) dX8_marked_10 fl_X8_42 rfl rfl ?_
    refine wp_iload_n (i := 1) dX8_marked_13 rfl rfl ?_
    refine wp_iload_n (i := 2) dX8_marked_14 rfl rfl ?_
    obtain ⟨r3, er3, h⟩ := ob h
    refine wp_cVi (N := m_X2_at) (As := [.int a1, .int a2]) (rest := []) dX8_marked_15 ml_X8_177 mo_X2_at vo_X2_at rfl rfl (ok_X2_at er3) (by decide) (Nat.le_of_ble_eq_true rfl) ?_
    refine wp_goto (tgt := 22) dX8_marked_18 (by decide) ?_
    obtain rfl := Option.some.inj h
    exact wp_iret dX8_marked_22 rfl rfl
def f_X8_areGivensMarked_56 (K2 : Int32 → St → Option (Int32 × St)) (K15 : Int32 → Int32 → St → Option (Int32 × St)) (v1 : Int32) (v2 : Int32) (s : St) : Option (Int32 × St) :=
  K15 v1 (v2 + 1) s
set_option maxRecDepth 100000 in
set_option maxHeartbeats 4000000 in
theorem w_X8_areGivensMarked_56 {r : Int32 × St} {K2 : Int32 → St → Option (Int32 × St)} (hK2 : ∀ (v1 : Int32) (s : St), K2 v1 s = some r → Wp m_X8_areGivensMarked 2 (PR (some (.int r.1)) r.2) 2 [some (.ref 0), some (.int v1), none, none] [] s) {K15 : Int32 → Int32 → St → Option (Int32 × St)} (hK15 : ∀ (v1 : Int32) (v2 : Int32) (s : St), K15 v1 v2 s = some r → Wp m_X8_areGivensMarked 2 (PR (some (.int r.1)) r.2) 15 [some (.ref 0), some (.int v1), some (.int v2), none] [] s) {v1 : Int32} {v2 : Int32}  {s : St} (h : f_X8_areGivensMarked_56 K2 K15 v1 v2 s = some r) : Wp m_X8_areGivensMarked 2 (PR (some (.int r.1)) r.2) 56 [some (.ref 0), some (.int v1), some (.int v2), none] [] s := by
  unfold f_X8_areGivensMarked_56 at h
  refine wp_inc (c := 1) (ls' := [some (.ref 0), some (.int v1), some (.int (v2 + 1)), none]) dX8_areGivensMarked_56 rfl (by decide +kernel) (by decide) rfl rfl ?_
  refine wp_goto (tgt := 15) dX8_areGivensMarked_59 (by decide) ?_
  exact wp_sub (ls' := [some (.ref 0), some (.int v1), some (.int (v2 + 1)), none]) ⟨rfl, rfl, rfl, trivial⟩ (hK15 _ _ _ h)
def f_X8_areGivensMarked_15 (K2 : Int32 → St → Option (Int32 × St)) : Nat → Int32 → Int32 → St → Option (Int32 × St)
  | 0, _, _, _ => none
  | n + 1, v1, v2, s =>
    if (s.1 3 3) ≤ v2 then (
      K2 (v1 + 1) s)
    else (
      Option.bind (f_X2_at 12 v2 v1 s) fun r2 =>
      if r2.1 = (-1 : Int32) then (
        f_X8_areGivensMarked_56 K2 (f_X8_areGivensMarked_15 K2 n) v1 v2 r2.2)
      else (
        Option.bind (f_X2_valueAt 14 v2 v1 r2.2) fun r4 =>
        if r2.1 = r4.1 then (
          f_X8_areGivensMarked_56 K2 (f_X8_areGivensMarked_15 K2 n) v1 v2 r4.2)
        else (
          some ((0 : Int32), r4.2))))
set_option maxRecDepth 100000 in
set_option maxHeartbeats 4000000 in
theorem w_X8_areGivensMarked_15 {r : Int32 × St} {K2 : Int32 → St → Option (Int32 × St)} (hK2 : ∀ (v1 : Int32) (s : St), K2 v1 s = some r → Wp m_X8_areGivensMarked 2 (PR (some (.int r.1)) r.2) 2 [some (.ref 0), some (.int v1), none, none] [] s)   : ∀ (n : Nat) (v1 : Int32) (v2 : Int32) (s : St), f_X8_areGivensMarked_15 K2 n v1 v2 s = some r → Wp m_X8_areGivensMarked 2 (PR (some (.int r.1)) r.2) 15 [some (.ref 0), some (.int v1), some (.int v2), none] [] s := by
  intro n
  induction n with
  | zero => intro v1 v2 s h; cases h
  | succ n ih =>
    intro v1 v2 s h
    unfold f_X8_areGivensMarked_15 at h
    refine wp_iload_n (i := 2) dX8_areGivensMarked_15 rfl rfl ?_
    refine wp_aload_n (i := 0) dX8_areGivensMarked_16 rfl rfl ?_
    refine wp_getR (t := 3) dX8_areGivensMarked_17 fl_X8_19 rfl rfl ?_
    refine wp_getI dX8_areGivensMarked_20 fl_X8_131 rfl rfl ?_
    refine wp_icmp_ge (tgt := 62) dX8_areGivensMarked_23 (by decide) (fun c1 => ?_) (fun c1 => ?_)
    · rw [if_pos c1] at h
      refine wp_inc (c := 1) (ls' := [some (.ref 0), some (.int (v1 + 1)), some (.int v2), none]) dX8_areGivensMarked_62 rfl (by decide +kernel) (by decide) rfl rfl ?_
      refine wp_goto (tgt := 2) dX8_areGivensMarked_65 (by decide) ?_
      exact wp_sub (ls' := [some (.ref 0), some (.int (v1 + 1)), none, none]) ⟨rfl, rfl, trivial⟩ (hK2 _ _ h)
    · rw [if_neg c1] at h
      refine wp_aload_n (i := 0) dX8_areGivensMarked_26 rfl rfl ?_
      refine wp_getR (t := 12) dX8_areGivensMarked_27 fl_X8_38 rfl rfl ?_
      refine wp_iload_n (i := 2) dX8_areGivensMarked_30 rfl rfl ?_
      refine wp_iload_n (i := 1) dX8_areGivensMarked_31 rfl rfl ?_
      obtain ⟨r2, er2, h⟩ := ob h
      refine wp_cVi (N := m_X2_at) (As := [.int v2, .int v1]) (rest := []) dX8_areGivensMarked_32 ml_X8_177 mo_X2_at vo_X2_at rfl rfl (ok_X2_at er2) (by decide) (Nat.le_of_ble_eq_true rfl) ?_
      refine wp_istore_n (ls' := [some (.ref 0), some (.int v1), some (.int v2), some (.int r2.1)]) dX8_areGivensMarked_35 rfl (by decide) rfl rfl ?_
      refine wp_iload_n (i := 3) dX8_areGivensMarked_36 rfl rfl ?_
      refine wp_iconst (v := -1) dX8_areGivensMarked_37 (by decide +kernel) ?_
      refine wp_icmp_eq (tgt := 56) dX8_areGivensMarked_38 (by decide) (fun c3 => ?_) (fun c3 => ?_)
      · rw [if_pos c3] at h
        exact wp_sub (ls' := [some (.ref 0), some (.int v1), some (.int v2), none]) ⟨rfl, rfl, rfl, trivial⟩ (w_X8_areGivensMarked_56 hK2 ih h)
      · rw [if_neg c3] at h
        refine wp_iload_n (i := 3) dX8_areGivensMarked_41 rfl rfl ?_
        refine wp_aload_n (i := 0) dX8_areGivensMarked_42 rfl rfl ?_
        refine wp_getR (t := 14) dX8_areGivensMarked_43 fl_X8_42 rfl rfl ?_
        refine wp_iload_n (i := 2) dX8_areGivensMarked_46 rfl rfl ?_
        refine wp_iload_n (i := 1) dX8_areGivensMarked_47 rfl rfl ?_
        obtain ⟨r4, er4, h⟩ := ob h
        refine wp_cVi (N := m_X2_valueAt) (As := [.int v2, .int v1]) (rest := [.int r2.1]) dX8_areGivensMarked_48 ml_X8_285 mo_X2_valueAt vo_X2_valueAt rfl rfl (ok_X2_valueAt er4) (by decide) (Nat.le_of_ble_eq_true rfl) ?_
        refine wp_icmp_eq (tgt := 56) dX8_areGivensMarked_51 (by decide) (fun c5 => ?_) (fun c5 => ?_)
        · rw [if_pos c5] at h
          exact wp_sub (ls' := [some (.ref 0), some (.int v1), some (.int v2), none]) ⟨rfl, rfl, rfl, trivial⟩ (w_X8_areGivensMarked_56 hK2 ih h)
        · rw [if_neg c5] at h
          refine wp_iconst (v := 0) dX8_areGivensMarked_54 (by decide +kernel) ?_
          obtain rfl := Option.some.inj h
          exact wp_iret dX8_areGivensMarked_55 rfl (narrow_z (Or.inl rfl)).1
def f_X8_areGivensMarked_2 : Nat → Int32 → St → Option (Int32 × St)
  | 0, _, _ => none
  | n + 1, v1, s =>
    if (s.1 3 4) ≤ v1 then (
      some ((1 : Int32), s))
    else (
      f_X8_areGivensMarked_15 (f_X8_areGivensMarked_2 n) FU v1 (0 : Int32) s)
set_option maxRecDepth 100000 in
set_option maxHeartbeats 4000000 in
theorem w_X8_areGivensMarked_2 {r : Int32 × St}   : ∀ (n : Nat) (v1 : Int32) (s : St), f_X8_areGivensMarked_2  n v1 s = some r → Wp m_X8_areGivensMarked 2 (PR (some (.int r.1)) r.2) 2 [some (.ref 0), some (.int v1), none, none] [] s := by
  intro n
  induction n with
  | zero => intro v1 s h; cases h
  | succ n ih =>
    intro v1 s h
    unfold f_X8_areGivensMarked_2 at h
    refine wp_iload_n (i := 1) dX8_areGivensMarked_2 rfl rfl ?_
    refine wp_aload_n (i := 0) dX8_areGivensMarked_3 rfl rfl ?_
    refine wp_getR (t := 3) dX8_areGivensMarked_4 fl_X8_19 rfl rfl ?_
    refine wp_getI dX8_areGivensMarked_7 fl_X8_134 rfl rfl ?_
    refine wp_icmp_ge (tgt := 68) dX8_areGivensMarked_10 (by decide) (fun c1 => ?_) (fun c1 => ?_)
    · rw [if_pos c1] at h
      refine wp_iconst (v := 1) dX8_areGivensMarked_68 (by decide +kernel) ?_
      obtain rfl := Option.some.inj h
      exact wp_iret dX8_areGivensMarked_69 rfl (narrow_z (Or.inr rfl)).1
    · rw [if_neg c1] at h
      refine wp_iconst (v := 0) dX8_areGivensMarked_13 (by decide +kernel) ?_
      refine wp_istore_n (ls' := [some (.ref 0), some (.int v1), some (.int (0 : Int32)), none]) dX8_areGivensMarked_14 rfl (by decide) rfl rfl ?_
      exact wp_sub (ls' := [some (.ref 0), some (.int v1), some (.int (0 : Int32)), none]) ⟨rfl, rfl, rfl, trivial⟩ (w_X8_areGivensMarked_15 ih _ _ _ _ h)
def f_X8_areGivensMarked  (s : St) : Option (Int32 × St) :=
  f_X8_areGivensMarked_2 FU (0 : Int32) s
set_option maxRecDepth 100000 in
set_option maxHeartbeats 4000000 in
theorem ok_X8_areGivensMarked  {s : St} {r : Int32 × St} (h : f_X8_areGivensMarked  s = some r) : Ct 2 m_X8_areGivensMarked [.ref 0] s (some (.int r.1)) r.2 := by
  unfold f_X8_areGivensMarked at h
  refine ct_of [some (.ref 0), none, none, none] 3 (by decide) rfl (Nat.le_of_ble_eq_true rfl) ?_
  refine wp_iconst (v := 0) dX8_areGivensMarked_0 (by decide +kernel) ?_
  refine wp_istore_n (ls' := [some (.ref 0), some (.int (0 : Int32)), none, none]) dX8_areGivensMarked_1 rfl (by decide) rfl rfl ?_
  exact wp_sub (ls' := [some (.ref 0), some (.int (0 : Int32)), none, none]) ⟨rfl, rfl, trivial⟩ (w_X8_areGivensMarked_2 _ _ _ h)
def f_X8_draftFromMarks_30 : Nat → Int32 → St → Option (St)
  | 0, _, _ => none
  | n + 1, v1, s =>
    Option.bind (f_X0_lines 7 s) fun r1 =>
    if r1.1 ≤ v1 then (
      some r1.2)
    else (
      Option.bind (f_X0_readLine 7 v1 14 r1.2) fun s3 =>
      f_X8_draftFromMarks_30 n (v1 + 1) s3)
set_option maxRecDepth 100000 in
set_option maxHeartbeats 4000000 in
theorem w_X8_draftFromMarks_30 {r : St}   : ∀ (n : Nat) (v1 : Int32) (s : St), f_X8_draftFromMarks_30  n v1 s = some r → Wp m_X8_draftFromMarks 3 (PR none r) 30 [some (.ref 0), some (.int v1)] [] s := by
  intro n
  induction n with
  | zero => intro v1 s h; cases h
  | succ n ih =>
    intro v1 s h
    unfold f_X8_draftFromMarks_30 at h
    refine wp_iload_n (i := 1) dX8_draftFromMarks_30 rfl rfl ?_
    refine wp_aload_n (i := 0) dX8_draftFromMarks_31 rfl rfl ?_
    refine wp_getR (t := 7) dX8_draftFromMarks_32 fl_X8_23 rfl rfl ?_
    obtain ⟨r1, er1, h⟩ := ob h
    refine wp_cVi (N := m_X0_lines) (As := []) (rest := [.int v1]) dX8_draftFromMarks_35 ml_X8_140 mo_X0_lines vo_X0_lines rfl rfl (ok_X0_lines er1) (by decide) (Nat.le_of_ble_eq_true rfl) ?_
    refine wp_icmp_ge (tgt := 59) dX8_draftFromMarks_38 (by decide) (fun c2 => ?_) (fun c2 => ?_)
    · rw [if_pos c2] at h
      obtain rfl := Option.some.inj h
      exact wp_vret dX8_draftFromMarks_59 rfl
    · rw [if_neg c2] at h
      refine wp_aload_n (i := 0) dX8_draftFromMarks_41 rfl rfl ?_
      refine wp_getR (t := 7) dX8_draftFromMarks_42 fl_X8_23 rfl rfl ?_
      refine wp_iload_n (i := 1) dX8_draftFromMarks_45 rfl rfl ?_
      refine wp_aload_n (i := 0) dX8_draftFromMarks_46 rfl rfl ?_
      refine wp_getR (t := 14) dX8_draftFromMarks_47 fl_X8_42 rfl rfl ?_
      obtain ⟨s3, es3, h⟩ := ob h
      refine wp_cVv (N := m_X0_readLine) (As := [.int v1, .ref 14]) (rest := []) dX8_draftFromMarks_50 ml_X8_281 mo_X0_readLine vo_X0_readLine rfl rfl (ok_X0_readLine es3) (by decide) (Nat.le_of_ble_eq_true rfl) ?_
      refine wp_inc (c := 1) (ls' := [some (.ref 0), some (.int (v1 + 1))]) dX8_draftFromMarks_53 rfl (by decide +kernel) (by decide) rfl rfl ?_
      refine wp_goto (tgt := 30) dX8_draftFromMarks_56 (by decide) ?_
      exact wp_sub (ls' := [some (.ref 0), some (.int (v1 + 1))]) ⟨rfl, rfl, trivial⟩ (ih _ _ h)
def f_X8_draftFromMarks  (s : St) : Option (St) :=
  Option.bind (f_X0_begin 7 (s.1 3 3) (s.1 3 4) (s.1 3 5) s) fun s1 =>
  f_X8_draftFromMarks_30 FU (0 : Int32) s1
set_option maxRecDepth 100000 in
set_option maxHeartbeats 4000000 in
theorem ok_X8_draftFromMarks  {s : St} {r : St} (h : f_X8_draftFromMarks  s = some r) : Ct 3 m_X8_draftFromMarks [.ref 0] s none r := by
  unfold f_X8_draftFromMarks at h
  refine ct_of [some (.ref 0), none] 1 (by decide) rfl (Nat.le_of_ble_eq_true rfl) ?_
  refine wp_aload_n (i := 0) dX8_draftFromMarks_0 rfl rfl ?_
  refine wp_getR (t := 7) dX8_draftFromMarks_1 fl_X8_23 rfl rfl ?_
  refine wp_aload_n (i := 0) dX8_draftFromMarks_4 rfl rfl ?_
  refine wp_getR (t := 3) dX8_draftFromMarks_5 fl_X8_19 rfl rfl ?_
  refine wp_getI dX8_draftFromMarks_8 fl_X8_131 rfl rfl ?_
  refine wp_aload_n (i := 0) dX8_draftFromMarks_11 rfl rfl ?_
  refine wp_getR (t := 3) dX8_draftFromMarks_12 fl_X8_19 rfl rfl ?_
  refine wp_getI dX8_draftFromMarks_15 fl_X8_134 rfl rfl ?_
  refine wp_aload_n (i := 0) dX8_draftFromMarks_18 rfl rfl ?_
  refine wp_getR (t := 3) dX8_draftFromMarks_19 fl_X8_19 rfl rfl ?_
  refine wp_getI dX8_draftFromMarks_22 fl_X8_137 rfl rfl ?_
  obtain ⟨s1, es1, h⟩ := ob h
  refine wp_cVv (N := m_X0_begin) (As := [.int (s.1 3 3), .int (s.1 3 4), .int (s.1 3 5)]) (rest := []) dX8_draftFromMarks_25 ml_X8_124 mo_X0_begin vo_X0_begin rfl rfl (ok_X0_begin es1) (by decide) (Nat.le_of_ble_eq_true rfl) ?_
  refine wp_iconst (v := 0) dX8_draftFromMarks_28 (by decide +kernel) ?_
  refine wp_istore_n (ls' := [some (.ref 0), some (.int (0 : Int32))]) dX8_draftFromMarks_29 rfl (by decide) rfl rfl ?_
  exact wp_sub (ls' := [some (.ref 0), some (.int (0 : Int32))]) ⟨rfl, rfl, trivial⟩ (w_X8_draftFromMarks_30 _ _ _ h)
def f_X8_done  (s : St) : Option (Int32 × St) :=
  Option.bind (f_X8_hasPuzzle s) fun r1 =>
  if r1.1 = 0 then (
    some ((-1 : Int32), r1.2))
  else (
    Option.bind (f_X8_draftFromMarks r1.2) fun s3 =>
    Option.bind (f_X0_hasRunsOf 7 3 s3) fun r4 =>
    if r4.1 = 0 then (
      some ((0 : Int32), r4.2))
    else (
      Option.bind (f_X8_areGivensMarked r4.2) fun r6 =>
      if r6.1 = 0 then (
        some ((0 : Int32), r6.2))
      else (
        some ((1 : Int32), r6.2))))
set_option maxRecDepth 100000 in
set_option maxHeartbeats 4000000 in
theorem ok_X8_done  {s : St} {r : Int32 × St} (h : f_X8_done  s = some r) : Ct 4 m_X8_done [.ref 0] s (some (.int r.1)) r.2 := by
  unfold f_X8_done at h
  refine ct_of [some (.ref 0)] 0 (by decide) rfl (Nat.le_of_ble_eq_true rfl) ?_
  refine wp_aload_n (i := 0) dX8_done_0 rfl rfl ?_
  obtain ⟨r1, er1, h⟩ := ob h
  refine wp_cVi (N := m_X8_hasPuzzle) (As := []) (rest := []) dX8_done_1 ml_X8_128 mo_X8_hasPuzzle vo_X8_hasPuzzle rfl rfl (ok_X8_hasPuzzle er1) (by decide) (Nat.le_of_ble_eq_true rfl) ?_
  refine wp_if_ne (tgt := 9) dX8_done_4 (by decide) (fun c2 => ?_) (fun c2 => ?_)
  · rw [if_neg c2] at h
    refine wp_aload_n (i := 0) dX8_done_9 rfl rfl ?_
    obtain ⟨s3, es3, h⟩ := ob h
    refine wp_cVv (N := m_X8_draftFromMarks) (As := []) (rest := []) dX8_done_10 ml_X8_250 mo_X8_draftFromMarks vo_X8_draftFromMarks rfl rfl (ok_X8_draftFromMarks es3) (by decide) (Nat.le_of_ble_eq_true rfl) ?_
    refine wp_aload_n (i := 0) dX8_done_13 rfl rfl ?_
    refine wp_getR (t := 7) dX8_done_14 fl_X8_23 rfl rfl ?_
    refine wp_aload_n (i := 0) dX8_done_17 rfl rfl ?_
    refine wp_getR (t := 3) dX8_done_18 fl_X8_19 rfl rfl ?_
    obtain ⟨r4, er4, h⟩ := ob h
    refine wp_cVi (N := m_X0_hasRunsOf) (As := [.ref 3]) (rest := []) dX8_done_21 ml_X8_253 mo_X0_hasRunsOf vo_X0_hasRunsOf rfl rfl (ok_X0_hasRunsOf er4) (by decide) (Nat.le_of_ble_eq_true rfl) ?_
    refine wp_if_eq (tgt := 38) dX8_done_24 (by decide) (fun c5 => ?_) (fun c5 => ?_)
    · rw [if_pos c5] at h
      refine wp_iconst (v := 0) dX8_done_38 (by decide +kernel) ?_
      obtain rfl := Option.some.inj h
      exact wp_iret dX8_done_39 rfl rfl
    · rw [if_neg c5] at h
      refine wp_aload_n (i := 0) dX8_done_27 rfl rfl ?_
      obtain ⟨r6, er6, h⟩ := ob h
      refine wp_cVi (N := m_X8_areGivensMarked) (As := []) (rest := []) dX8_done_28 ml_X8_257 mo_X8_areGivensMarked vo_X8_areGivensMarked rfl rfl (ok_X8_areGivensMarked er6) (by decide) (Nat.le_of_ble_eq_true rfl) ?_
      refine wp_if_eq (tgt := 38) dX8_done_31 (by decide) (fun c7 => ?_) (fun c7 => ?_)
      · rw [if_pos c7] at h
        refine wp_iconst (v := 0) dX8_done_38 (by decide +kernel) ?_
        obtain rfl := Option.some.inj h
        exact wp_iret dX8_done_39 rfl rfl
      · rw [if_neg c7] at h
        refine wp_iconst (v := 1) dX8_done_34 (by decide +kernel) ?_
        refine wp_goto (tgt := 39) dX8_done_35 (by decide) ?_
        obtain rfl := Option.some.inj h
        exact wp_iret dX8_done_39 rfl rfl
  · rw [if_pos c2] at h
    refine wp_iconst (v := -1) dX8_done_7 (by decide +kernel) ?_
    obtain rfl := Option.some.inj h
    exact wp_iret dX8_done_8 rfl rfl
def f_X8_wrong_85 (K24 : Int32 → Int32 → St → Option (Int32 × St)) (K37 : Int32 → Int32 → Int32 → St → Option (Int32 × St)) (v1 : Int32) (v2 : Int32) (v3 : Int32) (s : St) : Option (Int32 × St) :=
  K37 v1 v2 (v3 + 1) s
set_option maxRecDepth 100000 in
set_option maxHeartbeats 4000000 in
theorem w_X8_wrong_85 {r : Int32 × St} {K24 : Int32 → Int32 → St → Option (Int32 × St)} (hK24 : ∀ (v1 : Int32) (v2 : Int32) (s : St), K24 v1 v2 s = some r → Wp m_X8_wrong 1 (PR (some (.int r.1)) r.2) 24 [some (.ref 0), some (.int v1), some (.int v2), none, none] [] s) {K37 : Int32 → Int32 → Int32 → St → Option (Int32 × St)} (hK37 : ∀ (v1 : Int32) (v2 : Int32) (v3 : Int32) (s : St), K37 v1 v2 v3 s = some r → Wp m_X8_wrong 1 (PR (some (.int r.1)) r.2) 37 [some (.ref 0), some (.int v1), some (.int v2), some (.int v3), none] [] s) {v1 : Int32} {v2 : Int32} {v3 : Int32}  {s : St} (h : f_X8_wrong_85 K24 K37 v1 v2 v3 s = some r) : Wp m_X8_wrong 1 (PR (some (.int r.1)) r.2) 85 [some (.ref 0), some (.int v1), some (.int v2), some (.int v3), none] [] s := by
  unfold f_X8_wrong_85 at h
  refine wp_inc (c := 1) (ls' := [some (.ref 0), some (.int v1), some (.int v2), some (.int (v3 + 1)), none]) dX8_wrong_85 rfl (by decide +kernel) (by decide) rfl rfl ?_
  refine wp_goto (tgt := 37) dX8_wrong_88 (by decide) ?_
  exact wp_sub (ls' := [some (.ref 0), some (.int v1), some (.int v2), some (.int (v3 + 1)), none]) ⟨rfl, rfl, rfl, rfl, trivial⟩ (hK37 _ _ _ _ h)
def f_X8_wrong_37 (K24 : Int32 → Int32 → St → Option (Int32 × St)) : Nat → Int32 → Int32 → Int32 → St → Option (Int32 × St)
  | 0, _, _, _, _ => none
  | n + 1, v1, v2, v3, s =>
    if (s.1 3 3) ≤ v3 then (
      K24 v1 (v2 + 1) s)
    else (
      Option.bind (f_X2_at 14 v3 v2 s) fun r2 =>
      if r2.1 = (-1 : Int32) then (
        f_X8_wrong_85 K24 (f_X8_wrong_37 K24 n) v1 v2 v3 r2.2)
      else (
        Option.bind (f_X2_at 34 v3 v2 r2.2) fun r4 =>
        if r2.1 = r4.1 then (
          f_X8_wrong_85 K24 (f_X8_wrong_37 K24 n) v1 v2 v3 r4.2)
        else (
          f_X8_wrong_85 K24 (f_X8_wrong_37 K24 n) (v1 + 1) v2 v3 r4.2)))
set_option maxRecDepth 100000 in
set_option maxHeartbeats 4000000 in
theorem w_X8_wrong_37 {r : Int32 × St} {K24 : Int32 → Int32 → St → Option (Int32 × St)} (hK24 : ∀ (v1 : Int32) (v2 : Int32) (s : St), K24 v1 v2 s = some r → Wp m_X8_wrong 1 (PR (some (.int r.1)) r.2) 24 [some (.ref 0), some (.int v1), some (.int v2), none, none] [] s)   : ∀ (n : Nat) (v1 : Int32) (v2 : Int32) (v3 : Int32) (s : St), f_X8_wrong_37 K24 n v1 v2 v3 s = some r → Wp m_X8_wrong 1 (PR (some (.int r.1)) r.2) 37 [some (.ref 0), some (.int v1), some (.int v2), some (.int v3), none] [] s := by
  intro n
  induction n with
  | zero => intro v1 v2 v3 s h; cases h
  | succ n ih =>
    intro v1 v2 v3 s h
    unfold f_X8_wrong_37 at h
    refine wp_iload_n (i := 3) dX8_wrong_37 rfl rfl ?_
    refine wp_aload_n (i := 0) dX8_wrong_38 rfl rfl ?_
    refine wp_getR (t := 3) dX8_wrong_39 fl_X8_19 rfl rfl ?_
    refine wp_getI dX8_wrong_42 fl_X8_131 rfl rfl ?_
    refine wp_icmp_ge (tgt := 91) dX8_wrong_45 (by decide) (fun c1 => ?_) (fun c1 => ?_)
    · rw [if_pos c1] at h
      refine wp_inc (c := 1) (ls' := [some (.ref 0), some (.int v1), some (.int (v2 + 1)), some (.int v3), none]) dX8_wrong_91 rfl (by decide +kernel) (by decide) rfl rfl ?_
      refine wp_goto (tgt := 24) dX8_wrong_94 (by decide) ?_
      exact wp_sub (ls' := [some (.ref 0), some (.int v1), some (.int (v2 + 1)), none, none]) ⟨rfl, rfl, rfl, trivial⟩ (hK24 _ _ _ h)
    · rw [if_neg c1] at h
      refine wp_aload_n (i := 0) dX8_wrong_48 rfl rfl ?_
      refine wp_getR (t := 14) dX8_wrong_49 fl_X8_42 rfl rfl ?_
      refine wp_iload_n (i := 3) dX8_wrong_52 rfl rfl ?_
      refine wp_iload_n (i := 2) dX8_wrong_53 rfl rfl ?_
      obtain ⟨r2, er2, h⟩ := ob h
      refine wp_cVi (N := m_X2_at) (As := [.int v3, .int v2]) (rest := []) dX8_wrong_54 ml_X8_177 mo_X2_at vo_X2_at rfl rfl (ok_X2_at er2) (by decide) (Nat.le_of_ble_eq_true rfl) ?_
      refine wp_istore (ls' := [some (.ref 0), some (.int v1), some (.int v2), some (.int v3), some (.int r2.1)]) dX8_wrong_57 (by decide) rfl rfl ?_
      refine wp_iload dX8_wrong_59 rfl ?_
      refine wp_iconst (v := -1) dX8_wrong_61 (by decide +kernel) ?_
      refine wp_icmp_eq (tgt := 85) dX8_wrong_62 (by decide) (fun c3 => ?_) (fun c3 => ?_)
      · rw [if_pos c3] at h
        exact wp_sub (ls' := [some (.ref 0), some (.int v1), some (.int v2), some (.int v3), none]) ⟨rfl, rfl, rfl, rfl, trivial⟩ (w_X8_wrong_85 hK24 ih h)
      · rw [if_neg c3] at h
        refine wp_iload dX8_wrong_65 rfl ?_
        refine wp_aload_n (i := 0) dX8_wrong_67 rfl rfl ?_
        refine wp_getR (t := 33) dX8_wrong_68 fl_X8_76 rfl rfl ?_
        refine wp_getR (t := 34) dX8_wrong_71 fl_X8_260 rfl rfl ?_
        refine wp_iload_n (i := 3) dX8_wrong_74 rfl rfl ?_
        refine wp_iload_n (i := 2) dX8_wrong_75 rfl rfl ?_
        obtain ⟨r4, er4, h⟩ := ob h
        refine wp_cVi (N := m_X2_at) (As := [.int v3, .int v2]) (rest := [.int r2.1]) dX8_wrong_76 ml_X8_177 mo_X2_at vo_X2_at rfl rfl (ok_X2_at er4) (by decide) (Nat.le_of_ble_eq_true rfl) ?_
        refine wp_icmp_eq (tgt := 85) dX8_wrong_79 (by decide) (fun c5 => ?_) (fun c5 => ?_)
        · rw [if_pos c5] at h
          exact wp_sub (ls' := [some (.ref 0), some (.int v1), some (.int v2), some (.int v3), none]) ⟨rfl, rfl, rfl, rfl, trivial⟩ (w_X8_wrong_85 hK24 ih h)
        · rw [if_neg c5] at h
          refine wp_inc (c := 1) (ls' := [some (.ref 0), some (.int (v1 + 1)), some (.int v2), some (.int v3), some (.int r2.1)]) dX8_wrong_82 rfl (by decide +kernel) (by decide) rfl rfl ?_
          exact wp_sub (ls' := [some (.ref 0), some (.int (v1 + 1)), some (.int v2), some (.int v3), none]) ⟨rfl, rfl, rfl, rfl, trivial⟩ (w_X8_wrong_85 hK24 ih h)
def f_X8_wrong_24 : Nat → Int32 → Int32 → St → Option (Int32 × St)
  | 0, _, _, _ => none
  | n + 1, v1, v2, s =>
    if (s.1 3 4) ≤ v2 then (
      some (v1, s))
    else (
      f_X8_wrong_37 (f_X8_wrong_24 n) FU v1 v2 (0 : Int32) s)
set_option maxRecDepth 100000 in
set_option maxHeartbeats 4000000 in
theorem w_X8_wrong_24 {r : Int32 × St}   : ∀ (n : Nat) (v1 : Int32) (v2 : Int32) (s : St), f_X8_wrong_24  n v1 v2 s = some r → Wp m_X8_wrong 1 (PR (some (.int r.1)) r.2) 24 [some (.ref 0), some (.int v1), some (.int v2), none, none] [] s := by
  intro n
  induction n with
  | zero => intro v1 v2 s h; cases h
  | succ n ih =>
    intro v1 v2 s h
    unfold f_X8_wrong_24 at h
    refine wp_iload_n (i := 2) dX8_wrong_24 rfl rfl ?_
    refine wp_aload_n (i := 0) dX8_wrong_25 rfl rfl ?_
    refine wp_getR (t := 3) dX8_wrong_26 fl_X8_19 rfl rfl ?_
    refine wp_getI dX8_wrong_29 fl_X8_134 rfl rfl ?_
    refine wp_icmp_ge (tgt := 97) dX8_wrong_32 (by decide) (fun c1 => ?_) (fun c1 => ?_)
    · rw [if_pos c1] at h
      refine wp_iload_n (i := 1) dX8_wrong_97 rfl rfl ?_
      obtain rfl := Option.some.inj h
      exact wp_iret dX8_wrong_98 rfl rfl
    · rw [if_neg c1] at h
      refine wp_iconst (v := 0) dX8_wrong_35 (by decide +kernel) ?_
      refine wp_istore_n (ls' := [some (.ref 0), some (.int v1), some (.int v2), some (.int (0 : Int32)), none]) dX8_wrong_36 rfl (by decide) rfl rfl ?_
      exact wp_sub (ls' := [some (.ref 0), some (.int v1), some (.int v2), some (.int (0 : Int32)), none]) ⟨rfl, rfl, rfl, rfl, trivial⟩ (w_X8_wrong_37 ih _ _ _ _ _ h)
def f_X8_wrong  (s : St) : Option (Int32 × St) :=
  Option.bind (f_X8_hasPuzzle s) fun r1 =>
  if r1.1 = 0 then (
    some ((-1 : Int32), r1.2))
  else (
    Option.bind (f_X1_isKept 33 (0 : Int32) r1.2) fun r3 =>
    if r3.1 = 0 then (
      some ((-1 : Int32), r3.2))
    else (
      f_X8_wrong_24 FU (0 : Int32) (0 : Int32) r3.2))
set_option maxRecDepth 100000 in
set_option maxHeartbeats 4000000 in
theorem ok_X8_wrong  {s : St} {r : Int32 × St} (h : f_X8_wrong  s = some r) : Ct 1 m_X8_wrong [.ref 0] s (some (.int r.1)) r.2 := by
  unfold f_X8_wrong at h
  refine ct_of [some (.ref 0), none, none, none, none] 4 (by decide) rfl (Nat.le_of_ble_eq_true rfl) ?_
  refine wp_aload_n (i := 0) dX8_wrong_0 rfl rfl ?_
  obtain ⟨r1, er1, h⟩ := ob h
  refine wp_cVi (N := m_X8_hasPuzzle) (As := []) (rest := []) dX8_wrong_1 ml_X8_128 mo_X8_hasPuzzle vo_X8_hasPuzzle rfl rfl (ok_X8_hasPuzzle er1) (by decide) (Nat.le_of_ble_eq_true rfl) ?_
  refine wp_if_eq (tgt := 18) dX8_wrong_4 (by decide) (fun c2 => ?_) (fun c2 => ?_)
  · rw [if_pos c2] at h
    refine wp_iconst (v := -1) dX8_wrong_18 (by decide +kernel) ?_
    obtain rfl := Option.some.inj h
    exact wp_iret dX8_wrong_19 rfl rfl
  · rw [if_neg c2] at h
    refine wp_aload_n (i := 0) dX8_wrong_7 rfl rfl ?_
    refine wp_getR (t := 33) dX8_wrong_8 fl_X8_76 rfl rfl ?_
    refine wp_iconst (v := 0) dX8_wrong_11 (by decide +kernel) ?_
    obtain ⟨r3, er3, h⟩ := ob h
    refine wp_cVi (N := m_X1_isKept) (As := [.int (0 : Int32)]) (rest := []) dX8_wrong_12 ml_X8_239 mo_X1_isKept vo_X1_isKept rfl rfl (ok_X1_isKept er3) (by decide) (Nat.le_of_ble_eq_true rfl) ?_
    refine wp_if_ne (tgt := 20) dX8_wrong_15 (by decide) (fun c4 => ?_) (fun c4 => ?_)
    · rw [if_neg c4] at h
      refine wp_iconst (v := 0) dX8_wrong_20 (by decide +kernel) ?_
      refine wp_istore_n (ls' := [some (.ref 0), some (.int (0 : Int32)), none, none, none]) dX8_wrong_21 rfl (by decide) rfl rfl ?_
      refine wp_iconst (v := 0) dX8_wrong_22 (by decide +kernel) ?_
      refine wp_istore_n (ls' := [some (.ref 0), some (.int (0 : Int32)), some (.int (0 : Int32)), none, none]) dX8_wrong_23 rfl (by decide) rfl rfl ?_
      exact wp_sub (ls' := [some (.ref 0), some (.int (0 : Int32)), some (.int (0 : Int32)), none, none]) ⟨rfl, rfl, rfl, trivial⟩ (w_X8_wrong_24 _ _ _ _ h)
    · rw [if_pos c4] at h
      refine wp_iconst (v := -1) dX8_wrong_18 (by decide +kernel) ?_
      obtain rfl := Option.some.inj h
      exact wp_iret dX8_wrong_19 rfl rfl
def f_X8_hintOf_124 (K3 : Int32 → Int64 → Int32 → St → Option (Int32 × St)) (v1 : Int32) (v2 : Int64) (v4 : Int32) (s : St) : Option (Int32 × St) :=
  K3 v1 v2 (v4 + 1) s
set_option maxRecDepth 100000 in
set_option maxHeartbeats 4000000 in
theorem w_X8_hintOf_124 {r : Int32 × St} {K3 : Int32 → Int64 → Int32 → St → Option (Int32 × St)} (hK3 : ∀ (v1 : Int32) (v2 : Int64) (v4 : Int32) (s : St), K3 v1 v2 v4 s = some r → Wp m_X8_hintOf 1 (PR (some (.int r.1)) r.2) 3 [some (.ref 0), some (.int v1), some (.long v2), none, some (.int v4), none, none, none, none] [] s) {v1 : Int32} {v2 : Int64} {v4 : Int32}  {s : St} (h : f_X8_hintOf_124 K3 v1 v2 v4 s = some r) : Wp m_X8_hintOf 1 (PR (some (.int r.1)) r.2) 124 [some (.ref 0), some (.int v1), some (.long v2), none, some (.int v4), none, none, none, none] [] s := by
  unfold f_X8_hintOf_124 at h
  refine wp_inc (c := 1) (ls' := [some (.ref 0), some (.int v1), some (.long v2), none, some (.int (v4 + 1)), none, none, none, none]) dX8_hintOf_124 rfl (by decide +kernel) (by decide) rfl rfl ?_
  refine wp_goto (tgt := 3) dX8_hintOf_127 (by decide) ?_
  exact wp_sub (ls' := [some (.ref 0), some (.int v1), some (.long v2), none, some (.int (v4 + 1)), none, none, none, none]) ⟨rfl, rfl, rfl, rfl, trivial⟩ (hK3 _ _ _ _ h)
def f_X8_hintOf_83 (K3 : Int32 → Int64 → Int32 → St → Option (Int32 × St)) (v1 : Int32) (v2 : Int64) (v4 : Int32) (v5 : Int32) (v6 : Int32) (v7 : Int32) (t0 : Int32) (s : St) : Option (Int32 × St) :=
  if t0 = 0 then (
    f_X8_hintOf_124 K3 v1 v2 v4 s)
  else (
    Option.bind (f_J6_bitCount_0f7a4 v7 s) fun r2 =>
    if r2.1 = (1 : Int32) then (
      Option.bind (f_X4_leastOf v7 r2.2) fun r4 =>
      some (((((10000 : Int32) * v1) + ((1000 : Int32) * r4.1)) + ((12 : Int32) * v6)) + v5, r4.2))
    else (
      f_X8_hintOf_124 K3 v1 v2 v4 r2.2))
set_option maxRecDepth 100000 in
set_option maxHeartbeats 4000000 in
theorem w_X8_hintOf_83 {r : Int32 × St} {K3 : Int32 → Int64 → Int32 → St → Option (Int32 × St)} (hK3 : ∀ (v1 : Int32) (v2 : Int64) (v4 : Int32) (s : St), K3 v1 v2 v4 s = some r → Wp m_X8_hintOf 1 (PR (some (.int r.1)) r.2) 3 [some (.ref 0), some (.int v1), some (.long v2), none, some (.int v4), none, none, none, none] [] s) {v1 : Int32} {v2 : Int64} {v4 : Int32} {v5 : Int32} {v6 : Int32} {v7 : Int32} {t0 : Int32}  {s : St} (h : f_X8_hintOf_83 K3 v1 v2 v4 v5 v6 v7 t0 s = some r) : Wp m_X8_hintOf 1 (PR (some (.int r.1)) r.2) 83 [some (.ref 0), some (.int v1), some (.long v2), none, some (.int v4), some (.int v5), some (.int v6), some (.int v7), none] [.int t0] s := by
  unfold f_X8_hintOf_83 at h
  refine wp_istore (ls' := [some (.ref 0), some (.int v1), some (.long v2), none, some (.int v4), some (.int v5), some (.int v6), some (.int v7), some (.int t0)]) dX8_hintOf_83 (by decide) rfl rfl ?_
  refine wp_iload dX8_hintOf_85 rfl ?_
  refine wp_if_eq (tgt := 124) dX8_hintOf_87 (by decide) (fun c1 => ?_) (fun c1 => ?_)
  · rw [if_pos c1] at h
    exact wp_sub (ls' := [some (.ref 0), some (.int v1), some (.long v2), none, some (.int v4), none, none, none, none]) ⟨rfl, rfl, rfl, rfl, trivial⟩ (w_X8_hintOf_124 hK3 h)
  · rw [if_neg c1] at h
    refine wp_iload dX8_hintOf_90 rfl ?_
    obtain ⟨r2, er2, h⟩ := ob h
    refine wp_cSi (N := m_J6_bitCount_0f7a4) (As := [.int v7]) (rest := []) dX8_hintOf_92 ml_X8_195 mo_J6_bitCount_0f7a4 vo_J6_bitCount_0f7a4 rfl (ok_J6_bitCount_0f7a4 er2) (by decide) (Nat.le_of_ble_eq_true rfl) ?_
    refine wp_iconst (v := 1) dX8_hintOf_95 (by decide +kernel) ?_
    refine wp_icmp_ne (tgt := 124) dX8_hintOf_96 (by decide) (fun c3 => ?_) (fun c3 => ?_)
    · rw [if_neg c3] at h
      exact wp_sub (ls' := [some (.ref 0), some (.int v1), some (.long v2), none, some (.int v4), none, none, none, none]) ⟨rfl, rfl, rfl, rfl, trivial⟩ (w_X8_hintOf_124 hK3 h)
    · rw [if_pos c3] at h
      refine wp_sipush (v := 10000) dX8_hintOf_99 (by decide +kernel) ?_
      refine wp_iload_n (i := 1) dX8_hintOf_102 rfl rfl ?_
      refine wp_imul dX8_hintOf_103 ?_
      refine wp_sipush (v := 1000) dX8_hintOf_104 (by decide +kernel) ?_
      refine wp_iload dX8_hintOf_107 rfl ?_
      obtain ⟨r4, er4, h⟩ := ob h
      refine wp_cSi (N := m_X4_leastOf) (As := [.int v7]) (rest := [.int (1000 : Int32), .int ((10000 : Int32) * v1)]) dX8_hintOf_109 ml_X8_301 mo_X4_leastOf vo_X4_leastOf rfl (ok_X4_leastOf er4) (by decide) (Nat.le_of_ble_eq_true rfl) ?_
      refine wp_imul dX8_hintOf_112 ?_
      refine wp_iadd dX8_hintOf_113 ?_
      refine wp_bipush (v := 12) dX8_hintOf_114 (by decide +kernel) ?_
      refine wp_iload dX8_hintOf_116 rfl ?_
      refine wp_imul dX8_hintOf_118 ?_
      refine wp_iadd dX8_hintOf_119 ?_
      refine wp_iload dX8_hintOf_120 rfl ?_
      refine wp_iadd dX8_hintOf_122 ?_
      obtain rfl := Option.some.inj h
      exact wp_iret dX8_hintOf_123 rfl rfl
def f_X8_hintOf_82 (K3 : Int32 → Int64 → Int32 → St → Option (Int32 × St)) (v1 : Int32) (v2 : Int64) (v4 : Int32) (v5 : Int32) (v6 : Int32) (v7 : Int32) (s : St) : Option (Int32 × St) :=
  f_X8_hintOf_83 K3 v1 v2 v4 v5 v6 v7 (0 : Int32) s
set_option maxRecDepth 100000 in
set_option maxHeartbeats 4000000 in
theorem w_X8_hintOf_82 {r : Int32 × St} {K3 : Int32 → Int64 → Int32 → St → Option (Int32 × St)} (hK3 : ∀ (v1 : Int32) (v2 : Int64) (v4 : Int32) (s : St), K3 v1 v2 v4 s = some r → Wp m_X8_hintOf 1 (PR (some (.int r.1)) r.2) 3 [some (.ref 0), some (.int v1), some (.long v2), none, some (.int v4), none, none, none, none] [] s) {v1 : Int32} {v2 : Int64} {v4 : Int32} {v5 : Int32} {v6 : Int32} {v7 : Int32}  {s : St} (h : f_X8_hintOf_82 K3 v1 v2 v4 v5 v6 v7 s = some r) : Wp m_X8_hintOf 1 (PR (some (.int r.1)) r.2) 82 [some (.ref 0), some (.int v1), some (.long v2), none, some (.int v4), some (.int v5), some (.int v6), some (.int v7), none] [] s := by
  unfold f_X8_hintOf_82 at h
  refine wp_iconst (v := 0) dX8_hintOf_82 (by decide +kernel) ?_
  exact wp_sub (ls' := [some (.ref 0), some (.int v1), some (.long v2), none, some (.int v4), some (.int v5), some (.int v6), some (.int v7), none]) ⟨rfl, rfl, rfl, rfl, rfl, rfl, rfl, trivial⟩ (w_X8_hintOf_83 hK3 h)
def f_X8_hintOf_3 : Nat → Int32 → Int64 → Int32 → St → Option (Int32 × St)
  | 0, _, _, _, _ => none
  | n + 1, v1, v2, v4, s =>
    Option.bind (f_X0_cellsOf 3 v1 s) fun r1 =>
    if r1.1 ≤ v4 then (
      some ((-1 : Int32), r1.2))
    else (
      Option.bind (f_X0_xOf 3 v1 v4 r1.2) fun r3 =>
      Option.bind (f_X0_yOf 3 v1 v4 r3.2) fun r4 =>
      Option.bind (f_X4_valuesIn v2 v4 r4.2) fun r5 =>
      Option.bind (f_X2_at 12 r3.1 r4.1 r5.2) fun r6 =>
      if r6.1 = (-1 : Int32) then (
        Option.bind (f_X2_at 14 r3.1 r4.1 r6.2) fun r8 =>
        if r8.1 = (-1 : Int32) then (
          f_X8_hintOf_83 (f_X8_hintOf_3 n) v1 v2 v4 r3.1 r4.1 r5.1 (1 : Int32) r8.2)
        else (
          f_X8_hintOf_82 (f_X8_hintOf_3 n) v1 v2 v4 r3.1 r4.1 r5.1 r8.2))
      else (
        f_X8_hintOf_82 (f_X8_hintOf_3 n) v1 v2 v4 r3.1 r4.1 r5.1 r6.2))
set_option maxRecDepth 100000 in
set_option maxHeartbeats 4000000 in
theorem w_X8_hintOf_3 {r : Int32 × St}   : ∀ (n : Nat) (v1 : Int32) (v2 : Int64) (v4 : Int32) (s : St), f_X8_hintOf_3  n v1 v2 v4 s = some r → Wp m_X8_hintOf 1 (PR (some (.int r.1)) r.2) 3 [some (.ref 0), some (.int v1), some (.long v2), none, some (.int v4), none, none, none, none] [] s := by
  intro n
  induction n with
  | zero => intro v1 v2 v4 s h; cases h
  | succ n ih =>
    intro v1 v2 v4 s h
    unfold f_X8_hintOf_3 at h
    refine wp_iload dX8_hintOf_3 rfl ?_
    refine wp_aload_n (i := 0) dX8_hintOf_5 rfl rfl ?_
    refine wp_getR (t := 3) dX8_hintOf_6 fl_X8_19 rfl rfl ?_
    refine wp_iload_n (i := 1) dX8_hintOf_9 rfl rfl ?_
    obtain ⟨r1, er1, h⟩ := ob h
    refine wp_cVi (N := m_X0_cellsOf) (As := [.int v1]) (rest := [.int v4]) dX8_hintOf_10 ml_X8_288 mo_X0_cellsOf vo_X0_cellsOf rfl rfl (ok_X0_cellsOf er1) (by decide) (Nat.le_of_ble_eq_true rfl) ?_
    refine wp_icmp_ge (tgt := 130) dX8_hintOf_13 (by decide) (fun c2 => ?_) (fun c2 => ?_)
    · rw [if_pos c2] at h
      refine wp_iconst (v := -1) dX8_hintOf_130 (by decide +kernel) ?_
      obtain rfl := Option.some.inj h
      exact wp_iret dX8_hintOf_131 rfl rfl
    · rw [if_neg c2] at h
      refine wp_aload_n (i := 0) dX8_hintOf_16 rfl rfl ?_
      refine wp_getR (t := 3) dX8_hintOf_17 fl_X8_19 rfl rfl ?_
      refine wp_iload_n (i := 1) dX8_hintOf_20 rfl rfl ?_
      refine wp_iload dX8_hintOf_21 rfl ?_
      obtain ⟨r3, er3, h⟩ := ob h
      refine wp_cVi (N := m_X0_xOf) (As := [.int v1, .int v4]) (rest := []) dX8_hintOf_23 ml_X8_291 mo_X0_xOf vo_X0_xOf rfl rfl (ok_X0_xOf er3) (by decide) (Nat.le_of_ble_eq_true rfl) ?_
      refine wp_istore (ls' := [some (.ref 0), some (.int v1), some (.long v2), none, some (.int v4), some (.int r3.1), none, none, none]) dX8_hintOf_26 (by decide) rfl rfl ?_
      refine wp_aload_n (i := 0) dX8_hintOf_28 rfl rfl ?_
      refine wp_getR (t := 3) dX8_hintOf_29 fl_X8_19 rfl rfl ?_
      refine wp_iload_n (i := 1) dX8_hintOf_32 rfl rfl ?_
      refine wp_iload dX8_hintOf_33 rfl ?_
      obtain ⟨r4, er4, h⟩ := ob h
      refine wp_cVi (N := m_X0_yOf) (As := [.int v1, .int v4]) (rest := []) dX8_hintOf_35 ml_X8_294 mo_X0_yOf vo_X0_yOf rfl rfl (ok_X0_yOf er4) (by decide) (Nat.le_of_ble_eq_true rfl) ?_
      refine wp_istore (ls' := [some (.ref 0), some (.int v1), some (.long v2), none, some (.int v4), some (.int r3.1), some (.int r4.1), none, none]) dX8_hintOf_38 (by decide) rfl rfl ?_
      refine wp_lload_n (i := 2) dX8_hintOf_40 rfl rfl ?_
      refine wp_iload dX8_hintOf_41 rfl ?_
      obtain ⟨r5, er5, h⟩ := ob h
      refine wp_cSi (N := m_X4_valuesIn) (As := [.long v2, .int v4]) (rest := []) dX8_hintOf_43 ml_X8_297 mo_X4_valuesIn vo_X4_valuesIn rfl (ok_X4_valuesIn er5) (by decide) (Nat.le_of_ble_eq_true rfl) ?_
      refine wp_istore (ls' := [some (.ref 0), some (.int v1), some (.long v2), none, some (.int v4), some (.int r3.1), some (.int r4.1), some (.int r5.1), none]) dX8_hintOf_46 (by decide) rfl rfl ?_
      refine wp_aload_n (i := 0) dX8_hintOf_48 rfl rfl ?_
      refine wp_getR (t := 12) dX8_hintOf_49 fl_X8_38 rfl rfl ?_
      refine wp_iload dX8_hintOf_52 rfl ?_
      refine wp_iload dX8_hintOf_54 rfl ?_
      obtain ⟨r6, er6, h⟩ := ob h
      refine wp_cVi (N := m_X2_at) (As := [.int r3.1, .int r4.1]) (rest := []) dX8_hintOf_56 ml_X8_177 mo_X2_at vo_X2_at rfl rfl (ok_X2_at er6) (by decide) (Nat.le_of_ble_eq_true rfl) ?_
      refine wp_iconst (v := -1) dX8_hintOf_59 (by decide +kernel) ?_
      refine wp_icmp_ne (tgt := 82) dX8_hintOf_60 (by decide) (fun c7 => ?_) (fun c7 => ?_)
      · rw [if_neg c7] at h
        exact wp_sub (ls' := [some (.ref 0), some (.int v1), some (.long v2), none, some (.int v4), some (.int r3.1), some (.int r4.1), some (.int r5.1), none]) ⟨rfl, rfl, rfl, rfl, rfl, rfl, rfl, trivial⟩ (w_X8_hintOf_82 ih h)
      · rw [if_pos c7] at h
        refine wp_aload_n (i := 0) dX8_hintOf_63 rfl rfl ?_
        refine wp_getR (t := 14) dX8_hintOf_64 fl_X8_42 rfl rfl ?_
        refine wp_iload dX8_hintOf_67 rfl ?_
        refine wp_iload dX8_hintOf_69 rfl ?_
        obtain ⟨r8, er8, h⟩ := ob h
        refine wp_cVi (N := m_X2_at) (As := [.int r3.1, .int r4.1]) (rest := []) dX8_hintOf_71 ml_X8_177 mo_X2_at vo_X2_at rfl rfl (ok_X2_at er8) (by decide) (Nat.le_of_ble_eq_true rfl) ?_
        refine wp_iconst (v := -1) dX8_hintOf_74 (by decide +kernel) ?_
        refine wp_icmp_ne (tgt := 82) dX8_hintOf_75 (by decide) (fun c9 => ?_) (fun c9 => ?_)
        · rw [if_neg c9] at h
          exact wp_sub (ls' := [some (.ref 0), some (.int v1), some (.long v2), none, some (.int v4), some (.int r3.1), some (.int r4.1), some (.int r5.1), none]) ⟨rfl, rfl, rfl, rfl, rfl, rfl, rfl, trivial⟩ (w_X8_hintOf_82 ih h)
        · rw [if_pos c9] at h
          refine wp_iconst (v := 1) dX8_hintOf_78 (by decide +kernel) ?_
          refine wp_goto (tgt := 83) dX8_hintOf_79 (by decide) ?_
          exact wp_sub (ls' := [some (.ref 0), some (.int v1), some (.long v2), none, some (.int v4), some (.int r3.1), some (.int r4.1), some (.int r5.1), none]) ⟨rfl, rfl, rfl, rfl, rfl, rfl, rfl, trivial⟩ (w_X8_hintOf_83 ih h)
def f_X8_hintOf (a1 : Int32) (a2 : Int64) (s : St) : Option (Int32 × St) :=
  f_X8_hintOf_3 FU a1 a2 (0 : Int32) s
set_option maxRecDepth 100000 in
set_option maxHeartbeats 4000000 in
theorem ok_X8_hintOf {a1 : Int32} {a2 : Int64} {s : St} {r : Int32 × St} (h : f_X8_hintOf a1 a2 s = some r) : Ct 1 m_X8_hintOf [.ref 0, .int a1, .long a2] s (some (.int r.1)) r.2 := by
  unfold f_X8_hintOf at h
  refine ct_of [some (.ref 0), some (.int a1), some (.long a2), none, none, none, none, none, none] 5 (by decide) rfl (Nat.le_of_ble_eq_true rfl) ?_
  refine wp_iconst (v := 0) dX8_hintOf_0 (by decide +kernel) ?_
  refine wp_istore (ls' := [some (.ref 0), some (.int a1), some (.long a2), none, some (.int (0 : Int32)), none, none, none, none]) dX8_hintOf_1 (by decide) rfl rfl ?_
  exact wp_sub (ls' := [some (.ref 0), some (.int a1), some (.long a2), none, some (.int (0 : Int32)), none, none, none, none]) ⟨rfl, rfl, rfl, rfl, trivial⟩ (w_X8_hintOf_3 _ _ _ _ _ h)
def f_X8_hint_40 : Nat → Int32 → St → Option (Int32 × St)
  | 0, _, _ => none
  | n + 1, v1, s =>
    Option.bind (f_X0_lines 3 s) fun r1 =>
    if r1.1 ≤ v1 then (
      some ((-1 : Int32), r1.2))
    else (
      Option.bind (aJ r1.2 32 v1) fun x3 =>
      Option.bind (f_X3_keptOf v1 x3 r1.2) fun r4 =>
      if (lg_cmp r4.1 (0 : Int64)) = 0 then (
        some ((-2 : Int32) - v1, r4.2))
      else (
        Option.bind (f_X8_hintOf v1 r4.1 r4.2) fun r6 =>
        if r6.1 = (-1 : Int32) then (
          f_X8_hint_40 n (v1 + 1) r6.2)
        else (
          some (r6.1, r6.2))))
set_option maxRecDepth 100000 in
set_option maxHeartbeats 4000000 in
theorem w_X8_hint_40 {r : Int32 × St}   : ∀ (n : Nat) (v1 : Int32) (s : St), f_X8_hint_40  n v1 s = some r → Wp m_X8_hint 2 (PR (some (.int r.1)) r.2) 40 [some (.ref 0), some (.int v1), none, none, none] [] s := by
  intro n
  induction n with
  | zero => intro v1 s h; cases h
  | succ n ih =>
    intro v1 s h
    unfold f_X8_hint_40 at h
    refine wp_iload_n (i := 1) dX8_hint_40 rfl rfl ?_
    refine wp_aload_n (i := 0) dX8_hint_41 rfl rfl ?_
    refine wp_getR (t := 3) dX8_hint_42 fl_X8_19 rfl rfl ?_
    obtain ⟨r1, er1, h⟩ := ob h
    refine wp_cVi (N := m_X0_lines) (As := []) (rest := [.int v1]) dX8_hint_45 ml_X8_140 mo_X0_lines vo_X0_lines rfl rfl (ok_X0_lines er1) (by decide) (Nat.le_of_ble_eq_true rfl) ?_
    refine wp_icmp_ge (tgt := 103) dX8_hint_48 (by decide) (fun c2 => ?_) (fun c2 => ?_)
    · rw [if_pos c2] at h
      refine wp_iconst (v := -1) dX8_hint_103 (by decide +kernel) ?_
      obtain rfl := Option.some.inj h
      exact wp_iret dX8_hint_104 rfl rfl
    · rw [if_neg c2] at h
      refine wp_aload_n (i := 0) dX8_hint_51 rfl rfl ?_
      refine wp_getR (t := 16) dX8_hint_52 fl_X8_50 rfl rfl ?_
      refine wp_iload_n (i := 1) dX8_hint_55 rfl rfl ?_
      refine wp_aload_n (i := 0) dX8_hint_56 rfl rfl ?_
      refine wp_getR (t := 31) dX8_hint_57 fl_X8_70 rfl rfl ?_
      refine wp_getR (t := 32) dX8_hint_60 fl_X8_184 rfl rfl ?_
      refine wp_iload_n (i := 1) dX8_hint_63 rfl rfl ?_
      obtain ⟨x3, ex3, h⟩ := ob h
      refine wp_aJ dX8_hint_64 ex3 ?_
      obtain ⟨r4, er4, h⟩ := ob h
      refine wp_cVl (N := m_X3_keptOf) (As := [.int v1, .long x3]) (rest := []) dX8_hint_65 ml_X8_187 mo_X3_keptOf vo_X3_keptOf rfl rfl (ok_X3_keptOf er4) (by decide) (Nat.le_of_ble_eq_true rfl) ?_
      refine wp_lstore_n (ls' := [some (.ref 0), some (.int v1), some (.long r4.1), none, none]) dX8_hint_68 rfl (by decide) rfl rfl ?_
      refine wp_lload_n (i := 2) dX8_hint_69 rfl rfl ?_
      refine wp_lconst (v := 0) dX8_hint_70 (by decide +kernel) ?_
      refine wp_lcmp dX8_hint_71 ?_
      refine wp_if_ne (tgt := 80) dX8_hint_72 (by decide) (fun c5 => ?_) (fun c5 => ?_)
      · rw [if_neg c5] at h
        refine wp_aload_n (i := 0) dX8_hint_80 rfl rfl ?_
        refine wp_iload_n (i := 1) dX8_hint_81 rfl rfl ?_
        refine wp_lload_n (i := 2) dX8_hint_82 rfl rfl ?_
        obtain ⟨r6, er6, h⟩ := ob h
        refine wp_cVi (N := m_X8_hintOf) (As := [.int v1, .long r4.1]) (rest := []) dX8_hint_83 ml_X8_269 mo_X8_hintOf vo_X8_hintOf rfl rfl (ok_X8_hintOf er6) (by decide) (Nat.le_of_ble_eq_true rfl) ?_
        refine wp_istore (ls' := [some (.ref 0), some (.int v1), some (.long r4.1), none, some (.int r6.1)]) dX8_hint_86 (by decide) rfl rfl ?_
        refine wp_iload dX8_hint_88 rfl ?_
        refine wp_iconst (v := -1) dX8_hint_90 (by decide +kernel) ?_
        refine wp_icmp_eq (tgt := 97) dX8_hint_91 (by decide) (fun c7 => ?_) (fun c7 => ?_)
        · rw [if_pos c7] at h
          refine wp_inc (c := 1) (ls' := [some (.ref 0), some (.int (v1 + 1)), some (.long r4.1), none, some (.int r6.1)]) dX8_hint_97 rfl (by decide +kernel) (by decide) rfl rfl ?_
          refine wp_goto (tgt := 40) dX8_hint_100 (by decide) ?_
          exact wp_sub (ls' := [some (.ref 0), some (.int (v1 + 1)), none, none, none]) ⟨rfl, rfl, trivial⟩ (ih _ _ h)
        · rw [if_neg c7] at h
          refine wp_iload dX8_hint_94 rfl ?_
          obtain rfl := Option.some.inj h
          exact wp_iret dX8_hint_96 rfl rfl
      · rw [if_pos c5] at h
        refine wp_bipush (v := -2) dX8_hint_75 (by decide +kernel) ?_
        refine wp_iload_n (i := 1) dX8_hint_77 rfl rfl ?_
        refine wp_isub dX8_hint_78 ?_
        obtain rfl := Option.some.inj h
        exact wp_iret dX8_hint_79 rfl rfl
def f_X8_hint  (s : St) : Option (Int32 × St) :=
  Option.bind (f_X8_hasPuzzle s) fun r1 =>
  if r1.1 = 0 then (
    some ((-1 : Int32), r1.2))
  else (
    Option.bind (f_X4_fill 31 r1.2) fun s3 =>
    Option.bind (f_X4_tell 31 14 s3) fun s4 =>
    Option.bind (f_X4_tell 31 12 s4) fun s5 =>
    f_X8_hint_40 FU (0 : Int32) s5)
set_option maxRecDepth 100000 in
set_option maxHeartbeats 4000000 in
theorem ok_X8_hint  {s : St} {r : Int32 × St} (h : f_X8_hint  s = some r) : Ct 2 m_X8_hint [.ref 0] s (some (.int r.1)) r.2 := by
  unfold f_X8_hint at h
  refine ct_of [some (.ref 0), none, none, none, none] 4 (by decide) rfl (Nat.le_of_ble_eq_true rfl) ?_
  refine wp_aload_n (i := 0) dX8_hint_0 rfl rfl ?_
  obtain ⟨r1, er1, h⟩ := ob h
  refine wp_cVi (N := m_X8_hasPuzzle) (As := []) (rest := []) dX8_hint_1 ml_X8_128 mo_X8_hasPuzzle vo_X8_hasPuzzle rfl rfl (ok_X8_hasPuzzle er1) (by decide) (Nat.le_of_ble_eq_true rfl) ?_
  refine wp_if_ne (tgt := 9) dX8_hint_4 (by decide) (fun c2 => ?_) (fun c2 => ?_)
  · rw [if_neg c2] at h
    refine wp_aload_n (i := 0) dX8_hint_9 rfl rfl ?_
    refine wp_getR (t := 31) dX8_hint_10 fl_X8_70 rfl rfl ?_
    obtain ⟨s3, es3, h⟩ := ob h
    refine wp_cVv (N := m_X4_fill) (As := []) (rest := []) dX8_hint_13 ml_X8_263 mo_X4_fill vo_X4_fill rfl rfl (ok_X4_fill es3) (by decide) (Nat.le_of_ble_eq_true rfl) ?_
    refine wp_aload_n (i := 0) dX8_hint_16 rfl rfl ?_
    refine wp_getR (t := 31) dX8_hint_17 fl_X8_70 rfl rfl ?_
    refine wp_aload_n (i := 0) dX8_hint_20 rfl rfl ?_
    refine wp_getR (t := 14) dX8_hint_21 fl_X8_42 rfl rfl ?_
    obtain ⟨s4, es4, h⟩ := ob h
    refine wp_cVv (N := m_X4_tell) (As := [.ref 14]) (rest := []) dX8_hint_24 ml_X8_266 mo_X4_tell vo_X4_tell rfl rfl (ok_X4_tell es4) (by decide) (Nat.le_of_ble_eq_true rfl) ?_
    refine wp_aload_n (i := 0) dX8_hint_27 rfl rfl ?_
    refine wp_getR (t := 31) dX8_hint_28 fl_X8_70 rfl rfl ?_
    refine wp_aload_n (i := 0) dX8_hint_31 rfl rfl ?_
    refine wp_getR (t := 12) dX8_hint_32 fl_X8_38 rfl rfl ?_
    obtain ⟨s5, es5, h⟩ := ob h
    refine wp_cVv (N := m_X4_tell) (As := [.ref 12]) (rest := []) dX8_hint_35 ml_X8_266 mo_X4_tell vo_X4_tell rfl rfl (ok_X4_tell es5) (by decide) (Nat.le_of_ble_eq_true rfl) ?_
    refine wp_iconst (v := 0) dX8_hint_38 (by decide +kernel) ?_
    refine wp_istore_n (ls' := [some (.ref 0), some (.int (0 : Int32)), none, none, none]) dX8_hint_39 rfl (by decide) rfl rfl ?_
    exact wp_sub (ls' := [some (.ref 0), some (.int (0 : Int32)), none, none, none]) ⟨rfl, rfl, trivial⟩ (w_X8_hint_40 _ _ _ h)
  · rw [if_pos c2] at h
    refine wp_iconst (v := -1) dX8_hint_7 (by decide +kernel) ?_
    obtain rfl := Option.some.inj h
    exact wp_iret dX8_hint_8 rfl rfl
def f_X8_draw  (s : St) : Option (Int32 × St) :=
  Option.bind (f_X8_hasPuzzle s) fun r1 =>
  if r1.1 = 0 then (
    some ((-1 : Int32), r1.2))
  else (
    Option.bind (f_X8_draftFromMarks r1.2) fun s3 =>
    Option.bind (f_X0_copy 3 7 s3) fun s4 =>
    Option.bind (f_X8_beginPuzzle s4) fun s5 =>
    some (s5.1 3 6, s5))
set_option maxRecDepth 100000 in
set_option maxHeartbeats 4000000 in
theorem ok_X8_draw  {s : St} {r : Int32 × St} (h : f_X8_draw  s = some r) : Ct 4 m_X8_draw [.ref 0] s (some (.int r.1)) r.2 := by
  unfold f_X8_draw at h
  refine ct_of [some (.ref 0)] 0 (by decide) rfl (Nat.le_of_ble_eq_true rfl) ?_
  refine wp_aload_n (i := 0) dX8_draw_0 rfl rfl ?_
  obtain ⟨r1, er1, h⟩ := ob h
  refine wp_cVi (N := m_X8_hasPuzzle) (As := []) (rest := []) dX8_draw_1 ml_X8_128 mo_X8_hasPuzzle vo_X8_hasPuzzle rfl rfl (ok_X8_hasPuzzle er1) (by decide) (Nat.le_of_ble_eq_true rfl) ?_
  refine wp_if_ne (tgt := 9) dX8_draw_4 (by decide) (fun c2 => ?_) (fun c2 => ?_)
  · rw [if_neg c2] at h
    refine wp_aload_n (i := 0) dX8_draw_9 rfl rfl ?_
    obtain ⟨s3, es3, h⟩ := ob h
    refine wp_cVv (N := m_X8_draftFromMarks) (As := []) (rest := []) dX8_draw_10 ml_X8_250 mo_X8_draftFromMarks vo_X8_draftFromMarks rfl rfl (ok_X8_draftFromMarks es3) (by decide) (Nat.le_of_ble_eq_true rfl) ?_
    refine wp_aload_n (i := 0) dX8_draw_13 rfl rfl ?_
    refine wp_getR (t := 3) dX8_draw_14 fl_X8_19 rfl rfl ?_
    refine wp_aload_n (i := 0) dX8_draw_17 rfl rfl ?_
    refine wp_getR (t := 7) dX8_draw_18 fl_X8_23 rfl rfl ?_
    obtain ⟨s4, es4, h⟩ := ob h
    refine wp_cVv (N := m_X0_copy) (As := [.ref 7]) (rest := []) dX8_draw_21 ml_X8_108 mo_X0_copy vo_X0_copy rfl rfl (ok_X0_copy es4) (by decide) (Nat.le_of_ble_eq_true rfl) ?_
    refine wp_aload_n (i := 0) dX8_draw_24 rfl rfl ?_
    obtain ⟨s5, es5, h⟩ := ob h
    refine wp_cVv (N := m_X8_beginPuzzle) (As := []) (rest := []) dX8_draw_25 ml_X8_114 mo_X8_beginPuzzle vo_X8_beginPuzzle rfl rfl (ok_X8_beginPuzzle es5) (by decide) (Nat.le_of_ble_eq_true rfl) ?_
    refine wp_aload_n (i := 0) dX8_draw_28 rfl rfl ?_
    refine wp_getR (t := 3) dX8_draw_29 fl_X8_19 rfl rfl ?_
    refine wp_getI dX8_draw_32 fl_X8_117 rfl rfl ?_
    obtain rfl := Option.some.inj h
    exact wp_iret dX8_draw_35 rfl rfl
  · rw [if_pos c2] at h
    refine wp_iconst (v := -1) dX8_draw_7 (by decide +kernel) ?_
    obtain rfl := Option.some.inj h
    exact wp_iret dX8_draw_8 rfl rfl
def f_X8_giveFirstUnlike_15 (K2 : Int32 → St → Option (St)) : Nat → Int32 → Int32 → St → Option (St)
  | 0, _, _, _ => none
  | n + 1, v1, v2, s =>
    if (s.1 3 3) ≤ v2 then (
      K2 (v1 + 1) s)
    else (
      Option.bind (f_X2_at 39 v2 v1 s) fun r2 =>
      Option.bind (f_X2_at 41 v2 v1 r2.2) fun r3 =>
      if r2.1 = r3.1 then (
        f_X8_giveFirstUnlike_15 K2 n v1 (v2 + 1) r3.2)
      else (
        Option.bind (f_X2_valueAt 14 v2 v1 r3.2) fun r5 =>
        Option.bind (f_X8_give v2 v1 r5.1 r5.2) fun r6 =>
        some r6.2))
set_option maxRecDepth 100000 in
set_option maxHeartbeats 4000000 in
theorem w_X8_giveFirstUnlike_15 {r : St} {K2 : Int32 → St → Option (St)} (hK2 : ∀ (v1 : Int32) (s : St), K2 v1 s = some r → Wp m_X8_giveFirstUnlike 3 (PR none r) 2 [some (.ref 0), some (.int v1), none] [] s)   : ∀ (n : Nat) (v1 : Int32) (v2 : Int32) (s : St), f_X8_giveFirstUnlike_15 K2 n v1 v2 s = some r → Wp m_X8_giveFirstUnlike 3 (PR none r) 15 [some (.ref 0), some (.int v1), some (.int v2)] [] s := by
  intro n
  induction n with
  | zero => intro v1 v2 s h; cases h
  | succ n ih =>
    intro v1 v2 s h
    unfold f_X8_giveFirstUnlike_15 at h
    refine wp_iload_n (i := 2) dX8_giveFirstUnlike_15 rfl rfl ?_
    refine wp_aload_n (i := 0) dX8_giveFirstUnlike_16 rfl rfl ?_
    refine wp_getR (t := 3) dX8_giveFirstUnlike_17 fl_X8_19 rfl rfl ?_
    refine wp_getI dX8_giveFirstUnlike_20 fl_X8_131 rfl rfl ?_
    refine wp_icmp_ge (tgt := 76) dX8_giveFirstUnlike_23 (by decide) (fun c1 => ?_) (fun c1 => ?_)
    · rw [if_pos c1] at h
      refine wp_inc (c := 1) (ls' := [some (.ref 0), some (.int (v1 + 1)), some (.int v2)]) dX8_giveFirstUnlike_76 rfl (by decide +kernel) (by decide) rfl rfl ?_
      refine wp_goto (tgt := 2) dX8_giveFirstUnlike_79 (by decide) ?_
      exact wp_sub (ls' := [some (.ref 0), some (.int (v1 + 1)), none]) ⟨rfl, rfl, trivial⟩ (hK2 _ _ h)
    · rw [if_neg c1] at h
      refine wp_aload_n (i := 0) dX8_giveFirstUnlike_26 rfl rfl ?_
      refine wp_getR (t := 38) dX8_giveFirstUnlike_27 fl_X8_80 rfl rfl ?_
      refine wp_getR (t := 39) dX8_giveFirstUnlike_30 fl_X8_260 rfl rfl ?_
      refine wp_iload_n (i := 2) dX8_giveFirstUnlike_33 rfl rfl ?_
      refine wp_iload_n (i := 1) dX8_giveFirstUnlike_34 rfl rfl ?_
      obtain ⟨r2, er2, h⟩ := ob h
      refine wp_cVi (N := m_X2_at) (As := [.int v2, .int v1]) (rest := []) dX8_giveFirstUnlike_35 ml_X8_177 mo_X2_at vo_X2_at rfl rfl (ok_X2_at er2) (by decide) (Nat.le_of_ble_eq_true rfl) ?_
      refine wp_aload_n (i := 0) dX8_giveFirstUnlike_38 rfl rfl ?_
      refine wp_getR (t := 38) dX8_giveFirstUnlike_39 fl_X8_80 rfl rfl ?_
      refine wp_getR (t := 41) dX8_giveFirstUnlike_42 fl_X8_304 rfl rfl ?_
      refine wp_iload_n (i := 2) dX8_giveFirstUnlike_45 rfl rfl ?_
      refine wp_iload_n (i := 1) dX8_giveFirstUnlike_46 rfl rfl ?_
      obtain ⟨r3, er3, h⟩ := ob h
      refine wp_cVi (N := m_X2_at) (As := [.int v2, .int v1]) (rest := [.int r2.1]) dX8_giveFirstUnlike_47 ml_X8_177 mo_X2_at vo_X2_at rfl rfl (ok_X2_at er3) (by decide) (Nat.le_of_ble_eq_true rfl) ?_
      refine wp_icmp_eq (tgt := 70) dX8_giveFirstUnlike_50 (by decide) (fun c4 => ?_) (fun c4 => ?_)
      · rw [if_pos c4] at h
        refine wp_inc (c := 1) (ls' := [some (.ref 0), some (.int v1), some (.int (v2 + 1))]) dX8_giveFirstUnlike_70 rfl (by decide +kernel) (by decide) rfl rfl ?_
        refine wp_goto (tgt := 15) dX8_giveFirstUnlike_73 (by decide) ?_
        exact wp_sub (ls' := [some (.ref 0), some (.int v1), some (.int (v2 + 1))]) ⟨rfl, rfl, rfl, trivial⟩ (ih _ _ _ h)
      · rw [if_neg c4] at h
        refine wp_aload_n (i := 0) dX8_giveFirstUnlike_53 rfl rfl ?_
        refine wp_iload_n (i := 2) dX8_giveFirstUnlike_54 rfl rfl ?_
        refine wp_iload_n (i := 1) dX8_giveFirstUnlike_55 rfl rfl ?_
        refine wp_aload_n (i := 0) dX8_giveFirstUnlike_56 rfl rfl ?_
        refine wp_getR (t := 14) dX8_giveFirstUnlike_57 fl_X8_42 rfl rfl ?_
        refine wp_iload_n (i := 2) dX8_giveFirstUnlike_60 rfl rfl ?_
        refine wp_iload_n (i := 1) dX8_giveFirstUnlike_61 rfl rfl ?_
        obtain ⟨r5, er5, h⟩ := ob h
        refine wp_cVi (N := m_X2_valueAt) (As := [.int v2, .int v1]) (rest := [.int v1, .int v2, .ref 0]) dX8_giveFirstUnlike_62 ml_X8_285 mo_X2_valueAt vo_X2_valueAt rfl rfl (ok_X2_valueAt er5) (by decide) (Nat.le_of_ble_eq_true rfl) ?_
        obtain ⟨r6, er6, h⟩ := ob h
        refine wp_cVi (N := m_X8_give) (As := [.int v2, .int v1, .int r5.1]) (rest := []) dX8_giveFirstUnlike_65 ml_X8_307 mo_X8_give vo_X8_give rfl rfl (ok_X8_give er6) (by decide) (Nat.le_of_ble_eq_true rfl) ?_
        refine wp_pop_i dX8_giveFirstUnlike_68 ?_
        obtain rfl := Option.some.inj h
        exact wp_vret dX8_giveFirstUnlike_69 rfl
def f_X8_giveFirstUnlike_2 : Nat → Int32 → St → Option (St)
  | 0, _, _ => none
  | n + 1, v1, s =>
    if (s.1 3 4) ≤ v1 then (
      some s)
    else (
      f_X8_giveFirstUnlike_15 (f_X8_giveFirstUnlike_2 n) FU v1 (0 : Int32) s)
set_option maxRecDepth 100000 in
set_option maxHeartbeats 4000000 in
theorem w_X8_giveFirstUnlike_2 {r : St}   : ∀ (n : Nat) (v1 : Int32) (s : St), f_X8_giveFirstUnlike_2  n v1 s = some r → Wp m_X8_giveFirstUnlike 3 (PR none r) 2 [some (.ref 0), some (.int v1), none] [] s := by
  intro n
  induction n with
  | zero => intro v1 s h; cases h
  | succ n ih =>
    intro v1 s h
    unfold f_X8_giveFirstUnlike_2 at h
    refine wp_iload_n (i := 1) dX8_giveFirstUnlike_2 rfl rfl ?_
    refine wp_aload_n (i := 0) dX8_giveFirstUnlike_3 rfl rfl ?_
    refine wp_getR (t := 3) dX8_giveFirstUnlike_4 fl_X8_19 rfl rfl ?_
    refine wp_getI dX8_giveFirstUnlike_7 fl_X8_134 rfl rfl ?_
    refine wp_icmp_ge (tgt := 82) dX8_giveFirstUnlike_10 (by decide) (fun c1 => ?_) (fun c1 => ?_)
    · rw [if_pos c1] at h
      obtain rfl := Option.some.inj h
      exact wp_vret dX8_giveFirstUnlike_82 rfl
    · rw [if_neg c1] at h
      refine wp_iconst (v := 0) dX8_giveFirstUnlike_13 (by decide +kernel) ?_
      refine wp_istore_n (ls' := [some (.ref 0), some (.int v1), some (.int (0 : Int32))]) dX8_giveFirstUnlike_14 rfl (by decide) rfl rfl ?_
      exact wp_sub (ls' := [some (.ref 0), some (.int v1), some (.int (0 : Int32))]) ⟨rfl, rfl, rfl, trivial⟩ (w_X8_giveFirstUnlike_15 ih _ _ _ _ h)
def f_X8_giveFirstUnlike  (s : St) : Option (St) :=
  f_X8_giveFirstUnlike_2 FU (0 : Int32) s
set_option maxRecDepth 100000 in
set_option maxHeartbeats 4000000 in
theorem ok_X8_giveFirstUnlike  {s : St} {r : St} (h : f_X8_giveFirstUnlike  s = some r) : Ct 3 m_X8_giveFirstUnlike [.ref 0] s none r := by
  unfold f_X8_giveFirstUnlike at h
  refine ct_of [some (.ref 0), none, none] 2 (by decide) rfl (Nat.le_of_ble_eq_true rfl) ?_
  refine wp_iconst (v := 0) dX8_giveFirstUnlike_0 (by decide +kernel) ?_
  refine wp_istore_n (ls' := [some (.ref 0), some (.int (0 : Int32)), none]) dX8_giveFirstUnlike_1 rfl (by decide) rfl rfl ?_
  exact wp_sub (ls' := [some (.ref 0), some (.int (0 : Int32)), none]) ⟨rfl, rfl, trivial⟩ (w_X8_giveFirstUnlike_2 _ _ _ h)
def f_X8_mend_14 : Nat → Int32 → Int32 → St → Option (Int32 × St)
  | 0, _, _, _ => none
  | n + 1, v1, v2, s =>
    if (144 : Int32) < v2 then (
      some (v1, s))
    else (
      Option.bind (f_X5_seek 12 (2 : Int32) (400 : Int32) 38 s) fun s2 =>
      if (s2.1 38 4) = 0 then (
        if (2 : Int32) ≤ (s2.1 38 2) then (
          Option.bind (f_X8_giveFirstUnlike s2) fun s5 =>
          f_X8_mend_14 n (v1 + 1) (v2 + 1) s5)
        else (
          some (v1, s2)))
      else (
        some ((-2 : Int32), s2)))
set_option maxRecDepth 100000 in
set_option maxHeartbeats 4000000 in
theorem w_X8_mend_14 {r : Int32 × St}   : ∀ (n : Nat) (v1 : Int32) (v2 : Int32) (s : St), f_X8_mend_14  n v1 v2 s = some r → Wp m_X8_mend 5 (PR (some (.int r.1)) r.2) 14 [some (.ref 0), some (.int v1), some (.int v2)] [] s := by
  intro n
  induction n with
  | zero => intro v1 v2 s h; cases h
  | succ n ih =>
    intro v1 v2 s h
    unfold f_X8_mend_14 at h
    refine wp_iload_n (i := 2) dX8_mend_14 rfl rfl ?_
    refine wp_sipush (v := 144) dX8_mend_15 (by decide +kernel) ?_
    refine wp_icmp_gt (tgt := 79) dX8_mend_18 (by decide) (fun c1 => ?_) (fun c1 => ?_)
    · rw [if_pos c1] at h
      refine wp_iload_n (i := 1) dX8_mend_79 rfl rfl ?_
      obtain rfl := Option.some.inj h
      exact wp_iret dX8_mend_80 rfl rfl
    · rw [if_neg c1] at h
      refine wp_aload_n (i := 0) dX8_mend_21 rfl rfl ?_
      refine wp_getR (t := 21) dX8_mend_22 fl_X8_59 rfl rfl ?_
      refine wp_aload_n (i := 0) dX8_mend_25 rfl rfl ?_
      refine wp_getR (t := 12) dX8_mend_26 fl_X8_38 rfl rfl ?_
      refine wp_iconst (v := 2) dX8_mend_29 (by decide +kernel) ?_
      refine wp_sipush (v := 400) dX8_mend_30 (by decide +kernel) ?_
      refine wp_aload_n (i := 0) dX8_mend_33 rfl rfl ?_
      refine wp_getR (t := 38) dX8_mend_34 fl_X8_80 rfl rfl ?_
      obtain ⟨s2, es2, h⟩ := ob h
      refine wp_cVv (N := m_X5_seek) (As := [.ref 12, .int (2 : Int32), .int (400 : Int32), .ref 38]) (rest := []) dX8_mend_37 ml_X8_226 mo_X5_seek vo_X5_seek rfl rfl (ok_X5_seek es2) (by decide) (Nat.le_of_ble_eq_true rfl) ?_
      refine wp_aload_n (i := 0) dX8_mend_40 rfl rfl ?_
      refine wp_getR (t := 38) dX8_mend_41 fl_X8_80 rfl rfl ?_
      refine wp_getI dX8_mend_44 fl_X8_230 rfl rfl ?_
      refine wp_if_eq (tgt := 53) dX8_mend_47 (by decide) (fun c3 => ?_) (fun c3 => ?_)
      · rw [if_pos c3] at h
        refine wp_aload_n (i := 0) dX8_mend_53 rfl rfl ?_
        refine wp_getR (t := 38) dX8_mend_54 fl_X8_80 rfl rfl ?_
        refine wp_getI dX8_mend_57 fl_X8_233 rfl rfl ?_
        refine wp_iconst (v := 2) dX8_mend_60 (by decide +kernel) ?_
        refine wp_icmp_ge (tgt := 66) dX8_mend_61 (by decide) (fun c4 => ?_) (fun c4 => ?_)
        · rw [if_pos c4] at h
          refine wp_aload_n (i := 0) dX8_mend_66 rfl rfl ?_
          obtain ⟨s5, es5, h⟩ := ob h
          refine wp_cVv (N := m_X8_giveFirstUnlike) (As := []) (rest := []) dX8_mend_67 ml_X8_275 mo_X8_giveFirstUnlike vo_X8_giveFirstUnlike rfl rfl (ok_X8_giveFirstUnlike es5) (by decide) (Nat.le_of_ble_eq_true rfl) ?_
          refine wp_inc (c := 1) (ls' := [some (.ref 0), some (.int (v1 + 1)), some (.int v2)]) dX8_mend_70 rfl (by decide +kernel) (by decide) rfl rfl ?_
          refine wp_inc (c := 1) (ls' := [some (.ref 0), some (.int (v1 + 1)), some (.int (v2 + 1))]) dX8_mend_73 rfl (by decide +kernel) (by decide) rfl rfl ?_
          refine wp_goto (tgt := 14) dX8_mend_76 (by decide) ?_
          exact wp_sub (ls' := [some (.ref 0), some (.int (v1 + 1)), some (.int (v2 + 1))]) ⟨rfl, rfl, rfl, trivial⟩ (ih _ _ _ h)
        · rw [if_neg c4] at h
          refine wp_iload_n (i := 1) dX8_mend_64 rfl rfl ?_
          obtain rfl := Option.some.inj h
          exact wp_iret dX8_mend_65 rfl rfl
      · rw [if_neg c3] at h
        refine wp_bipush (v := -2) dX8_mend_50 (by decide +kernel) ?_
        obtain rfl := Option.some.inj h
        exact wp_iret dX8_mend_52 rfl rfl
def f_X8_mend  (s : St) : Option (Int32 × St) :=
  Option.bind (f_X8_done s) fun r1 =>
  if r1.1 = (1 : Int32) then (
    f_X8_mend_14 FU (0 : Int32) (0 : Int32) r1.2)
  else (
    some ((-1 : Int32), r1.2))
set_option maxRecDepth 100000 in
set_option maxHeartbeats 4000000 in
theorem ok_X8_mend  {s : St} {r : Int32 × St} (h : f_X8_mend  s = some r) : Ct 5 m_X8_mend [.ref 0] s (some (.int r.1)) r.2 := by
  unfold f_X8_mend at h
  refine ct_of [some (.ref 0), none, none] 2 (by decide) rfl (Nat.le_of_ble_eq_true rfl) ?_
  refine wp_aload_n (i := 0) dX8_mend_0 rfl rfl ?_
  obtain ⟨r1, er1, h⟩ := ob h
  refine wp_cVi (N := m_X8_done) (As := []) (rest := []) dX8_mend_1 ml_X8_272 mo_X8_done vo_X8_done rfl rfl (ok_X8_done er1) (by decide) (Nat.le_of_ble_eq_true rfl) ?_
  refine wp_iconst (v := 1) dX8_mend_4 (by decide +kernel) ?_
  refine wp_icmp_eq (tgt := 10) dX8_mend_5 (by decide) (fun c2 => ?_) (fun c2 => ?_)
  · rw [if_pos c2] at h
    refine wp_iconst (v := 0) dX8_mend_10 (by decide +kernel) ?_
    refine wp_istore_n (ls' := [some (.ref 0), some (.int (0 : Int32)), none]) dX8_mend_11 rfl (by decide) rfl rfl ?_
    refine wp_iconst (v := 0) dX8_mend_12 (by decide +kernel) ?_
    refine wp_istore_n (ls' := [some (.ref 0), some (.int (0 : Int32)), some (.int (0 : Int32))]) dX8_mend_13 rfl (by decide) rfl rfl ?_
    exact wp_sub (ls' := [some (.ref 0), some (.int (0 : Int32)), some (.int (0 : Int32))]) ⟨rfl, rfl, rfl, trivial⟩ (w_X8_mend_14 _ _ _ _ h)
  · rw [if_neg c2] at h
    refine wp_iconst (v := -1) dX8_mend_8 (by decide +kernel) ?_
    obtain rfl := Option.some.inj h
    exact wp_iret dX8_mend_9 rfl rfl
