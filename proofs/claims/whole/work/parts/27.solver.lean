/-! decompiled by wip/gen/gen.py -/
theorem dX5_settle_0 : decode cX5_settle 0 = .ok (.iload_n 2, 1) := by decide +kernel
theorem dX5_settle_1 : decode cX5_settle 1 = .ok (.istore_n 3, 1) := by decide +kernel
theorem dX5_settle_2 : decode cX5_settle 2 = .ok (.iconst 1, 1) := by decide +kernel
theorem dX5_settle_3 : decode cX5_settle 3 = .ok (.istore 4, 2) := by decide +kernel
theorem dX5_settle_5 : decode cX5_settle 5 = .ok (.iload 4, 2) := by decide +kernel
theorem dX5_settle_7 : decode cX5_settle 7 = .ok (.sipush 1000, 3) := by decide +kernel
theorem dX5_settle_10 : decode cX5_settle 10 = .ok (.if_icmp .gt 126, 3) := by decide +kernel
theorem dX5_settle_13 : decode cX5_settle 13 = .ok (.iconst 0, 1) := by decide +kernel
theorem dX5_settle_14 : decode cX5_settle 14 = .ok (.istore 5, 2) := by decide +kernel
theorem dX5_settle_16 : decode cX5_settle 16 = .ok (.iconst 0, 1) := by decide +kernel
theorem dX5_settle_17 : decode cX5_settle 17 = .ok (.istore 6, 2) := by decide +kernel
theorem dX5_settle_19 : decode cX5_settle 19 = .ok (.iload 6, 2) := by decide +kernel
theorem dX5_settle_21 : decode cX5_settle 21 = .ok (.aload_n 0, 1) := by decide +kernel
theorem dX5_settle_22 : decode cX5_settle 22 = .ok (.getfield 26, 3) := by decide +kernel
theorem dX5_settle_25 : decode cX5_settle 25 = .ok (.invokevirtual 46, 3) := by decide +kernel
theorem dX5_settle_28 : decode cX5_settle 28 = .ok (.if_icmp .ge 86, 3) := by decide +kernel
theorem dX5_settle_31 : decode cX5_settle 31 = .ok (.iload_n 3, 1) := by decide +kernel
theorem dX5_settle_32 : decode cX5_settle 32 = .ok (.iload 6, 2) := by decide +kernel
theorem dX5_settle_34 : decode cX5_settle 34 = .ok (.iushr, 1) := by decide +kernel
theorem dX5_settle_35 : decode cX5_settle 35 = .ok (.iconst 1, 1) := by decide +kernel
theorem dX5_settle_36 : decode cX5_settle 36 = .ok (.iand, 1) := by decide +kernel
theorem dX5_settle_37 : decode cX5_settle 37 = .ok (.ifCond .ne 6, 3) := by decide +kernel
theorem dX5_settle_40 : decode cX5_settle 40 = .ok (.goto 68, 3) := by decide +kernel
theorem dX5_settle_43 : decode cX5_settle 43 = .ok (.aload_n 0, 1) := by decide +kernel
theorem dX5_settle_44 : decode cX5_settle 44 = .ok (.getfield 30, 3) := by decide +kernel
theorem dX5_settle_47 : decode cX5_settle 47 = .ok (.iload 6, 2) := by decide +kernel
theorem dX5_settle_49 : decode cX5_settle 49 = .ok (.aload_n 1, 1) := by decide +kernel
theorem dX5_settle_50 : decode cX5_settle 50 = .ok (.getfield 52, 3) := by decide +kernel
theorem dX5_settle_53 : decode cX5_settle 53 = .ok (.iload 6, 2) := by decide +kernel
theorem dX5_settle_55 : decode cX5_settle 55 = .ok (.laload, 1) := by decide +kernel
theorem dX5_settle_56 : decode cX5_settle 56 = .ok (.invokevirtual 54, 3) := by decide +kernel
theorem dX5_settle_59 : decode cX5_settle 59 = .ok (.lstore 7, 2) := by decide +kernel
theorem dX5_settle_61 : decode cX5_settle 61 = .ok (.lload 7, 2) := by decide +kernel
theorem dX5_settle_63 : decode cX5_settle 63 = .ok (.lconst 0, 1) := by decide +kernel
theorem dX5_settle_64 : decode cX5_settle 64 = .ok (.lcmp, 1) := by decide +kernel
theorem dX5_settle_65 : decode cX5_settle 65 = .ok (.ifCond .ne 6, 3) := by decide +kernel
theorem dX5_settle_68 : decode cX5_settle 68 = .ok (.bipush (-2), 2) := by decide +kernel
theorem dX5_settle_70 : decode cX5_settle 70 = .ok (.ireturn, 1) := by decide +kernel
theorem dX5_settle_71 : decode cX5_settle 71 = .ok (.aload_n 1, 1) := by decide +kernel
theorem dX5_settle_72 : decode cX5_settle 72 = .ok (.iload 6, 2) := by decide +kernel
theorem dX5_settle_74 : decode cX5_settle 74 = .ok (.lload 7, 2) := by decide +kernel
theorem dX5_settle_76 : decode cX5_settle 76 = .ok (.invokevirtual 60, 3) := by decide +kernel
theorem dX5_settle_79 : decode cX5_settle 79 = .ok (.istore 9, 2) := by decide +kernel
theorem dX5_settle_81 : decode cX5_settle 81 = .ok (.iload_n 3, 1) := by decide +kernel
theorem dX5_settle_82 : decode cX5_settle 82 = .ok (.iconst 1, 1) := by decide +kernel
theorem dX5_settle_83 : decode cX5_settle 83 = .ok (.iload 6, 2) := by decide +kernel
theorem dX5_settle_85 : decode cX5_settle 85 = .ok (.ishl, 1) := by decide +kernel
theorem dX5_settle_86 : decode cX5_settle 86 = .ok (.iconst (-1), 1) := by decide +kernel
theorem dX5_settle_87 : decode cX5_settle 87 = .ok (.ixor, 1) := by decide +kernel
theorem dX5_settle_88 : decode cX5_settle 88 = .ok (.iand, 1) := by decide +kernel
theorem dX5_settle_89 : decode cX5_settle 89 = .ok (.iload 9, 2) := by decide +kernel
theorem dX5_settle_91 : decode cX5_settle 91 = .ok (.ior, 1) := by decide +kernel
theorem dX5_settle_92 : decode cX5_settle 92 = .ok (.istore_n 3, 1) := by decide +kernel
theorem dX5_settle_93 : decode cX5_settle 93 = .ok (.iload 5, 2) := by decide +kernel
theorem dX5_settle_95 : decode cX5_settle 95 = .ok (.iload 9, 2) := by decide +kernel
theorem dX5_settle_97 : decode cX5_settle 97 = .ok (.ifCond .eq 7, 3) := by decide +kernel
theorem dX5_settle_100 : decode cX5_settle 100 = .ok (.iconst 1, 1) := by decide +kernel
theorem dX5_settle_101 : decode cX5_settle 101 = .ok (.goto 4, 3) := by decide +kernel
theorem dX5_settle_104 : decode cX5_settle 104 = .ok (.iconst 0, 1) := by decide +kernel
theorem dX5_settle_105 : decode cX5_settle 105 = .ok (.ior, 1) := by decide +kernel
theorem dX5_settle_106 : decode cX5_settle 106 = .ok (.istore 5, 2) := by decide +kernel
theorem dX5_settle_108 : decode cX5_settle 108 = .ok (.iinc 6 1, 3) := by decide +kernel
theorem dX5_settle_111 : decode cX5_settle 111 = .ok (.goto (-92), 3) := by decide +kernel
theorem dX5_settle_114 : decode cX5_settle 114 = .ok (.iload 5, 2) := by decide +kernel
theorem dX5_settle_116 : decode cX5_settle 116 = .ok (.ifCond .ne 14, 3) := by decide +kernel
theorem dX5_settle_119 : decode cX5_settle 119 = .ok (.iload 4, 2) := by decide +kernel
theorem dX5_settle_121 : decode cX5_settle 121 = .ok (.aload_n 0, 1) := by decide +kernel
theorem dX5_settle_122 : decode cX5_settle 122 = .ok (.getfield 26, 3) := by decide +kernel
theorem dX5_settle_125 : decode cX5_settle 125 = .ok (.invokevirtual 46, 3) := by decide +kernel
theorem dX5_settle_128 : decode cX5_settle 128 = .ok (.imul, 1) := by decide +kernel
theorem dX5_settle_129 : decode cX5_settle 129 = .ok (.ireturn, 1) := by decide +kernel
theorem dX5_settle_130 : decode cX5_settle 130 = .ok (.iinc 4 1, 3) := by decide +kernel
theorem dX5_settle_133 : decode cX5_settle 133 = .ok (.goto (-128), 3) := by decide +kernel
theorem dX5_settle_136 : decode cX5_settle 136 = .ok (.bipush (-2), 2) := by decide +kernel
theorem dX5_settle_138 : decode cX5_settle 138 = .ok (.ireturn, 1) := by decide +kernel
theorem dX5_siftCell_0 : decode cX5_siftCell 0 = .ok (.aload_n 1, 1) := by decide +kernel
theorem dX5_siftCell_1 : decode cX5_siftCell 1 = .ok (.iload_n 2, 1) := by decide +kernel
theorem dX5_siftCell_2 : decode cX5_siftCell 2 = .ok (.iload_n 3, 1) := by decide +kernel
theorem dX5_siftCell_3 : decode cX5_siftCell 3 = .ok (.invokevirtual 74, 3) := by decide +kernel
theorem dX5_siftCell_6 : decode cX5_siftCell 6 = .ok (.istore 4, 2) := by decide +kernel
theorem dX5_siftCell_8 : decode cX5_siftCell 8 = .ok (.iconst 0, 1) := by decide +kernel
theorem dX5_siftCell_9 : decode cX5_siftCell 9 = .ok (.istore 5, 2) := by decide +kernel
theorem dX5_siftCell_11 : decode cX5_siftCell 11 = .ok (.iconst 0, 1) := by decide +kernel
theorem dX5_siftCell_12 : decode cX5_siftCell 12 = .ok (.istore 6, 2) := by decide +kernel
theorem dX5_siftCell_14 : decode cX5_siftCell 14 = .ok (.iload 6, 2) := by decide +kernel
theorem dX5_siftCell_16 : decode cX5_siftCell 16 = .ok (.aload_n 0, 1) := by decide +kernel
theorem dX5_siftCell_17 : decode cX5_siftCell 17 = .ok (.getfield 26, 3) := by decide +kernel
theorem dX5_siftCell_20 : decode cX5_siftCell 20 = .ok (.getfield 78, 3) := by decide +kernel
theorem dX5_siftCell_23 : decode cX5_siftCell 23 = .ok (.if_icmp .gt 105, 3) := by decide +kernel
theorem dX5_siftCell_26 : decode cX5_siftCell 26 = .ok (.aload_n 1, 1) := by decide +kernel
theorem dX5_siftCell_27 : decode cX5_siftCell 27 = .ok (.iload_n 2, 1) := by decide +kernel
theorem dX5_siftCell_28 : decode cX5_siftCell 28 = .ok (.iload_n 3, 1) := by decide +kernel
theorem dX5_siftCell_29 : decode cX5_siftCell 29 = .ok (.invokevirtual 81, 3) := by decide +kernel
theorem dX5_siftCell_32 : decode cX5_siftCell 32 = .ok (.istore 7, 2) := by decide +kernel
theorem dX5_siftCell_34 : decode cX5_siftCell 34 = .ok (.iload 7, 2) := by decide +kernel
theorem dX5_siftCell_36 : decode cX5_siftCell 36 = .ok (.invokestatic 84, 3) := by decide +kernel
theorem dX5_siftCell_39 : decode cX5_siftCell 39 = .ok (.iconst 2, 1) := by decide +kernel
theorem dX5_siftCell_40 : decode cX5_siftCell 40 = .ok (.if_icmp .ge 6, 3) := by decide +kernel
theorem dX5_siftCell_43 : decode cX5_siftCell 43 = .ok (.iload 5, 2) := by decide +kernel
theorem dX5_siftCell_45 : decode cX5_siftCell 45 = .ok (.ireturn, 1) := by decide +kernel
theorem dX5_siftCell_46 : decode cX5_siftCell 46 = .ok (.iload 7, 2) := by decide +kernel
theorem dX5_siftCell_48 : decode cX5_siftCell 48 = .ok (.iload 6, 2) := by decide +kernel
theorem dX5_siftCell_50 : decode cX5_siftCell 50 = .ok (.iushr, 1) := by decide +kernel
theorem dX5_siftCell_51 : decode cX5_siftCell 51 = .ok (.iconst 1, 1) := by decide +kernel
theorem dX5_siftCell_52 : decode cX5_siftCell 52 = .ok (.iand, 1) := by decide +kernel
theorem dX5_siftCell_53 : decode cX5_siftCell 53 = .ok (.ifCond .ne 6, 3) := by decide +kernel
theorem dX5_siftCell_56 : decode cX5_siftCell 56 = .ok (.goto 66, 3) := by decide +kernel
theorem dX5_siftCell_59 : decode cX5_siftCell 59 = .ok (.aload_n 0, 1) := by decide +kernel
theorem dX5_siftCell_60 : decode cX5_siftCell 60 = .ok (.getfield 43, 3) := by decide +kernel
theorem dX5_siftCell_63 : decode cX5_siftCell 63 = .ok (.aload_n 1, 1) := by decide +kernel
theorem dX5_siftCell_64 : decode cX5_siftCell 64 = .ok (.invokevirtual 90, 3) := by decide +kernel
theorem dX5_siftCell_67 : decode cX5_siftCell 67 = .ok (.aload_n 0, 1) := by decide +kernel
theorem dX5_siftCell_68 : decode cX5_siftCell 68 = .ok (.getfield 43, 3) := by decide +kernel
theorem dX5_siftCell_71 : decode cX5_siftCell 71 = .ok (.iload_n 2, 1) := by decide +kernel
theorem dX5_siftCell_72 : decode cX5_siftCell 72 = .ok (.iload_n 3, 1) := by decide +kernel
theorem dX5_siftCell_73 : decode cX5_siftCell 73 = .ok (.iload 6, 2) := by decide +kernel
theorem dX5_siftCell_75 : decode cX5_siftCell 75 = .ok (.invokevirtual 94, 3) := by decide +kernel
theorem dX5_siftCell_78 : decode cX5_siftCell 78 = .ok (.aload_n 0, 1) := by decide +kernel
theorem dX5_siftCell_79 : decode cX5_siftCell 79 = .ok (.aload_n 0, 1) := by decide +kernel
theorem dX5_siftCell_80 : decode cX5_siftCell 80 = .ok (.getfield 43, 3) := by decide +kernel
theorem dX5_siftCell_83 : decode cX5_siftCell 83 = .ok (.iload 4, 2) := by decide +kernel
theorem dX5_siftCell_85 : decode cX5_siftCell 85 = .ok (.invokevirtual 98, 3) := by decide +kernel
theorem dX5_siftCell_88 : decode cX5_siftCell 88 = .ok (.bipush (-2), 2) := by decide +kernel
theorem dX5_siftCell_90 : decode cX5_siftCell 90 = .ok (.if_icmp .eq 6, 3) := by decide +kernel
theorem dX5_siftCell_93 : decode cX5_siftCell 93 = .ok (.goto 29, 3) := by decide +kernel
theorem dX5_siftCell_96 : decode cX5_siftCell 96 = .ok (.aload_n 1, 1) := by decide +kernel
theorem dX5_siftCell_97 : decode cX5_siftCell 97 = .ok (.iload_n 2, 1) := by decide +kernel
theorem dX5_siftCell_98 : decode cX5_siftCell 98 = .ok (.iload_n 3, 1) := by decide +kernel
theorem dX5_siftCell_99 : decode cX5_siftCell 99 = .ok (.iload 6, 2) := by decide +kernel
theorem dX5_siftCell_101 : decode cX5_siftCell 101 = .ok (.invokevirtual 102, 3) := by decide +kernel
theorem dX5_siftCell_104 : decode cX5_siftCell 104 = .ok (.iinc 5 1, 3) := by decide +kernel
theorem dX5_siftCell_107 : decode cX5_siftCell 107 = .ok (.aload_n 0, 1) := by decide +kernel
theorem dX5_siftCell_108 : decode cX5_siftCell 108 = .ok (.aload_n 1, 1) := by decide +kernel
theorem dX5_siftCell_109 : decode cX5_siftCell 109 = .ok (.iload 4, 2) := by decide +kernel
theorem dX5_siftCell_111 : decode cX5_siftCell 111 = .ok (.invokevirtual 98, 3) := by decide +kernel
theorem dX5_siftCell_114 : decode cX5_siftCell 114 = .ok (.bipush (-2), 2) := by decide +kernel
theorem dX5_siftCell_116 : decode cX5_siftCell 116 = .ok (.if_icmp .ne 6, 3) := by decide +kernel
theorem dX5_siftCell_119 : decode cX5_siftCell 119 = .ok (.bipush (-2), 2) := by decide +kernel
theorem dX5_siftCell_121 : decode cX5_siftCell 121 = .ok (.ireturn, 1) := by decide +kernel
theorem dX5_siftCell_122 : decode cX5_siftCell 122 = .ok (.iinc 6 1, 3) := by decide +kernel
theorem dX5_siftCell_125 : decode cX5_siftCell 125 = .ok (.goto (-111), 3) := by decide +kernel
theorem dX5_siftCell_128 : decode cX5_siftCell 128 = .ok (.iload 5, 2) := by decide +kernel
theorem dX5_siftCell_130 : decode cX5_siftCell 130 = .ok (.ireturn, 1) := by decide +kernel
theorem dX5_sift_0 : decode cX5_sift 0 = .ok (.iconst 0, 1) := by decide +kernel
theorem dX5_sift_1 : decode cX5_sift 1 = .ok (.istore_n 2, 1) := by decide +kernel
theorem dX5_sift_2 : decode cX5_sift 2 = .ok (.iconst 0, 1) := by decide +kernel
theorem dX5_sift_3 : decode cX5_sift 3 = .ok (.istore_n 3, 1) := by decide +kernel
theorem dX5_sift_4 : decode cX5_sift 4 = .ok (.iload_n 3, 1) := by decide +kernel
theorem dX5_sift_5 : decode cX5_sift 5 = .ok (.sipush 1000, 3) := by decide +kernel
theorem dX5_sift_8 : decode cX5_sift 8 = .ok (.if_icmp .ge 88, 3) := by decide +kernel
theorem dX5_sift_11 : decode cX5_sift 11 = .ok (.iload_n 2, 1) := by decide +kernel
theorem dX5_sift_12 : decode cX5_sift 12 = .ok (.istore 4, 2) := by decide +kernel
theorem dX5_sift_14 : decode cX5_sift 14 = .ok (.iconst 0, 1) := by decide +kernel
theorem dX5_sift_15 : decode cX5_sift 15 = .ok (.istore 5, 2) := by decide +kernel
theorem dX5_sift_17 : decode cX5_sift 17 = .ok (.iload 5, 2) := by decide +kernel
theorem dX5_sift_19 : decode cX5_sift 19 = .ok (.aload_n 0, 1) := by decide +kernel
theorem dX5_sift_20 : decode cX5_sift 20 = .ok (.getfield 26, 3) := by decide +kernel
theorem dX5_sift_23 : decode cX5_sift 23 = .ok (.getfield 64, 3) := by decide +kernel
theorem dX5_sift_26 : decode cX5_sift 26 = .ok (.if_icmp .ge 56, 3) := by decide +kernel
theorem dX5_sift_29 : decode cX5_sift 29 = .ok (.iconst 0, 1) := by decide +kernel
theorem dX5_sift_30 : decode cX5_sift 30 = .ok (.istore 6, 2) := by decide +kernel
theorem dX5_sift_32 : decode cX5_sift 32 = .ok (.iload 6, 2) := by decide +kernel
theorem dX5_sift_34 : decode cX5_sift 34 = .ok (.aload_n 0, 1) := by decide +kernel
theorem dX5_sift_35 : decode cX5_sift 35 = .ok (.getfield 26, 3) := by decide +kernel
theorem dX5_sift_38 : decode cX5_sift 38 = .ok (.getfield 67, 3) := by decide +kernel
theorem dX5_sift_41 : decode cX5_sift 41 = .ok (.if_icmp .ge 35, 3) := by decide +kernel
theorem dX5_sift_44 : decode cX5_sift 44 = .ok (.aload_n 0, 1) := by decide +kernel
theorem dX5_sift_45 : decode cX5_sift 45 = .ok (.aload_n 1, 1) := by decide +kernel
theorem dX5_sift_46 : decode cX5_sift 46 = .ok (.iload 6, 2) := by decide +kernel
theorem dX5_sift_48 : decode cX5_sift 48 = .ok (.iload 5, 2) := by decide +kernel
theorem dX5_sift_50 : decode cX5_sift 50 = .ok (.invokevirtual 70, 3) := by decide +kernel
theorem dX5_sift_53 : decode cX5_sift 53 = .ok (.istore 7, 2) := by decide +kernel
theorem dX5_sift_55 : decode cX5_sift 55 = .ok (.iload 7, 2) := by decide +kernel
theorem dX5_sift_57 : decode cX5_sift 57 = .ok (.bipush (-2), 2) := by decide +kernel
theorem dX5_sift_59 : decode cX5_sift 59 = .ok (.if_icmp .ne 6, 3) := by decide +kernel
theorem dX5_sift_62 : decode cX5_sift 62 = .ok (.bipush (-2), 2) := by decide +kernel
theorem dX5_sift_64 : decode cX5_sift 64 = .ok (.ireturn, 1) := by decide +kernel
theorem dX5_sift_65 : decode cX5_sift 65 = .ok (.iload_n 2, 1) := by decide +kernel
theorem dX5_sift_66 : decode cX5_sift 66 = .ok (.iload 7, 2) := by decide +kernel
theorem dX5_sift_68 : decode cX5_sift 68 = .ok (.iadd, 1) := by decide +kernel
theorem dX5_sift_69 : decode cX5_sift 69 = .ok (.istore_n 2, 1) := by decide +kernel
theorem dX5_sift_70 : decode cX5_sift 70 = .ok (.iinc 6 1, 3) := by decide +kernel
theorem dX5_sift_73 : decode cX5_sift 73 = .ok (.goto (-41), 3) := by decide +kernel
theorem dX5_sift_76 : decode cX5_sift 76 = .ok (.iinc 5 1, 3) := by decide +kernel
theorem dX5_sift_79 : decode cX5_sift 79 = .ok (.goto (-62), 3) := by decide +kernel
theorem dX5_sift_82 : decode cX5_sift 82 = .ok (.iload_n 2, 1) := by decide +kernel
theorem dX5_sift_83 : decode cX5_sift 83 = .ok (.iload 4, 2) := by decide +kernel
theorem dX5_sift_85 : decode cX5_sift 85 = .ok (.if_icmp .ne 5, 3) := by decide +kernel
theorem dX5_sift_88 : decode cX5_sift 88 = .ok (.iload_n 2, 1) := by decide +kernel
theorem dX5_sift_89 : decode cX5_sift 89 = .ok (.ireturn, 1) := by decide +kernel
theorem dX5_sift_90 : decode cX5_sift 90 = .ok (.iinc 3 1, 3) := by decide +kernel
theorem dX5_sift_93 : decode cX5_sift 93 = .ok (.goto (-89), 3) := by decide +kernel
theorem dX5_sift_96 : decode cX5_sift 96 = .ok (.iload_n 2, 1) := by decide +kernel
theorem dX5_sift_97 : decode cX5_sift 97 = .ok (.ireturn, 1) := by decide +kernel
theorem dX5_closeEmptyChoices_0 : decode cX5_closeEmptyChoices 0 = .ok (.aload_n 0, 1) := by decide +kernel
theorem dX5_closeEmptyChoices_1 : decode cX5_closeEmptyChoices 1 = .ok (.getfield 22, 3) := by decide +kernel
theorem dX5_closeEmptyChoices_4 : decode cX5_closeEmptyChoices 4 = .ok (.ifCond .le 30, 3) := by decide +kernel
theorem dX5_closeEmptyChoices_7 : decode cX5_closeEmptyChoices 7 = .ok (.aload_n 0, 1) := by decide +kernel
theorem dX5_closeEmptyChoices_8 : decode cX5_closeEmptyChoices 8 = .ok (.getfield 19, 3) := by decide +kernel
theorem dX5_closeEmptyChoices_11 : decode cX5_closeEmptyChoices 11 = .ok (.aload_n 0, 1) := by decide +kernel
theorem dX5_closeEmptyChoices_12 : decode cX5_closeEmptyChoices 12 = .ok (.getfield 22, 3) := by decide +kernel
theorem dX5_closeEmptyChoices_15 : decode cX5_closeEmptyChoices 15 = .ok (.iconst 1, 1) := by decide +kernel
theorem dX5_closeEmptyChoices_16 : decode cX5_closeEmptyChoices 16 = .ok (.isub, 1) := by decide +kernel
theorem dX5_closeEmptyChoices_17 : decode cX5_closeEmptyChoices 17 = .ok (.iaload, 1) := by decide +kernel
theorem dX5_closeEmptyChoices_18 : decode cX5_closeEmptyChoices 18 = .ok (.ifCond .ne 16, 3) := by decide +kernel
theorem dX5_closeEmptyChoices_21 : decode cX5_closeEmptyChoices 21 = .ok (.aload_n 0, 1) := by decide +kernel
theorem dX5_closeEmptyChoices_22 : decode cX5_closeEmptyChoices 22 = .ok (.dup, 1) := by decide +kernel
theorem dX5_closeEmptyChoices_23 : decode cX5_closeEmptyChoices 23 = .ok (.getfield 22, 3) := by decide +kernel
theorem dX5_closeEmptyChoices_26 : decode cX5_closeEmptyChoices 26 = .ok (.iconst 1, 1) := by decide +kernel
theorem dX5_closeEmptyChoices_27 : decode cX5_closeEmptyChoices 27 = .ok (.isub, 1) := by decide +kernel
theorem dX5_closeEmptyChoices_28 : decode cX5_closeEmptyChoices 28 = .ok (.putfield 22, 3) := by decide +kernel
theorem dX5_closeEmptyChoices_31 : decode cX5_closeEmptyChoices 31 = .ok (.goto (-31), 3) := by decide +kernel
theorem dX5_closeEmptyChoices_34 : decode cX5_closeEmptyChoices 34 = .ok (.return_, 1) := by decide +kernel
theorem dX5_followsChoice_0 : decode cX5_followsChoice 0 = .ok (.aload_n 0, 1) := by decide +kernel
theorem dX5_followsChoice_1 : decode cX5_followsChoice 1 = .ok (.getfield 22, 3) := by decide +kernel
theorem dX5_followsChoice_4 : decode cX5_followsChoice 4 = .ok (.iconst 1, 1) := by decide +kernel
theorem dX5_followsChoice_5 : decode cX5_followsChoice 5 = .ok (.isub, 1) := by decide +kernel
theorem dX5_followsChoice_6 : decode cX5_followsChoice 6 = .ok (.istore_n 1, 1) := by decide +kernel
theorem dX5_followsChoice_7 : decode cX5_followsChoice 7 = .ok (.iload_n 1, 1) := by decide +kernel
theorem dX5_followsChoice_8 : decode cX5_followsChoice 8 = .ok (.ifCond .ge 5, 3) := by decide +kernel
theorem dX5_followsChoice_11 : decode cX5_followsChoice 11 = .ok (.iconst 0, 1) := by decide +kernel
theorem dX5_followsChoice_12 : decode cX5_followsChoice 12 = .ok (.ireturn, 1) := by decide +kernel
theorem dX5_followsChoice_13 : decode cX5_followsChoice 13 = .ok (.aload_n 0, 1) := by decide +kernel
theorem dX5_followsChoice_14 : decode cX5_followsChoice 14 = .ok (.getfield 19, 3) := by decide +kernel
theorem dX5_followsChoice_17 : decode cX5_followsChoice 17 = .ok (.iload_n 1, 1) := by decide +kernel
theorem dX5_followsChoice_18 : decode cX5_followsChoice 18 = .ok (.iaload, 1) := by decide +kernel
theorem dX5_followsChoice_19 : decode cX5_followsChoice 19 = .ok (.invokestatic 147, 3) := by decide +kernel
theorem dX5_followsChoice_22 : decode cX5_followsChoice 22 = .ok (.istore_n 2, 1) := by decide +kernel
theorem dX5_followsChoice_23 : decode cX5_followsChoice 23 = .ok (.aload_n 0, 1) := by decide +kernel
theorem dX5_followsChoice_24 : decode cX5_followsChoice 24 = .ok (.getfield 19, 3) := by decide +kernel
theorem dX5_followsChoice_27 : decode cX5_followsChoice 27 = .ok (.iload_n 1, 1) := by decide +kernel
theorem dX5_followsChoice_28 : decode cX5_followsChoice 28 = .ok (.dup2, 1) := by decide +kernel
theorem dX5_followsChoice_29 : decode cX5_followsChoice 29 = .ok (.iaload, 1) := by decide +kernel
theorem dX5_followsChoice_30 : decode cX5_followsChoice 30 = .ok (.iconst 1, 1) := by decide +kernel
theorem dX5_followsChoice_31 : decode cX5_followsChoice 31 = .ok (.iload_n 2, 1) := by decide +kernel
theorem dX5_followsChoice_32 : decode cX5_followsChoice 32 = .ok (.ishl, 1) := by decide +kernel
theorem dX5_followsChoice_33 : decode cX5_followsChoice 33 = .ok (.iconst (-1), 1) := by decide +kernel
theorem dX5_followsChoice_34 : decode cX5_followsChoice 34 = .ok (.ixor, 1) := by decide +kernel
theorem dX5_followsChoice_35 : decode cX5_followsChoice 35 = .ok (.iand, 1) := by decide +kernel
theorem dX5_followsChoice_36 : decode cX5_followsChoice 36 = .ok (.iastore, 1) := by decide +kernel
theorem dX5_followsChoice_37 : decode cX5_followsChoice 37 = .ok (.aload_n 0, 1) := by decide +kernel
theorem dX5_followsChoice_38 : decode cX5_followsChoice 38 = .ok (.getfield 15, 3) := by decide +kernel
theorem dX5_followsChoice_41 : decode cX5_followsChoice 41 = .ok (.iload_n 1, 1) := by decide +kernel
theorem dX5_followsChoice_42 : decode cX5_followsChoice 42 = .ok (.iaload, 1) := by decide +kernel
theorem dX5_followsChoice_43 : decode cX5_followsChoice 43 = .ok (.bipush 12, 2) := by decide +kernel
theorem dX5_followsChoice_45 : decode cX5_followsChoice 45 = .ok (.irem, 1) := by decide +kernel
theorem dX5_followsChoice_46 : decode cX5_followsChoice 46 = .ok (.istore_n 3, 1) := by decide +kernel
theorem dX5_followsChoice_47 : decode cX5_followsChoice 47 = .ok (.aload_n 0, 1) := by decide +kernel
theorem dX5_followsChoice_48 : decode cX5_followsChoice 48 = .ok (.getfield 15, 3) := by decide +kernel
theorem dX5_followsChoice_51 : decode cX5_followsChoice 51 = .ok (.iload_n 1, 1) := by decide +kernel
theorem dX5_followsChoice_52 : decode cX5_followsChoice 52 = .ok (.iaload, 1) := by decide +kernel
theorem dX5_followsChoice_53 : decode cX5_followsChoice 53 = .ok (.bipush 12, 2) := by decide +kernel
theorem dX5_followsChoice_55 : decode cX5_followsChoice 55 = .ok (.idiv, 1) := by decide +kernel
theorem dX5_followsChoice_56 : decode cX5_followsChoice 56 = .ok (.istore 4, 2) := by decide +kernel
theorem dX5_followsChoice_58 : decode cX5_followsChoice 58 = .ok (.aload_n 0, 1) := by decide +kernel
theorem dX5_followsChoice_59 : decode cX5_followsChoice 59 = .ok (.getfield 39, 3) := by decide +kernel
theorem dX5_followsChoice_62 : decode cX5_followsChoice 62 = .ok (.aload_n 0, 1) := by decide +kernel
theorem dX5_followsChoice_63 : decode cX5_followsChoice 63 = .ok (.getfield 9, 3) := by decide +kernel
theorem dX5_followsChoice_66 : decode cX5_followsChoice 66 = .ok (.iload_n 1, 1) := by decide +kernel
theorem dX5_followsChoice_67 : decode cX5_followsChoice 67 = .ok (.invokevirtual 150, 3) := by decide +kernel
theorem dX5_followsChoice_70 : decode cX5_followsChoice 70 = .ok (.aload_n 0, 1) := by decide +kernel
theorem dX5_followsChoice_71 : decode cX5_followsChoice 71 = .ok (.getfield 39, 3) := by decide +kernel
theorem dX5_followsChoice_74 : decode cX5_followsChoice 74 = .ok (.iload_n 3, 1) := by decide +kernel
theorem dX5_followsChoice_75 : decode cX5_followsChoice 75 = .ok (.iload 4, 2) := by decide +kernel
theorem dX5_followsChoice_77 : decode cX5_followsChoice 77 = .ok (.iload_n 2, 1) := by decide +kernel
theorem dX5_followsChoice_78 : decode cX5_followsChoice 78 = .ok (.invokevirtual 94, 3) := by decide +kernel
theorem dX5_followsChoice_81 : decode cX5_followsChoice 81 = .ok (.aload_n 0, 1) := by decide +kernel
theorem dX5_followsChoice_82 : decode cX5_followsChoice 82 = .ok (.aload_n 0, 1) := by decide +kernel
theorem dX5_followsChoice_83 : decode cX5_followsChoice 83 = .ok (.getfield 39, 3) := by decide +kernel
theorem dX5_followsChoice_86 : decode cX5_followsChoice 86 = .ok (.aload_n 0, 1) := by decide +kernel
theorem dX5_followsChoice_87 : decode cX5_followsChoice 87 = .ok (.getfield 39, 3) := by decide +kernel
theorem dX5_followsChoice_90 : decode cX5_followsChoice 90 = .ok (.iload_n 3, 1) := by decide +kernel
theorem dX5_followsChoice_91 : decode cX5_followsChoice 91 = .ok (.iload 4, 2) := by decide +kernel
theorem dX5_followsChoice_93 : decode cX5_followsChoice 93 = .ok (.invokevirtual 74, 3) := by decide +kernel
theorem dX5_followsChoice_96 : decode cX5_followsChoice 96 = .ok (.invokevirtual 98, 3) := by decide +kernel
theorem dX5_followsChoice_99 : decode cX5_followsChoice 99 = .ok (.bipush (-2), 2) := by decide +kernel
theorem dX5_followsChoice_101 : decode cX5_followsChoice 101 = .ok (.if_icmp .eq 7, 3) := by decide +kernel
theorem dX5_followsChoice_104 : decode cX5_followsChoice 104 = .ok (.iconst 1, 1) := by decide +kernel
theorem dX5_followsChoice_105 : decode cX5_followsChoice 105 = .ok (.goto 4, 3) := by decide +kernel
theorem dX5_followsChoice_108 : decode cX5_followsChoice 108 = .ok (.iconst 0, 1) := by decide +kernel
theorem dX5_followsChoice_109 : decode cX5_followsChoice 109 = .ok (.ireturn, 1) := by decide +kernel
theorem dX5_opensChoice_0 : decode cX5_opensChoice 0 = .ok (.aload_n 0, 1) := by decide +kernel
theorem dX5_opensChoice_1 : decode cX5_opensChoice 1 = .ok (.getfield 39, 3) := by decide +kernel
theorem dX5_opensChoice_4 : decode cX5_opensChoice 4 = .ok (.invokevirtual 140, 3) := by decide +kernel
theorem dX5_opensChoice_7 : decode cX5_opensChoice 7 = .ok (.istore_n 1, 1) := by decide +kernel
theorem dX5_opensChoice_8 : decode cX5_opensChoice 8 = .ok (.iload_n 1, 1) := by decide +kernel
theorem dX5_opensChoice_9 : decode cX5_opensChoice 9 = .ok (.iconst (-1), 1) := by decide +kernel
theorem dX5_opensChoice_10 : decode cX5_opensChoice 10 = .ok (.if_icmp .eq 13, 3) := by decide +kernel
theorem dX5_opensChoice_13 : decode cX5_opensChoice 13 = .ok (.aload_n 0, 1) := by decide +kernel
theorem dX5_opensChoice_14 : decode cX5_opensChoice 14 = .ok (.getfield 22, 3) := by decide +kernel
theorem dX5_opensChoice_17 : decode cX5_opensChoice 17 = .ok (.sipush 144, 3) := by decide +kernel
theorem dX5_opensChoice_20 : decode cX5_opensChoice 20 = .ok (.if_icmp .lt 5, 3) := by decide +kernel
theorem dX5_opensChoice_23 : decode cX5_opensChoice 23 = .ok (.iconst 0, 1) := by decide +kernel
theorem dX5_opensChoice_24 : decode cX5_opensChoice 24 = .ok (.ireturn, 1) := by decide +kernel
theorem dX5_opensChoice_25 : decode cX5_opensChoice 25 = .ok (.aload_n 0, 1) := by decide +kernel
theorem dX5_opensChoice_26 : decode cX5_opensChoice 26 = .ok (.getfield 39, 3) := by decide +kernel
theorem dX5_opensChoice_29 : decode cX5_opensChoice 29 = .ok (.aload_n 0, 1) := by decide +kernel
theorem dX5_opensChoice_30 : decode cX5_opensChoice 30 = .ok (.getfield 9, 3) := by decide +kernel
theorem dX5_opensChoice_33 : decode cX5_opensChoice 33 = .ok (.aload_n 0, 1) := by decide +kernel
theorem dX5_opensChoice_34 : decode cX5_opensChoice 34 = .ok (.getfield 22, 3) := by decide +kernel
theorem dX5_opensChoice_37 : decode cX5_opensChoice 37 = .ok (.invokevirtual 143, 3) := by decide +kernel
theorem dX5_opensChoice_40 : decode cX5_opensChoice 40 = .ok (.aload_n 0, 1) := by decide +kernel
theorem dX5_opensChoice_41 : decode cX5_opensChoice 41 = .ok (.getfield 15, 3) := by decide +kernel
theorem dX5_opensChoice_44 : decode cX5_opensChoice 44 = .ok (.aload_n 0, 1) := by decide +kernel
theorem dX5_opensChoice_45 : decode cX5_opensChoice 45 = .ok (.getfield 22, 3) := by decide +kernel
theorem dX5_opensChoice_48 : decode cX5_opensChoice 48 = .ok (.iload_n 1, 1) := by decide +kernel
theorem dX5_opensChoice_49 : decode cX5_opensChoice 49 = .ok (.iastore, 1) := by decide +kernel
theorem dX5_opensChoice_50 : decode cX5_opensChoice 50 = .ok (.aload_n 0, 1) := by decide +kernel
theorem dX5_opensChoice_51 : decode cX5_opensChoice 51 = .ok (.getfield 19, 3) := by decide +kernel
theorem dX5_opensChoice_54 : decode cX5_opensChoice 54 = .ok (.aload_n 0, 1) := by decide +kernel
theorem dX5_opensChoice_55 : decode cX5_opensChoice 55 = .ok (.getfield 22, 3) := by decide +kernel
theorem dX5_opensChoice_58 : decode cX5_opensChoice 58 = .ok (.aload_n 0, 1) := by decide +kernel
theorem dX5_opensChoice_59 : decode cX5_opensChoice 59 = .ok (.getfield 39, 3) := by decide +kernel
theorem dX5_opensChoice_62 : decode cX5_opensChoice 62 = .ok (.iload_n 1, 1) := by decide +kernel
theorem dX5_opensChoice_63 : decode cX5_opensChoice 63 = .ok (.bipush 12, 2) := by decide +kernel
theorem dX5_opensChoice_65 : decode cX5_opensChoice 65 = .ok (.irem, 1) := by decide +kernel
theorem dX5_opensChoice_66 : decode cX5_opensChoice 66 = .ok (.iload_n 1, 1) := by decide +kernel
theorem dX5_opensChoice_67 : decode cX5_opensChoice 67 = .ok (.bipush 12, 2) := by decide +kernel
theorem dX5_opensChoice_69 : decode cX5_opensChoice 69 = .ok (.idiv, 1) := by decide +kernel
theorem dX5_opensChoice_70 : decode cX5_opensChoice 70 = .ok (.invokevirtual 81, 3) := by decide +kernel
theorem dX5_opensChoice_73 : decode cX5_opensChoice 73 = .ok (.iastore, 1) := by decide +kernel
theorem dX5_opensChoice_74 : decode cX5_opensChoice 74 = .ok (.aload_n 0, 1) := by decide +kernel
theorem dX5_opensChoice_75 : decode cX5_opensChoice 75 = .ok (.dup, 1) := by decide +kernel
theorem dX5_opensChoice_76 : decode cX5_opensChoice 76 = .ok (.getfield 22, 3) := by decide +kernel
theorem dX5_opensChoice_79 : decode cX5_opensChoice 79 = .ok (.iconst 1, 1) := by decide +kernel
theorem dX5_opensChoice_80 : decode cX5_opensChoice 80 = .ok (.iadd, 1) := by decide +kernel
theorem dX5_opensChoice_81 : decode cX5_opensChoice 81 = .ok (.putfield 22, 3) := by decide +kernel
theorem dX5_opensChoice_84 : decode cX5_opensChoice 84 = .ok (.iconst 1, 1) := by decide +kernel
theorem dX5_opensChoice_85 : decode cX5_opensChoice 85 = .ok (.ireturn, 1) := by decide +kernel
theorem dX5_seek_0 : decode cX5_seek 0 = .ok (.aload 4, 2) := by decide +kernel
theorem dX5_seek_2 : decode cX5_seek 2 = .ok (.invokevirtual 105, 3) := by decide +kernel
theorem dX5_seek_5 : decode cX5_seek 5 = .ok (.aload_n 0, 1) := by decide +kernel
theorem dX5_seek_6 : decode cX5_seek 6 = .ok (.iconst 0, 1) := by decide +kernel
theorem dX5_seek_7 : decode cX5_seek 7 = .ok (.putfield 22, 3) := by decide +kernel
theorem dX5_seek_10 : decode cX5_seek 10 = .ok (.aload_n 0, 1) := by decide +kernel
theorem dX5_seek_11 : decode cX5_seek 11 = .ok (.getfield 39, 3) := by decide +kernel
theorem dX5_seek_14 : decode cX5_seek 14 = .ok (.aload_n 1, 1) := by decide +kernel
theorem dX5_seek_15 : decode cX5_seek 15 = .ok (.invokevirtual 110, 3) := by decide +kernel
theorem dX5_seek_18 : decode cX5_seek 18 = .ok (.aload_n 0, 1) := by decide +kernel
theorem dX5_seek_19 : decode cX5_seek 19 = .ok (.aload_n 0, 1) := by decide +kernel
theorem dX5_seek_20 : decode cX5_seek 20 = .ok (.getfield 39, 3) := by decide +kernel
theorem dX5_seek_23 : decode cX5_seek 23 = .ok (.aload_n 0, 1) := by decide +kernel
theorem dX5_seek_24 : decode cX5_seek 24 = .ok (.getfield 26, 3) := by decide +kernel
theorem dX5_seek_27 : decode cX5_seek 27 = .ok (.invokevirtual 114, 3) := by decide +kernel
theorem dX5_seek_30 : decode cX5_seek 30 = .ok (.invokevirtual 98, 3) := by decide +kernel
theorem dX5_seek_33 : decode cX5_seek 33 = .ok (.bipush (-2), 2) := by decide +kernel
theorem dX5_seek_35 : decode cX5_seek 35 = .ok (.if_icmp .eq 7, 3) := by decide +kernel
theorem dX5_seek_38 : decode cX5_seek 38 = .ok (.iconst 1, 1) := by decide +kernel
theorem dX5_seek_39 : decode cX5_seek 39 = .ok (.goto 4, 3) := by decide +kernel
theorem dX5_seek_42 : decode cX5_seek 42 = .ok (.iconst 0, 1) := by decide +kernel
theorem dX5_seek_43 : decode cX5_seek 43 = .ok (.istore 5, 2) := by decide +kernel
theorem dX5_seek_45 : decode cX5_seek 45 = .ok (.iconst 0, 1) := by decide +kernel
theorem dX5_seek_46 : decode cX5_seek 46 = .ok (.istore 6, 2) := by decide +kernel
theorem dX5_seek_48 : decode cX5_seek 48 = .ok (.iload 6, 2) := by decide +kernel
theorem dX5_seek_50 : decode cX5_seek 50 = .ok (.iload_n 3, 1) := by decide +kernel
theorem dX5_seek_51 : decode cX5_seek 51 = .ok (.if_icmp .gt 85, 3) := by decide +kernel
theorem dX5_seek_54 : decode cX5_seek 54 = .ok (.iload 5, 2) := by decide +kernel
theorem dX5_seek_56 : decode cX5_seek 56 = .ok (.ifCond .eq 29, 3) := by decide +kernel
theorem dX5_seek_59 : decode cX5_seek 59 = .ok (.aload_n 0, 1) := by decide +kernel
theorem dX5_seek_60 : decode cX5_seek 60 = .ok (.invokevirtual 117, 3) := by decide +kernel
theorem dX5_seek_63 : decode cX5_seek 63 = .ok (.ifCond .ne 22, 3) := by decide +kernel
theorem dX5_seek_66 : decode cX5_seek 66 = .ok (.aload 4, 2) := by decide +kernel
theorem dX5_seek_68 : decode cX5_seek 68 = .ok (.aload_n 0, 1) := by decide +kernel
theorem dX5_seek_69 : decode cX5_seek 69 = .ok (.getfield 39, 3) := by decide +kernel
theorem dX5_seek_72 : decode cX5_seek 72 = .ok (.invokevirtual 121, 3) := by decide +kernel
theorem dX5_seek_75 : decode cX5_seek 75 = .ok (.aload 4, 2) := by decide +kernel
theorem dX5_seek_77 : decode cX5_seek 77 = .ok (.getfield 124, 3) := by decide +kernel
theorem dX5_seek_80 : decode cX5_seek 80 = .ok (.iload_n 2, 1) := by decide +kernel
theorem dX5_seek_81 : decode cX5_seek 81 = .ok (.if_icmp .lt 4, 3) := by decide +kernel
theorem dX5_seek_84 : decode cX5_seek 84 = .ok (.return_, 1) := by decide +kernel
theorem dX5_seek_85 : decode cX5_seek 85 = .ok (.aload_n 0, 1) := by decide +kernel
theorem dX5_seek_86 : decode cX5_seek 86 = .ok (.invokevirtual 127, 3) := by decide +kernel
theorem dX5_seek_89 : decode cX5_seek 89 = .ok (.aload_n 0, 1) := by decide +kernel
theorem dX5_seek_90 : decode cX5_seek 90 = .ok (.getfield 22, 3) := by decide +kernel
theorem dX5_seek_93 : decode cX5_seek 93 = .ok (.ifCond .ne 4, 3) := by decide +kernel
theorem dX5_seek_96 : decode cX5_seek 96 = .ok (.return_, 1) := by decide +kernel
theorem dX5_seek_97 : decode cX5_seek 97 = .ok (.aload 4, 2) := by decide +kernel
theorem dX5_seek_99 : decode cX5_seek 99 = .ok (.getfield 130, 3) := by decide +kernel
theorem dX5_seek_102 : decode cX5_seek 102 = .ok (.iload_n 3, 1) := by decide +kernel
theorem dX5_seek_103 : decode cX5_seek 103 = .ok (.if_icmp .lt 10, 3) := by decide +kernel
theorem dX5_seek_106 : decode cX5_seek 106 = .ok (.aload 4, 2) := by decide +kernel
theorem dX5_seek_108 : decode cX5_seek 108 = .ok (.iconst 1, 1) := by decide +kernel
theorem dX5_seek_109 : decode cX5_seek 109 = .ok (.putfield 133, 3) := by decide +kernel
theorem dX5_seek_112 : decode cX5_seek 112 = .ok (.return_, 1) := by decide +kernel
theorem dX5_seek_113 : decode cX5_seek 113 = .ok (.aload 4, 2) := by decide +kernel
theorem dX5_seek_115 : decode cX5_seek 115 = .ok (.dup, 1) := by decide +kernel
theorem dX5_seek_116 : decode cX5_seek 116 = .ok (.getfield 130, 3) := by decide +kernel
theorem dX5_seek_119 : decode cX5_seek 119 = .ok (.iconst 1, 1) := by decide +kernel
theorem dX5_seek_120 : decode cX5_seek 120 = .ok (.iadd, 1) := by decide +kernel
theorem dX5_seek_121 : decode cX5_seek 121 = .ok (.putfield 130, 3) := by decide +kernel
theorem dX5_seek_124 : decode cX5_seek 124 = .ok (.aload_n 0, 1) := by decide +kernel
theorem dX5_seek_125 : decode cX5_seek 125 = .ok (.invokevirtual 137, 3) := by decide +kernel
theorem dX5_seek_128 : decode cX5_seek 128 = .ok (.istore 5, 2) := by decide +kernel
theorem dX5_seek_130 : decode cX5_seek 130 = .ok (.iinc 6 1, 3) := by decide +kernel
theorem dX5_seek_133 : decode cX5_seek 133 = .ok (.goto (-85), 3) := by decide +kernel
theorem dX5_seek_136 : decode cX5_seek 136 = .ok (.return_, 1) := by decide +kernel
theorem dX5_judge_0 : decode cX5_judge 0 = .ok (.aload_n 0, 1) := by decide +kernel
theorem dX5_judge_1 : decode cX5_judge 1 = .ok (.getfield 39, 3) := by decide +kernel
theorem dX5_judge_4 : decode cX5_judge 4 = .ok (.aload_n 1, 1) := by decide +kernel
theorem dX5_judge_5 : decode cX5_judge 5 = .ok (.invokevirtual 110, 3) := by decide +kernel
theorem dX5_judge_8 : decode cX5_judge 8 = .ok (.aload_n 0, 1) := by decide +kernel
theorem dX5_judge_9 : decode cX5_judge 9 = .ok (.aload_n 0, 1) := by decide +kernel
theorem dX5_judge_10 : decode cX5_judge 10 = .ok (.getfield 39, 3) := by decide +kernel
theorem dX5_judge_13 : decode cX5_judge 13 = .ok (.aload_n 0, 1) := by decide +kernel
theorem dX5_judge_14 : decode cX5_judge 14 = .ok (.getfield 26, 3) := by decide +kernel
theorem dX5_judge_17 : decode cX5_judge 17 = .ok (.invokevirtual 114, 3) := by decide +kernel
theorem dX5_judge_20 : decode cX5_judge 20 = .ok (.invokevirtual 98, 3) := by decide +kernel
theorem dX5_judge_23 : decode cX5_judge 23 = .ok (.bipush (-2), 2) := by decide +kernel
theorem dX5_judge_25 : decode cX5_judge 25 = .ok (.if_icmp .ne 5, 3) := by decide +kernel
theorem dX5_judge_28 : decode cX5_judge 28 = .ok (.iconst 4, 1) := by decide +kernel
theorem dX5_judge_29 : decode cX5_judge 29 = .ok (.ireturn, 1) := by decide +kernel
theorem dX5_judge_30 : decode cX5_judge 30 = .ok (.aload_n 0, 1) := by decide +kernel
theorem dX5_judge_31 : decode cX5_judge 31 = .ok (.getfield 39, 3) := by decide +kernel
theorem dX5_judge_34 : decode cX5_judge 34 = .ok (.invokevirtual 140, 3) := by decide +kernel
theorem dX5_judge_37 : decode cX5_judge 37 = .ok (.iconst (-1), 1) := by decide +kernel
theorem dX5_judge_38 : decode cX5_judge 38 = .ok (.if_icmp .ne 5, 3) := by decide +kernel
theorem dX5_judge_41 : decode cX5_judge 41 = .ok (.iconst 0, 1) := by decide +kernel
theorem dX5_judge_42 : decode cX5_judge 42 = .ok (.ireturn, 1) := by decide +kernel
theorem dX5_judge_43 : decode cX5_judge 43 = .ok (.aload_n 0, 1) := by decide +kernel
theorem dX5_judge_44 : decode cX5_judge 44 = .ok (.aload_n 0, 1) := by decide +kernel
theorem dX5_judge_45 : decode cX5_judge 45 = .ok (.getfield 39, 3) := by decide +kernel
theorem dX5_judge_48 : decode cX5_judge 48 = .ok (.invokevirtual 153, 3) := by decide +kernel
theorem dX5_judge_51 : decode cX5_judge 51 = .ok (.bipush (-2), 2) := by decide +kernel
theorem dX5_judge_53 : decode cX5_judge 53 = .ok (.if_icmp .ne 5, 3) := by decide +kernel
theorem dX5_judge_56 : decode cX5_judge 56 = .ok (.iconst 4, 1) := by decide +kernel
theorem dX5_judge_57 : decode cX5_judge 57 = .ok (.ireturn, 1) := by decide +kernel
theorem dX5_judge_58 : decode cX5_judge 58 = .ok (.aload_n 0, 1) := by decide +kernel
theorem dX5_judge_59 : decode cX5_judge 59 = .ok (.getfield 39, 3) := by decide +kernel
theorem dX5_judge_62 : decode cX5_judge 62 = .ok (.invokevirtual 140, 3) := by decide +kernel
theorem dX5_judge_65 : decode cX5_judge 65 = .ok (.iconst (-1), 1) := by decide +kernel
theorem dX5_judge_66 : decode cX5_judge 66 = .ok (.if_icmp .ne 5, 3) := by decide +kernel
theorem dX5_judge_69 : decode cX5_judge 69 = .ok (.iconst 1, 1) := by decide +kernel
theorem dX5_judge_70 : decode cX5_judge 70 = .ok (.ireturn, 1) := by decide +kernel
theorem dX5_judge_71 : decode cX5_judge 71 = .ok (.aload_n 0, 1) := by decide +kernel
theorem dX5_judge_72 : decode cX5_judge 72 = .ok (.aload_n 1, 1) := by decide +kernel
theorem dX5_judge_73 : decode cX5_judge 73 = .ok (.iconst 2, 1) := by decide +kernel
theorem dX5_judge_74 : decode cX5_judge 74 = .ok (.sipush 400, 3) := by decide +kernel
theorem dX5_judge_77 : decode cX5_judge 77 = .ok (.aload_n 2, 1) := by decide +kernel
theorem dX5_judge_78 : decode cX5_judge 78 = .ok (.invokevirtual 157, 3) := by decide +kernel
theorem dX5_judge_81 : decode cX5_judge 81 = .ok (.aload_n 2, 1) := by decide +kernel
theorem dX5_judge_82 : decode cX5_judge 82 = .ok (.getfield 133, 3) := by decide +kernel
theorem dX5_judge_85 : decode cX5_judge 85 = .ok (.ifCond .eq 5, 3) := by decide +kernel
theorem dX5_judge_88 : decode cX5_judge 88 = .ok (.iconst 5, 1) := by decide +kernel
theorem dX5_judge_89 : decode cX5_judge 89 = .ok (.ireturn, 1) := by decide +kernel
theorem dX5_judge_90 : decode cX5_judge 90 = .ok (.aload_n 2, 1) := by decide +kernel
theorem dX5_judge_91 : decode cX5_judge 91 = .ok (.getfield 124, 3) := by decide +kernel
theorem dX5_judge_94 : decode cX5_judge 94 = .ok (.ifCond .ne 7, 3) := by decide +kernel
theorem dX5_judge_97 : decode cX5_judge 97 = .ok (.iconst 4, 1) := by decide +kernel
theorem dX5_judge_98 : decode cX5_judge 98 = .ok (.goto 9, 3) := by decide +kernel
theorem dX5_judge_101 : decode cX5_judge 101 = .ok (.aload_n 2, 1) := by decide +kernel
theorem dX5_judge_102 : decode cX5_judge 102 = .ok (.getfield 124, 3) := by decide +kernel
theorem dX5_judge_105 : decode cX5_judge 105 = .ok (.iconst 1, 1) := by decide +kernel
theorem dX5_judge_106 : decode cX5_judge 106 = .ok (.iadd, 1) := by decide +kernel
theorem dX5_judge_107 : decode cX5_judge 107 = .ok (.ireturn, 1) := by decide +kernel
def f_X5_settle_108 (a1 : Nat) (K5 : Int32 → Int32 → St → Option (Int32 × St)) (K19 : Int32 → Int32 → Int32 → Int32 → St → Option (Int32 × St)) (v3 : Int32) (v4 : Int32) (v5 : Int32) (v6 : Int32) (s : St) : Option (Int32 × St) :=
  K19 v3 v4 v5 (v6 + 1) s
set_option maxRecDepth 100000 in
set_option maxHeartbeats 4000000 in
theorem w_X5_settle_108 {r : Int32 × St} {a1 : Nat} {K5 : Int32 → Int32 → St → Option (Int32 × St)} (hK5 : ∀ (v3 : Int32) (v4 : Int32) (s : St), K5 v3 v4 s = some r → Wp m_X5_settle 2 (PR (some (.int r.1)) r.2) 5 [some (.ref 21), some (.ref a1), none, some (.int v3), some (.int v4), none, none, none, none, none] [] s) {K19 : Int32 → Int32 → Int32 → Int32 → St → Option (Int32 × St)} (hK19 : ∀ (v3 : Int32) (v4 : Int32) (v5 : Int32) (v6 : Int32) (s : St), K19 v3 v4 v5 v6 s = some r → Wp m_X5_settle 2 (PR (some (.int r.1)) r.2) 19 [some (.ref 21), some (.ref a1), none, some (.int v3), some (.int v4), some (.int v5), some (.int v6), none, none, none] [] s) {v3 : Int32} {v4 : Int32} {v5 : Int32} {v6 : Int32} (ha1 : clO a1 = 4) {s : St} (h : f_X5_settle_108 a1 K5 K19 v3 v4 v5 v6 s = some r) : Wp m_X5_settle 2 (PR (some (.int r.1)) r.2) 108 [some (.ref 21), some (.ref a1), none, some (.int v3), some (.int v4), some (.int v5), some (.int v6), none, none, none] [] s := by
  unfold f_X5_settle_108 at h
  refine wp_inc (c := 1) (ls' := [some (.ref 21), some (.ref a1), none, some (.int v3), some (.int v4), some (.int v5), some (.int (v6 + 1)), none, none, none]) dX5_settle_108 rfl (by decide +kernel) (by decide) rfl rfl ?_
  refine wp_goto (tgt := 19) dX5_settle_111 (by decide) ?_
  exact wp_sub (ls' := [some (.ref 21), some (.ref a1), none, some (.int v3), some (.int v4), some (.int v5), some (.int (v6 + 1)), none, none, none]) ⟨rfl, rfl, rfl, rfl, rfl, rfl, trivial⟩ (hK19 _ _ _ _ _ h)
def f_X5_settle_105 (a1 : Nat) (K5 : Int32 → Int32 → St → Option (Int32 × St)) (K19 : Int32 → Int32 → Int32 → Int32 → St → Option (Int32 × St)) (v3 : Int32) (v4 : Int32) (v6 : Int32) (t0 : Int32) (t1 : Int32) (s : St) : Option (Int32 × St) :=
  f_X5_settle_108 a1 K5 K19 v3 v4 (t1 ||| t0) v6 s
set_option maxRecDepth 100000 in
set_option maxHeartbeats 4000000 in
theorem w_X5_settle_105 {r : Int32 × St} {a1 : Nat} {K5 : Int32 → Int32 → St → Option (Int32 × St)} (hK5 : ∀ (v3 : Int32) (v4 : Int32) (s : St), K5 v3 v4 s = some r → Wp m_X5_settle 2 (PR (some (.int r.1)) r.2) 5 [some (.ref 21), some (.ref a1), none, some (.int v3), some (.int v4), none, none, none, none, none] [] s) {K19 : Int32 → Int32 → Int32 → Int32 → St → Option (Int32 × St)} (hK19 : ∀ (v3 : Int32) (v4 : Int32) (v5 : Int32) (v6 : Int32) (s : St), K19 v3 v4 v5 v6 s = some r → Wp m_X5_settle 2 (PR (some (.int r.1)) r.2) 19 [some (.ref 21), some (.ref a1), none, some (.int v3), some (.int v4), some (.int v5), some (.int v6), none, none, none] [] s) {v3 : Int32} {v4 : Int32} {v6 : Int32} {t0 : Int32} {t1 : Int32} (ha1 : clO a1 = 4) {s : St} (h : f_X5_settle_105 a1 K5 K19 v3 v4 v6 t0 t1 s = some r) : Wp m_X5_settle 2 (PR (some (.int r.1)) r.2) 105 [some (.ref 21), some (.ref a1), none, some (.int v3), some (.int v4), none, some (.int v6), none, none, none] [.int t0, .int t1] s := by
  unfold f_X5_settle_105 at h
  refine wp_ior dX5_settle_105 ?_
  refine wp_istore (ls' := [some (.ref 21), some (.ref a1), none, some (.int v3), some (.int v4), some (.int (t1 ||| t0)), some (.int v6), none, none, none]) dX5_settle_106 (by decide) rfl rfl ?_
  exact wp_sub (ls' := [some (.ref 21), some (.ref a1), none, some (.int v3), some (.int v4), some (.int (t1 ||| t0)), some (.int v6), none, none, none]) ⟨rfl, rfl, rfl, rfl, rfl, rfl, trivial⟩ (w_X5_settle_108 hK5 hK19 ha1 h)
def f_X5_settle_19 (a1 : Nat) (K5 : Int32 → Int32 → St → Option (Int32 × St)) : Nat → Int32 → Int32 → Int32 → Int32 → St → Option (Int32 × St)
  | 0, _, _, _, _, _ => none
  | n + 1, v3, v4, v5, v6, s =>
    Option.bind (f_X0_lines 3 s) fun r1 =>
    if r1.1 ≤ v6 then (
      if v5 = 0 then (
        Option.bind (f_X0_lines 3 r1.2) fun r4 =>
        some (v4 * r4.1, r4.2))
      else (
        K5 v3 (v4 + 1) r1.2))
    else (
      if (((v3.toUInt32 >>> (v6.toUInt32 &&& Int32.toUInt32 31)).toInt32) &&& (1 : Int32)) = 0 then (
        f_X5_settle_108 a1 K5 (f_X5_settle_19 a1 K5 n) v3 v4 v5 v6 r1.2)
      else (
        Option.bind (aJ r1.2 (rf a1 1) v6) fun x6 =>
        Option.bind (f_X3_keptOf v6 x6 r1.2) fun r7 =>
        if (lg_cmp r7.1 (0 : Int64)) = 0 then (
          some ((-2 : Int32), r7.2))
        else (
          Option.bind (f_X4_narrow a1 v6 r7.1 r7.2) fun r9 =>
          Option.bind (some ((v3 &&& (((1 : Int32) <<< (v6 &&& 31)) ^^^ (-1 : Int32))) ||| r9.1 : Int32)) fun x10 =>
          if r9.1 = 0 then (
            f_X5_settle_105 a1 K5 (f_X5_settle_19 a1 K5 n) x10 v4 v6 (0 : Int32) v5 r9.2)
          else (
            f_X5_settle_105 a1 K5 (f_X5_settle_19 a1 K5 n) x10 v4 v6 (1 : Int32) v5 r9.2))))
set_option maxRecDepth 100000 in
set_option maxHeartbeats 4000000 in
theorem w_X5_settle_19 {r : Int32 × St} {a1 : Nat} {K5 : Int32 → Int32 → St → Option (Int32 × St)} (hK5 : ∀ (v3 : Int32) (v4 : Int32) (s : St), K5 v3 v4 s = some r → Wp m_X5_settle 2 (PR (some (.int r.1)) r.2) 5 [some (.ref 21), some (.ref a1), none, some (.int v3), some (.int v4), none, none, none, none, none] [] s)  (ha1 : clO a1 = 4) : ∀ (n : Nat) (v3 : Int32) (v4 : Int32) (v5 : Int32) (v6 : Int32) (s : St), f_X5_settle_19 a1 K5 n v3 v4 v5 v6 s = some r → Wp m_X5_settle 2 (PR (some (.int r.1)) r.2) 19 [some (.ref 21), some (.ref a1), none, some (.int v3), some (.int v4), some (.int v5), some (.int v6), none, none, none] [] s := by
  intro n
  induction n with
  | zero => intro v3 v4 v5 v6 s h; cases h
  | succ n ih =>
    intro v3 v4 v5 v6 s h
    unfold f_X5_settle_19 at h
    refine wp_iload dX5_settle_19 rfl ?_
    refine wp_aload_n (i := 0) dX5_settle_21 rfl rfl ?_
    refine wp_getR (t := 3) dX5_settle_22 fl_X5_26 rfl rfl ?_
    obtain ⟨r1, er1, h⟩ := ob h
    refine wp_cVi (N := m_X0_lines) (As := []) (rest := [.int v6]) dX5_settle_25 ml_X5_46 mo_X0_lines vo_X0_lines rfl rfl (ok_X0_lines er1) (by decide) (Nat.le_of_ble_eq_true rfl) ?_
    refine wp_icmp_ge (tgt := 114) dX5_settle_28 (by decide) (fun c2 => ?_) (fun c2 => ?_)
    · rw [if_pos c2] at h
      refine wp_iload dX5_settle_114 rfl ?_
      refine wp_if_ne (tgt := 130) dX5_settle_116 (by decide) (fun c3 => ?_) (fun c3 => ?_)
      · rw [if_neg c3] at h
        refine wp_inc (c := 1) (ls' := [some (.ref 21), some (.ref a1), none, some (.int v3), some (.int (v4 + 1)), some (.int v5), some (.int v6), none, none, none]) dX5_settle_130 rfl (by decide +kernel) (by decide) rfl rfl ?_
        refine wp_goto (tgt := 5) dX5_settle_133 (by decide) ?_
        exact wp_sub (ls' := [some (.ref 21), some (.ref a1), none, some (.int v3), some (.int (v4 + 1)), none, none, none, none, none]) ⟨rfl, rfl, rfl, rfl, trivial⟩ (hK5 _ _ _ h)
      · rw [if_pos c3] at h
        refine wp_iload dX5_settle_119 rfl ?_
        refine wp_aload_n (i := 0) dX5_settle_121 rfl rfl ?_
        refine wp_getR (t := 3) dX5_settle_122 fl_X5_26 rfl rfl ?_
        obtain ⟨r4, er4, h⟩ := ob h
        refine wp_cVi (N := m_X0_lines) (As := []) (rest := [.int v4]) dX5_settle_125 ml_X5_46 mo_X0_lines vo_X0_lines rfl rfl (ok_X0_lines er4) (by decide) (Nat.le_of_ble_eq_true rfl) ?_
        refine wp_imul dX5_settle_128 ?_
        obtain rfl := Option.some.inj h
        exact wp_iret dX5_settle_129 rfl rfl
    · rw [if_neg c2] at h
      refine wp_iload_n (i := 3) dX5_settle_31 rfl rfl ?_
      refine wp_iload dX5_settle_32 rfl ?_
      refine wp_iushr dX5_settle_34 ?_
      refine wp_iconst (v := 1) dX5_settle_35 (by decide +kernel) ?_
      refine wp_iand dX5_settle_36 ?_
      refine wp_if_ne (tgt := 43) dX5_settle_37 (by decide) (fun c5 => ?_) (fun c5 => ?_)
      · rw [if_neg c5] at h
        refine wp_aload_n (i := 0) dX5_settle_43 rfl rfl ?_
        refine wp_getR (t := 16) dX5_settle_44 fl_X5_30 rfl rfl ?_
        refine wp_iload dX5_settle_47 rfl ?_
        refine wp_aload_n (i := 1) dX5_settle_49 rfl rfl ?_
        refine wp_getR (t := rf a1 1) dX5_settle_50 fl_X5_52 ha1 (kr_4_1 _ ha1) ?_
        refine wp_iload dX5_settle_53 rfl ?_
        obtain ⟨x6, ex6, h⟩ := ob h
        refine wp_aJ dX5_settle_55 ex6 ?_
        obtain ⟨r7, er7, h⟩ := ob h
        refine wp_cVl (N := m_X3_keptOf) (As := [.int v6, .long x6]) (rest := []) dX5_settle_56 ml_X5_54 mo_X3_keptOf vo_X3_keptOf rfl rfl (ok_X3_keptOf er7) (by decide) (Nat.le_of_ble_eq_true rfl) ?_
        refine wp_lstore (ls' := [some (.ref 21), some (.ref a1), none, some (.int v3), some (.int v4), some (.int v5), some (.int v6), some (.long r7.1), none, none]) dX5_settle_59 (by decide) rfl rfl ?_
        refine wp_lload dX5_settle_61 rfl ?_
        refine wp_lconst (v := 0) dX5_settle_63 (by decide +kernel) ?_
        refine wp_lcmp dX5_settle_64 ?_
        refine wp_if_ne (tgt := 71) dX5_settle_65 (by decide) (fun c8 => ?_) (fun c8 => ?_)
        · rw [if_neg c8] at h
          refine wp_aload_n (i := 1) dX5_settle_71 rfl rfl ?_
          refine wp_iload dX5_settle_72 rfl ?_
          refine wp_lload dX5_settle_74 rfl ?_
          obtain ⟨r9, er9, h⟩ := ob h
          refine wp_cVi (N := m_X4_narrow) (As := [.int v6, .long r7.1]) (rest := []) dX5_settle_76 ml_X5_60 mo_X4_narrow vo_X4_narrow ha1 rfl (ok_X4_narrow er9) (by decide) (Nat.le_of_ble_eq_true rfl) ?_
          refine wp_istore (ls' := [some (.ref 21), some (.ref a1), none, some (.int v3), some (.int v4), some (.int v5), some (.int v6), some (.long r7.1), none, some (.int r9.1)]) dX5_settle_79 (by decide) rfl rfl ?_
          refine wp_iload_n (i := 3) dX5_settle_81 rfl rfl ?_
          refine wp_iconst (v := 1) dX5_settle_82 (by decide +kernel) ?_
          refine wp_iload dX5_settle_83 rfl ?_
          refine wp_ishl dX5_settle_85 ?_
          refine wp_iconst (v := -1) dX5_settle_86 (by decide +kernel) ?_
          refine wp_ixor dX5_settle_87 ?_
          refine wp_iand dX5_settle_88 ?_
          refine wp_iload dX5_settle_89 rfl ?_
          refine wp_ior dX5_settle_91 ?_
          obtain ⟨x10, ex10, h⟩ := ob h
          refine wp_topi (Option.some.inj ex10) ?_
          refine wp_istore_n (ls' := [some (.ref 21), some (.ref a1), none, some (.int x10), some (.int v4), some (.int v5), some (.int v6), some (.long r7.1), none, some (.int r9.1)]) dX5_settle_92 rfl (by decide) rfl rfl ?_
          refine wp_iload dX5_settle_93 rfl ?_
          refine wp_iload dX5_settle_95 rfl ?_
          refine wp_if_eq (tgt := 104) dX5_settle_97 (by decide) (fun c11 => ?_) (fun c11 => ?_)
          · rw [if_pos c11] at h
            refine wp_iconst (v := 0) dX5_settle_104 (by decide +kernel) ?_
            exact wp_sub (ls' := [some (.ref 21), some (.ref a1), none, some (.int x10), some (.int v4), none, some (.int v6), none, none, none]) ⟨rfl, rfl, rfl, rfl, rfl, trivial⟩ (w_X5_settle_105 hK5 ih ha1 h)
          · rw [if_neg c11] at h
            refine wp_iconst (v := 1) dX5_settle_100 (by decide +kernel) ?_
            refine wp_goto (tgt := 105) dX5_settle_101 (by decide) ?_
            exact wp_sub (ls' := [some (.ref 21), some (.ref a1), none, some (.int x10), some (.int v4), none, some (.int v6), none, none, none]) ⟨rfl, rfl, rfl, rfl, rfl, trivial⟩ (w_X5_settle_105 hK5 ih ha1 h)
        · rw [if_pos c8] at h
          refine wp_bipush (v := -2) dX5_settle_68 (by decide +kernel) ?_
          obtain rfl := Option.some.inj h
          exact wp_iret dX5_settle_70 rfl rfl
      · rw [if_pos c5] at h
        refine wp_goto (tgt := 108) dX5_settle_40 (by decide) ?_
        exact wp_sub (ls' := [some (.ref 21), some (.ref a1), none, some (.int v3), some (.int v4), some (.int v5), some (.int v6), none, none, none]) ⟨rfl, rfl, rfl, rfl, rfl, rfl, trivial⟩ (w_X5_settle_108 hK5 ih ha1 h)
def f_X5_settle_5 (a1 : Nat) : Nat → Int32 → Int32 → St → Option (Int32 × St)
  | 0, _, _, _ => none
  | n + 1, v3, v4, s =>
    if (1000 : Int32) < v4 then (
      some ((-2 : Int32), s))
    else (
      f_X5_settle_19 a1 (f_X5_settle_5 a1 n) FU v3 v4 (0 : Int32) (0 : Int32) s)
set_option maxRecDepth 100000 in
set_option maxHeartbeats 4000000 in
theorem w_X5_settle_5 {r : Int32 × St} {a1 : Nat}  (ha1 : clO a1 = 4) : ∀ (n : Nat) (v3 : Int32) (v4 : Int32) (s : St), f_X5_settle_5 a1  n v3 v4 s = some r → Wp m_X5_settle 2 (PR (some (.int r.1)) r.2) 5 [some (.ref 21), some (.ref a1), none, some (.int v3), some (.int v4), none, none, none, none, none] [] s := by
  intro n
  induction n with
  | zero => intro v3 v4 s h; cases h
  | succ n ih =>
    intro v3 v4 s h
    unfold f_X5_settle_5 at h
    refine wp_iload dX5_settle_5 rfl ?_
    refine wp_sipush (v := 1000) dX5_settle_7 (by decide +kernel) ?_
    refine wp_icmp_gt (tgt := 136) dX5_settle_10 (by decide) (fun c1 => ?_) (fun c1 => ?_)
    · rw [if_pos c1] at h
      refine wp_bipush (v := -2) dX5_settle_136 (by decide +kernel) ?_
      obtain rfl := Option.some.inj h
      exact wp_iret dX5_settle_138 rfl rfl
    · rw [if_neg c1] at h
      refine wp_iconst (v := 0) dX5_settle_13 (by decide +kernel) ?_
      refine wp_istore (ls' := [some (.ref 21), some (.ref a1), none, some (.int v3), some (.int v4), some (.int (0 : Int32)), none, none, none, none]) dX5_settle_14 (by decide) rfl rfl ?_
      refine wp_iconst (v := 0) dX5_settle_16 (by decide +kernel) ?_
      refine wp_istore (ls' := [some (.ref 21), some (.ref a1), none, some (.int v3), some (.int v4), some (.int (0 : Int32)), some (.int (0 : Int32)), none, none, none]) dX5_settle_17 (by decide) rfl rfl ?_
      exact wp_sub (ls' := [some (.ref 21), some (.ref a1), none, some (.int v3), some (.int v4), some (.int (0 : Int32)), some (.int (0 : Int32)), none, none, none]) ⟨rfl, rfl, rfl, rfl, rfl, rfl, trivial⟩ (w_X5_settle_19 ih ha1 _ _ _ _ _ _ h)
def f_X5_settle (a1 : Nat) (a2 : Int32) (s : St) : Option (Int32 × St) :=
  if ¬ clO a1 = 4 then none else
  f_X5_settle_5 a1 FU a2 (1 : Int32) s
set_option maxRecDepth 100000 in
set_option maxHeartbeats 4000000 in
theorem ok_X5_settle {a1 : Nat} {a2 : Int32} {s : St} {r : Int32 × St} (h : f_X5_settle a1 a2 s = some r) : Ct 2 m_X5_settle [.ref 21, .ref a1, .int a2] s (some (.int r.1)) r.2 := by
  unfold f_X5_settle at h
  obtain ⟨ha1, h⟩ := ifc h
  refine ct_of [some (.ref 21), some (.ref a1), some (.int a2), none, none, none, none, none, none, none] 7 (by decide) rfl (Nat.le_of_ble_eq_true rfl) ?_
  refine wp_iload_n (i := 2) dX5_settle_0 rfl rfl ?_
  refine wp_istore_n (ls' := [some (.ref 21), some (.ref a1), some (.int a2), some (.int a2), none, none, none, none, none, none]) dX5_settle_1 rfl (by decide) rfl rfl ?_
  refine wp_iconst (v := 1) dX5_settle_2 (by decide +kernel) ?_
  refine wp_istore (ls' := [some (.ref 21), some (.ref a1), some (.int a2), some (.int a2), some (.int (1 : Int32)), none, none, none, none, none]) dX5_settle_3 (by decide) rfl rfl ?_
  exact wp_sub (ls' := [some (.ref 21), some (.ref a1), none, some (.int a2), some (.int (1 : Int32)), none, none, none, none, none]) ⟨rfl, rfl, rfl, rfl, trivial⟩ (w_X5_settle_5 ha1 _ _ _ _ h)
def f_X5_siftCell_122 (a1 : Nat) (K14 : Int32 → Int32 → Int32 → Int32 → Int32 → St → Option (Int32 × St)) (v2 : Int32) (v3 : Int32) (v4 : Int32) (v5 : Int32) (v6 : Int32) (s : St) : Option (Int32 × St) :=
  K14 v2 v3 v4 v5 (v6 + 1) s
set_option maxRecDepth 100000 in
set_option maxHeartbeats 4000000 in
theorem w_X5_siftCell_122 {r : Int32 × St} {a1 : Nat} {K14 : Int32 → Int32 → Int32 → Int32 → Int32 → St → Option (Int32 × St)} (hK14 : ∀ (v2 : Int32) (v3 : Int32) (v4 : Int32) (v5 : Int32) (v6 : Int32) (s : St), K14 v2 v3 v4 v5 v6 s = some r → Wp m_X5_siftCell 3 (PR (some (.int r.1)) r.2) 14 [some (.ref 21), some (.ref a1), some (.int v2), some (.int v3), some (.int v4), some (.int v5), some (.int v6), none] [] s) {v2 : Int32} {v3 : Int32} {v4 : Int32} {v5 : Int32} {v6 : Int32} (ha1 : clO a1 = 4) {s : St} (h : f_X5_siftCell_122 a1 K14 v2 v3 v4 v5 v6 s = some r) : Wp m_X5_siftCell 3 (PR (some (.int r.1)) r.2) 122 [some (.ref 21), some (.ref a1), some (.int v2), some (.int v3), some (.int v4), some (.int v5), some (.int v6), none] [] s := by
  unfold f_X5_siftCell_122 at h
  refine wp_inc (c := 1) (ls' := [some (.ref 21), some (.ref a1), some (.int v2), some (.int v3), some (.int v4), some (.int v5), some (.int (v6 + 1)), none]) dX5_siftCell_122 rfl (by decide +kernel) (by decide) rfl rfl ?_
  refine wp_goto (tgt := 14) dX5_siftCell_125 (by decide) ?_
  exact wp_sub (ls' := [some (.ref 21), some (.ref a1), some (.int v2), some (.int v3), some (.int v4), some (.int v5), some (.int (v6 + 1)), none]) ⟨rfl, rfl, rfl, rfl, rfl, rfl, rfl, trivial⟩ (hK14 _ _ _ _ _ _ h)
def f_X5_siftCell_14 (a1 : Nat) : Nat → Int32 → Int32 → Int32 → Int32 → Int32 → St → Option (Int32 × St)
  | 0, _, _, _, _, _, _ => none
  | n + 1, v2, v3, v4, v5, v6, s =>
    if (s.1 3 5) < v6 then (
      some (v5, s))
    else (
      Option.bind (f_X4_valuesAt a1 v2 v3 s) fun r2 =>
      Option.bind (f_J6_bitCount_0f7a4 r2.1 r2.2) fun r3 =>
      if (2 : Int32) ≤ r3.1 then (
        if (((r2.1.toUInt32 >>> (v6.toUInt32 &&& Int32.toUInt32 31)).toInt32) &&& (1 : Int32)) = 0 then (
          f_X5_siftCell_122 a1 (f_X5_siftCell_14 a1 n) v2 v3 v4 v5 v6 r3.2)
        else (
          Option.bind (f_X4_copy 27 a1 r3.2) fun s6 =>
          Option.bind (f_X4_fix 27 v2 v3 v6 s6) fun s7 =>
          Option.bind (f_X5_settle 27 v4 s7) fun r8 =>
          if r8.1 = (-2 : Int32) then (
            Option.bind (f_X4_drop a1 v2 v3 v6 r8.2) fun s10 =>
            Option.bind (f_X5_settle a1 v4 s10) fun r11 =>
            if r11.1 = (-2 : Int32) then (
              some ((-2 : Int32), r11.2))
            else (
              f_X5_siftCell_122 a1 (f_X5_siftCell_14 a1 n) v2 v3 v4 (v5 + 1) v6 r11.2))
          else (
            f_X5_siftCell_122 a1 (f_X5_siftCell_14 a1 n) v2 v3 v4 v5 v6 r8.2)))
      else (
        some (v5, r3.2)))
set_option maxRecDepth 100000 in
set_option maxHeartbeats 4000000 in
theorem w_X5_siftCell_14 {r : Int32 × St} {a1 : Nat}  (ha1 : clO a1 = 4) : ∀ (n : Nat) (v2 : Int32) (v3 : Int32) (v4 : Int32) (v5 : Int32) (v6 : Int32) (s : St), f_X5_siftCell_14 a1  n v2 v3 v4 v5 v6 s = some r → Wp m_X5_siftCell 3 (PR (some (.int r.1)) r.2) 14 [some (.ref 21), some (.ref a1), some (.int v2), some (.int v3), some (.int v4), some (.int v5), some (.int v6), none] [] s := by
  intro n
  induction n with
  | zero => intro v2 v3 v4 v5 v6 s h; cases h
  | succ n ih =>
    intro v2 v3 v4 v5 v6 s h
    unfold f_X5_siftCell_14 at h
    refine wp_iload dX5_siftCell_14 rfl ?_
    refine wp_aload_n (i := 0) dX5_siftCell_16 rfl rfl ?_
    refine wp_getR (t := 3) dX5_siftCell_17 fl_X5_26 rfl rfl ?_
    refine wp_getI dX5_siftCell_20 fl_X5_78 rfl rfl ?_
    refine wp_icmp_gt (tgt := 128) dX5_siftCell_23 (by decide) (fun c1 => ?_) (fun c1 => ?_)
    · rw [if_pos c1] at h
      refine wp_iload dX5_siftCell_128 rfl ?_
      obtain rfl := Option.some.inj h
      exact wp_iret dX5_siftCell_130 rfl rfl
    · rw [if_neg c1] at h
      refine wp_aload_n (i := 1) dX5_siftCell_26 rfl rfl ?_
      refine wp_iload_n (i := 2) dX5_siftCell_27 rfl rfl ?_
      refine wp_iload_n (i := 3) dX5_siftCell_28 rfl rfl ?_
      obtain ⟨r2, er2, h⟩ := ob h
      refine wp_cVi (N := m_X4_valuesAt) (As := [.int v2, .int v3]) (rest := []) dX5_siftCell_29 ml_X5_81 mo_X4_valuesAt vo_X4_valuesAt ha1 rfl (ok_X4_valuesAt er2) (by decide) (Nat.le_of_ble_eq_true rfl) ?_
      refine wp_istore (ls' := [some (.ref 21), some (.ref a1), some (.int v2), some (.int v3), some (.int v4), some (.int v5), some (.int v6), some (.int r2.1)]) dX5_siftCell_32 (by decide) rfl rfl ?_
      refine wp_iload dX5_siftCell_34 rfl ?_
      obtain ⟨r3, er3, h⟩ := ob h
      refine wp_cSi (N := m_J6_bitCount_0f7a4) (As := [.int r2.1]) (rest := []) dX5_siftCell_36 ml_X5_84 mo_J6_bitCount_0f7a4 vo_J6_bitCount_0f7a4 rfl (ok_J6_bitCount_0f7a4 er3) (by decide) (Nat.le_of_ble_eq_true rfl) ?_
      refine wp_iconst (v := 2) dX5_siftCell_39 (by decide +kernel) ?_
      refine wp_icmp_ge (tgt := 46) dX5_siftCell_40 (by decide) (fun c4 => ?_) (fun c4 => ?_)
      · rw [if_pos c4] at h
        refine wp_iload dX5_siftCell_46 rfl ?_
        refine wp_iload dX5_siftCell_48 rfl ?_
        refine wp_iushr dX5_siftCell_50 ?_
        refine wp_iconst (v := 1) dX5_siftCell_51 (by decide +kernel) ?_
        refine wp_iand dX5_siftCell_52 ?_
        refine wp_if_ne (tgt := 59) dX5_siftCell_53 (by decide) (fun c5 => ?_) (fun c5 => ?_)
        · rw [if_neg c5] at h
          refine wp_aload_n (i := 0) dX5_siftCell_59 rfl rfl ?_
          refine wp_getR (t := 27) dX5_siftCell_60 fl_X5_43 rfl rfl ?_
          refine wp_aload_n (i := 1) dX5_siftCell_63 rfl rfl ?_
          obtain ⟨s6, es6, h⟩ := ob h
          refine wp_cVv (N := m_X4_copy) (As := [.ref a1]) (rest := []) dX5_siftCell_64 ml_X5_90 mo_X4_copy vo_X4_copy rfl rfl (ok_X4_copy es6) (by decide) (Nat.le_of_ble_eq_true rfl) ?_
          refine wp_aload_n (i := 0) dX5_siftCell_67 rfl rfl ?_
          refine wp_getR (t := 27) dX5_siftCell_68 fl_X5_43 rfl rfl ?_
          refine wp_iload_n (i := 2) dX5_siftCell_71 rfl rfl ?_
          refine wp_iload_n (i := 3) dX5_siftCell_72 rfl rfl ?_
          refine wp_iload dX5_siftCell_73 rfl ?_
          obtain ⟨s7, es7, h⟩ := ob h
          refine wp_cVv (N := m_X4_fix) (As := [.int v2, .int v3, .int v6]) (rest := []) dX5_siftCell_75 ml_X5_94 mo_X4_fix vo_X4_fix rfl rfl (ok_X4_fix es7) (by decide) (Nat.le_of_ble_eq_true rfl) ?_
          refine wp_aload_n (i := 0) dX5_siftCell_78 rfl rfl ?_
          refine wp_aload_n (i := 0) dX5_siftCell_79 rfl rfl ?_
          refine wp_getR (t := 27) dX5_siftCell_80 fl_X5_43 rfl rfl ?_
          refine wp_iload dX5_siftCell_83 rfl ?_
          obtain ⟨r8, er8, h⟩ := ob h
          refine wp_cVi (N := m_X5_settle) (As := [.ref 27, .int v4]) (rest := []) dX5_siftCell_85 ml_X5_98 mo_X5_settle vo_X5_settle rfl rfl (ok_X5_settle er8) (by decide) (Nat.le_of_ble_eq_true rfl) ?_
          refine wp_bipush (v := -2) dX5_siftCell_88 (by decide +kernel) ?_
          refine wp_icmp_eq (tgt := 96) dX5_siftCell_90 (by decide) (fun c9 => ?_) (fun c9 => ?_)
          · rw [if_pos c9] at h
            refine wp_aload_n (i := 1) dX5_siftCell_96 rfl rfl ?_
            refine wp_iload_n (i := 2) dX5_siftCell_97 rfl rfl ?_
            refine wp_iload_n (i := 3) dX5_siftCell_98 rfl rfl ?_
            refine wp_iload dX5_siftCell_99 rfl ?_
            obtain ⟨s10, es10, h⟩ := ob h
            refine wp_cVv (N := m_X4_drop) (As := [.int v2, .int v3, .int v6]) (rest := []) dX5_siftCell_101 ml_X5_102 mo_X4_drop vo_X4_drop ha1 rfl (ok_X4_drop es10) (by decide) (Nat.le_of_ble_eq_true rfl) ?_
            refine wp_inc (c := 1) (ls' := [some (.ref 21), some (.ref a1), some (.int v2), some (.int v3), some (.int v4), some (.int (v5 + 1)), some (.int v6), some (.int r2.1)]) dX5_siftCell_104 rfl (by decide +kernel) (by decide) rfl rfl ?_
            refine wp_aload_n (i := 0) dX5_siftCell_107 rfl rfl ?_
            refine wp_aload_n (i := 1) dX5_siftCell_108 rfl rfl ?_
            refine wp_iload dX5_siftCell_109 rfl ?_
            obtain ⟨r11, er11, h⟩ := ob h
            refine wp_cVi (N := m_X5_settle) (As := [.ref a1, .int v4]) (rest := []) dX5_siftCell_111 ml_X5_98 mo_X5_settle vo_X5_settle rfl rfl (ok_X5_settle er11) (by decide) (Nat.le_of_ble_eq_true rfl) ?_
            refine wp_bipush (v := -2) dX5_siftCell_114 (by decide +kernel) ?_
            refine wp_icmp_ne (tgt := 122) dX5_siftCell_116 (by decide) (fun c12 => ?_) (fun c12 => ?_)
            · rw [if_neg c12] at h
              exact wp_sub (ls' := [some (.ref 21), some (.ref a1), some (.int v2), some (.int v3), some (.int v4), some (.int (v5 + 1)), some (.int v6), none]) ⟨rfl, rfl, rfl, rfl, rfl, rfl, rfl, trivial⟩ (w_X5_siftCell_122 ih ha1 h)
            · rw [if_pos c12] at h
              refine wp_bipush (v := -2) dX5_siftCell_119 (by decide +kernel) ?_
              obtain rfl := Option.some.inj h
              exact wp_iret dX5_siftCell_121 rfl rfl
          · rw [if_neg c9] at h
            refine wp_goto (tgt := 122) dX5_siftCell_93 (by decide) ?_
            exact wp_sub (ls' := [some (.ref 21), some (.ref a1), some (.int v2), some (.int v3), some (.int v4), some (.int v5), some (.int v6), none]) ⟨rfl, rfl, rfl, rfl, rfl, rfl, rfl, trivial⟩ (w_X5_siftCell_122 ih ha1 h)
        · rw [if_pos c5] at h
          refine wp_goto (tgt := 122) dX5_siftCell_56 (by decide) ?_
          exact wp_sub (ls' := [some (.ref 21), some (.ref a1), some (.int v2), some (.int v3), some (.int v4), some (.int v5), some (.int v6), none]) ⟨rfl, rfl, rfl, rfl, rfl, rfl, rfl, trivial⟩ (w_X5_siftCell_122 ih ha1 h)
      · rw [if_neg c4] at h
        refine wp_iload dX5_siftCell_43 rfl ?_
        obtain rfl := Option.some.inj h
        exact wp_iret dX5_siftCell_45 rfl rfl
def f_X5_siftCell (a1 : Nat) (a2 : Int32) (a3 : Int32) (s : St) : Option (Int32 × St) :=
  if ¬ clO a1 = 4 then none else
  Option.bind (f_X4_linesThrough a1 a2 a3 s) fun r1 =>
  f_X5_siftCell_14 a1 FU a2 a3 r1.1 (0 : Int32) (0 : Int32) r1.2
set_option maxRecDepth 100000 in
set_option maxHeartbeats 4000000 in
theorem ok_X5_siftCell {a1 : Nat} {a2 : Int32} {a3 : Int32} {s : St} {r : Int32 × St} (h : f_X5_siftCell a1 a2 a3 s = some r) : Ct 3 m_X5_siftCell [.ref 21, .ref a1, .int a2, .int a3] s (some (.int r.1)) r.2 := by
  unfold f_X5_siftCell at h
  obtain ⟨ha1, h⟩ := ifc h
  refine ct_of [some (.ref 21), some (.ref a1), some (.int a2), some (.int a3), none, none, none, none] 4 (by decide) rfl (Nat.le_of_ble_eq_true rfl) ?_
  refine wp_aload_n (i := 1) dX5_siftCell_0 rfl rfl ?_
  refine wp_iload_n (i := 2) dX5_siftCell_1 rfl rfl ?_
  refine wp_iload_n (i := 3) dX5_siftCell_2 rfl rfl ?_
  obtain ⟨r1, er1, h⟩ := ob h
  refine wp_cVi (N := m_X4_linesThrough) (As := [.int a2, .int a3]) (rest := []) dX5_siftCell_3 ml_X5_74 mo_X4_linesThrough vo_X4_linesThrough ha1 rfl (ok_X4_linesThrough er1) (by decide) (Nat.le_of_ble_eq_true rfl) ?_
  refine wp_istore (ls' := [some (.ref 21), some (.ref a1), some (.int a2), some (.int a3), some (.int r1.1), none, none, none]) dX5_siftCell_6 (by decide) rfl rfl ?_
  refine wp_iconst (v := 0) dX5_siftCell_8 (by decide +kernel) ?_
  refine wp_istore (ls' := [some (.ref 21), some (.ref a1), some (.int a2), some (.int a3), some (.int r1.1), some (.int (0 : Int32)), none, none]) dX5_siftCell_9 (by decide) rfl rfl ?_
  refine wp_iconst (v := 0) dX5_siftCell_11 (by decide +kernel) ?_
  refine wp_istore (ls' := [some (.ref 21), some (.ref a1), some (.int a2), some (.int a3), some (.int r1.1), some (.int (0 : Int32)), some (.int (0 : Int32)), none]) dX5_siftCell_12 (by decide) rfl rfl ?_
  exact wp_sub (ls' := [some (.ref 21), some (.ref a1), some (.int a2), some (.int a3), some (.int r1.1), some (.int (0 : Int32)), some (.int (0 : Int32)), none]) ⟨rfl, rfl, rfl, rfl, rfl, rfl, rfl, trivial⟩ (w_X5_siftCell_14 ha1 _ _ _ _ _ _ _ h)
def f_X5_sift_32 (a1 : Nat) (K4 : Int32 → Int32 → St → Option (Int32 × St)) (K17 : Int32 → Int32 → Int32 → Int32 → St → Option (Int32 × St)) : Nat → Int32 → Int32 → Int32 → Int32 → Int32 → St → Option (Int32 × St)
  | 0, _, _, _, _, _, _ => none
  | n + 1, v2, v3, v4, v5, v6, s =>
    if (s.1 3 3) ≤ v6 then (
      K17 v2 v3 v4 (v5 + 1) s)
    else (
      Option.bind (f_X5_siftCell a1 v6 v5 s) fun r2 =>
      if r2.1 = (-2 : Int32) then (
        some ((-2 : Int32), r2.2))
      else (
        f_X5_sift_32 a1 K4 K17 n (v2 + r2.1) v3 v4 v5 (v6 + 1) r2.2))
set_option maxRecDepth 100000 in
set_option maxHeartbeats 4000000 in
theorem w_X5_sift_32 {r : Int32 × St} {a1 : Nat} {K4 : Int32 → Int32 → St → Option (Int32 × St)} (hK4 : ∀ (v2 : Int32) (v3 : Int32) (s : St), K4 v2 v3 s = some r → Wp m_X5_sift 4 (PR (some (.int r.1)) r.2) 4 [some (.ref 21), some (.ref a1), some (.int v2), some (.int v3), none, none, none, none] [] s) {K17 : Int32 → Int32 → Int32 → Int32 → St → Option (Int32 × St)} (hK17 : ∀ (v2 : Int32) (v3 : Int32) (v4 : Int32) (v5 : Int32) (s : St), K17 v2 v3 v4 v5 s = some r → Wp m_X5_sift 4 (PR (some (.int r.1)) r.2) 17 [some (.ref 21), some (.ref a1), some (.int v2), some (.int v3), some (.int v4), some (.int v5), none, none] [] s)  (ha1 : clO a1 = 4) : ∀ (n : Nat) (v2 : Int32) (v3 : Int32) (v4 : Int32) (v5 : Int32) (v6 : Int32) (s : St), f_X5_sift_32 a1 K4 K17 n v2 v3 v4 v5 v6 s = some r → Wp m_X5_sift 4 (PR (some (.int r.1)) r.2) 32 [some (.ref 21), some (.ref a1), some (.int v2), some (.int v3), some (.int v4), some (.int v5), some (.int v6), none] [] s := by
  intro n
  induction n with
  | zero => intro v2 v3 v4 v5 v6 s h; cases h
  | succ n ih =>
    intro v2 v3 v4 v5 v6 s h
    unfold f_X5_sift_32 at h
    refine wp_iload dX5_sift_32 rfl ?_
    refine wp_aload_n (i := 0) dX5_sift_34 rfl rfl ?_
    refine wp_getR (t := 3) dX5_sift_35 fl_X5_26 rfl rfl ?_
    refine wp_getI dX5_sift_38 fl_X5_67 rfl rfl ?_
    refine wp_icmp_ge (tgt := 76) dX5_sift_41 (by decide) (fun c1 => ?_) (fun c1 => ?_)
    · rw [if_pos c1] at h
      refine wp_inc (c := 1) (ls' := [some (.ref 21), some (.ref a1), some (.int v2), some (.int v3), some (.int v4), some (.int (v5 + 1)), some (.int v6), none]) dX5_sift_76 rfl (by decide +kernel) (by decide) rfl rfl ?_
      refine wp_goto (tgt := 17) dX5_sift_79 (by decide) ?_
      exact wp_sub (ls' := [some (.ref 21), some (.ref a1), some (.int v2), some (.int v3), some (.int v4), some (.int (v5 + 1)), none, none]) ⟨rfl, rfl, rfl, rfl, rfl, rfl, trivial⟩ (hK17 _ _ _ _ _ h)
    · rw [if_neg c1] at h
      refine wp_aload_n (i := 0) dX5_sift_44 rfl rfl ?_
      refine wp_aload_n (i := 1) dX5_sift_45 rfl rfl ?_
      refine wp_iload dX5_sift_46 rfl ?_
      refine wp_iload dX5_sift_48 rfl ?_
      obtain ⟨r2, er2, h⟩ := ob h
      refine wp_cVi (N := m_X5_siftCell) (As := [.ref a1, .int v6, .int v5]) (rest := []) dX5_sift_50 ml_X5_70 mo_X5_siftCell vo_X5_siftCell rfl rfl (ok_X5_siftCell er2) (by decide) (Nat.le_of_ble_eq_true rfl) ?_
      refine wp_istore (ls' := [some (.ref 21), some (.ref a1), some (.int v2), some (.int v3), some (.int v4), some (.int v5), some (.int v6), some (.int r2.1)]) dX5_sift_53 (by decide) rfl rfl ?_
      refine wp_iload dX5_sift_55 rfl ?_
      refine wp_bipush (v := -2) dX5_sift_57 (by decide +kernel) ?_
      refine wp_icmp_ne (tgt := 65) dX5_sift_59 (by decide) (fun c3 => ?_) (fun c3 => ?_)
      · rw [if_neg c3] at h
        refine wp_iload_n (i := 2) dX5_sift_65 rfl rfl ?_
        refine wp_iload dX5_sift_66 rfl ?_
        refine wp_iadd dX5_sift_68 ?_
        refine wp_istore_n (ls' := [some (.ref 21), some (.ref a1), some (.int (v2 + r2.1)), some (.int v3), some (.int v4), some (.int v5), some (.int v6), some (.int r2.1)]) dX5_sift_69 rfl (by decide) rfl rfl ?_
        refine wp_inc (c := 1) (ls' := [some (.ref 21), some (.ref a1), some (.int (v2 + r2.1)), some (.int v3), some (.int v4), some (.int v5), some (.int (v6 + 1)), some (.int r2.1)]) dX5_sift_70 rfl (by decide +kernel) (by decide) rfl rfl ?_
        refine wp_goto (tgt := 32) dX5_sift_73 (by decide) ?_
        exact wp_sub (ls' := [some (.ref 21), some (.ref a1), some (.int (v2 + r2.1)), some (.int v3), some (.int v4), some (.int v5), some (.int (v6 + 1)), none]) ⟨rfl, rfl, rfl, rfl, rfl, rfl, rfl, trivial⟩ (ih _ _ _ _ _ _ h)
      · rw [if_pos c3] at h
        refine wp_bipush (v := -2) dX5_sift_62 (by decide +kernel) ?_
        obtain rfl := Option.some.inj h
        exact wp_iret dX5_sift_64 rfl rfl
def f_X5_sift_17 (a1 : Nat) (K4 : Int32 → Int32 → St → Option (Int32 × St)) : Nat → Int32 → Int32 → Int32 → Int32 → St → Option (Int32 × St)
  | 0, _, _, _, _, _ => none
  | n + 1, v2, v3, v4, v5, s =>
    if (s.1 3 4) ≤ v5 then (
      if v2 = v4 then (
        some (v2, s))
      else (
        K4 v2 (v3 + 1) s))
    else (
      f_X5_sift_32 a1 K4 (f_X5_sift_17 a1 K4 n) FU v2 v3 v4 v5 (0 : Int32) s)
set_option maxRecDepth 100000 in
set_option maxHeartbeats 4000000 in
theorem w_X5_sift_17 {r : Int32 × St} {a1 : Nat} {K4 : Int32 → Int32 → St → Option (Int32 × St)} (hK4 : ∀ (v2 : Int32) (v3 : Int32) (s : St), K4 v2 v3 s = some r → Wp m_X5_sift 4 (PR (some (.int r.1)) r.2) 4 [some (.ref 21), some (.ref a1), some (.int v2), some (.int v3), none, none, none, none] [] s)  (ha1 : clO a1 = 4) : ∀ (n : Nat) (v2 : Int32) (v3 : Int32) (v4 : Int32) (v5 : Int32) (s : St), f_X5_sift_17 a1 K4 n v2 v3 v4 v5 s = some r → Wp m_X5_sift 4 (PR (some (.int r.1)) r.2) 17 [some (.ref 21), some (.ref a1), some (.int v2), some (.int v3), some (.int v4), some (.int v5), none, none] [] s := by
  intro n
  induction n with
  | zero => intro v2 v3 v4 v5 s h; cases h
  | succ n ih =>
    intro v2 v3 v4 v5 s h
    unfold f_X5_sift_17 at h
    refine wp_iload dX5_sift_17 rfl ?_
    refine wp_aload_n (i := 0) dX5_sift_19 rfl rfl ?_
    refine wp_getR (t := 3) dX5_sift_20 fl_X5_26 rfl rfl ?_
    refine wp_getI dX5_sift_23 fl_X5_64 rfl rfl ?_
    refine wp_icmp_ge (tgt := 82) dX5_sift_26 (by decide) (fun c1 => ?_) (fun c1 => ?_)
    · rw [if_pos c1] at h
      refine wp_iload_n (i := 2) dX5_sift_82 rfl rfl ?_
      refine wp_iload dX5_sift_83 rfl ?_
      refine wp_icmp_ne (tgt := 90) dX5_sift_85 (by decide) (fun c2 => ?_) (fun c2 => ?_)
      · rw [if_neg c2] at h
        refine wp_inc (c := 1) (ls' := [some (.ref 21), some (.ref a1), some (.int v2), some (.int (v3 + 1)), some (.int v4), some (.int v5), none, none]) dX5_sift_90 rfl (by decide +kernel) (by decide) rfl rfl ?_
        refine wp_goto (tgt := 4) dX5_sift_93 (by decide) ?_
        exact wp_sub (ls' := [some (.ref 21), some (.ref a1), some (.int v2), some (.int (v3 + 1)), none, none, none, none]) ⟨rfl, rfl, rfl, rfl, trivial⟩ (hK4 _ _ _ h)
      · rw [if_pos c2] at h
        refine wp_iload_n (i := 2) dX5_sift_88 rfl rfl ?_
        obtain rfl := Option.some.inj h
        exact wp_iret dX5_sift_89 rfl rfl
    · rw [if_neg c1] at h
      refine wp_iconst (v := 0) dX5_sift_29 (by decide +kernel) ?_
      refine wp_istore (ls' := [some (.ref 21), some (.ref a1), some (.int v2), some (.int v3), some (.int v4), some (.int v5), some (.int (0 : Int32)), none]) dX5_sift_30 (by decide) rfl rfl ?_
      exact wp_sub (ls' := [some (.ref 21), some (.ref a1), some (.int v2), some (.int v3), some (.int v4), some (.int v5), some (.int (0 : Int32)), none]) ⟨rfl, rfl, rfl, rfl, rfl, rfl, rfl, trivial⟩ (w_X5_sift_32 hK4 ih ha1 _ _ _ _ _ _ _ h)
def f_X5_sift_4 (a1 : Nat) : Nat → Int32 → Int32 → St → Option (Int32 × St)
  | 0, _, _, _ => none
  | n + 1, v2, v3, s =>
    if (1000 : Int32) ≤ v3 then (
      some (v2, s))
    else (
      f_X5_sift_17 a1 (f_X5_sift_4 a1 n) FU v2 v3 v2 (0 : Int32) s)
set_option maxRecDepth 100000 in
set_option maxHeartbeats 4000000 in
theorem w_X5_sift_4 {r : Int32 × St} {a1 : Nat}  (ha1 : clO a1 = 4) : ∀ (n : Nat) (v2 : Int32) (v3 : Int32) (s : St), f_X5_sift_4 a1  n v2 v3 s = some r → Wp m_X5_sift 4 (PR (some (.int r.1)) r.2) 4 [some (.ref 21), some (.ref a1), some (.int v2), some (.int v3), none, none, none, none] [] s := by
  intro n
  induction n with
  | zero => intro v2 v3 s h; cases h
  | succ n ih =>
    intro v2 v3 s h
    unfold f_X5_sift_4 at h
    refine wp_iload_n (i := 3) dX5_sift_4 rfl rfl ?_
    refine wp_sipush (v := 1000) dX5_sift_5 (by decide +kernel) ?_
    refine wp_icmp_ge (tgt := 96) dX5_sift_8 (by decide) (fun c1 => ?_) (fun c1 => ?_)
    · rw [if_pos c1] at h
      refine wp_iload_n (i := 2) dX5_sift_96 rfl rfl ?_
      obtain rfl := Option.some.inj h
      exact wp_iret dX5_sift_97 rfl rfl
    · rw [if_neg c1] at h
      refine wp_iload_n (i := 2) dX5_sift_11 rfl rfl ?_
      refine wp_istore (ls' := [some (.ref 21), some (.ref a1), some (.int v2), some (.int v3), some (.int v2), none, none, none]) dX5_sift_12 (by decide) rfl rfl ?_
      refine wp_iconst (v := 0) dX5_sift_14 (by decide +kernel) ?_
      refine wp_istore (ls' := [some (.ref 21), some (.ref a1), some (.int v2), some (.int v3), some (.int v2), some (.int (0 : Int32)), none, none]) dX5_sift_15 (by decide) rfl rfl ?_
      exact wp_sub (ls' := [some (.ref 21), some (.ref a1), some (.int v2), some (.int v3), some (.int v2), some (.int (0 : Int32)), none, none]) ⟨rfl, rfl, rfl, rfl, rfl, rfl, trivial⟩ (w_X5_sift_17 ih ha1 _ _ _ _ _ _ h)
def f_X5_sift (a1 : Nat) (s : St) : Option (Int32 × St) :=
  if ¬ clO a1 = 4 then none else
  f_X5_sift_4 a1 FU (0 : Int32) (0 : Int32) s
set_option maxRecDepth 100000 in
set_option maxHeartbeats 4000000 in
theorem ok_X5_sift {a1 : Nat} {s : St} {r : Int32 × St} (h : f_X5_sift a1 s = some r) : Ct 4 m_X5_sift [.ref 21, .ref a1] s (some (.int r.1)) r.2 := by
  unfold f_X5_sift at h
  obtain ⟨ha1, h⟩ := ifc h
  refine ct_of [some (.ref 21), some (.ref a1), none, none, none, none, none, none] 6 (by decide) rfl (Nat.le_of_ble_eq_true rfl) ?_
  refine wp_iconst (v := 0) dX5_sift_0 (by decide +kernel) ?_
  refine wp_istore_n (ls' := [some (.ref 21), some (.ref a1), some (.int (0 : Int32)), none, none, none, none, none]) dX5_sift_1 rfl (by decide) rfl rfl ?_
  refine wp_iconst (v := 0) dX5_sift_2 (by decide +kernel) ?_
  refine wp_istore_n (ls' := [some (.ref 21), some (.ref a1), some (.int (0 : Int32)), some (.int (0 : Int32)), none, none, none, none]) dX5_sift_3 rfl (by decide) rfl rfl ?_
  exact wp_sub (ls' := [some (.ref 21), some (.ref a1), some (.int (0 : Int32)), some (.int (0 : Int32)), none, none, none, none]) ⟨rfl, rfl, rfl, rfl, trivial⟩ (w_X5_sift_4 ha1 _ _ _ _ h)
def f_X5_closeEmptyChoices_0 : Nat → St → Option (St)
  | 0, _ => none
  | n + 1, s =>
    if (s.1 21 7) ≤ 0 then (
      some s)
    else (
      Option.bind (aI s 24 ((s.1 21 7) - (1 : Int32))) fun x2 =>
      if x2 = 0 then (
        Option.bind (some (sF s 21 7 ((s.1 21 7) - (1 : Int32)))) fun s4 =>
        f_X5_closeEmptyChoices_0 n s4)
      else (
        some s))
set_option maxRecDepth 100000 in
set_option maxHeartbeats 4000000 in
theorem w_X5_closeEmptyChoices_0 {r : St}   : ∀ (n : Nat)  (s : St), f_X5_closeEmptyChoices_0  n s = some r → Wp m_X5_closeEmptyChoices 0 (PR none r) 0 [some (.ref 21)] [] s := by
  intro n
  induction n with
  | zero => intro  s h; cases h
  | succ n ih =>
    intro  s h
    unfold f_X5_closeEmptyChoices_0 at h
    refine wp_aload_n (i := 0) dX5_closeEmptyChoices_0 rfl rfl ?_
    refine wp_getI dX5_closeEmptyChoices_1 fl_X5_22 rfl rfl ?_
    refine wp_if_le (tgt := 34) dX5_closeEmptyChoices_4 (by decide) (fun c1 => ?_) (fun c1 => ?_)
    · rw [if_pos c1] at h
      obtain rfl := Option.some.inj h
      exact wp_vret dX5_closeEmptyChoices_34 rfl
    · rw [if_neg c1] at h
      refine wp_aload_n (i := 0) dX5_closeEmptyChoices_7 rfl rfl ?_
      refine wp_getR (t := 24) dX5_closeEmptyChoices_8 fl_X5_19 rfl rfl ?_
      refine wp_aload_n (i := 0) dX5_closeEmptyChoices_11 rfl rfl ?_
      refine wp_getI dX5_closeEmptyChoices_12 fl_X5_22 rfl rfl ?_
      refine wp_iconst (v := 1) dX5_closeEmptyChoices_15 (by decide +kernel) ?_
      refine wp_isub dX5_closeEmptyChoices_16 ?_
      obtain ⟨x2, ex2, h⟩ := ob h
      refine wp_aI dX5_closeEmptyChoices_17 ex2 ?_
      refine wp_if_ne (tgt := 34) dX5_closeEmptyChoices_18 (by decide) (fun c3 => ?_) (fun c3 => ?_)
      · rw [if_neg c3] at h
        obtain rfl := Option.some.inj h
        exact wp_vret dX5_closeEmptyChoices_34 rfl
      · rw [if_pos c3] at h
        refine wp_aload_n (i := 0) dX5_closeEmptyChoices_21 rfl rfl ?_
        refine wp_dup_r dX5_closeEmptyChoices_22 ?_
        refine wp_getI dX5_closeEmptyChoices_23 fl_X5_22 rfl rfl ?_
        refine wp_iconst (v := 1) dX5_closeEmptyChoices_26 (by decide +kernel) ?_
        refine wp_isub dX5_closeEmptyChoices_27 ?_
        obtain ⟨s4, es4, h⟩ := ob h
        refine wp_putI2 dX5_closeEmptyChoices_28 fl_X5_22 rfl rfl rfl rfl es4 ?_
        refine wp_goto (tgt := 0) dX5_closeEmptyChoices_31 (by decide) ?_
        exact wp_sub (ls' := [some (.ref 21)]) ⟨rfl, trivial⟩ (ih _ h)
def f_X5_closeEmptyChoices  (s : St) : Option (St) :=
  f_X5_closeEmptyChoices_0 FU s
set_option maxRecDepth 100000 in
set_option maxHeartbeats 4000000 in
theorem ok_X5_closeEmptyChoices  {s : St} {r : St} (h : f_X5_closeEmptyChoices  s = some r) : Ct 0 m_X5_closeEmptyChoices [.ref 21] s none r := by
  unfold f_X5_closeEmptyChoices at h
  refine ct_of [some (.ref 21)] 0 (by decide) rfl (Nat.le_of_ble_eq_true rfl) ?_
  exact wp_sub (ls' := [some (.ref 21)]) ⟨rfl, trivial⟩ (w_X5_closeEmptyChoices_0 _ _ h)
def f_X5_followsChoice  (s : St) : Option (Int32 × St) :=
  if 0 ≤ ((s.1 21 7) - (1 : Int32)) then (
    Option.bind (aI s 24 ((s.1 21 7) - (1 : Int32))) fun x2 =>
    Option.bind (f_X4_leastOf x2 s) fun r3 =>
    Option.bind (aI r3.2 24 ((s.1 21 7) - (1 : Int32))) fun x4 =>
    Option.bind (pI r3.2 24 ((s.1 21 7) - (1 : Int32)) (x4 &&& (((1 : Int32) <<< (r3.1 &&& 31)) ^^^ (-1 : Int32)))) fun s5 =>
    Option.bind (aI s5 23 ((s.1 21 7) - (1 : Int32))) fun x6 =>
    Option.bind (aI s5 23 ((s.1 21 7) - (1 : Int32))) fun x7 =>
    Option.bind (f_X4_restoreFrom 25 22 ((s.1 21 7) - (1 : Int32)) s5) fun s8 =>
    Option.bind (f_X4_fix 25 (x6 - x6 / (12 : Int32) * (12 : Int32)) (x7 / (12 : Int32)) r3.1 s8) fun s9 =>
    Option.bind (f_X4_linesThrough 25 (x6 - x6 / (12 : Int32) * (12 : Int32)) (x7 / (12 : Int32)) s9) fun r10 =>
    Option.bind (f_X5_settle 25 r10.1 r10.2) fun r11 =>
    if r11.1 = (-2 : Int32) then (
      some ((0 : Int32), r11.2))
    else (
      some ((1 : Int32), r11.2)))
  else (
    some ((0 : Int32), s))
set_option maxRecDepth 100000 in
set_option maxHeartbeats 4000000 in
theorem ok_X5_followsChoice  {s : St} {r : Int32 × St} (h : f_X5_followsChoice  s = some r) : Ct 3 m_X5_followsChoice [.ref 21] s (some (.int r.1)) r.2 := by
  unfold f_X5_followsChoice at h
  refine ct_of [some (.ref 21), none, none, none, none] 4 (by decide) rfl (Nat.le_of_ble_eq_true rfl) ?_
  refine wp_aload_n (i := 0) dX5_followsChoice_0 rfl rfl ?_
  refine wp_getI dX5_followsChoice_1 fl_X5_22 rfl rfl ?_
  refine wp_iconst (v := 1) dX5_followsChoice_4 (by decide +kernel) ?_
  refine wp_isub dX5_followsChoice_5 ?_
  refine wp_istore_n (ls' := [some (.ref 21), some (.int ((s.1 21 7) - (1 : Int32))), none, none, none]) dX5_followsChoice_6 rfl (by decide) rfl rfl ?_
  refine wp_iload_n (i := 1) dX5_followsChoice_7 rfl rfl ?_
  refine wp_if_ge (tgt := 13) dX5_followsChoice_8 (by decide) (fun c1 => ?_) (fun c1 => ?_)
  · rw [if_pos c1] at h
    refine wp_aload_n (i := 0) dX5_followsChoice_13 rfl rfl ?_
    refine wp_getR (t := 24) dX5_followsChoice_14 fl_X5_19 rfl rfl ?_
    refine wp_iload_n (i := 1) dX5_followsChoice_17 rfl rfl ?_
    obtain ⟨x2, ex2, h⟩ := ob h
    refine wp_aI dX5_followsChoice_18 ex2 ?_
    obtain ⟨r3, er3, h⟩ := ob h
    refine wp_cSi (N := m_X4_leastOf) (As := [.int x2]) (rest := []) dX5_followsChoice_19 ml_X5_147 mo_X4_leastOf vo_X4_leastOf rfl (ok_X4_leastOf er3) (by decide) (Nat.le_of_ble_eq_true rfl) ?_
    refine wp_istore_n (ls' := [some (.ref 21), some (.int ((s.1 21 7) - (1 : Int32))), some (.int r3.1), none, none]) dX5_followsChoice_22 rfl (by decide) rfl rfl ?_
    refine wp_aload_n (i := 0) dX5_followsChoice_23 rfl rfl ?_
    refine wp_getR (t := 24) dX5_followsChoice_24 fl_X5_19 rfl rfl ?_
    refine wp_iload_n (i := 1) dX5_followsChoice_27 rfl rfl ?_
    refine wp_dup2_ir dX5_followsChoice_28 ?_
    obtain ⟨x4, ex4, h⟩ := ob h
    refine wp_aI dX5_followsChoice_29 ex4 ?_
    refine wp_iconst (v := 1) dX5_followsChoice_30 (by decide +kernel) ?_
    refine wp_iload_n (i := 2) dX5_followsChoice_31 rfl rfl ?_
    refine wp_ishl dX5_followsChoice_32 ?_
    refine wp_iconst (v := -1) dX5_followsChoice_33 (by decide +kernel) ?_
    refine wp_ixor dX5_followsChoice_34 ?_
    refine wp_iand dX5_followsChoice_35 ?_
    obtain ⟨s5, es5, h⟩ := ob h
    refine wp_pI dX5_followsChoice_36 es5 ?_
    refine wp_aload_n (i := 0) dX5_followsChoice_37 rfl rfl ?_
    refine wp_getR (t := 23) dX5_followsChoice_38 fl_X5_15 rfl rfl ?_
    refine wp_iload_n (i := 1) dX5_followsChoice_41 rfl rfl ?_
    obtain ⟨x6, ex6, h⟩ := ob h
    refine wp_aI dX5_followsChoice_42 ex6 ?_
    refine wp_bipush (v := 12) dX5_followsChoice_43 (by decide +kernel) ?_
    refine wp_irem dX5_followsChoice_45 (by decide +kernel) ?_
    refine wp_istore_n (ls' := [some (.ref 21), some (.int ((s.1 21 7) - (1 : Int32))), some (.int r3.1), some (.int (x6 - x6 / (12 : Int32) * (12 : Int32))), none]) dX5_followsChoice_46 rfl (by decide) rfl rfl ?_
    refine wp_aload_n (i := 0) dX5_followsChoice_47 rfl rfl ?_
    refine wp_getR (t := 23) dX5_followsChoice_48 fl_X5_15 rfl rfl ?_
    refine wp_iload_n (i := 1) dX5_followsChoice_51 rfl rfl ?_
    obtain ⟨x7, ex7, h⟩ := ob h
    refine wp_aI dX5_followsChoice_52 ex7 ?_
    refine wp_bipush (v := 12) dX5_followsChoice_53 (by decide +kernel) ?_
    refine wp_idiv dX5_followsChoice_55 (by decide +kernel) ?_
    refine wp_istore (ls' := [some (.ref 21), some (.int ((s.1 21 7) - (1 : Int32))), some (.int r3.1), some (.int (x6 - x6 / (12 : Int32) * (12 : Int32))), some (.int (x7 / (12 : Int32)))]) dX5_followsChoice_56 (by decide) rfl rfl ?_
    refine wp_aload_n (i := 0) dX5_followsChoice_58 rfl rfl ?_
    refine wp_getR (t := 25) dX5_followsChoice_59 fl_X5_39 rfl rfl ?_
    refine wp_aload_n (i := 0) dX5_followsChoice_62 rfl rfl ?_
    refine wp_getR (t := 22) dX5_followsChoice_63 fl_X5_9 rfl rfl ?_
    refine wp_iload_n (i := 1) dX5_followsChoice_66 rfl rfl ?_
    obtain ⟨s8, es8, h⟩ := ob h
    refine wp_cVv (N := m_X4_restoreFrom) (As := [.ref 22, .int ((s.1 21 7) - (1 : Int32))]) (rest := []) dX5_followsChoice_67 ml_X5_150 mo_X4_restoreFrom vo_X4_restoreFrom rfl rfl (ok_X4_restoreFrom es8) (by decide) (Nat.le_of_ble_eq_true rfl) ?_
    refine wp_aload_n (i := 0) dX5_followsChoice_70 rfl rfl ?_
    refine wp_getR (t := 25) dX5_followsChoice_71 fl_X5_39 rfl rfl ?_
    refine wp_iload_n (i := 3) dX5_followsChoice_74 rfl rfl ?_
    refine wp_iload dX5_followsChoice_75 rfl ?_
    refine wp_iload_n (i := 2) dX5_followsChoice_77 rfl rfl ?_
    obtain ⟨s9, es9, h⟩ := ob h
    refine wp_cVv (N := m_X4_fix) (As := [.int (x6 - x6 / (12 : Int32) * (12 : Int32)), .int (x7 / (12 : Int32)), .int r3.1]) (rest := []) dX5_followsChoice_78 ml_X5_94 mo_X4_fix vo_X4_fix rfl rfl (ok_X4_fix es9) (by decide) (Nat.le_of_ble_eq_true rfl) ?_
    refine wp_aload_n (i := 0) dX5_followsChoice_81 rfl rfl ?_
    refine wp_aload_n (i := 0) dX5_followsChoice_82 rfl rfl ?_
    refine wp_getR (t := 25) dX5_followsChoice_83 fl_X5_39 rfl rfl ?_
    refine wp_aload_n (i := 0) dX5_followsChoice_86 rfl rfl ?_
    refine wp_getR (t := 25) dX5_followsChoice_87 fl_X5_39 rfl rfl ?_
    refine wp_iload_n (i := 3) dX5_followsChoice_90 rfl rfl ?_
    refine wp_iload dX5_followsChoice_91 rfl ?_
    obtain ⟨r10, er10, h⟩ := ob h
    refine wp_cVi (N := m_X4_linesThrough) (As := [.int (x6 - x6 / (12 : Int32) * (12 : Int32)), .int (x7 / (12 : Int32))]) (rest := [.ref 25, .ref 21]) dX5_followsChoice_93 ml_X5_74 mo_X4_linesThrough vo_X4_linesThrough rfl rfl (ok_X4_linesThrough er10) (by decide) (Nat.le_of_ble_eq_true rfl) ?_
    obtain ⟨r11, er11, h⟩ := ob h
    refine wp_cVi (N := m_X5_settle) (As := [.ref 25, .int r10.1]) (rest := []) dX5_followsChoice_96 ml_X5_98 mo_X5_settle vo_X5_settle rfl rfl (ok_X5_settle er11) (by decide) (Nat.le_of_ble_eq_true rfl) ?_
    refine wp_bipush (v := -2) dX5_followsChoice_99 (by decide +kernel) ?_
    refine wp_icmp_eq (tgt := 108) dX5_followsChoice_101 (by decide) (fun c12 => ?_) (fun c12 => ?_)
    · rw [if_pos c12] at h
      refine wp_iconst (v := 0) dX5_followsChoice_108 (by decide +kernel) ?_
      obtain rfl := Option.some.inj h
      exact wp_iret dX5_followsChoice_109 rfl (narrow_z (Or.inl rfl)).1
    · rw [if_neg c12] at h
      refine wp_iconst (v := 1) dX5_followsChoice_104 (by decide +kernel) ?_
      refine wp_goto (tgt := 109) dX5_followsChoice_105 (by decide) ?_
      obtain rfl := Option.some.inj h
      exact wp_iret dX5_followsChoice_109 rfl (narrow_z (Or.inr rfl)).1
  · rw [if_neg c1] at h
    refine wp_iconst (v := 0) dX5_followsChoice_11 (by decide +kernel) ?_
    obtain rfl := Option.some.inj h
    exact wp_iret dX5_followsChoice_12 rfl (narrow_z (Or.inl rfl)).1
def f_X5_opensChoice  (s : St) : Option (Int32 × St) :=
  Option.bind (f_X4_firstOfFewest 25 s) fun r1 =>
  if r1.1 = (-1 : Int32) then (
    some ((0 : Int32), r1.2))
  else (
    if (r1.2.1 21 7) < (144 : Int32) then (
      Option.bind (f_X4_saveTo 25 22 (r1.2.1 21 7) r1.2) fun s4 =>
      Option.bind (pI s4 23 (s4.1 21 7) r1.1) fun s5 =>
      Option.bind (f_X4_valuesAt 25 (r1.1 - r1.1 / (12 : Int32) * (12 : Int32)) (r1.1 / (12 : Int32)) s5) fun r6 =>
      Option.bind (pI r6.2 24 (s5.1 21 7) r6.1) fun s7 =>
      Option.bind (some (sF s7 21 7 ((s7.1 21 7) + (1 : Int32)))) fun s8 =>
      some ((1 : Int32), s8))
    else (
      some ((0 : Int32), r1.2)))
set_option maxRecDepth 100000 in
set_option maxHeartbeats 4000000 in
theorem ok_X5_opensChoice  {s : St} {r : Int32 × St} (h : f_X5_opensChoice  s = some r) : Ct 3 m_X5_opensChoice [.ref 21] s (some (.int r.1)) r.2 := by
  unfold f_X5_opensChoice at h
  refine ct_of [some (.ref 21), none] 1 (by decide) rfl (Nat.le_of_ble_eq_true rfl) ?_
  refine wp_aload_n (i := 0) dX5_opensChoice_0 rfl rfl ?_
  refine wp_getR (t := 25) dX5_opensChoice_1 fl_X5_39 rfl rfl ?_
  obtain ⟨r1, er1, h⟩ := ob h
  refine wp_cVi (N := m_X4_firstOfFewest) (As := []) (rest := []) dX5_opensChoice_4 ml_X5_140 mo_X4_firstOfFewest vo_X4_firstOfFewest rfl rfl (ok_X4_firstOfFewest er1) (by decide) (Nat.le_of_ble_eq_true rfl) ?_
  refine wp_istore_n (ls' := [some (.ref 21), some (.int r1.1)]) dX5_opensChoice_7 rfl (by decide) rfl rfl ?_
  refine wp_iload_n (i := 1) dX5_opensChoice_8 rfl rfl ?_
  refine wp_iconst (v := -1) dX5_opensChoice_9 (by decide +kernel) ?_
  refine wp_icmp_eq (tgt := 23) dX5_opensChoice_10 (by decide) (fun c2 => ?_) (fun c2 => ?_)
  · rw [if_pos c2] at h
    refine wp_iconst (v := 0) dX5_opensChoice_23 (by decide +kernel) ?_
    obtain rfl := Option.some.inj h
    exact wp_iret dX5_opensChoice_24 rfl (narrow_z (Or.inl rfl)).1
  · rw [if_neg c2] at h
    refine wp_aload_n (i := 0) dX5_opensChoice_13 rfl rfl ?_
    refine wp_getI dX5_opensChoice_14 fl_X5_22 rfl rfl ?_
    refine wp_sipush (v := 144) dX5_opensChoice_17 (by decide +kernel) ?_
    refine wp_icmp_lt (tgt := 25) dX5_opensChoice_20 (by decide) (fun c3 => ?_) (fun c3 => ?_)
    · rw [if_pos c3] at h
      refine wp_aload_n (i := 0) dX5_opensChoice_25 rfl rfl ?_
      refine wp_getR (t := 25) dX5_opensChoice_26 fl_X5_39 rfl rfl ?_
      refine wp_aload_n (i := 0) dX5_opensChoice_29 rfl rfl ?_
      refine wp_getR (t := 22) dX5_opensChoice_30 fl_X5_9 rfl rfl ?_
      refine wp_aload_n (i := 0) dX5_opensChoice_33 rfl rfl ?_
      refine wp_getI dX5_opensChoice_34 fl_X5_22 rfl rfl ?_
      obtain ⟨s4, es4, h⟩ := ob h
      refine wp_cVv (N := m_X4_saveTo) (As := [.ref 22, .int (r1.2.1 21 7)]) (rest := []) dX5_opensChoice_37 ml_X5_143 mo_X4_saveTo vo_X4_saveTo rfl rfl (ok_X4_saveTo es4) (by decide) (Nat.le_of_ble_eq_true rfl) ?_
      refine wp_aload_n (i := 0) dX5_opensChoice_40 rfl rfl ?_
      refine wp_getR (t := 23) dX5_opensChoice_41 fl_X5_15 rfl rfl ?_
      refine wp_aload_n (i := 0) dX5_opensChoice_44 rfl rfl ?_
      refine wp_getI dX5_opensChoice_45 fl_X5_22 rfl rfl ?_
      refine wp_iload_n (i := 1) dX5_opensChoice_48 rfl rfl ?_
      obtain ⟨s5, es5, h⟩ := ob h
      refine wp_pI dX5_opensChoice_49 es5 ?_
      refine wp_aload_n (i := 0) dX5_opensChoice_50 rfl rfl ?_
      refine wp_getR (t := 24) dX5_opensChoice_51 fl_X5_19 rfl rfl ?_
      refine wp_aload_n (i := 0) dX5_opensChoice_54 rfl rfl ?_
      refine wp_getI dX5_opensChoice_55 fl_X5_22 rfl rfl ?_
      refine wp_aload_n (i := 0) dX5_opensChoice_58 rfl rfl ?_
      refine wp_getR (t := 25) dX5_opensChoice_59 fl_X5_39 rfl rfl ?_
      refine wp_iload_n (i := 1) dX5_opensChoice_62 rfl rfl ?_
      refine wp_bipush (v := 12) dX5_opensChoice_63 (by decide +kernel) ?_
      refine wp_irem dX5_opensChoice_65 (by decide +kernel) ?_
      refine wp_iload_n (i := 1) dX5_opensChoice_66 rfl rfl ?_
      refine wp_bipush (v := 12) dX5_opensChoice_67 (by decide +kernel) ?_
      refine wp_idiv dX5_opensChoice_69 (by decide +kernel) ?_
      obtain ⟨r6, er6, h⟩ := ob h
      refine wp_cVi (N := m_X4_valuesAt) (As := [.int (r1.1 - r1.1 / (12 : Int32) * (12 : Int32)), .int (r1.1 / (12 : Int32))]) (rest := [.int (s5.1 21 7), .ref 24]) dX5_opensChoice_70 ml_X5_81 mo_X4_valuesAt vo_X4_valuesAt rfl rfl (ok_X4_valuesAt er6) (by decide) (Nat.le_of_ble_eq_true rfl) ?_
      obtain ⟨s7, es7, h⟩ := ob h
      refine wp_pI dX5_opensChoice_73 es7 ?_
      refine wp_aload_n (i := 0) dX5_opensChoice_74 rfl rfl ?_
      refine wp_dup_r dX5_opensChoice_75 ?_
      refine wp_getI dX5_opensChoice_76 fl_X5_22 rfl rfl ?_
      refine wp_iconst (v := 1) dX5_opensChoice_79 (by decide +kernel) ?_
      refine wp_iadd dX5_opensChoice_80 ?_
      obtain ⟨s8, es8, h⟩ := ob h
      refine wp_putI2 dX5_opensChoice_81 fl_X5_22 rfl rfl rfl rfl es8 ?_
      refine wp_iconst (v := 1) dX5_opensChoice_84 (by decide +kernel) ?_
      obtain rfl := Option.some.inj h
      exact wp_iret dX5_opensChoice_85 rfl (narrow_z (Or.inr rfl)).1
    · rw [if_neg c3] at h
      refine wp_iconst (v := 0) dX5_opensChoice_23 (by decide +kernel) ?_
      obtain rfl := Option.some.inj h
      exact wp_iret dX5_opensChoice_24 rfl (narrow_z (Or.inl rfl)).1
def f_X5_seek_85 (a1 : Nat) (a4 : Nat) (K48 : Int32 → Int32 → Int32 → Int32 → St → Option (St)) (v2 : Int32) (v3 : Int32) (v6 : Int32) (s : St) : Option (St) :=
  Option.bind (f_X5_closeEmptyChoices s) fun s1 =>
  if (s1.1 21 7) = 0 then (
    some s1)
  else (
    if (s1.1 a4 3) < v3 then (
      Option.bind (some (sF s1 a4 3 ((s1.1 a4 3) + (1 : Int32)))) fun s4 =>
      Option.bind (f_X5_followsChoice s4) fun r5 =>
      K48 v2 v3 r5.1 (v6 + 1) r5.2)
    else (
      Option.bind (some (sF s1 a4 4 (1 : Int32))) fun s6 =>
      some s6))
set_option maxRecDepth 100000 in
set_option maxHeartbeats 4000000 in
theorem w_X5_seek_85 {r : St} {a1 : Nat} {a4 : Nat} {K48 : Int32 → Int32 → Int32 → Int32 → St → Option (St)} (hK48 : ∀ (v2 : Int32) (v3 : Int32) (v5 : Int32) (v6 : Int32) (s : St), K48 v2 v3 v5 v6 s = some r → Wp m_X5_seek 4 (PR none r) 48 [some (.ref 21), none, some (.int v2), some (.int v3), some (.ref a4), some (.int v5), some (.int v6)] [] s) {v2 : Int32} {v3 : Int32} {v6 : Int32} (ha1 : clO a1 = 2) (ha4 : clO a4 = 1) {s : St} (h : f_X5_seek_85 a1 a4 K48 v2 v3 v6 s = some r) : Wp m_X5_seek 4 (PR none r) 85 [some (.ref 21), none, some (.int v2), some (.int v3), some (.ref a4), none, some (.int v6)] [] s := by
  unfold f_X5_seek_85 at h
  refine wp_aload_n (i := 0) dX5_seek_85 rfl rfl ?_
  obtain ⟨s1, es1, h⟩ := ob h
  refine wp_cVv (N := m_X5_closeEmptyChoices) (As := []) (rest := []) dX5_seek_86 ml_X5_127 mo_X5_closeEmptyChoices vo_X5_closeEmptyChoices rfl rfl (ok_X5_closeEmptyChoices es1) (by decide) (Nat.le_of_ble_eq_true rfl) ?_
  refine wp_aload_n (i := 0) dX5_seek_89 rfl rfl ?_
  refine wp_getI dX5_seek_90 fl_X5_22 rfl rfl ?_
  refine wp_if_ne (tgt := 97) dX5_seek_93 (by decide) (fun c2 => ?_) (fun c2 => ?_)
  · rw [if_neg c2] at h
    refine wp_aload dX5_seek_97 rfl ?_
    refine wp_getI dX5_seek_99 fl_X5_130 ha4 (kr_1_3 _ ha4) ?_
    refine wp_iload_n (i := 3) dX5_seek_102 rfl rfl ?_
    refine wp_icmp_lt (tgt := 113) dX5_seek_103 (by decide) (fun c3 => ?_) (fun c3 => ?_)
    · rw [if_pos c3] at h
      refine wp_aload dX5_seek_113 rfl ?_
      refine wp_dup_r dX5_seek_115 ?_
      refine wp_getI dX5_seek_116 fl_X5_130 ha4 (kr_1_3 _ ha4) ?_
      refine wp_iconst (v := 1) dX5_seek_119 (by decide +kernel) ?_
      refine wp_iadd dX5_seek_120 ?_
      obtain ⟨s4, es4, h⟩ := ob h
      refine wp_putI2 dX5_seek_121 fl_X5_130 ha4 (kr_1_3 _ ha4) rfl rfl es4 ?_
      refine wp_aload_n (i := 0) dX5_seek_124 rfl rfl ?_
      obtain ⟨r5, er5, h⟩ := ob h
      refine wp_cVi (N := m_X5_followsChoice) (As := []) (rest := []) dX5_seek_125 ml_X5_137 mo_X5_followsChoice vo_X5_followsChoice rfl rfl (ok_X5_followsChoice er5) (by decide) (Nat.le_of_ble_eq_true rfl) ?_
      refine wp_istore (ls' := [some (.ref 21), none, some (.int v2), some (.int v3), some (.ref a4), some (.int r5.1), some (.int v6)]) dX5_seek_128 (by decide) rfl rfl ?_
      refine wp_inc (c := 1) (ls' := [some (.ref 21), none, some (.int v2), some (.int v3), some (.ref a4), some (.int r5.1), some (.int (v6 + 1))]) dX5_seek_130 rfl (by decide +kernel) (by decide) rfl rfl ?_
      refine wp_goto (tgt := 48) dX5_seek_133 (by decide) ?_
      exact wp_sub (ls' := [some (.ref 21), none, some (.int v2), some (.int v3), some (.ref a4), some (.int r5.1), some (.int (v6 + 1))]) ⟨rfl, rfl, rfl, rfl, rfl, rfl, trivial⟩ (hK48 _ _ _ _ _ h)
    · rw [if_neg c3] at h
      refine wp_aload dX5_seek_106 rfl ?_
      refine wp_iconst (v := 1) dX5_seek_108 (by decide +kernel) ?_
      obtain ⟨s6, es6, h⟩ := ob h
      refine wp_putZ2 dX5_seek_109 fl_X5_133 ha4 (kr_1_4 _ ha4) rfl rfl (Or.inr rfl) es6 ?_
      obtain rfl := Option.some.inj h
      exact wp_vret dX5_seek_112 rfl
  · rw [if_pos c2] at h
    obtain rfl := Option.some.inj h
    exact wp_vret dX5_seek_96 rfl
def f_X5_seek_48 (a1 : Nat) (a4 : Nat) : Nat → Int32 → Int32 → Int32 → Int32 → St → Option (St)
  | 0, _, _, _, _, _ => none
  | n + 1, v2, v3, v5, v6, s =>
    if v3 < v6 then (
      some s)
    else (
      if v5 = 0 then (
        f_X5_seek_85 a1 a4 (f_X5_seek_48 a1 a4 n) v2 v3 v6 s)
      else (
        Option.bind (f_X5_opensChoice s) fun r3 =>
        if r3.1 = 0 then (
          Option.bind (f_X1_add a4 25 r3.2) fun s5 =>
          if (s5.1 a4 2) < v2 then (
            f_X5_seek_85 a1 a4 (f_X5_seek_48 a1 a4 n) v2 v3 v6 s5)
          else (
            some s5))
        else (
          f_X5_seek_85 a1 a4 (f_X5_seek_48 a1 a4 n) v2 v3 v6 r3.2)))
set_option maxRecDepth 100000 in
set_option maxHeartbeats 4000000 in
theorem w_X5_seek_48 {r : St} {a1 : Nat} {a4 : Nat}  (ha1 : clO a1 = 2) (ha4 : clO a4 = 1) : ∀ (n : Nat) (v2 : Int32) (v3 : Int32) (v5 : Int32) (v6 : Int32) (s : St), f_X5_seek_48 a1 a4  n v2 v3 v5 v6 s = some r → Wp m_X5_seek 4 (PR none r) 48 [some (.ref 21), none, some (.int v2), some (.int v3), some (.ref a4), some (.int v5), some (.int v6)] [] s := by
  intro n
  induction n with
  | zero => intro v2 v3 v5 v6 s h; cases h
  | succ n ih =>
    intro v2 v3 v5 v6 s h
    unfold f_X5_seek_48 at h
    refine wp_iload dX5_seek_48 rfl ?_
    refine wp_iload_n (i := 3) dX5_seek_50 rfl rfl ?_
    refine wp_icmp_gt (tgt := 136) dX5_seek_51 (by decide) (fun c1 => ?_) (fun c1 => ?_)
    · rw [if_pos c1] at h
      obtain rfl := Option.some.inj h
      exact wp_vret dX5_seek_136 rfl
    · rw [if_neg c1] at h
      refine wp_iload dX5_seek_54 rfl ?_
      refine wp_if_eq (tgt := 85) dX5_seek_56 (by decide) (fun c2 => ?_) (fun c2 => ?_)
      · rw [if_pos c2] at h
        exact wp_sub (ls' := [some (.ref 21), none, some (.int v2), some (.int v3), some (.ref a4), none, some (.int v6)]) ⟨rfl, rfl, rfl, rfl, rfl, trivial⟩ (w_X5_seek_85 ih ha1 ha4 h)
      · rw [if_neg c2] at h
        refine wp_aload_n (i := 0) dX5_seek_59 rfl rfl ?_
        obtain ⟨r3, er3, h⟩ := ob h
        refine wp_cVi (N := m_X5_opensChoice) (As := []) (rest := []) dX5_seek_60 ml_X5_117 mo_X5_opensChoice vo_X5_opensChoice rfl rfl (ok_X5_opensChoice er3) (by decide) (Nat.le_of_ble_eq_true rfl) ?_
        refine wp_if_ne (tgt := 85) dX5_seek_63 (by decide) (fun c4 => ?_) (fun c4 => ?_)
        · rw [if_neg c4] at h
          exact wp_sub (ls' := [some (.ref 21), none, some (.int v2), some (.int v3), some (.ref a4), none, some (.int v6)]) ⟨rfl, rfl, rfl, rfl, rfl, trivial⟩ (w_X5_seek_85 ih ha1 ha4 h)
        · rw [if_pos c4] at h
          refine wp_aload dX5_seek_66 rfl ?_
          refine wp_aload_n (i := 0) dX5_seek_68 rfl rfl ?_
          refine wp_getR (t := 25) dX5_seek_69 fl_X5_39 rfl rfl ?_
          obtain ⟨s5, es5, h⟩ := ob h
          refine wp_cVv (N := m_X1_add) (As := [.ref 25]) (rest := []) dX5_seek_72 ml_X5_121 mo_X1_add vo_X1_add ha4 rfl (ok_X1_add es5) (by decide) (Nat.le_of_ble_eq_true rfl) ?_
          refine wp_aload dX5_seek_75 rfl ?_
          refine wp_getI dX5_seek_77 fl_X5_124 ha4 (kr_1_2 _ ha4) ?_
          refine wp_iload_n (i := 2) dX5_seek_80 rfl rfl ?_
          refine wp_icmp_lt (tgt := 85) dX5_seek_81 (by decide) (fun c6 => ?_) (fun c6 => ?_)
          · rw [if_pos c6] at h
            exact wp_sub (ls' := [some (.ref 21), none, some (.int v2), some (.int v3), some (.ref a4), none, some (.int v6)]) ⟨rfl, rfl, rfl, rfl, rfl, trivial⟩ (w_X5_seek_85 ih ha1 ha4 h)
          · rw [if_neg c6] at h
            obtain rfl := Option.some.inj h
            exact wp_vret dX5_seek_84 rfl
def f_X5_seek_43 (a1 : Nat) (a4 : Nat) (v2 : Int32) (v3 : Int32) (t0 : Int32) (s : St) : Option (St) :=
  f_X5_seek_48 a1 a4 FU v2 v3 t0 (0 : Int32) s
set_option maxRecDepth 100000 in
set_option maxHeartbeats 4000000 in
theorem w_X5_seek_43 {r : St} {a1 : Nat} {a4 : Nat} {v2 : Int32} {v3 : Int32} {t0 : Int32} (ha1 : clO a1 = 2) (ha4 : clO a4 = 1) {s : St} (h : f_X5_seek_43 a1 a4  v2 v3 t0 s = some r) : Wp m_X5_seek 4 (PR none r) 43 [some (.ref 21), none, some (.int v2), some (.int v3), some (.ref a4), none, none] [.int t0] s := by
  unfold f_X5_seek_43 at h
  refine wp_istore (ls' := [some (.ref 21), none, some (.int v2), some (.int v3), some (.ref a4), some (.int t0), none]) dX5_seek_43 (by decide) rfl rfl ?_
  refine wp_iconst (v := 0) dX5_seek_45 (by decide +kernel) ?_
  refine wp_istore (ls' := [some (.ref 21), none, some (.int v2), some (.int v3), some (.ref a4), some (.int t0), some (.int (0 : Int32))]) dX5_seek_46 (by decide) rfl rfl ?_
  exact wp_sub (ls' := [some (.ref 21), none, some (.int v2), some (.int v3), some (.ref a4), some (.int t0), some (.int (0 : Int32))]) ⟨rfl, rfl, rfl, rfl, rfl, rfl, trivial⟩ (w_X5_seek_48 ha1 ha4 _ _ _ _ _ _ h)
def f_X5_seek (a1 : Nat) (a2 : Int32) (a3 : Int32) (a4 : Nat) (s : St) : Option (St) :=
  if ¬ clO a1 = 2 then none else
  if ¬ clO a4 = 1 then none else
  Option.bind (f_X1_begin a4 s) fun s1 =>
  Option.bind (some (sF s1 21 7 (0 : Int32))) fun s2 =>
  Option.bind (f_X4_become 25 a1 s2) fun s3 =>
  Option.bind (f_X0_allLines 3 s3) fun r4 =>
  Option.bind (f_X5_settle 25 r4.1 r4.2) fun r5 =>
  if r5.1 = (-2 : Int32) then (
    f_X5_seek_43 a1 a4 a2 a3 (0 : Int32) r5.2)
  else (
    f_X5_seek_43 a1 a4 a2 a3 (1 : Int32) r5.2)
set_option maxRecDepth 100000 in
set_option maxHeartbeats 4000000 in
theorem ok_X5_seek {a1 : Nat} {a2 : Int32} {a3 : Int32} {a4 : Nat} {s : St} {r : St} (h : f_X5_seek a1 a2 a3 a4 s = some r) : Ct 4 m_X5_seek [.ref 21, .ref a1, .int a2, .int a3, .ref a4] s none r := by
  unfold f_X5_seek at h
  obtain ⟨ha1, h⟩ := ifc h
  obtain ⟨ha4, h⟩ := ifc h
  refine ct_of [some (.ref 21), some (.ref a1), some (.int a2), some (.int a3), some (.ref a4), none, none] 2 (by decide) rfl (Nat.le_of_ble_eq_true rfl) ?_
  refine wp_aload dX5_seek_0 rfl ?_
  obtain ⟨s1, es1, h⟩ := ob h
  refine wp_cVv (N := m_X1_begin) (As := []) (rest := []) dX5_seek_2 ml_X5_105 mo_X1_begin vo_X1_begin ha4 rfl (ok_X1_begin es1) (by decide) (Nat.le_of_ble_eq_true rfl) ?_
  refine wp_aload_n (i := 0) dX5_seek_5 rfl rfl ?_
  refine wp_iconst (v := 0) dX5_seek_6 (by decide +kernel) ?_
  obtain ⟨s2, es2, h⟩ := ob h
  refine wp_putI2 dX5_seek_7 fl_X5_22 rfl rfl rfl rfl es2 ?_
  refine wp_aload_n (i := 0) dX5_seek_10 rfl rfl ?_
  refine wp_getR (t := 25) dX5_seek_11 fl_X5_39 rfl rfl ?_
  refine wp_aload_n (i := 1) dX5_seek_14 rfl rfl ?_
  obtain ⟨s3, es3, h⟩ := ob h
  refine wp_cVv (N := m_X4_become) (As := [.ref a1]) (rest := []) dX5_seek_15 ml_X5_110 mo_X4_become vo_X4_become rfl rfl (ok_X4_become es3) (by decide) (Nat.le_of_ble_eq_true rfl) ?_
  refine wp_aload_n (i := 0) dX5_seek_18 rfl rfl ?_
  refine wp_aload_n (i := 0) dX5_seek_19 rfl rfl ?_
  refine wp_getR (t := 25) dX5_seek_20 fl_X5_39 rfl rfl ?_
  refine wp_aload_n (i := 0) dX5_seek_23 rfl rfl ?_
  refine wp_getR (t := 3) dX5_seek_24 fl_X5_26 rfl rfl ?_
  obtain ⟨r4, er4, h⟩ := ob h
  refine wp_cVi (N := m_X0_allLines) (As := []) (rest := [.ref 25, .ref 21]) dX5_seek_27 ml_X5_114 mo_X0_allLines vo_X0_allLines rfl rfl (ok_X0_allLines er4) (by decide) (Nat.le_of_ble_eq_true rfl) ?_
  obtain ⟨r5, er5, h⟩ := ob h
  refine wp_cVi (N := m_X5_settle) (As := [.ref 25, .int r4.1]) (rest := []) dX5_seek_30 ml_X5_98 mo_X5_settle vo_X5_settle rfl rfl (ok_X5_settle er5) (by decide) (Nat.le_of_ble_eq_true rfl) ?_
  refine wp_bipush (v := -2) dX5_seek_33 (by decide +kernel) ?_
  refine wp_icmp_eq (tgt := 42) dX5_seek_35 (by decide) (fun c6 => ?_) (fun c6 => ?_)
  · rw [if_pos c6] at h
    refine wp_iconst (v := 0) dX5_seek_42 (by decide +kernel) ?_
    exact wp_sub (ls' := [some (.ref 21), none, some (.int a2), some (.int a3), some (.ref a4), none, none]) ⟨rfl, rfl, rfl, rfl, trivial⟩ (w_X5_seek_43 ha1 ha4 h)
  · rw [if_neg c6] at h
    refine wp_iconst (v := 1) dX5_seek_38 (by decide +kernel) ?_
    refine wp_goto (tgt := 43) dX5_seek_39 (by decide) ?_
    exact wp_sub (ls' := [some (.ref 21), none, some (.int a2), some (.int a3), some (.ref a4), none, none]) ⟨rfl, rfl, rfl, rfl, trivial⟩ (w_X5_seek_43 ha1 ha4 h)
def f_X5_judge (a1 : Nat) (a2 : Nat) (s : St) : Option (Int32 × St) :=
  if ¬ clO a1 = 2 then none else
  if ¬ clO a2 = 1 then none else
  Option.bind (f_X4_become 25 a1 s) fun s1 =>
  Option.bind (f_X0_allLines 3 s1) fun r2 =>
  Option.bind (f_X5_settle 25 r2.1 r2.2) fun r3 =>
  if r3.1 = (-2 : Int32) then (
    some ((4 : Int32), r3.2))
  else (
    Option.bind (f_X4_firstOfFewest 25 r3.2) fun r5 =>
    if r5.1 = (-1 : Int32) then (
      some ((0 : Int32), r5.2))
    else (
      Option.bind (f_X5_sift 25 r5.2) fun r7 =>
      if r7.1 = (-2 : Int32) then (
        some ((4 : Int32), r7.2))
      else (
        Option.bind (f_X4_firstOfFewest 25 r7.2) fun r9 =>
        if r9.1 = (-1 : Int32) then (
          some ((1 : Int32), r9.2))
        else (
          Option.bind (f_X5_seek a1 (2 : Int32) (400 : Int32) a2 r9.2) fun s11 =>
          if (s11.1 a2 4) = 0 then (
            if (s11.1 a2 2) = 0 then (
              some ((4 : Int32), s11))
            else (
              some ((s11.1 a2 2) + (1 : Int32), s11)))
          else (
            some ((5 : Int32), s11))))))
set_option maxRecDepth 100000 in
set_option maxHeartbeats 4000000 in
theorem ok_X5_judge {a1 : Nat} {a2 : Nat} {s : St} {r : Int32 × St} (h : f_X5_judge a1 a2 s = some r) : Ct 5 m_X5_judge [.ref 21, .ref a1, .ref a2] s (some (.int r.1)) r.2 := by
  unfold f_X5_judge at h
  obtain ⟨ha1, h⟩ := ifc h
  obtain ⟨ha2, h⟩ := ifc h
  refine ct_of [some (.ref 21), some (.ref a1), some (.ref a2)] 0 (by decide) rfl (Nat.le_of_ble_eq_true rfl) ?_
  refine wp_aload_n (i := 0) dX5_judge_0 rfl rfl ?_
  refine wp_getR (t := 25) dX5_judge_1 fl_X5_39 rfl rfl ?_
  refine wp_aload_n (i := 1) dX5_judge_4 rfl rfl ?_
  obtain ⟨s1, es1, h⟩ := ob h
  refine wp_cVv (N := m_X4_become) (As := [.ref a1]) (rest := []) dX5_judge_5 ml_X5_110 mo_X4_become vo_X4_become rfl rfl (ok_X4_become es1) (by decide) (Nat.le_of_ble_eq_true rfl) ?_
  refine wp_aload_n (i := 0) dX5_judge_8 rfl rfl ?_
  refine wp_aload_n (i := 0) dX5_judge_9 rfl rfl ?_
  refine wp_getR (t := 25) dX5_judge_10 fl_X5_39 rfl rfl ?_
  refine wp_aload_n (i := 0) dX5_judge_13 rfl rfl ?_
  refine wp_getR (t := 3) dX5_judge_14 fl_X5_26 rfl rfl ?_
  obtain ⟨r2, er2, h⟩ := ob h
  refine wp_cVi (N := m_X0_allLines) (As := []) (rest := [.ref 25, .ref 21]) dX5_judge_17 ml_X5_114 mo_X0_allLines vo_X0_allLines rfl rfl (ok_X0_allLines er2) (by decide) (Nat.le_of_ble_eq_true rfl) ?_
  obtain ⟨r3, er3, h⟩ := ob h
  refine wp_cVi (N := m_X5_settle) (As := [.ref 25, .int r2.1]) (rest := []) dX5_judge_20 ml_X5_98 mo_X5_settle vo_X5_settle rfl rfl (ok_X5_settle er3) (by decide) (Nat.le_of_ble_eq_true rfl) ?_
  refine wp_bipush (v := -2) dX5_judge_23 (by decide +kernel) ?_
  refine wp_icmp_ne (tgt := 30) dX5_judge_25 (by decide) (fun c4 => ?_) (fun c4 => ?_)
  · rw [if_neg c4] at h
    refine wp_aload_n (i := 0) dX5_judge_30 rfl rfl ?_
    refine wp_getR (t := 25) dX5_judge_31 fl_X5_39 rfl rfl ?_
    obtain ⟨r5, er5, h⟩ := ob h
    refine wp_cVi (N := m_X4_firstOfFewest) (As := []) (rest := []) dX5_judge_34 ml_X5_140 mo_X4_firstOfFewest vo_X4_firstOfFewest rfl rfl (ok_X4_firstOfFewest er5) (by decide) (Nat.le_of_ble_eq_true rfl) ?_
    refine wp_iconst (v := -1) dX5_judge_37 (by decide +kernel) ?_
    refine wp_icmp_ne (tgt := 43) dX5_judge_38 (by decide) (fun c6 => ?_) (fun c6 => ?_)
    · rw [if_neg c6] at h
      refine wp_aload_n (i := 0) dX5_judge_43 rfl rfl ?_
      refine wp_aload_n (i := 0) dX5_judge_44 rfl rfl ?_
      refine wp_getR (t := 25) dX5_judge_45 fl_X5_39 rfl rfl ?_
      obtain ⟨r7, er7, h⟩ := ob h
      refine wp_cVi (N := m_X5_sift) (As := [.ref 25]) (rest := []) dX5_judge_48 ml_X5_153 mo_X5_sift vo_X5_sift rfl rfl (ok_X5_sift er7) (by decide) (Nat.le_of_ble_eq_true rfl) ?_
      refine wp_bipush (v := -2) dX5_judge_51 (by decide +kernel) ?_
      refine wp_icmp_ne (tgt := 58) dX5_judge_53 (by decide) (fun c8 => ?_) (fun c8 => ?_)
      · rw [if_neg c8] at h
        refine wp_aload_n (i := 0) dX5_judge_58 rfl rfl ?_
        refine wp_getR (t := 25) dX5_judge_59 fl_X5_39 rfl rfl ?_
        obtain ⟨r9, er9, h⟩ := ob h
        refine wp_cVi (N := m_X4_firstOfFewest) (As := []) (rest := []) dX5_judge_62 ml_X5_140 mo_X4_firstOfFewest vo_X4_firstOfFewest rfl rfl (ok_X4_firstOfFewest er9) (by decide) (Nat.le_of_ble_eq_true rfl) ?_
        refine wp_iconst (v := -1) dX5_judge_65 (by decide +kernel) ?_
        refine wp_icmp_ne (tgt := 71) dX5_judge_66 (by decide) (fun c10 => ?_) (fun c10 => ?_)
        · rw [if_neg c10] at h
          refine wp_aload_n (i := 0) dX5_judge_71 rfl rfl ?_
          refine wp_aload_n (i := 1) dX5_judge_72 rfl rfl ?_
          refine wp_iconst (v := 2) dX5_judge_73 (by decide +kernel) ?_
          refine wp_sipush (v := 400) dX5_judge_74 (by decide +kernel) ?_
          refine wp_aload_n (i := 2) dX5_judge_77 rfl rfl ?_
          obtain ⟨s11, es11, h⟩ := ob h
          refine wp_cVv (N := m_X5_seek) (As := [.ref a1, .int (2 : Int32), .int (400 : Int32), .ref a2]) (rest := []) dX5_judge_78 ml_X5_157 mo_X5_seek vo_X5_seek rfl rfl (ok_X5_seek es11) (by decide) (Nat.le_of_ble_eq_true rfl) ?_
          refine wp_aload_n (i := 2) dX5_judge_81 rfl rfl ?_
          refine wp_getI dX5_judge_82 fl_X5_133 ha2 (kr_1_4 _ ha2) ?_
          refine wp_if_eq (tgt := 90) dX5_judge_85 (by decide) (fun c12 => ?_) (fun c12 => ?_)
          · rw [if_pos c12] at h
            refine wp_aload_n (i := 2) dX5_judge_90 rfl rfl ?_
            refine wp_getI dX5_judge_91 fl_X5_124 ha2 (kr_1_2 _ ha2) ?_
            refine wp_if_ne (tgt := 101) dX5_judge_94 (by decide) (fun c13 => ?_) (fun c13 => ?_)
            · rw [if_neg c13] at h
              refine wp_aload_n (i := 2) dX5_judge_101 rfl rfl ?_
              refine wp_getI dX5_judge_102 fl_X5_124 ha2 (kr_1_2 _ ha2) ?_
              refine wp_iconst (v := 1) dX5_judge_105 (by decide +kernel) ?_
              refine wp_iadd dX5_judge_106 ?_
              obtain rfl := Option.some.inj h
              exact wp_iret dX5_judge_107 rfl rfl
            · rw [if_pos c13] at h
              refine wp_iconst (v := 4) dX5_judge_97 (by decide +kernel) ?_
              refine wp_goto (tgt := 107) dX5_judge_98 (by decide) ?_
              obtain rfl := Option.some.inj h
              exact wp_iret dX5_judge_107 rfl rfl
          · rw [if_neg c12] at h
            refine wp_iconst (v := 5) dX5_judge_88 (by decide +kernel) ?_
            obtain rfl := Option.some.inj h
            exact wp_iret dX5_judge_89 rfl rfl
        · rw [if_pos c10] at h
          refine wp_iconst (v := 1) dX5_judge_69 (by decide +kernel) ?_
          obtain rfl := Option.some.inj h
          exact wp_iret dX5_judge_70 rfl rfl
      · rw [if_pos c8] at h
        refine wp_iconst (v := 4) dX5_judge_56 (by decide +kernel) ?_
        obtain rfl := Option.some.inj h
        exact wp_iret dX5_judge_57 rfl rfl
    · rw [if_pos c6] at h
      refine wp_iconst (v := 0) dX5_judge_41 (by decide +kernel) ?_
      obtain rfl := Option.some.inj h
      exact wp_iret dX5_judge_42 rfl rfl
  · rw [if_pos c4] at h
    refine wp_iconst (v := 4) dX5_judge_28 (by decide +kernel) ?_
    obtain rfl := Option.some.inj h
    exact wp_iret dX5_judge_29 rfl rfl
