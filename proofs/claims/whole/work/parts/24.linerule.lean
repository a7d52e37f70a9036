/-! decompiled by wip/gen/gen.py -/
theorem dX3_cellsWith_0 : decode cX3_cellsWith 0 = .ok (.lload_n 0, 1) := by decide +kernel
theorem dX3_cellsWith_1 : decode cX3_cellsWith 1 = .ok (.bipush 12, 2) := by decide +kernel
theorem dX3_cellsWith_3 : decode cX3_cellsWith 3 = .ok (.iload_n 2, 1) := by decide +kernel
theorem dX3_cellsWith_4 : decode cX3_cellsWith 4 = .ok (.imul, 1) := by decide +kernel
theorem dX3_cellsWith_5 : decode cX3_cellsWith 5 = .ok (.lushr, 1) := by decide +kernel
theorem dX3_cellsWith_6 : decode cX3_cellsWith 6 = .ok (.l2i, 1) := by decide +kernel
theorem dX3_cellsWith_7 : decode cX3_cellsWith 7 = .ok (.sipush 4095, 3) := by decide +kernel
theorem dX3_cellsWith_10 : decode cX3_cellsWith 10 = .ok (.iand, 1) := by decide +kernel
theorem dX3_cellsWith_11 : decode cX3_cellsWith 11 = .ok (.ireturn, 1) := by decide +kernel
theorem dX3_cover_0 : decode cX3_cover 0 = .ok (.iconst 0, 1) := by decide +kernel
theorem dX3_cover_1 : decode cX3_cover 1 = .ok (.istore_n 2, 1) := by decide +kernel
theorem dX3_cover_2 : decode cX3_cover 2 = .ok (.iconst 0, 1) := by decide +kernel
theorem dX3_cover_3 : decode cX3_cover 3 = .ok (.istore_n 3, 1) := by decide +kernel
theorem dX3_cover_4 : decode cX3_cover 4 = .ok (.iload_n 3, 1) := by decide +kernel
theorem dX3_cover_5 : decode cX3_cover 5 = .ok (.iload_n 1, 1) := by decide +kernel
theorem dX3_cover_6 : decode cX3_cover 6 = .ok (.if_icmp .ge 15, 3) := by decide +kernel
theorem dX3_cover_9 : decode cX3_cover 9 = .ok (.iload_n 2, 1) := by decide +kernel
theorem dX3_cover_10 : decode cX3_cover 10 = .ok (.iload_n 0, 1) := by decide +kernel
theorem dX3_cover_11 : decode cX3_cover 11 = .ok (.iload_n 3, 1) := by decide +kernel
theorem dX3_cover_12 : decode cX3_cover 12 = .ok (.ishl, 1) := by decide +kernel
theorem dX3_cover_13 : decode cX3_cover 13 = .ok (.ior, 1) := by decide +kernel
theorem dX3_cover_14 : decode cX3_cover 14 = .ok (.istore_n 2, 1) := by decide +kernel
theorem dX3_cover_15 : decode cX3_cover 15 = .ok (.iinc 3 1, 3) := by decide +kernel
theorem dX3_cover_18 : decode cX3_cover 18 = .ok (.goto (-14), 3) := by decide +kernel
theorem dX3_cover_21 : decode cX3_cover 21 = .ok (.iload_n 2, 1) := by decide +kernel
theorem dX3_cover_22 : decode cX3_cover 22 = .ok (.ireturn, 1) := by decide +kernel
theorem dX3_spreadDown_0 : decode cX3_spreadDown 0 = .ok (.iload_n 0, 1) := by decide +kernel
theorem dX3_spreadDown_1 : decode cX3_spreadDown 1 = .ok (.istore_n 2, 1) := by decide +kernel
theorem dX3_spreadDown_2 : decode cX3_spreadDown 2 = .ok (.iload_n 1, 1) := by decide +kernel
theorem dX3_spreadDown_3 : decode cX3_spreadDown 3 = .ok (.istore_n 3, 1) := by decide +kernel
theorem dX3_spreadDown_4 : decode cX3_spreadDown 4 = .ok (.iconst 1, 1) := by decide +kernel
theorem dX3_spreadDown_5 : decode cX3_spreadDown 5 = .ok (.istore 4, 2) := by decide +kernel
theorem dX3_spreadDown_7 : decode cX3_spreadDown 7 = .ok (.iload 4, 2) := by decide +kernel
theorem dX3_spreadDown_9 : decode cX3_spreadDown 9 = .ok (.bipush 12, 2) := by decide +kernel
theorem dX3_spreadDown_11 : decode cX3_spreadDown 11 = .ok (.if_icmp .ge 28, 3) := by decide +kernel
theorem dX3_spreadDown_14 : decode cX3_spreadDown 14 = .ok (.iload_n 2, 1) := by decide +kernel
theorem dX3_spreadDown_15 : decode cX3_spreadDown 15 = .ok (.iload_n 2, 1) := by decide +kernel
theorem dX3_spreadDown_16 : decode cX3_spreadDown 16 = .ok (.iload 4, 2) := by decide +kernel
theorem dX3_spreadDown_18 : decode cX3_spreadDown 18 = .ok (.iushr, 1) := by decide +kernel
theorem dX3_spreadDown_19 : decode cX3_spreadDown 19 = .ok (.iload_n 3, 1) := by decide +kernel
theorem dX3_spreadDown_20 : decode cX3_spreadDown 20 = .ok (.iand, 1) := by decide +kernel
theorem dX3_spreadDown_21 : decode cX3_spreadDown 21 = .ok (.ior, 1) := by decide +kernel
theorem dX3_spreadDown_22 : decode cX3_spreadDown 22 = .ok (.istore_n 2, 1) := by decide +kernel
theorem dX3_spreadDown_23 : decode cX3_spreadDown 23 = .ok (.iload_n 3, 1) := by decide +kernel
theorem dX3_spreadDown_24 : decode cX3_spreadDown 24 = .ok (.iload_n 3, 1) := by decide +kernel
theorem dX3_spreadDown_25 : decode cX3_spreadDown 25 = .ok (.iload 4, 2) := by decide +kernel
theorem dX3_spreadDown_27 : decode cX3_spreadDown 27 = .ok (.iushr, 1) := by decide +kernel
theorem dX3_spreadDown_28 : decode cX3_spreadDown 28 = .ok (.iand, 1) := by decide +kernel
theorem dX3_spreadDown_29 : decode cX3_spreadDown 29 = .ok (.istore_n 3, 1) := by decide +kernel
theorem dX3_spreadDown_30 : decode cX3_spreadDown 30 = .ok (.iload 4, 2) := by decide +kernel
theorem dX3_spreadDown_32 : decode cX3_spreadDown 32 = .ok (.iconst 2, 1) := by decide +kernel
theorem dX3_spreadDown_33 : decode cX3_spreadDown 33 = .ok (.imul, 1) := by decide +kernel
theorem dX3_spreadDown_34 : decode cX3_spreadDown 34 = .ok (.istore 4, 2) := by decide +kernel
theorem dX3_spreadDown_36 : decode cX3_spreadDown 36 = .ok (.goto (-29), 3) := by decide +kernel
theorem dX3_spreadDown_39 : decode cX3_spreadDown 39 = .ok (.iload_n 2, 1) := by decide +kernel
theorem dX3_spreadDown_40 : decode cX3_spreadDown 40 = .ok (.ireturn, 1) := by decide +kernel
theorem dX3_spreadUp_0 : decode cX3_spreadUp 0 = .ok (.iload_n 0, 1) := by decide +kernel
theorem dX3_spreadUp_1 : decode cX3_spreadUp 1 = .ok (.istore_n 2, 1) := by decide +kernel
theorem dX3_spreadUp_2 : decode cX3_spreadUp 2 = .ok (.iload_n 1, 1) := by decide +kernel
theorem dX3_spreadUp_3 : decode cX3_spreadUp 3 = .ok (.istore_n 3, 1) := by decide +kernel
theorem dX3_spreadUp_4 : decode cX3_spreadUp 4 = .ok (.iconst 1, 1) := by decide +kernel
theorem dX3_spreadUp_5 : decode cX3_spreadUp 5 = .ok (.istore 4, 2) := by decide +kernel
theorem dX3_spreadUp_7 : decode cX3_spreadUp 7 = .ok (.iload 4, 2) := by decide +kernel
theorem dX3_spreadUp_9 : decode cX3_spreadUp 9 = .ok (.bipush 12, 2) := by decide +kernel
theorem dX3_spreadUp_11 : decode cX3_spreadUp 11 = .ok (.if_icmp .ge 28, 3) := by decide +kernel
theorem dX3_spreadUp_14 : decode cX3_spreadUp 14 = .ok (.iload_n 2, 1) := by decide +kernel
theorem dX3_spreadUp_15 : decode cX3_spreadUp 15 = .ok (.iload_n 2, 1) := by decide +kernel
theorem dX3_spreadUp_16 : decode cX3_spreadUp 16 = .ok (.iload_n 3, 1) := by decide +kernel
theorem dX3_spreadUp_17 : decode cX3_spreadUp 17 = .ok (.iand, 1) := by decide +kernel
theorem dX3_spreadUp_18 : decode cX3_spreadUp 18 = .ok (.iload 4, 2) := by decide +kernel
theorem dX3_spreadUp_20 : decode cX3_spreadUp 20 = .ok (.ishl, 1) := by decide +kernel
theorem dX3_spreadUp_21 : decode cX3_spreadUp 21 = .ok (.ior, 1) := by decide +kernel
theorem dX3_spreadUp_22 : decode cX3_spreadUp 22 = .ok (.istore_n 2, 1) := by decide +kernel
theorem dX3_spreadUp_23 : decode cX3_spreadUp 23 = .ok (.iload_n 3, 1) := by decide +kernel
theorem dX3_spreadUp_24 : decode cX3_spreadUp 24 = .ok (.iload_n 3, 1) := by decide +kernel
theorem dX3_spreadUp_25 : decode cX3_spreadUp 25 = .ok (.iload 4, 2) := by decide +kernel
theorem dX3_spreadUp_27 : decode cX3_spreadUp 27 = .ok (.iushr, 1) := by decide +kernel
theorem dX3_spreadUp_28 : decode cX3_spreadUp 28 = .ok (.iand, 1) := by decide +kernel
theorem dX3_spreadUp_29 : decode cX3_spreadUp 29 = .ok (.istore_n 3, 1) := by decide +kernel
theorem dX3_spreadUp_30 : decode cX3_spreadUp 30 = .ok (.iload 4, 2) := by decide +kernel
theorem dX3_spreadUp_32 : decode cX3_spreadUp 32 = .ok (.iconst 2, 1) := by decide +kernel
theorem dX3_spreadUp_33 : decode cX3_spreadUp 33 = .ok (.imul, 1) := by decide +kernel
theorem dX3_spreadUp_34 : decode cX3_spreadUp 34 = .ok (.istore 4, 2) := by decide +kernel
theorem dX3_spreadUp_36 : decode cX3_spreadUp 36 = .ok (.goto (-29), 3) := by decide +kernel
theorem dX3_spreadUp_39 : decode cX3_spreadUp 39 = .ok (.iload_n 2, 1) := by decide +kernel
theorem dX3_spreadUp_40 : decode cX3_spreadUp 40 = .ok (.ireturn, 1) := by decide +kernel
theorem dX3_stretches_0 : decode cX3_stretches 0 = .ok (.iload_n 0, 1) := by decide +kernel
theorem dX3_stretches_1 : decode cX3_stretches 1 = .ok (.istore_n 2, 1) := by decide +kernel
theorem dX3_stretches_2 : decode cX3_stretches 2 = .ok (.iconst 1, 1) := by decide +kernel
theorem dX3_stretches_3 : decode cX3_stretches 3 = .ok (.istore_n 3, 1) := by decide +kernel
theorem dX3_stretches_4 : decode cX3_stretches 4 = .ok (.iload_n 3, 1) := by decide +kernel
theorem dX3_stretches_5 : decode cX3_stretches 5 = .ok (.iload_n 1, 1) := by decide +kernel
theorem dX3_stretches_6 : decode cX3_stretches 6 = .ok (.if_icmp .ge 15, 3) := by decide +kernel
theorem dX3_stretches_9 : decode cX3_stretches 9 = .ok (.iload_n 2, 1) := by decide +kernel
theorem dX3_stretches_10 : decode cX3_stretches 10 = .ok (.iload_n 0, 1) := by decide +kernel
theorem dX3_stretches_11 : decode cX3_stretches 11 = .ok (.iload_n 3, 1) := by decide +kernel
theorem dX3_stretches_12 : decode cX3_stretches 12 = .ok (.iushr, 1) := by decide +kernel
theorem dX3_stretches_13 : decode cX3_stretches 13 = .ok (.iand, 1) := by decide +kernel
theorem dX3_stretches_14 : decode cX3_stretches 14 = .ok (.istore_n 2, 1) := by decide +kernel
theorem dX3_stretches_15 : decode cX3_stretches 15 = .ok (.iinc 3 1, 3) := by decide +kernel
theorem dX3_stretches_18 : decode cX3_stretches 18 = .ok (.goto (-14), 3) := by decide +kernel
theorem dX3_stretches_21 : decode cX3_stretches 21 = .ok (.iload_n 2, 1) := by decide +kernel
theorem dX3_stretches_22 : decode cX3_stretches 22 = .ok (.ireturn, 1) := by decide +kernel
theorem dX3_keptOf_0 : decode cX3_keptOf 0 = .ok (.aload_n 0, 1) := by decide +kernel
theorem dX3_keptOf_1 : decode cX3_keptOf 1 = .ok (.getfield 25, 3) := by decide +kernel
theorem dX3_keptOf_4 : decode cX3_keptOf 4 = .ok (.iload_n 1, 1) := by decide +kernel
theorem dX3_keptOf_5 : decode cX3_keptOf 5 = .ok (.invokevirtual 29, 3) := by decide +kernel
theorem dX3_keptOf_8 : decode cX3_keptOf 8 = .ok (.istore 4, 2) := by decide +kernel
theorem dX3_keptOf_10 : decode cX3_keptOf 10 = .ok (.aload_n 0, 1) := by decide +kernel
theorem dX3_keptOf_11 : decode cX3_keptOf 11 = .ok (.getfield 25, 3) := by decide +kernel
theorem dX3_keptOf_14 : decode cX3_keptOf 14 = .ok (.getfield 35, 3) := by decide +kernel
theorem dX3_keptOf_17 : decode cX3_keptOf 17 = .ok (.iload_n 1, 1) := by decide +kernel
theorem dX3_keptOf_18 : decode cX3_keptOf 18 = .ok (.iaload, 1) := by decide +kernel
theorem dX3_keptOf_19 : decode cX3_keptOf 19 = .ok (.istore 5, 2) := by decide +kernel
theorem dX3_keptOf_21 : decode cX3_keptOf 21 = .ok (.lload_n 2, 1) := by decide +kernel
theorem dX3_keptOf_22 : decode cX3_keptOf 22 = .ok (.iconst 0, 1) := by decide +kernel
theorem dX3_keptOf_23 : decode cX3_keptOf 23 = .ok (.invokestatic 38, 3) := by decide +kernel
theorem dX3_keptOf_26 : decode cX3_keptOf 26 = .ok (.istore 6, 2) := by decide +kernel
theorem dX3_keptOf_28 : decode cX3_keptOf 28 = .ok (.aload_n 0, 1) := by decide +kernel
theorem dX3_keptOf_29 : decode cX3_keptOf 29 = .ok (.getfield 9, 3) := by decide +kernel
theorem dX3_keptOf_32 : decode cX3_keptOf 32 = .ok (.iconst 0, 1) := by decide +kernel
theorem dX3_keptOf_33 : decode cX3_keptOf 33 = .ok (.iconst 1, 1) := by decide +kernel
theorem dX3_keptOf_34 : decode cX3_keptOf 34 = .ok (.iload 6, 2) := by decide +kernel
theorem dX3_keptOf_36 : decode cX3_keptOf 36 = .ok (.invokestatic 42, 3) := by decide +kernel
theorem dX3_keptOf_39 : decode cX3_keptOf 39 = .ok (.iastore, 1) := by decide +kernel
theorem dX3_keptOf_40 : decode cX3_keptOf 40 = .ok (.iconst 0, 1) := by decide +kernel
theorem dX3_keptOf_41 : decode cX3_keptOf 41 = .ok (.istore 7, 2) := by decide +kernel
theorem dX3_keptOf_43 : decode cX3_keptOf 43 = .ok (.iload 7, 2) := by decide +kernel
theorem dX3_keptOf_45 : decode cX3_keptOf 45 = .ok (.iload 5, 2) := by decide +kernel
theorem dX3_keptOf_47 : decode cX3_keptOf 47 = .ok (.if_icmp .ge 111, 3) := by decide +kernel
theorem dX3_keptOf_50 : decode cX3_keptOf 50 = .ok (.aload_n 0, 1) := by decide +kernel
theorem dX3_keptOf_51 : decode cX3_keptOf 51 = .ok (.getfield 25, 3) := by decide +kernel
theorem dX3_keptOf_54 : decode cX3_keptOf 54 = .ok (.iload_n 1, 1) := by decide +kernel
theorem dX3_keptOf_55 : decode cX3_keptOf 55 = .ok (.iload 7, 2) := by decide +kernel
theorem dX3_keptOf_57 : decode cX3_keptOf 57 = .ok (.invokevirtual 46, 3) := by decide +kernel
theorem dX3_keptOf_60 : decode cX3_keptOf 60 = .ok (.istore 8, 2) := by decide +kernel
theorem dX3_keptOf_62 : decode cX3_keptOf 62 = .ok (.aload_n 0, 1) := by decide +kernel
theorem dX3_keptOf_63 : decode cX3_keptOf 63 = .ok (.getfield 25, 3) := by decide +kernel
theorem dX3_keptOf_66 : decode cX3_keptOf 66 = .ok (.iload_n 1, 1) := by decide +kernel
theorem dX3_keptOf_67 : decode cX3_keptOf 67 = .ok (.iload 7, 2) := by decide +kernel
theorem dX3_keptOf_69 : decode cX3_keptOf 69 = .ok (.invokevirtual 49, 3) := by decide +kernel
theorem dX3_keptOf_72 : decode cX3_keptOf 72 = .ok (.ifCond .eq 18, 3) := by decide +kernel
theorem dX3_keptOf_75 : decode cX3_keptOf 75 = .ok (.aload_n 0, 1) := by decide +kernel
theorem dX3_keptOf_76 : decode cX3_keptOf 76 = .ok (.getfield 9, 3) := by decide +kernel
theorem dX3_keptOf_79 : decode cX3_keptOf 79 = .ok (.iload 7, 2) := by decide +kernel
theorem dX3_keptOf_81 : decode cX3_keptOf 81 = .ok (.iaload, 1) := by decide +kernel
theorem dX3_keptOf_82 : decode cX3_keptOf 82 = .ok (.iload 6, 2) := by decide +kernel
theorem dX3_keptOf_84 : decode cX3_keptOf 84 = .ok (.iand, 1) := by decide +kernel
theorem dX3_keptOf_85 : decode cX3_keptOf 85 = .ok (.iconst 1, 1) := by decide +kernel
theorem dX3_keptOf_86 : decode cX3_keptOf 86 = .ok (.ishl, 1) := by decide +kernel
theorem dX3_keptOf_87 : decode cX3_keptOf 87 = .ok (.goto 10, 3) := by decide +kernel
theorem dX3_keptOf_90 : decode cX3_keptOf 90 = .ok (.aload_n 0, 1) := by decide +kernel
theorem dX3_keptOf_91 : decode cX3_keptOf 91 = .ok (.getfield 9, 3) := by decide +kernel
theorem dX3_keptOf_94 : decode cX3_keptOf 94 = .ok (.iload 7, 2) := by decide +kernel
theorem dX3_keptOf_96 : decode cX3_keptOf 96 = .ok (.iaload, 1) := by decide +kernel
theorem dX3_keptOf_97 : decode cX3_keptOf 97 = .ok (.istore 9, 2) := by decide +kernel
theorem dX3_keptOf_99 : decode cX3_keptOf 99 = .ok (.aload_n 0, 1) := by decide +kernel
theorem dX3_keptOf_100 : decode cX3_keptOf 100 = .ok (.getfield 15, 3) := by decide +kernel
theorem dX3_keptOf_103 : decode cX3_keptOf 103 = .ok (.iload 7, 2) := by decide +kernel
theorem dX3_keptOf_105 : decode cX3_keptOf 105 = .ok (.iload 9, 2) := by decide +kernel
theorem dX3_keptOf_107 : decode cX3_keptOf 107 = .ok (.lload_n 2, 1) := by decide +kernel
theorem dX3_keptOf_108 : decode cX3_keptOf 108 = .ok (.aload_n 0, 1) := by decide +kernel
theorem dX3_keptOf_109 : decode cX3_keptOf 109 = .ok (.getfield 25, 3) := by decide +kernel
theorem dX3_keptOf_112 : decode cX3_keptOf 112 = .ok (.iload_n 1, 1) := by decide +kernel
theorem dX3_keptOf_113 : decode cX3_keptOf 113 = .ok (.iload 7, 2) := by decide +kernel
theorem dX3_keptOf_115 : decode cX3_keptOf 115 = .ok (.invokevirtual 53, 3) := by decide +kernel
theorem dX3_keptOf_118 : decode cX3_keptOf 118 = .ok (.invokestatic 38, 3) := by decide +kernel
theorem dX3_keptOf_121 : decode cX3_keptOf 121 = .ok (.iload 8, 2) := by decide +kernel
theorem dX3_keptOf_123 : decode cX3_keptOf 123 = .ok (.invokestatic 56, 3) := by decide +kernel
theorem dX3_keptOf_126 : decode cX3_keptOf 126 = .ok (.iand, 1) := by decide +kernel
theorem dX3_keptOf_127 : decode cX3_keptOf 127 = .ok (.iastore, 1) := by decide +kernel
theorem dX3_keptOf_128 : decode cX3_keptOf 128 = .ok (.aload_n 0, 1) := by decide +kernel
theorem dX3_keptOf_129 : decode cX3_keptOf 129 = .ok (.getfield 9, 3) := by decide +kernel
theorem dX3_keptOf_132 : decode cX3_keptOf 132 = .ok (.iload 7, 2) := by decide +kernel
theorem dX3_keptOf_134 : decode cX3_keptOf 134 = .ok (.iconst 1, 1) := by decide +kernel
theorem dX3_keptOf_135 : decode cX3_keptOf 135 = .ok (.iadd, 1) := by decide +kernel
theorem dX3_keptOf_136 : decode cX3_keptOf 136 = .ok (.aload_n 0, 1) := by decide +kernel
theorem dX3_keptOf_137 : decode cX3_keptOf 137 = .ok (.getfield 15, 3) := by decide +kernel
theorem dX3_keptOf_140 : decode cX3_keptOf 140 = .ok (.iload 7, 2) := by decide +kernel
theorem dX3_keptOf_142 : decode cX3_keptOf 142 = .ok (.iaload, 1) := by decide +kernel
theorem dX3_keptOf_143 : decode cX3_keptOf 143 = .ok (.iload 8, 2) := by decide +kernel
theorem dX3_keptOf_145 : decode cX3_keptOf 145 = .ok (.ishl, 1) := by decide +kernel
theorem dX3_keptOf_146 : decode cX3_keptOf 146 = .ok (.iload 6, 2) := by decide +kernel
theorem dX3_keptOf_148 : decode cX3_keptOf 148 = .ok (.invokestatic 42, 3) := by decide +kernel
theorem dX3_keptOf_151 : decode cX3_keptOf 151 = .ok (.iastore, 1) := by decide +kernel
theorem dX3_keptOf_152 : decode cX3_keptOf 152 = .ok (.iinc 7 1, 3) := by decide +kernel
theorem dX3_keptOf_155 : decode cX3_keptOf 155 = .ok (.goto (-112), 3) := by decide +kernel
theorem dX3_keptOf_158 : decode cX3_keptOf 158 = .ok (.aload_n 0, 1) := by decide +kernel
theorem dX3_keptOf_159 : decode cX3_keptOf 159 = .ok (.getfield 9, 3) := by decide +kernel
theorem dX3_keptOf_162 : decode cX3_keptOf 162 = .ok (.iload 5, 2) := by decide +kernel
theorem dX3_keptOf_164 : decode cX3_keptOf 164 = .ok (.iaload, 1) := by decide +kernel
theorem dX3_keptOf_165 : decode cX3_keptOf 165 = .ok (.iload 4, 2) := by decide +kernel
theorem dX3_keptOf_167 : decode cX3_keptOf 167 = .ok (.iushr, 1) := by decide +kernel
theorem dX3_keptOf_168 : decode cX3_keptOf 168 = .ok (.iconst 1, 1) := by decide +kernel
theorem dX3_keptOf_169 : decode cX3_keptOf 169 = .ok (.iand, 1) := by decide +kernel
theorem dX3_keptOf_170 : decode cX3_keptOf 170 = .ok (.ifCond .ne 5, 3) := by decide +kernel
theorem dX3_keptOf_173 : decode cX3_keptOf 173 = .ok (.lconst 0, 1) := by decide +kernel
theorem dX3_keptOf_174 : decode cX3_keptOf 174 = .ok (.lreturn, 1) := by decide +kernel
theorem dX3_keptOf_175 : decode cX3_keptOf 175 = .ok (.iconst 1, 1) := by decide +kernel
theorem dX3_keptOf_176 : decode cX3_keptOf 176 = .ok (.iload 4, 2) := by decide +kernel
theorem dX3_keptOf_178 : decode cX3_keptOf 178 = .ok (.ishl, 1) := by decide +kernel
theorem dX3_keptOf_179 : decode cX3_keptOf 179 = .ok (.iload 6, 2) := by decide +kernel
theorem dX3_keptOf_181 : decode cX3_keptOf 181 = .ok (.invokestatic 59, 3) := by decide +kernel
theorem dX3_keptOf_184 : decode cX3_keptOf 184 = .ok (.istore 7, 2) := by decide +kernel
theorem dX3_keptOf_186 : decode cX3_keptOf 186 = .ok (.aload_n 0, 1) := by decide +kernel
theorem dX3_keptOf_187 : decode cX3_keptOf 187 = .ok (.getfield 9, 3) := by decide +kernel
theorem dX3_keptOf_190 : decode cX3_keptOf 190 = .ok (.iload 5, 2) := by decide +kernel
theorem dX3_keptOf_192 : decode cX3_keptOf 192 = .ok (.iaload, 1) := by decide +kernel
theorem dX3_keptOf_193 : decode cX3_keptOf 193 = .ok (.iload 7, 2) := by decide +kernel
theorem dX3_keptOf_195 : decode cX3_keptOf 195 = .ok (.iconst 1, 1) := by decide +kernel
theorem dX3_keptOf_196 : decode cX3_keptOf 196 = .ok (.iushr, 1) := by decide +kernel
theorem dX3_keptOf_197 : decode cX3_keptOf 197 = .ok (.iand, 1) := by decide +kernel
theorem dX3_keptOf_198 : decode cX3_keptOf 198 = .ok (.iload 6, 2) := by decide +kernel
theorem dX3_keptOf_200 : decode cX3_keptOf 200 = .ok (.iand, 1) := by decide +kernel
theorem dX3_keptOf_201 : decode cX3_keptOf 201 = .ok (.i2l, 1) := by decide +kernel
theorem dX3_keptOf_202 : decode cX3_keptOf 202 = .ok (.lstore 8, 2) := by decide +kernel
theorem dX3_keptOf_204 : decode cX3_keptOf 204 = .ok (.iload 5, 2) := by decide +kernel
theorem dX3_keptOf_206 : decode cX3_keptOf 206 = .ok (.iconst 1, 1) := by decide +kernel
theorem dX3_keptOf_207 : decode cX3_keptOf 207 = .ok (.isub, 1) := by decide +kernel
theorem dX3_keptOf_208 : decode cX3_keptOf 208 = .ok (.istore 10, 2) := by decide +kernel
theorem dX3_keptOf_210 : decode cX3_keptOf 210 = .ok (.iload 10, 2) := by decide +kernel
theorem dX3_keptOf_212 : decode cX3_keptOf 212 = .ok (.ifCond .lt 122, 3) := by decide +kernel
theorem dX3_keptOf_215 : decode cX3_keptOf 215 = .ok (.aload_n 0, 1) := by decide +kernel
theorem dX3_keptOf_216 : decode cX3_keptOf 216 = .ok (.getfield 25, 3) := by decide +kernel
theorem dX3_keptOf_219 : decode cX3_keptOf 219 = .ok (.iload_n 1, 1) := by decide +kernel
theorem dX3_keptOf_220 : decode cX3_keptOf 220 = .ok (.iload 10, 2) := by decide +kernel
theorem dX3_keptOf_222 : decode cX3_keptOf 222 = .ok (.invokevirtual 46, 3) := by decide +kernel
theorem dX3_keptOf_225 : decode cX3_keptOf 225 = .ok (.istore 11, 2) := by decide +kernel
theorem dX3_keptOf_227 : decode cX3_keptOf 227 = .ok (.aload_n 0, 1) := by decide +kernel
theorem dX3_keptOf_228 : decode cX3_keptOf 228 = .ok (.getfield 25, 3) := by decide +kernel
theorem dX3_keptOf_231 : decode cX3_keptOf 231 = .ok (.iload_n 1, 1) := by decide +kernel
theorem dX3_keptOf_232 : decode cX3_keptOf 232 = .ok (.iload 10, 2) := by decide +kernel
theorem dX3_keptOf_234 : decode cX3_keptOf 234 = .ok (.iconst 1, 1) := by decide +kernel
theorem dX3_keptOf_235 : decode cX3_keptOf 235 = .ok (.iadd, 1) := by decide +kernel
theorem dX3_keptOf_236 : decode cX3_keptOf 236 = .ok (.invokevirtual 49, 3) := by decide +kernel
theorem dX3_keptOf_239 : decode cX3_keptOf 239 = .ok (.ifCond .eq 13, 3) := by decide +kernel
theorem dX3_keptOf_242 : decode cX3_keptOf 242 = .ok (.iload 7, 2) := by decide +kernel
theorem dX3_keptOf_244 : decode cX3_keptOf 244 = .ok (.iconst 1, 1) := by decide +kernel
theorem dX3_keptOf_245 : decode cX3_keptOf 245 = .ok (.iushr, 1) := by decide +kernel
theorem dX3_keptOf_246 : decode cX3_keptOf 246 = .ok (.iload 6, 2) := by decide +kernel
theorem dX3_keptOf_248 : decode cX3_keptOf 248 = .ok (.iand, 1) := by decide +kernel
theorem dX3_keptOf_249 : decode cX3_keptOf 249 = .ok (.goto 5, 3) := by decide +kernel
theorem dX3_keptOf_252 : decode cX3_keptOf 252 = .ok (.iload 7, 2) := by decide +kernel
theorem dX3_keptOf_254 : decode cX3_keptOf 254 = .ok (.istore 12, 2) := by decide +kernel
theorem dX3_keptOf_256 : decode cX3_keptOf 256 = .ok (.aload_n 0, 1) := by decide +kernel
theorem dX3_keptOf_257 : decode cX3_keptOf 257 = .ok (.getfield 15, 3) := by decide +kernel
theorem dX3_keptOf_260 : decode cX3_keptOf 260 = .ok (.iload 10, 2) := by decide +kernel
theorem dX3_keptOf_262 : decode cX3_keptOf 262 = .ok (.iaload, 1) := by decide +kernel
theorem dX3_keptOf_263 : decode cX3_keptOf 263 = .ok (.iload 12, 2) := by decide +kernel
theorem dX3_keptOf_265 : decode cX3_keptOf 265 = .ok (.iload 11, 2) := by decide +kernel
theorem dX3_keptOf_267 : decode cX3_keptOf 267 = .ok (.iushr, 1) := by decide +kernel
theorem dX3_keptOf_268 : decode cX3_keptOf 268 = .ok (.iand, 1) := by decide +kernel
theorem dX3_keptOf_269 : decode cX3_keptOf 269 = .ok (.istore 13, 2) := by decide +kernel
theorem dX3_keptOf_271 : decode cX3_keptOf 271 = .ok (.lload 8, 2) := by decide +kernel
theorem dX3_keptOf_273 : decode cX3_keptOf 273 = .ok (.iload 13, 2) := by decide +kernel
theorem dX3_keptOf_275 : decode cX3_keptOf 275 = .ok (.iload 11, 2) := by decide +kernel
theorem dX3_keptOf_277 : decode cX3_keptOf 277 = .ok (.invokestatic 62, 3) := by decide +kernel
theorem dX3_keptOf_280 : decode cX3_keptOf 280 = .ok (.i2l, 1) := by decide +kernel
theorem dX3_keptOf_281 : decode cX3_keptOf 281 = .ok (.bipush 12, 2) := by decide +kernel
theorem dX3_keptOf_283 : decode cX3_keptOf 283 = .ok (.aload_n 0, 1) := by decide +kernel
theorem dX3_keptOf_284 : decode cX3_keptOf 284 = .ok (.getfield 25, 3) := by decide +kernel
theorem dX3_keptOf_287 : decode cX3_keptOf 287 = .ok (.iload_n 1, 1) := by decide +kernel
theorem dX3_keptOf_288 : decode cX3_keptOf 288 = .ok (.iload 10, 2) := by decide +kernel
theorem dX3_keptOf_290 : decode cX3_keptOf 290 = .ok (.invokevirtual 53, 3) := by decide +kernel
theorem dX3_keptOf_293 : decode cX3_keptOf 293 = .ok (.imul, 1) := by decide +kernel
theorem dX3_keptOf_294 : decode cX3_keptOf 294 = .ok (.lshl, 1) := by decide +kernel
theorem dX3_keptOf_295 : decode cX3_keptOf 295 = .ok (.lor, 1) := by decide +kernel
theorem dX3_keptOf_296 : decode cX3_keptOf 296 = .ok (.lstore 8, 2) := by decide +kernel
theorem dX3_keptOf_298 : decode cX3_keptOf 298 = .ok (.iload 13, 2) := by decide +kernel
theorem dX3_keptOf_300 : decode cX3_keptOf 300 = .ok (.iload 6, 2) := by decide +kernel
theorem dX3_keptOf_302 : decode cX3_keptOf 302 = .ok (.invokestatic 59, 3) := by decide +kernel
theorem dX3_keptOf_305 : decode cX3_keptOf 305 = .ok (.istore 7, 2) := by decide +kernel
theorem dX3_keptOf_307 : decode cX3_keptOf 307 = .ok (.lload 8, 2) := by decide +kernel
theorem dX3_keptOf_309 : decode cX3_keptOf 309 = .ok (.aload_n 0, 1) := by decide +kernel
theorem dX3_keptOf_310 : decode cX3_keptOf 310 = .ok (.getfield 9, 3) := by decide +kernel
theorem dX3_keptOf_313 : decode cX3_keptOf 313 = .ok (.iload 10, 2) := by decide +kernel
theorem dX3_keptOf_315 : decode cX3_keptOf 315 = .ok (.iaload, 1) := by decide +kernel
theorem dX3_keptOf_316 : decode cX3_keptOf 316 = .ok (.iload 7, 2) := by decide +kernel
theorem dX3_keptOf_318 : decode cX3_keptOf 318 = .ok (.iconst 1, 1) := by decide +kernel
theorem dX3_keptOf_319 : decode cX3_keptOf 319 = .ok (.iushr, 1) := by decide +kernel
theorem dX3_keptOf_320 : decode cX3_keptOf 320 = .ok (.iand, 1) := by decide +kernel
theorem dX3_keptOf_321 : decode cX3_keptOf 321 = .ok (.iload 6, 2) := by decide +kernel
theorem dX3_keptOf_323 : decode cX3_keptOf 323 = .ok (.iand, 1) := by decide +kernel
theorem dX3_keptOf_324 : decode cX3_keptOf 324 = .ok (.i2l, 1) := by decide +kernel
theorem dX3_keptOf_325 : decode cX3_keptOf 325 = .ok (.lor, 1) := by decide +kernel
theorem dX3_keptOf_326 : decode cX3_keptOf 326 = .ok (.lstore 8, 2) := by decide +kernel
theorem dX3_keptOf_328 : decode cX3_keptOf 328 = .ok (.iinc 10 (-1), 3) := by decide +kernel
theorem dX3_keptOf_331 : decode cX3_keptOf 331 = .ok (.goto (-121), 3) := by decide +kernel
theorem dX3_keptOf_334 : decode cX3_keptOf 334 = .ok (.lload 8, 2) := by decide +kernel
theorem dX3_keptOf_336 : decode cX3_keptOf 336 = .ok (.lreturn, 1) := by decide +kernel
theorem dX3_countRun_0 : decode cX3_countRun 0 = .ok (.lload_n 3, 1) := by decide +kernel
theorem dX3_countRun_1 : decode cX3_countRun 1 = .ok (.iconst 0, 1) := by decide +kernel
theorem dX3_countRun_2 : decode cX3_countRun 2 = .ok (.invokestatic 38, 3) := by decide +kernel
theorem dX3_countRun_5 : decode cX3_countRun 5 = .ok (.istore 5, 2) := by decide +kernel
theorem dX3_countRun_7 : decode cX3_countRun 7 = .ok (.aload_n 0, 1) := by decide +kernel
theorem dX3_countRun_8 : decode cX3_countRun 8 = .ok (.getfield 25, 3) := by decide +kernel
theorem dX3_countRun_11 : decode cX3_countRun 11 = .ok (.iload_n 1, 1) := by decide +kernel
theorem dX3_countRun_12 : decode cX3_countRun 12 = .ok (.iload_n 2, 1) := by decide +kernel
theorem dX3_countRun_13 : decode cX3_countRun 13 = .ok (.invokevirtual 46, 3) := by decide +kernel
theorem dX3_countRun_16 : decode cX3_countRun 16 = .ok (.istore 6, 2) := by decide +kernel
theorem dX3_countRun_18 : decode cX3_countRun 18 = .ok (.aload_n 0, 1) := by decide +kernel
theorem dX3_countRun_19 : decode cX3_countRun 19 = .ok (.getfield 25, 3) := by decide +kernel
theorem dX3_countRun_22 : decode cX3_countRun 22 = .ok (.iload_n 1, 1) := by decide +kernel
theorem dX3_countRun_23 : decode cX3_countRun 23 = .ok (.iload_n 2, 1) := by decide +kernel
theorem dX3_countRun_24 : decode cX3_countRun 24 = .ok (.invokevirtual 49, 3) := by decide +kernel
theorem dX3_countRun_27 : decode cX3_countRun 27 = .ok (.ifCond .eq 7, 3) := by decide +kernel
theorem dX3_countRun_30 : decode cX3_countRun 30 = .ok (.iconst 1, 1) := by decide +kernel
theorem dX3_countRun_31 : decode cX3_countRun 31 = .ok (.goto 4, 3) := by decide +kernel
theorem dX3_countRun_34 : decode cX3_countRun 34 = .ok (.iconst 0, 1) := by decide +kernel
theorem dX3_countRun_35 : decode cX3_countRun 35 = .ok (.istore 7, 2) := by decide +kernel
theorem dX3_countRun_37 : decode cX3_countRun 37 = .ok (.lload_n 3, 1) := by decide +kernel
theorem dX3_countRun_38 : decode cX3_countRun 38 = .ok (.aload_n 0, 1) := by decide +kernel
theorem dX3_countRun_39 : decode cX3_countRun 39 = .ok (.getfield 25, 3) := by decide +kernel
theorem dX3_countRun_42 : decode cX3_countRun 42 = .ok (.iload_n 1, 1) := by decide +kernel
theorem dX3_countRun_43 : decode cX3_countRun 43 = .ok (.iload_n 2, 1) := by decide +kernel
theorem dX3_countRun_44 : decode cX3_countRun 44 = .ok (.invokevirtual 53, 3) := by decide +kernel
theorem dX3_countRun_47 : decode cX3_countRun 47 = .ok (.invokestatic 38, 3) := by decide +kernel
theorem dX3_countRun_50 : decode cX3_countRun 50 = .ok (.iload 6, 2) := by decide +kernel
theorem dX3_countRun_52 : decode cX3_countRun 52 = .ok (.invokestatic 56, 3) := by decide +kernel
theorem dX3_countRun_55 : decode cX3_countRun 55 = .ok (.istore 8, 2) := by decide +kernel
theorem dX3_countRun_57 : decode cX3_countRun 57 = .ok (.iload 8, 2) := by decide +kernel
theorem dX3_countRun_59 : decode cX3_countRun 59 = .ok (.iload 7, 2) := by decide +kernel
theorem dX3_countRun_61 : decode cX3_countRun 61 = .ok (.ifCond .ne 8, 3) := by decide +kernel
theorem dX3_countRun_64 : decode cX3_countRun 64 = .ok (.iload 8, 2) := by decide +kernel
theorem dX3_countRun_66 : decode cX3_countRun 66 = .ok (.goto 7, 3) := by decide +kernel
theorem dX3_countRun_69 : decode cX3_countRun 69 = .ok (.iload 5, 2) := by decide +kernel
theorem dX3_countRun_71 : decode cX3_countRun 71 = .ok (.iconst 1, 1) := by decide +kernel
theorem dX3_countRun_72 : decode cX3_countRun 72 = .ok (.ishl, 1) := by decide +kernel
theorem dX3_countRun_73 : decode cX3_countRun 73 = .ok (.iand, 1) := by decide +kernel
theorem dX3_countRun_74 : decode cX3_countRun 74 = .ok (.istore 8, 2) := by decide +kernel
theorem dX3_countRun_76 : decode cX3_countRun 76 = .ok (.iconst 0, 1) := by decide +kernel
theorem dX3_countRun_77 : decode cX3_countRun 77 = .ok (.istore 9, 2) := by decide +kernel
theorem dX3_countRun_79 : decode cX3_countRun 79 = .ok (.iload 9, 2) := by decide +kernel
theorem dX3_countRun_81 : decode cX3_countRun 81 = .ok (.aload_n 0, 1) := by decide +kernel
theorem dX3_countRun_82 : decode cX3_countRun 82 = .ok (.getfield 25, 3) := by decide +kernel
theorem dX3_countRun_85 : decode cX3_countRun 85 = .ok (.iload_n 1, 1) := by decide +kernel
theorem dX3_countRun_86 : decode cX3_countRun 86 = .ok (.invokevirtual 29, 3) := by decide +kernel
theorem dX3_countRun_89 : decode cX3_countRun 89 = .ok (.if_icmp .gt 92, 3) := by decide +kernel
theorem dX3_countRun_92 : decode cX3_countRun 92 = .ok (.aload_n 0, 1) := by decide +kernel
theorem dX3_countRun_93 : decode cX3_countRun 93 = .ok (.getfield 22, 3) := by decide +kernel
theorem dX3_countRun_96 : decode cX3_countRun 96 = .ok (.iload 9, 2) := by decide +kernel
theorem dX3_countRun_98 : decode cX3_countRun 98 = .ok (.iload 9, 2) := by decide +kernel
theorem dX3_countRun_100 : decode cX3_countRun 100 = .ok (.ifCond .le 28, 3) := by decide +kernel
theorem dX3_countRun_103 : decode cX3_countRun 103 = .ok (.iload 5, 2) := by decide +kernel
theorem dX3_countRun_105 : decode cX3_countRun 105 = .ok (.iload 9, 2) := by decide +kernel
theorem dX3_countRun_107 : decode cX3_countRun 107 = .ok (.iconst 1, 1) := by decide +kernel
theorem dX3_countRun_108 : decode cX3_countRun 108 = .ok (.isub, 1) := by decide +kernel
theorem dX3_countRun_109 : decode cX3_countRun 109 = .ok (.iushr, 1) := by decide +kernel
theorem dX3_countRun_110 : decode cX3_countRun 110 = .ok (.iconst 1, 1) := by decide +kernel
theorem dX3_countRun_111 : decode cX3_countRun 111 = .ok (.iand, 1) := by decide +kernel
theorem dX3_countRun_112 : decode cX3_countRun 112 = .ok (.iconst 1, 1) := by decide +kernel
theorem dX3_countRun_113 : decode cX3_countRun 113 = .ok (.if_icmp .ne 15, 3) := by decide +kernel
theorem dX3_countRun_116 : decode cX3_countRun 116 = .ok (.aload_n 0, 1) := by decide +kernel
theorem dX3_countRun_117 : decode cX3_countRun 117 = .ok (.getfield 22, 3) := by decide +kernel
theorem dX3_countRun_120 : decode cX3_countRun 120 = .ok (.iload 9, 2) := by decide +kernel
theorem dX3_countRun_122 : decode cX3_countRun 122 = .ok (.iconst 1, 1) := by decide +kernel
theorem dX3_countRun_123 : decode cX3_countRun 123 = .ok (.isub, 1) := by decide +kernel
theorem dX3_countRun_124 : decode cX3_countRun 124 = .ok (.laload, 1) := by decide +kernel
theorem dX3_countRun_125 : decode cX3_countRun 125 = .ok (.goto 4, 3) := by decide +kernel
theorem dX3_countRun_128 : decode cX3_countRun 128 = .ok (.lconst 0, 1) := by decide +kernel
theorem dX3_countRun_129 : decode cX3_countRun 129 = .ok (.lastore, 1) := by decide +kernel
theorem dX3_countRun_130 : decode cX3_countRun 130 = .ok (.iload 9, 2) := by decide +kernel
theorem dX3_countRun_132 : decode cX3_countRun 132 = .ok (.iload 6, 2) := by decide +kernel
theorem dX3_countRun_134 : decode cX3_countRun 134 = .ok (.isub, 1) := by decide +kernel
theorem dX3_countRun_135 : decode cX3_countRun 135 = .ok (.istore 10, 2) := by decide +kernel
theorem dX3_countRun_137 : decode cX3_countRun 137 = .ok (.iload 10, 2) := by decide +kernel
theorem dX3_countRun_139 : decode cX3_countRun 139 = .ok (.iload 7, 2) := by decide +kernel
theorem dX3_countRun_141 : decode cX3_countRun 141 = .ok (.if_icmp .lt 34, 3) := by decide +kernel
theorem dX3_countRun_144 : decode cX3_countRun 144 = .ok (.iload 8, 2) := by decide +kernel
theorem dX3_countRun_146 : decode cX3_countRun 146 = .ok (.iload 10, 2) := by decide +kernel
theorem dX3_countRun_148 : decode cX3_countRun 148 = .ok (.iushr, 1) := by decide +kernel
theorem dX3_countRun_149 : decode cX3_countRun 149 = .ok (.iconst 1, 1) := by decide +kernel
theorem dX3_countRun_150 : decode cX3_countRun 150 = .ok (.iand, 1) := by decide +kernel
theorem dX3_countRun_151 : decode cX3_countRun 151 = .ok (.iconst 1, 1) := by decide +kernel
theorem dX3_countRun_152 : decode cX3_countRun 152 = .ok (.if_icmp .ne 23, 3) := by decide +kernel
theorem dX3_countRun_155 : decode cX3_countRun 155 = .ok (.aload_n 0, 1) := by decide +kernel
theorem dX3_countRun_156 : decode cX3_countRun 156 = .ok (.getfield 22, 3) := by decide +kernel
theorem dX3_countRun_159 : decode cX3_countRun 159 = .ok (.iload 9, 2) := by decide +kernel
theorem dX3_countRun_161 : decode cX3_countRun 161 = .ok (.dup2, 1) := by decide +kernel
theorem dX3_countRun_162 : decode cX3_countRun 162 = .ok (.laload, 1) := by decide +kernel
theorem dX3_countRun_163 : decode cX3_countRun 163 = .ok (.aload_n 0, 1) := by decide +kernel
theorem dX3_countRun_164 : decode cX3_countRun 164 = .ok (.getfield 18, 3) := by decide +kernel
theorem dX3_countRun_167 : decode cX3_countRun 167 = .ok (.iload 10, 2) := by decide +kernel
theorem dX3_countRun_169 : decode cX3_countRun 169 = .ok (.iload 7, 2) := by decide +kernel
theorem dX3_countRun_171 : decode cX3_countRun 171 = .ok (.isub, 1) := by decide +kernel
theorem dX3_countRun_172 : decode cX3_countRun 172 = .ok (.laload, 1) := by decide +kernel
theorem dX3_countRun_173 : decode cX3_countRun 173 = .ok (.ladd, 1) := by decide +kernel
theorem dX3_countRun_174 : decode cX3_countRun 174 = .ok (.lastore, 1) := by decide +kernel
theorem dX3_countRun_175 : decode cX3_countRun 175 = .ok (.iinc 9 1, 3) := by decide +kernel
theorem dX3_countRun_178 : decode cX3_countRun 178 = .ok (.goto (-99), 3) := by decide +kernel
theorem dX3_countRun_181 : decode cX3_countRun 181 = .ok (.return_, 1) := by decide +kernel
theorem dX3_countWays_0 : decode cX3_countWays 0 = .ok (.aload_n 0, 1) := by decide +kernel
theorem dX3_countWays_1 : decode cX3_countWays 1 = .ok (.getfield 25, 3) := by decide +kernel
theorem dX3_countWays_4 : decode cX3_countWays 4 = .ok (.iload_n 1, 1) := by decide +kernel
theorem dX3_countWays_5 : decode cX3_countWays 5 = .ok (.invokevirtual 29, 3) := by decide +kernel
theorem dX3_countWays_8 : decode cX3_countWays 8 = .ok (.istore 4, 2) := by decide +kernel
theorem dX3_countWays_10 : decode cX3_countWays 10 = .ok (.lload_n 2, 1) := by decide +kernel
theorem dX3_countWays_11 : decode cX3_countWays 11 = .ok (.iconst 0, 1) := by decide +kernel
theorem dX3_countWays_12 : decode cX3_countWays 12 = .ok (.invokestatic 38, 3) := by decide +kernel
theorem dX3_countWays_15 : decode cX3_countWays 15 = .ok (.istore 5, 2) := by decide +kernel
theorem dX3_countWays_17 : decode cX3_countWays 17 = .ok (.aload_n 0, 1) := by decide +kernel
theorem dX3_countWays_18 : decode cX3_countWays 18 = .ok (.getfield 18, 3) := by decide +kernel
theorem dX3_countWays_21 : decode cX3_countWays 21 = .ok (.iconst 0, 1) := by decide +kernel
theorem dX3_countWays_22 : decode cX3_countWays 22 = .ok (.lconst 1, 1) := by decide +kernel
theorem dX3_countWays_23 : decode cX3_countWays 23 = .ok (.lastore, 1) := by decide +kernel
theorem dX3_countWays_24 : decode cX3_countWays 24 = .ok (.iconst 1, 1) := by decide +kernel
theorem dX3_countWays_25 : decode cX3_countWays 25 = .ok (.istore 6, 2) := by decide +kernel
theorem dX3_countWays_27 : decode cX3_countWays 27 = .ok (.iload 6, 2) := by decide +kernel
theorem dX3_countWays_29 : decode cX3_countWays 29 = .ok (.iload 4, 2) := by decide +kernel
theorem dX3_countWays_31 : decode cX3_countWays 31 = .ok (.if_icmp .gt 41, 3) := by decide +kernel
theorem dX3_countWays_34 : decode cX3_countWays 34 = .ok (.aload_n 0, 1) := by decide +kernel
theorem dX3_countWays_35 : decode cX3_countWays 35 = .ok (.getfield 18, 3) := by decide +kernel
theorem dX3_countWays_38 : decode cX3_countWays 38 = .ok (.iload 6, 2) := by decide +kernel
theorem dX3_countWays_40 : decode cX3_countWays 40 = .ok (.iload 5, 2) := by decide +kernel
theorem dX3_countWays_42 : decode cX3_countWays 42 = .ok (.iload 6, 2) := by decide +kernel
theorem dX3_countWays_44 : decode cX3_countWays 44 = .ok (.iconst 1, 1) := by decide +kernel
theorem dX3_countWays_45 : decode cX3_countWays 45 = .ok (.isub, 1) := by decide +kernel
theorem dX3_countWays_46 : decode cX3_countWays 46 = .ok (.iushr, 1) := by decide +kernel
theorem dX3_countWays_47 : decode cX3_countWays 47 = .ok (.iconst 1, 1) := by decide +kernel
theorem dX3_countWays_48 : decode cX3_countWays 48 = .ok (.iand, 1) := by decide +kernel
theorem dX3_countWays_49 : decode cX3_countWays 49 = .ok (.ifCond .ne 7, 3) := by decide +kernel
theorem dX3_countWays_52 : decode cX3_countWays 52 = .ok (.lconst 0, 1) := by decide +kernel
theorem dX3_countWays_53 : decode cX3_countWays 53 = .ok (.goto 12, 3) := by decide +kernel
theorem dX3_countWays_56 : decode cX3_countWays 56 = .ok (.aload_n 0, 1) := by decide +kernel
theorem dX3_countWays_57 : decode cX3_countWays 57 = .ok (.getfield 18, 3) := by decide +kernel
theorem dX3_countWays_60 : decode cX3_countWays 60 = .ok (.iload 6, 2) := by decide +kernel
theorem dX3_countWays_62 : decode cX3_countWays 62 = .ok (.iconst 1, 1) := by decide +kernel
theorem dX3_countWays_63 : decode cX3_countWays 63 = .ok (.isub, 1) := by decide +kernel
theorem dX3_countWays_64 : decode cX3_countWays 64 = .ok (.laload, 1) := by decide +kernel
theorem dX3_countWays_65 : decode cX3_countWays 65 = .ok (.lastore, 1) := by decide +kernel
theorem dX3_countWays_66 : decode cX3_countWays 66 = .ok (.iinc 6 1, 3) := by decide +kernel
theorem dX3_countWays_69 : decode cX3_countWays 69 = .ok (.goto (-42), 3) := by decide +kernel
theorem dX3_countWays_72 : decode cX3_countWays 72 = .ok (.iconst 0, 1) := by decide +kernel
theorem dX3_countWays_73 : decode cX3_countWays 73 = .ok (.istore 6, 2) := by decide +kernel
theorem dX3_countWays_75 : decode cX3_countWays 75 = .ok (.iload 6, 2) := by decide +kernel
theorem dX3_countWays_77 : decode cX3_countWays 77 = .ok (.aload_n 0, 1) := by decide +kernel
theorem dX3_countWays_78 : decode cX3_countWays 78 = .ok (.getfield 25, 3) := by decide +kernel
theorem dX3_countWays_81 : decode cX3_countWays 81 = .ok (.getfield 35, 3) := by decide +kernel
theorem dX3_countWays_84 : decode cX3_countWays 84 = .ok (.iload_n 1, 1) := by decide +kernel
theorem dX3_countWays_85 : decode cX3_countWays 85 = .ok (.iaload, 1) := by decide +kernel
theorem dX3_countWays_86 : decode cX3_countWays 86 = .ok (.if_icmp .ge 34, 3) := by decide +kernel
theorem dX3_countWays_89 : decode cX3_countWays 89 = .ok (.aload_n 0, 1) := by decide +kernel
theorem dX3_countWays_90 : decode cX3_countWays 90 = .ok (.iload_n 1, 1) := by decide +kernel
theorem dX3_countWays_91 : decode cX3_countWays 91 = .ok (.iload 6, 2) := by decide +kernel
theorem dX3_countWays_93 : decode cX3_countWays 93 = .ok (.lload_n 2, 1) := by decide +kernel
theorem dX3_countWays_94 : decode cX3_countWays 94 = .ok (.invokevirtual 65, 3) := by decide +kernel
theorem dX3_countWays_97 : decode cX3_countWays 97 = .ok (.aload_n 0, 1) := by decide +kernel
theorem dX3_countWays_98 : decode cX3_countWays 98 = .ok (.getfield 22, 3) := by decide +kernel
theorem dX3_countWays_101 : decode cX3_countWays 101 = .ok (.iconst 0, 1) := by decide +kernel
theorem dX3_countWays_102 : decode cX3_countWays 102 = .ok (.aload_n 0, 1) := by decide +kernel
theorem dX3_countWays_103 : decode cX3_countWays 103 = .ok (.getfield 18, 3) := by decide +kernel
theorem dX3_countWays_106 : decode cX3_countWays 106 = .ok (.iconst 0, 1) := by decide +kernel
theorem dX3_countWays_107 : decode cX3_countWays 107 = .ok (.iload 4, 2) := by decide +kernel
theorem dX3_countWays_109 : decode cX3_countWays 109 = .ok (.iconst 1, 1) := by decide +kernel
theorem dX3_countWays_110 : decode cX3_countWays 110 = .ok (.iadd, 1) := by decide +kernel
theorem dX3_countWays_111 : decode cX3_countWays 111 = .ok (.invokestatic 69, 3) := by decide +kernel
theorem dX3_countWays_114 : decode cX3_countWays 114 = .ok (.iinc 6 1, 3) := by decide +kernel
theorem dX3_countWays_117 : decode cX3_countWays 117 = .ok (.goto (-42), 3) := by decide +kernel
theorem dX3_countWays_120 : decode cX3_countWays 120 = .ok (.aload_n 0, 1) := by decide +kernel
theorem dX3_countWays_121 : decode cX3_countWays 121 = .ok (.getfield 18, 3) := by decide +kernel
theorem dX3_countWays_124 : decode cX3_countWays 124 = .ok (.iload 4, 2) := by decide +kernel
theorem dX3_countWays_126 : decode cX3_countWays 126 = .ok (.laload, 1) := by decide +kernel
theorem dX3_countWays_127 : decode cX3_countWays 127 = .ok (.lreturn, 1) := by decide +kernel
def f_X3_cellsWith (a1 : Int64) (a2 : Int32) (s : St) : Option (Int32 × St) :=
  some ((((a1.toUInt64 >>> (((12 : Int32) * a2).toInt64.toUInt64 &&& Int64.toUInt64 63)).toInt64).toInt32) &&& (4095 : Int32), s)
set_option maxRecDepth 100000 in
set_option maxHeartbeats 4000000 in
theorem ok_X3_cellsWith {a1 : Int64} {a2 : Int32} {s : St} {r : Int32 × St} (h : f_X3_cellsWith a1 a2 s = some r) : Ct 0 m_X3_cellsWith [.long a1, .int a2] s (some (.int r.1)) r.2 := by
  unfold f_X3_cellsWith at h
  refine ct_of [some (.long a1), none, some (.int a2)] 0 (by decide) rfl (Nat.le_of_ble_eq_true rfl) ?_
  refine wp_lload_n (i := 0) dX3_cellsWith_0 rfl rfl ?_
  refine wp_bipush (v := 12) dX3_cellsWith_1 (by decide +kernel) ?_
  refine wp_iload_n (i := 2) dX3_cellsWith_3 rfl rfl ?_
  refine wp_imul dX3_cellsWith_4 ?_
  refine wp_lushr dX3_cellsWith_5 ?_
  refine wp_l2i dX3_cellsWith_6 ?_
  refine wp_sipush (v := 4095) dX3_cellsWith_7 (by decide +kernel) ?_
  refine wp_iand dX3_cellsWith_10 ?_
  obtain rfl := Option.some.inj h
  exact wp_iret dX3_cellsWith_11 rfl rfl
def f_X3_cover_4 : Nat → Int32 → Int32 → Int32 → Int32 → St → Option (Int32 × St)
  | 0, _, _, _, _, _ => none
  | n + 1, v0, v1, v2, v3, s =>
    if v1 ≤ v3 then (
      some (v2, s))
    else (
      f_X3_cover_4 n v0 v1 (v2 ||| (v0 <<< (v3 &&& 31))) (v3 + 1) s)
set_option maxRecDepth 100000 in
set_option maxHeartbeats 4000000 in
theorem w_X3_cover_4 {r : Int32 × St}   : ∀ (n : Nat) (v0 : Int32) (v1 : Int32) (v2 : Int32) (v3 : Int32) (s : St), f_X3_cover_4  n v0 v1 v2 v3 s = some r → Wp m_X3_cover 0 (PR (some (.int r.1)) r.2) 4 [some (.int v0), some (.int v1), some (.int v2), some (.int v3)] [] s := by
  intro n
  induction n with
  | zero => intro v0 v1 v2 v3 s h; cases h
  | succ n ih =>
    intro v0 v1 v2 v3 s h
    unfold f_X3_cover_4 at h
    refine wp_iload_n (i := 3) dX3_cover_4 rfl rfl ?_
    refine wp_iload_n (i := 1) dX3_cover_5 rfl rfl ?_
    refine wp_icmp_ge (tgt := 21) dX3_cover_6 (by decide) (fun c1 => ?_) (fun c1 => ?_)
    · rw [if_pos c1] at h
      refine wp_iload_n (i := 2) dX3_cover_21 rfl rfl ?_
      obtain rfl := Option.some.inj h
      exact wp_iret dX3_cover_22 rfl rfl
    · rw [if_neg c1] at h
      refine wp_iload_n (i := 2) dX3_cover_9 rfl rfl ?_
      refine wp_iload_n (i := 0) dX3_cover_10 rfl rfl ?_
      refine wp_iload_n (i := 3) dX3_cover_11 rfl rfl ?_
      refine wp_ishl dX3_cover_12 ?_
      refine wp_ior dX3_cover_13 ?_
      refine wp_istore_n (ls' := [some (.int v0), some (.int v1), some (.int (v2 ||| (v0 <<< (v3 &&& 31)))), some (.int v3)]) dX3_cover_14 rfl (by decide) rfl rfl ?_
      refine wp_inc (c := 1) (ls' := [some (.int v0), some (.int v1), some (.int (v2 ||| (v0 <<< (v3 &&& 31)))), some (.int (v3 + 1))]) dX3_cover_15 rfl (by decide +kernel) (by decide) rfl rfl ?_
      refine wp_goto (tgt := 4) dX3_cover_18 (by decide) ?_
      exact wp_sub (ls' := [some (.int v0), some (.int v1), some (.int (v2 ||| (v0 <<< (v3 &&& 31)))), some (.int (v3 + 1))]) ⟨rfl, rfl, rfl, rfl, trivial⟩ (ih _ _ _ _ _ h)
def f_X3_cover (a1 : Int32) (a2 : Int32) (s : St) : Option (Int32 × St) :=
  f_X3_cover_4 FU a1 a2 (0 : Int32) (0 : Int32) s
set_option maxRecDepth 100000 in
set_option maxHeartbeats 4000000 in
theorem ok_X3_cover {a1 : Int32} {a2 : Int32} {s : St} {r : Int32 × St} (h : f_X3_cover a1 a2 s = some r) : Ct 0 m_X3_cover [.int a1, .int a2] s (some (.int r.1)) r.2 := by
  unfold f_X3_cover at h
  refine ct_of [some (.int a1), some (.int a2), none, none] 2 (by decide) rfl (Nat.le_of_ble_eq_true rfl) ?_
  refine wp_iconst (v := 0) dX3_cover_0 (by decide +kernel) ?_
  refine wp_istore_n (ls' := [some (.int a1), some (.int a2), some (.int (0 : Int32)), none]) dX3_cover_1 rfl (by decide) rfl rfl ?_
  refine wp_iconst (v := 0) dX3_cover_2 (by decide +kernel) ?_
  refine wp_istore_n (ls' := [some (.int a1), some (.int a2), some (.int (0 : Int32)), some (.int (0 : Int32))]) dX3_cover_3 rfl (by decide) rfl rfl ?_
  exact wp_sub (ls' := [some (.int a1), some (.int a2), some (.int (0 : Int32)), some (.int (0 : Int32))]) ⟨rfl, rfl, rfl, rfl, trivial⟩ (w_X3_cover_4 _ _ _ _ _ _ h)
def f_X3_spreadDown_7 : Nat → Int32 → Int32 → Int32 → St → Option (Int32 × St)
  | 0, _, _, _, _ => none
  | n + 1, v2, v3, v4, s =>
    if (12 : Int32) ≤ v4 then (
      some (v2, s))
    else (
      Option.bind (some (v2 ||| (((v2.toUInt32 >>> (v4.toUInt32 &&& Int32.toUInt32 31)).toInt32) &&& v3) : Int32)) fun x2 =>
      Option.bind (some (v3 &&& ((v3.toUInt32 >>> (v4.toUInt32 &&& Int32.toUInt32 31)).toInt32) : Int32)) fun x3 =>
      f_X3_spreadDown_7 n x2 x3 (v4 * (2 : Int32)) s)
set_option maxRecDepth 100000 in
set_option maxHeartbeats 4000000 in
theorem w_X3_spreadDown_7 {r : Int32 × St}   : ∀ (n : Nat) (v2 : Int32) (v3 : Int32) (v4 : Int32) (s : St), f_X3_spreadDown_7  n v2 v3 v4 s = some r → Wp m_X3_spreadDown 0 (PR (some (.int r.1)) r.2) 7 [none, none, some (.int v2), some (.int v3), some (.int v4)] [] s := by
  intro n
  induction n with
  | zero => intro v2 v3 v4 s h; cases h
  | succ n ih =>
    intro v2 v3 v4 s h
    unfold f_X3_spreadDown_7 at h
    refine wp_iload dX3_spreadDown_7 rfl ?_
    refine wp_bipush (v := 12) dX3_spreadDown_9 (by decide +kernel) ?_
    refine wp_icmp_ge (tgt := 39) dX3_spreadDown_11 (by decide) (fun c1 => ?_) (fun c1 => ?_)
    · rw [if_pos c1] at h
      refine wp_iload_n (i := 2) dX3_spreadDown_39 rfl rfl ?_
      obtain rfl := Option.some.inj h
      exact wp_iret dX3_spreadDown_40 rfl rfl
    · rw [if_neg c1] at h
      refine wp_iload_n (i := 2) dX3_spreadDown_14 rfl rfl ?_
      refine wp_iload_n (i := 2) dX3_spreadDown_15 rfl rfl ?_
      refine wp_iload dX3_spreadDown_16 rfl ?_
      refine wp_iushr dX3_spreadDown_18 ?_
      refine wp_iload_n (i := 3) dX3_spreadDown_19 rfl rfl ?_
      refine wp_iand dX3_spreadDown_20 ?_
      refine wp_ior dX3_spreadDown_21 ?_
      obtain ⟨x2, ex2, h⟩ := ob h
      refine wp_topi (Option.some.inj ex2) ?_
      refine wp_istore_n (ls' := [none, none, some (.int x2), some (.int v3), some (.int v4)]) dX3_spreadDown_22 rfl (by decide) rfl rfl ?_
      refine wp_iload_n (i := 3) dX3_spreadDown_23 rfl rfl ?_
      refine wp_iload_n (i := 3) dX3_spreadDown_24 rfl rfl ?_
      refine wp_iload dX3_spreadDown_25 rfl ?_
      refine wp_iushr dX3_spreadDown_27 ?_
      refine wp_iand dX3_spreadDown_28 ?_
      obtain ⟨x3, ex3, h⟩ := ob h
      refine wp_topi (Option.some.inj ex3) ?_
      refine wp_istore_n (ls' := [none, none, some (.int x2), some (.int x3), some (.int v4)]) dX3_spreadDown_29 rfl (by decide) rfl rfl ?_
      refine wp_iload dX3_spreadDown_30 rfl ?_
      refine wp_iconst (v := 2) dX3_spreadDown_32 (by decide +kernel) ?_
      refine wp_imul dX3_spreadDown_33 ?_
      refine wp_istore (ls' := [none, none, some (.int x2), some (.int x3), some (.int (v4 * (2 : Int32)))]) dX3_spreadDown_34 (by decide) rfl rfl ?_
      refine wp_goto (tgt := 7) dX3_spreadDown_36 (by decide) ?_
      exact wp_sub (ls' := [none, none, some (.int x2), some (.int x3), some (.int (v4 * (2 : Int32)))]) ⟨rfl, rfl, rfl, trivial⟩ (ih _ _ _ _ h)
def f_X3_spreadDown (a1 : Int32) (a2 : Int32) (s : St) : Option (Int32 × St) :=
  f_X3_spreadDown_7 FU a1 a2 (1 : Int32) s
set_option maxRecDepth 100000 in
set_option maxHeartbeats 4000000 in
theorem ok_X3_spreadDown {a1 : Int32} {a2 : Int32} {s : St} {r : Int32 × St} (h : f_X3_spreadDown a1 a2 s = some r) : Ct 0 m_X3_spreadDown [.int a1, .int a2] s (some (.int r.1)) r.2 := by
  unfold f_X3_spreadDown at h
  refine ct_of [some (.int a1), some (.int a2), none, none, none] 3 (by decide) rfl (Nat.le_of_ble_eq_true rfl) ?_
  refine wp_iload_n (i := 0) dX3_spreadDown_0 rfl rfl ?_
  refine wp_istore_n (ls' := [some (.int a1), some (.int a2), some (.int a1), none, none]) dX3_spreadDown_1 rfl (by decide) rfl rfl ?_
  refine wp_iload_n (i := 1) dX3_spreadDown_2 rfl rfl ?_
  refine wp_istore_n (ls' := [some (.int a1), some (.int a2), some (.int a1), some (.int a2), none]) dX3_spreadDown_3 rfl (by decide) rfl rfl ?_
  refine wp_iconst (v := 1) dX3_spreadDown_4 (by decide +kernel) ?_
  refine wp_istore (ls' := [some (.int a1), some (.int a2), some (.int a1), some (.int a2), some (.int (1 : Int32))]) dX3_spreadDown_5 (by decide) rfl rfl ?_
  exact wp_sub (ls' := [none, none, some (.int a1), some (.int a2), some (.int (1 : Int32))]) ⟨rfl, rfl, rfl, trivial⟩ (w_X3_spreadDown_7 _ _ _ _ _ h)
def f_X3_spreadUp_7 : Nat → Int32 → Int32 → Int32 → St → Option (Int32 × St)
  | 0, _, _, _, _ => none
  | n + 1, v2, v3, v4, s =>
    if (12 : Int32) ≤ v4 then (
      some (v2, s))
    else (
      Option.bind (some (v3 &&& ((v3.toUInt32 >>> (v4.toUInt32 &&& Int32.toUInt32 31)).toInt32) : Int32)) fun x2 =>
      f_X3_spreadUp_7 n (v2 ||| ((v2 &&& v3) <<< (v4 &&& 31))) x2 (v4 * (2 : Int32)) s)
set_option maxRecDepth 100000 in
set_option maxHeartbeats 4000000 in
theorem w_X3_spreadUp_7 {r : Int32 × St}   : ∀ (n : Nat) (v2 : Int32) (v3 : Int32) (v4 : Int32) (s : St), f_X3_spreadUp_7  n v2 v3 v4 s = some r → Wp m_X3_spreadUp 0 (PR (some (.int r.1)) r.2) 7 [none, none, some (.int v2), some (.int v3), some (.int v4)] [] s := by
  intro n
  induction n with
  | zero => intro v2 v3 v4 s h; cases h
  | succ n ih =>
    intro v2 v3 v4 s h
    unfold f_X3_spreadUp_7 at h
    refine wp_iload dX3_spreadUp_7 rfl ?_
    refine wp_bipush (v := 12) dX3_spreadUp_9 (by decide +kernel) ?_
    refine wp_icmp_ge (tgt := 39) dX3_spreadUp_11 (by decide) (fun c1 => ?_) (fun c1 => ?_)
    · rw [if_pos c1] at h
      refine wp_iload_n (i := 2) dX3_spreadUp_39 rfl rfl ?_
      obtain rfl := Option.some.inj h
      exact wp_iret dX3_spreadUp_40 rfl rfl
    · rw [if_neg c1] at h
      refine wp_iload_n (i := 2) dX3_spreadUp_14 rfl rfl ?_
      refine wp_iload_n (i := 2) dX3_spreadUp_15 rfl rfl ?_
      refine wp_iload_n (i := 3) dX3_spreadUp_16 rfl rfl ?_
      refine wp_iand dX3_spreadUp_17 ?_
      refine wp_iload dX3_spreadUp_18 rfl ?_
      refine wp_ishl dX3_spreadUp_20 ?_
      refine wp_ior dX3_spreadUp_21 ?_
      refine wp_istore_n (ls' := [none, none, some (.int (v2 ||| ((v2 &&& v3) <<< (v4 &&& 31)))), some (.int v3), some (.int v4)]) dX3_spreadUp_22 rfl (by decide) rfl rfl ?_
      refine wp_iload_n (i := 3) dX3_spreadUp_23 rfl rfl ?_
      refine wp_iload_n (i := 3) dX3_spreadUp_24 rfl rfl ?_
      refine wp_iload dX3_spreadUp_25 rfl ?_
      refine wp_iushr dX3_spreadUp_27 ?_
      refine wp_iand dX3_spreadUp_28 ?_
      obtain ⟨x2, ex2, h⟩ := ob h
      refine wp_topi (Option.some.inj ex2) ?_
      refine wp_istore_n (ls' := [none, none, some (.int (v2 ||| ((v2 &&& v3) <<< (v4 &&& 31)))), some (.int x2), some (.int v4)]) dX3_spreadUp_29 rfl (by decide) rfl rfl ?_
      refine wp_iload dX3_spreadUp_30 rfl ?_
      refine wp_iconst (v := 2) dX3_spreadUp_32 (by decide +kernel) ?_
      refine wp_imul dX3_spreadUp_33 ?_
      refine wp_istore (ls' := [none, none, some (.int (v2 ||| ((v2 &&& v3) <<< (v4 &&& 31)))), some (.int x2), some (.int (v4 * (2 : Int32)))]) dX3_spreadUp_34 (by decide) rfl rfl ?_
      refine wp_goto (tgt := 7) dX3_spreadUp_36 (by decide) ?_
      exact wp_sub (ls' := [none, none, some (.int (v2 ||| ((v2 &&& v3) <<< (v4 &&& 31)))), some (.int x2), some (.int (v4 * (2 : Int32)))]) ⟨rfl, rfl, rfl, trivial⟩ (ih _ _ _ _ h)
def f_X3_spreadUp (a1 : Int32) (a2 : Int32) (s : St) : Option (Int32 × St) :=
  f_X3_spreadUp_7 FU a1 a2 (1 : Int32) s
set_option maxRecDepth 100000 in
set_option maxHeartbeats 4000000 in
theorem ok_X3_spreadUp {a1 : Int32} {a2 : Int32} {s : St} {r : Int32 × St} (h : f_X3_spreadUp a1 a2 s = some r) : Ct 0 m_X3_spreadUp [.int a1, .int a2] s (some (.int r.1)) r.2 := by
  unfold f_X3_spreadUp at h
  refine ct_of [some (.int a1), some (.int a2), none, none, none] 3 (by decide) rfl (Nat.le_of_ble_eq_true rfl) ?_
  refine wp_iload_n (i := 0) dX3_spreadUp_0 rfl rfl ?_
  refine wp_istore_n (ls' := [some (.int a1), some (.int a2), some (.int a1), none, none]) dX3_spreadUp_1 rfl (by decide) rfl rfl ?_
  refine wp_iload_n (i := 1) dX3_spreadUp_2 rfl rfl ?_
  refine wp_istore_n (ls' := [some (.int a1), some (.int a2), some (.int a1), some (.int a2), none]) dX3_spreadUp_3 rfl (by decide) rfl rfl ?_
  refine wp_iconst (v := 1) dX3_spreadUp_4 (by decide +kernel) ?_
  refine wp_istore (ls' := [some (.int a1), some (.int a2), some (.int a1), some (.int a2), some (.int (1 : Int32))]) dX3_spreadUp_5 (by decide) rfl rfl ?_
  exact wp_sub (ls' := [none, none, some (.int a1), some (.int a2), some (.int (1 : Int32))]) ⟨rfl, rfl, rfl, trivial⟩ (w_X3_spreadUp_7 _ _ _ _ _ h)
def f_X3_stretches_4 : Nat → Int32 → Int32 → Int32 → Int32 → St → Option (Int32 × St)
  | 0, _, _, _, _, _ => none
  | n + 1, v0, v1, v2, v3, s =>
    if v1 ≤ v3 then (
      some (v2, s))
    else (
      Option.bind (some (v2 &&& ((v0.toUInt32 >>> (v3.toUInt32 &&& Int32.toUInt32 31)).toInt32) : Int32)) fun x2 =>
      f_X3_stretches_4 n v0 v1 x2 (v3 + 1) s)
set_option maxRecDepth 100000 in
set_option maxHeartbeats 4000000 in
theorem w_X3_stretches_4 {r : Int32 × St}   : ∀ (n : Nat) (v0 : Int32) (v1 : Int32) (v2 : Int32) (v3 : Int32) (s : St), f_X3_stretches_4  n v0 v1 v2 v3 s = some r → Wp m_X3_stretches 0 (PR (some (.int r.1)) r.2) 4 [some (.int v0), some (.int v1), some (.int v2), some (.int v3)] [] s := by
  intro n
  induction n with
  | zero => intro v0 v1 v2 v3 s h; cases h
  | succ n ih =>
    intro v0 v1 v2 v3 s h
    unfold f_X3_stretches_4 at h
    refine wp_iload_n (i := 3) dX3_stretches_4 rfl rfl ?_
    refine wp_iload_n (i := 1) dX3_stretches_5 rfl rfl ?_
    refine wp_icmp_ge (tgt := 21) dX3_stretches_6 (by decide) (fun c1 => ?_) (fun c1 => ?_)
    · rw [if_pos c1] at h
      refine wp_iload_n (i := 2) dX3_stretches_21 rfl rfl ?_
      obtain rfl := Option.some.inj h
      exact wp_iret dX3_stretches_22 rfl rfl
    · rw [if_neg c1] at h
      refine wp_iload_n (i := 2) dX3_stretches_9 rfl rfl ?_
      refine wp_iload_n (i := 0) dX3_stretches_10 rfl rfl ?_
      refine wp_iload_n (i := 3) dX3_stretches_11 rfl rfl ?_
      refine wp_iushr dX3_stretches_12 ?_
      refine wp_iand dX3_stretches_13 ?_
      obtain ⟨x2, ex2, h⟩ := ob h
      refine wp_topi (Option.some.inj ex2) ?_
      refine wp_istore_n (ls' := [some (.int v0), some (.int v1), some (.int x2), some (.int v3)]) dX3_stretches_14 rfl (by decide) rfl rfl ?_
      refine wp_inc (c := 1) (ls' := [some (.int v0), some (.int v1), some (.int x2), some (.int (v3 + 1))]) dX3_stretches_15 rfl (by decide +kernel) (by decide) rfl rfl ?_
      refine wp_goto (tgt := 4) dX3_stretches_18 (by decide) ?_
      exact wp_sub (ls' := [some (.int v0), some (.int v1), some (.int x2), some (.int (v3 + 1))]) ⟨rfl, rfl, rfl, rfl, trivial⟩ (ih _ _ _ _ _ h)
def f_X3_stretches (a1 : Int32) (a2 : Int32) (s : St) : Option (Int32 × St) :=
  f_X3_stretches_4 FU a1 a2 a1 (1 : Int32) s
set_option maxRecDepth 100000 in
set_option maxHeartbeats 4000000 in
theorem ok_X3_stretches {a1 : Int32} {a2 : Int32} {s : St} {r : Int32 × St} (h : f_X3_stretches a1 a2 s = some r) : Ct 0 m_X3_stretches [.int a1, .int a2] s (some (.int r.1)) r.2 := by
  unfold f_X3_stretches at h
  refine ct_of [some (.int a1), some (.int a2), none, none] 2 (by decide) rfl (Nat.le_of_ble_eq_true rfl) ?_
  refine wp_iload_n (i := 0) dX3_stretches_0 rfl rfl ?_
  refine wp_istore_n (ls' := [some (.int a1), some (.int a2), some (.int a1), none]) dX3_stretches_1 rfl (by decide) rfl rfl ?_
  refine wp_iconst (v := 1) dX3_stretches_2 (by decide +kernel) ?_
  refine wp_istore_n (ls' := [some (.int a1), some (.int a2), some (.int a1), some (.int (1 : Int32))]) dX3_stretches_3 rfl (by decide) rfl rfl ?_
  exact wp_sub (ls' := [some (.int a1), some (.int a2), some (.int a1), some (.int (1 : Int32))]) ⟨rfl, rfl, rfl, rfl, trivial⟩ (w_X3_stretches_4 _ _ _ _ _ _ h)
def f_X3_keptOf_254 (K210 : Int32 → Int32 → Int32 → Int64 → Int32 → St → Option (Int64 × St)) (v1 : Int32) (v6 : Int32) (v8 : Int64) (v10 : Int32) (v11 : Int32) (t0 : Int32) (s : St) : Option (Int64 × St) :=
  Option.bind (aI s 18 v10) fun x1 =>
  Option.bind (some (x1 &&& ((t0.toUInt32 >>> (v11.toUInt32 &&& Int32.toUInt32 31)).toInt32) : Int32)) fun x2 =>
  Option.bind (f_X3_cover x2 v11 s) fun r3 =>
  Option.bind (f_X0_colourOf 3 v1 v10 r3.2) fun r4 =>
  Option.bind (some (v8 ||| (r3.1.toInt64 <<< (((12 : Int32) * r4.1).toInt64 &&& 63)) : Int64)) fun x5 =>
  Option.bind (f_X3_spreadDown x2 v6 r4.2) fun r6 =>
  Option.bind (aI r6.2 17 v10) fun x7 =>
  Option.bind (some (x5 ||| (((x7 &&& ((r6.1.toUInt32 >>> ((1 : Int32).toUInt32 &&& Int32.toUInt32 31)).toInt32)) &&& v6).toInt64) : Int64)) fun x8 =>
  K210 v1 v6 r6.1 x8 (v10 + (-1)) r6.2
set_option maxRecDepth 100000 in
set_option maxHeartbeats 4000000 in
theorem w_X3_keptOf_254 {r : Int64 × St} {K210 : Int32 → Int32 → Int32 → Int64 → Int32 → St → Option (Int64 × St)} (hK210 : ∀ (v1 : Int32) (v6 : Int32) (v7 : Int32) (v8 : Int64) (v10 : Int32) (s : St), K210 v1 v6 v7 v8 v10 s = some r → Wp m_X3_keptOf 1 (PR (some (.long r.1)) r.2) 210 [some (.ref 16), some (.int v1), none, none, none, none, some (.int v6), some (.int v7), some (.long v8), none, some (.int v10), none, none, none] [] s) {v1 : Int32} {v6 : Int32} {v8 : Int64} {v10 : Int32} {v11 : Int32} {t0 : Int32}  {s : St} (h : f_X3_keptOf_254 K210 v1 v6 v8 v10 v11 t0 s = some r) : Wp m_X3_keptOf 1 (PR (some (.long r.1)) r.2) 254 [some (.ref 16), some (.int v1), none, none, none, none, some (.int v6), none, some (.long v8), none, some (.int v10), some (.int v11), none, none] [.int t0] s := by
  unfold f_X3_keptOf_254 at h
  refine wp_istore (ls' := [some (.ref 16), some (.int v1), none, none, none, none, some (.int v6), none, some (.long v8), none, some (.int v10), some (.int v11), some (.int t0), none]) dX3_keptOf_254 (by decide) rfl rfl ?_
  refine wp_aload_n (i := 0) dX3_keptOf_256 rfl rfl ?_
  refine wp_getR (t := 18) dX3_keptOf_257 fl_X3_15 rfl rfl ?_
  refine wp_iload dX3_keptOf_260 rfl ?_
  obtain ⟨x1, ex1, h⟩ := ob h
  refine wp_aI dX3_keptOf_262 ex1 ?_
  refine wp_iload dX3_keptOf_263 rfl ?_
  refine wp_iload dX3_keptOf_265 rfl ?_
  refine wp_iushr dX3_keptOf_267 ?_
  refine wp_iand dX3_keptOf_268 ?_
  obtain ⟨x2, ex2, h⟩ := ob h
  refine wp_topi (Option.some.inj ex2) ?_
  refine wp_istore (ls' := [some (.ref 16), some (.int v1), none, none, none, none, some (.int v6), none, some (.long v8), none, some (.int v10), some (.int v11), some (.int t0), some (.int x2)]) dX3_keptOf_269 (by decide) rfl rfl ?_
  refine wp_lload dX3_keptOf_271 rfl ?_
  refine wp_iload dX3_keptOf_273 rfl ?_
  refine wp_iload dX3_keptOf_275 rfl ?_
  obtain ⟨r3, er3, h⟩ := ob h
  refine wp_cSi (N := m_X3_cover) (As := [.int x2, .int v11]) (rest := [.long v8]) dX3_keptOf_277 ml_X3_62 mo_X3_cover vo_X3_cover rfl (ok_X3_cover er3) (by decide) (Nat.le_of_ble_eq_true rfl) ?_
  refine wp_i2l dX3_keptOf_280 ?_
  refine wp_bipush (v := 12) dX3_keptOf_281 (by decide +kernel) ?_
  refine wp_aload_n (i := 0) dX3_keptOf_283 rfl rfl ?_
  refine wp_getR (t := 3) dX3_keptOf_284 fl_X3_25 rfl rfl ?_
  refine wp_iload_n (i := 1) dX3_keptOf_287 rfl rfl ?_
  refine wp_iload dX3_keptOf_288 rfl ?_
  obtain ⟨r4, er4, h⟩ := ob h
  refine wp_cVi (N := m_X0_colourOf) (As := [.int v1, .int v10]) (rest := [.int (12 : Int32), .long r3.1.toInt64, .long v8]) dX3_keptOf_290 ml_X3_53 mo_X0_colourOf vo_X0_colourOf rfl rfl (ok_X0_colourOf er4) (by decide) (Nat.le_of_ble_eq_true rfl) ?_
  refine wp_imul dX3_keptOf_293 ?_
  refine wp_lshl dX3_keptOf_294 ?_
  refine wp_lor dX3_keptOf_295 ?_
  obtain ⟨x5, ex5, h⟩ := ob h
  refine wp_topl (Option.some.inj ex5) ?_
  refine wp_lstore (ls' := [some (.ref 16), some (.int v1), none, none, none, none, some (.int v6), none, some (.long x5), none, some (.int v10), some (.int v11), some (.int t0), some (.int x2)]) dX3_keptOf_296 (by decide) rfl rfl ?_
  refine wp_iload dX3_keptOf_298 rfl ?_
  refine wp_iload dX3_keptOf_300 rfl ?_
  obtain ⟨r6, er6, h⟩ := ob h
  refine wp_cSi (N := m_X3_spreadDown) (As := [.int x2, .int v6]) (rest := []) dX3_keptOf_302 ml_X3_59 mo_X3_spreadDown vo_X3_spreadDown rfl (ok_X3_spreadDown er6) (by decide) (Nat.le_of_ble_eq_true rfl) ?_
  refine wp_istore (ls' := [some (.ref 16), some (.int v1), none, none, none, none, some (.int v6), some (.int r6.1), some (.long x5), none, some (.int v10), some (.int v11), some (.int t0), some (.int x2)]) dX3_keptOf_305 (by decide) rfl rfl ?_
  refine wp_lload dX3_keptOf_307 rfl ?_
  refine wp_aload_n (i := 0) dX3_keptOf_309 rfl rfl ?_
  refine wp_getR (t := 17) dX3_keptOf_310 fl_X3_9 rfl rfl ?_
  refine wp_iload dX3_keptOf_313 rfl ?_
  obtain ⟨x7, ex7, h⟩ := ob h
  refine wp_aI dX3_keptOf_315 ex7 ?_
  refine wp_iload dX3_keptOf_316 rfl ?_
  refine wp_iconst (v := 1) dX3_keptOf_318 (by decide +kernel) ?_
  refine wp_iushr dX3_keptOf_319 ?_
  refine wp_iand dX3_keptOf_320 ?_
  refine wp_iload dX3_keptOf_321 rfl ?_
  refine wp_iand dX3_keptOf_323 ?_
  refine wp_i2l dX3_keptOf_324 ?_
  refine wp_lor dX3_keptOf_325 ?_
  obtain ⟨x8, ex8, h⟩ := ob h
  refine wp_topl (Option.some.inj ex8) ?_
  refine wp_lstore (ls' := [some (.ref 16), some (.int v1), none, none, none, none, some (.int v6), some (.int r6.1), some (.long x8), none, some (.int v10), some (.int v11), some (.int t0), some (.int x2)]) dX3_keptOf_326 (by decide) rfl rfl ?_
  refine wp_inc (c := -1) (ls' := [some (.ref 16), some (.int v1), none, none, none, none, some (.int v6), some (.int r6.1), some (.long x8), none, some (.int (v10 + (-1))), some (.int v11), some (.int t0), some (.int x2)]) dX3_keptOf_328 rfl (by decide +kernel) (by decide) rfl rfl ?_
  refine wp_goto (tgt := 210) dX3_keptOf_331 (by decide) ?_
  exact wp_sub (ls' := [some (.ref 16), some (.int v1), none, none, none, none, some (.int v6), some (.int r6.1), some (.long x8), none, some (.int (v10 + (-1))), none, none, none]) ⟨rfl, rfl, rfl, rfl, rfl, rfl, trivial⟩ (hK210 _ _ _ _ _ _ h)
def f_X3_keptOf_210 : Nat → Int32 → Int32 → Int32 → Int64 → Int32 → St → Option (Int64 × St)
  | 0, _, _, _, _, _, _ => none
  | n + 1, v1, v6, v7, v8, v10, s =>
    if v10 < 0 then (
      some (v8, s))
    else (
      Option.bind (f_X0_lengthOf 3 v1 v10 s) fun r2 =>
      Option.bind (f_X0_needsGapAhead 3 v1 (v10 + (1 : Int32)) r2.2) fun r3 =>
      if r3.1 = 0 then (
        f_X3_keptOf_254 (f_X3_keptOf_210 n) v1 v6 v8 v10 r2.1 v7 r3.2)
      else (
        f_X3_keptOf_254 (f_X3_keptOf_210 n) v1 v6 v8 v10 r2.1 (((v7.toUInt32 >>> ((1 : Int32).toUInt32 &&& Int32.toUInt32 31)).toInt32) &&& v6) r3.2))
set_option maxRecDepth 100000 in
set_option maxHeartbeats 4000000 in
theorem w_X3_keptOf_210 {r : Int64 × St}   : ∀ (n : Nat) (v1 : Int32) (v6 : Int32) (v7 : Int32) (v8 : Int64) (v10 : Int32) (s : St), f_X3_keptOf_210  n v1 v6 v7 v8 v10 s = some r → Wp m_X3_keptOf 1 (PR (some (.long r.1)) r.2) 210 [some (.ref 16), some (.int v1), none, none, none, none, some (.int v6), some (.int v7), some (.long v8), none, some (.int v10), none, none, none] [] s := by
  intro n
  induction n with
  | zero => intro v1 v6 v7 v8 v10 s h; cases h
  | succ n ih =>
    intro v1 v6 v7 v8 v10 s h
    unfold f_X3_keptOf_210 at h
    refine wp_iload dX3_keptOf_210 rfl ?_
    refine wp_if_lt (tgt := 334) dX3_keptOf_212 (by decide) (fun c1 => ?_) (fun c1 => ?_)
    · rw [if_pos c1] at h
      refine wp_lload dX3_keptOf_334 rfl ?_
      obtain rfl := Option.some.inj h
      exact wp_lret dX3_keptOf_336 rfl
    · rw [if_neg c1] at h
      refine wp_aload_n (i := 0) dX3_keptOf_215 rfl rfl ?_
      refine wp_getR (t := 3) dX3_keptOf_216 fl_X3_25 rfl rfl ?_
      refine wp_iload_n (i := 1) dX3_keptOf_219 rfl rfl ?_
      refine wp_iload dX3_keptOf_220 rfl ?_
      obtain ⟨r2, er2, h⟩ := ob h
      refine wp_cVi (N := m_X0_lengthOf) (As := [.int v1, .int v10]) (rest := []) dX3_keptOf_222 ml_X3_46 mo_X0_lengthOf vo_X0_lengthOf rfl rfl (ok_X0_lengthOf er2) (by decide) (Nat.le_of_ble_eq_true rfl) ?_
      refine wp_istore (ls' := [some (.ref 16), some (.int v1), none, none, none, none, some (.int v6), some (.int v7), some (.long v8), none, some (.int v10), some (.int r2.1), none, none]) dX3_keptOf_225 (by decide) rfl rfl ?_
      refine wp_aload_n (i := 0) dX3_keptOf_227 rfl rfl ?_
      refine wp_getR (t := 3) dX3_keptOf_228 fl_X3_25 rfl rfl ?_
      refine wp_iload_n (i := 1) dX3_keptOf_231 rfl rfl ?_
      refine wp_iload dX3_keptOf_232 rfl ?_
      refine wp_iconst (v := 1) dX3_keptOf_234 (by decide +kernel) ?_
      refine wp_iadd dX3_keptOf_235 ?_
      obtain ⟨r3, er3, h⟩ := ob h
      refine wp_cVi (N := m_X0_needsGapAhead) (As := [.int v1, .int (v10 + (1 : Int32))]) (rest := []) dX3_keptOf_236 ml_X3_49 mo_X0_needsGapAhead vo_X0_needsGapAhead rfl rfl (ok_X0_needsGapAhead er3) (by decide) (Nat.le_of_ble_eq_true rfl) ?_
      refine wp_if_eq (tgt := 252) dX3_keptOf_239 (by decide) (fun c4 => ?_) (fun c4 => ?_)
      · rw [if_pos c4] at h
        refine wp_iload dX3_keptOf_252 rfl ?_
        exact wp_sub (ls' := [some (.ref 16), some (.int v1), none, none, none, none, some (.int v6), none, some (.long v8), none, some (.int v10), some (.int r2.1), none, none]) ⟨rfl, rfl, rfl, rfl, rfl, rfl, trivial⟩ (w_X3_keptOf_254 ih h)
      · rw [if_neg c4] at h
        refine wp_iload dX3_keptOf_242 rfl ?_
        refine wp_iconst (v := 1) dX3_keptOf_244 (by decide +kernel) ?_
        refine wp_iushr dX3_keptOf_245 ?_
        refine wp_iload dX3_keptOf_246 rfl ?_
        refine wp_iand dX3_keptOf_248 ?_
        refine wp_goto (tgt := 254) dX3_keptOf_249 (by decide) ?_
        exact wp_sub (ls' := [some (.ref 16), some (.int v1), none, none, none, none, some (.int v6), none, some (.long v8), none, some (.int v10), some (.int r2.1), none, none]) ⟨rfl, rfl, rfl, rfl, rfl, rfl, trivial⟩ (w_X3_keptOf_254 ih h)
def f_X3_keptOf_97 (K43 : Int32 → Int64 → Int32 → Int32 → Int32 → Int32 → St → Option (Int64 × St)) (v1 : Int32) (v2 : Int64) (v4 : Int32) (v5 : Int32) (v6 : Int32) (v7 : Int32) (v8 : Int32) (t0 : Int32) (s : St) : Option (Int64 × St) :=
  Option.bind (f_X0_colourOf 3 v1 v7 s) fun r1 =>
  Option.bind (f_X3_cellsWith v2 r1.1 r1.2) fun r2 =>
  Option.bind (f_X3_stretches r2.1 v8 r2.2) fun r3 =>
  Option.bind (pI r3.2 18 v7 (t0 &&& r3.1)) fun s4 =>
  Option.bind (aI s4 18 v7) fun x5 =>
  Option.bind (f_X3_spreadUp (x5 <<< (v8 &&& 31)) v6 s4) fun r6 =>
  Option.bind (pI r6.2 17 (v7 + (1 : Int32)) r6.1) fun s7 =>
  K43 v1 v2 v4 v5 v6 (v7 + 1) s7
set_option maxRecDepth 100000 in
set_option maxHeartbeats 4000000 in
theorem w_X3_keptOf_97 {r : Int64 × St} {K43 : Int32 → Int64 → Int32 → Int32 → Int32 → Int32 → St → Option (Int64 × St)} (hK43 : ∀ (v1 : Int32) (v2 : Int64) (v4 : Int32) (v5 : Int32) (v6 : Int32) (v7 : Int32) (s : St), K43 v1 v2 v4 v5 v6 v7 s = some r → Wp m_X3_keptOf 1 (PR (some (.long r.1)) r.2) 43 [some (.ref 16), some (.int v1), some (.long v2), none, some (.int v4), some (.int v5), some (.int v6), some (.int v7), none, none, none, none, none, none] [] s) {v1 : Int32} {v2 : Int64} {v4 : Int32} {v5 : Int32} {v6 : Int32} {v7 : Int32} {v8 : Int32} {t0 : Int32}  {s : St} (h : f_X3_keptOf_97 K43 v1 v2 v4 v5 v6 v7 v8 t0 s = some r) : Wp m_X3_keptOf 1 (PR (some (.long r.1)) r.2) 97 [some (.ref 16), some (.int v1), some (.long v2), none, some (.int v4), some (.int v5), some (.int v6), some (.int v7), some (.int v8), none, none, none, none, none] [.int t0] s := by
  unfold f_X3_keptOf_97 at h
  refine wp_istore (ls' := [some (.ref 16), some (.int v1), some (.long v2), none, some (.int v4), some (.int v5), some (.int v6), some (.int v7), some (.int v8), some (.int t0), none, none, none, none]) dX3_keptOf_97 (by decide) rfl rfl ?_
  refine wp_aload_n (i := 0) dX3_keptOf_99 rfl rfl ?_
  refine wp_getR (t := 18) dX3_keptOf_100 fl_X3_15 rfl rfl ?_
  refine wp_iload dX3_keptOf_103 rfl ?_
  refine wp_iload dX3_keptOf_105 rfl ?_
  refine wp_lload_n (i := 2) dX3_keptOf_107 rfl rfl ?_
  refine wp_aload_n (i := 0) dX3_keptOf_108 rfl rfl ?_
  refine wp_getR (t := 3) dX3_keptOf_109 fl_X3_25 rfl rfl ?_
  refine wp_iload_n (i := 1) dX3_keptOf_112 rfl rfl ?_
  refine wp_iload dX3_keptOf_113 rfl ?_
  obtain ⟨r1, er1, h⟩ := ob h
  refine wp_cVi (N := m_X0_colourOf) (As := [.int v1, .int v7]) (rest := [.long v2, .int t0, .int v7, .ref 18]) dX3_keptOf_115 ml_X3_53 mo_X0_colourOf vo_X0_colourOf rfl rfl (ok_X0_colourOf er1) (by decide) (Nat.le_of_ble_eq_true rfl) ?_
  obtain ⟨r2, er2, h⟩ := ob h
  refine wp_cSi (N := m_X3_cellsWith) (As := [.long v2, .int r1.1]) (rest := [.int t0, .int v7, .ref 18]) dX3_keptOf_118 ml_X3_38 mo_X3_cellsWith vo_X3_cellsWith rfl (ok_X3_cellsWith er2) (by decide) (Nat.le_of_ble_eq_true rfl) ?_
  refine wp_iload dX3_keptOf_121 rfl ?_
  obtain ⟨r3, er3, h⟩ := ob h
  refine wp_cSi (N := m_X3_stretches) (As := [.int r2.1, .int v8]) (rest := [.int t0, .int v7, .ref 18]) dX3_keptOf_123 ml_X3_56 mo_X3_stretches vo_X3_stretches rfl (ok_X3_stretches er3) (by decide) (Nat.le_of_ble_eq_true rfl) ?_
  refine wp_iand dX3_keptOf_126 ?_
  obtain ⟨s4, es4, h⟩ := ob h
  refine wp_pI dX3_keptOf_127 es4 ?_
  refine wp_aload_n (i := 0) dX3_keptOf_128 rfl rfl ?_
  refine wp_getR (t := 17) dX3_keptOf_129 fl_X3_9 rfl rfl ?_
  refine wp_iload dX3_keptOf_132 rfl ?_
  refine wp_iconst (v := 1) dX3_keptOf_134 (by decide +kernel) ?_
  refine wp_iadd dX3_keptOf_135 ?_
  refine wp_aload_n (i := 0) dX3_keptOf_136 rfl rfl ?_
  refine wp_getR (t := 18) dX3_keptOf_137 fl_X3_15 rfl rfl ?_
  refine wp_iload dX3_keptOf_140 rfl ?_
  obtain ⟨x5, ex5, h⟩ := ob h
  refine wp_aI dX3_keptOf_142 ex5 ?_
  refine wp_iload dX3_keptOf_143 rfl ?_
  refine wp_ishl dX3_keptOf_145 ?_
  refine wp_iload dX3_keptOf_146 rfl ?_
  obtain ⟨r6, er6, h⟩ := ob h
  refine wp_cSi (N := m_X3_spreadUp) (As := [.int (x5 <<< (v8 &&& 31)), .int v6]) (rest := [.int (v7 + (1 : Int32)), .ref 17]) dX3_keptOf_148 ml_X3_42 mo_X3_spreadUp vo_X3_spreadUp rfl (ok_X3_spreadUp er6) (by decide) (Nat.le_of_ble_eq_true rfl) ?_
  obtain ⟨s7, es7, h⟩ := ob h
  refine wp_pI dX3_keptOf_151 es7 ?_
  refine wp_inc (c := 1) (ls' := [some (.ref 16), some (.int v1), some (.long v2), none, some (.int v4), some (.int v5), some (.int v6), some (.int (v7 + 1)), some (.int v8), some (.int t0), none, none, none, none]) dX3_keptOf_152 rfl (by decide +kernel) (by decide) rfl rfl ?_
  refine wp_goto (tgt := 43) dX3_keptOf_155 (by decide) ?_
  exact wp_sub (ls' := [some (.ref 16), some (.int v1), some (.long v2), none, some (.int v4), some (.int v5), some (.int v6), some (.int (v7 + 1)), none, none, none, none, none, none]) ⟨rfl, rfl, rfl, rfl, rfl, rfl, rfl, trivial⟩ (hK43 _ _ _ _ _ _ _ h)
def f_X3_keptOf_43 : Nat → Int32 → Int64 → Int32 → Int32 → Int32 → Int32 → St → Option (Int64 × St)
  | 0, _, _, _, _, _, _, _ => none
  | n + 1, v1, v2, v4, v5, v6, v7, s =>
    if v5 ≤ v7 then (
      Option.bind (aI s 17 v5) fun x2 =>
      if (((x2.toUInt32 >>> (v4.toUInt32 &&& Int32.toUInt32 31)).toInt32) &&& (1 : Int32)) = 0 then (
        some ((0 : Int64), s))
      else (
        Option.bind (f_X3_spreadDown ((1 : Int32) <<< (v4 &&& 31)) v6 s) fun r4 =>
        Option.bind (aI r4.2 17 v5) fun x5 =>
        Option.bind (some (((x5 &&& ((r4.1.toUInt32 >>> ((1 : Int32).toUInt32 &&& Int32.toUInt32 31)).toInt32)) &&& v6).toInt64 : Int64)) fun x6 =>
        f_X3_keptOf_210 FU v1 v6 r4.1 x6 (v5 - (1 : Int32)) r4.2))
    else (
      Option.bind (f_X0_lengthOf 3 v1 v7 s) fun r7 =>
      Option.bind (f_X0_needsGapAhead 3 v1 v7 r7.2) fun r8 =>
      if r8.1 = 0 then (
        Option.bind (aI r8.2 17 v7) fun x10 =>
        f_X3_keptOf_97 (f_X3_keptOf_43 n) v1 v2 v4 v5 v6 v7 r7.1 x10 r8.2)
      else (
        Option.bind (aI r8.2 17 v7) fun x11 =>
        f_X3_keptOf_97 (f_X3_keptOf_43 n) v1 v2 v4 v5 v6 v7 r7.1 ((x11 &&& v6) <<< ((1 : Int32) &&& 31)) r8.2))
set_option maxRecDepth 100000 in
set_option maxHeartbeats 4000000 in
theorem w_X3_keptOf_43 {r : Int64 × St}   : ∀ (n : Nat) (v1 : Int32) (v2 : Int64) (v4 : Int32) (v5 : Int32) (v6 : Int32) (v7 : Int32) (s : St), f_X3_keptOf_43  n v1 v2 v4 v5 v6 v7 s = some r → Wp m_X3_keptOf 1 (PR (some (.long r.1)) r.2) 43 [some (.ref 16), some (.int v1), some (.long v2), none, some (.int v4), some (.int v5), some (.int v6), some (.int v7), none, none, none, none, none, none] [] s := by
  intro n
  induction n with
  | zero => intro v1 v2 v4 v5 v6 v7 s h; cases h
  | succ n ih =>
    intro v1 v2 v4 v5 v6 v7 s h
    unfold f_X3_keptOf_43 at h
    refine wp_iload dX3_keptOf_43 rfl ?_
    refine wp_iload dX3_keptOf_45 rfl ?_
    refine wp_icmp_ge (tgt := 158) dX3_keptOf_47 (by decide) (fun c1 => ?_) (fun c1 => ?_)
    · rw [if_pos c1] at h
      refine wp_aload_n (i := 0) dX3_keptOf_158 rfl rfl ?_
      refine wp_getR (t := 17) dX3_keptOf_159 fl_X3_9 rfl rfl ?_
      refine wp_iload dX3_keptOf_162 rfl ?_
      obtain ⟨x2, ex2, h⟩ := ob h
      refine wp_aI dX3_keptOf_164 ex2 ?_
      refine wp_iload dX3_keptOf_165 rfl ?_
      refine wp_iushr dX3_keptOf_167 ?_
      refine wp_iconst (v := 1) dX3_keptOf_168 (by decide +kernel) ?_
      refine wp_iand dX3_keptOf_169 ?_
      refine wp_if_ne (tgt := 175) dX3_keptOf_170 (by decide) (fun c3 => ?_) (fun c3 => ?_)
      · rw [if_neg c3] at h
        refine wp_iconst (v := 1) dX3_keptOf_175 (by decide +kernel) ?_
        refine wp_iload dX3_keptOf_176 rfl ?_
        refine wp_ishl dX3_keptOf_178 ?_
        refine wp_iload dX3_keptOf_179 rfl ?_
        obtain ⟨r4, er4, h⟩ := ob h
        refine wp_cSi (N := m_X3_spreadDown) (As := [.int ((1 : Int32) <<< (v4 &&& 31)), .int v6]) (rest := []) dX3_keptOf_181 ml_X3_59 mo_X3_spreadDown vo_X3_spreadDown rfl (ok_X3_spreadDown er4) (by decide) (Nat.le_of_ble_eq_true rfl) ?_
        refine wp_istore (ls' := [some (.ref 16), some (.int v1), some (.long v2), none, some (.int v4), some (.int v5), some (.int v6), some (.int r4.1), none, none, none, none, none, none]) dX3_keptOf_184 (by decide) rfl rfl ?_
        refine wp_aload_n (i := 0) dX3_keptOf_186 rfl rfl ?_
        refine wp_getR (t := 17) dX3_keptOf_187 fl_X3_9 rfl rfl ?_
        refine wp_iload dX3_keptOf_190 rfl ?_
        obtain ⟨x5, ex5, h⟩ := ob h
        refine wp_aI dX3_keptOf_192 ex5 ?_
        refine wp_iload dX3_keptOf_193 rfl ?_
        refine wp_iconst (v := 1) dX3_keptOf_195 (by decide +kernel) ?_
        refine wp_iushr dX3_keptOf_196 ?_
        refine wp_iand dX3_keptOf_197 ?_
        refine wp_iload dX3_keptOf_198 rfl ?_
        refine wp_iand dX3_keptOf_200 ?_
        refine wp_i2l dX3_keptOf_201 ?_
        obtain ⟨x6, ex6, h⟩ := ob h
        refine wp_topl (Option.some.inj ex6) ?_
        refine wp_lstore (ls' := [some (.ref 16), some (.int v1), some (.long v2), none, some (.int v4), some (.int v5), some (.int v6), some (.int r4.1), some (.long x6), none, none, none, none, none]) dX3_keptOf_202 (by decide) rfl rfl ?_
        refine wp_iload dX3_keptOf_204 rfl ?_
        refine wp_iconst (v := 1) dX3_keptOf_206 (by decide +kernel) ?_
        refine wp_isub dX3_keptOf_207 ?_
        refine wp_istore (ls' := [some (.ref 16), some (.int v1), some (.long v2), none, some (.int v4), some (.int v5), some (.int v6), some (.int r4.1), some (.long x6), none, some (.int (v5 - (1 : Int32))), none, none, none]) dX3_keptOf_208 (by decide) rfl rfl ?_
        exact wp_sub (ls' := [some (.ref 16), some (.int v1), none, none, none, none, some (.int v6), some (.int r4.1), some (.long x6), none, some (.int (v5 - (1 : Int32))), none, none, none]) ⟨rfl, rfl, rfl, rfl, rfl, rfl, trivial⟩ (w_X3_keptOf_210 _ _ _ _ _ _ _ h)
      · rw [if_pos c3] at h
        refine wp_lconst (v := 0) dX3_keptOf_173 (by decide +kernel) ?_
        obtain rfl := Option.some.inj h
        exact wp_lret dX3_keptOf_174 rfl
    · rw [if_neg c1] at h
      refine wp_aload_n (i := 0) dX3_keptOf_50 rfl rfl ?_
      refine wp_getR (t := 3) dX3_keptOf_51 fl_X3_25 rfl rfl ?_
      refine wp_iload_n (i := 1) dX3_keptOf_54 rfl rfl ?_
      refine wp_iload dX3_keptOf_55 rfl ?_
      obtain ⟨r7, er7, h⟩ := ob h
      refine wp_cVi (N := m_X0_lengthOf) (As := [.int v1, .int v7]) (rest := []) dX3_keptOf_57 ml_X3_46 mo_X0_lengthOf vo_X0_lengthOf rfl rfl (ok_X0_lengthOf er7) (by decide) (Nat.le_of_ble_eq_true rfl) ?_
      refine wp_istore (ls' := [some (.ref 16), some (.int v1), some (.long v2), none, some (.int v4), some (.int v5), some (.int v6), some (.int v7), some (.int r7.1), none, none, none, none, none]) dX3_keptOf_60 (by decide) rfl rfl ?_
      refine wp_aload_n (i := 0) dX3_keptOf_62 rfl rfl ?_
      refine wp_getR (t := 3) dX3_keptOf_63 fl_X3_25 rfl rfl ?_
      refine wp_iload_n (i := 1) dX3_keptOf_66 rfl rfl ?_
      refine wp_iload dX3_keptOf_67 rfl ?_
      obtain ⟨r8, er8, h⟩ := ob h
      refine wp_cVi (N := m_X0_needsGapAhead) (As := [.int v1, .int v7]) (rest := []) dX3_keptOf_69 ml_X3_49 mo_X0_needsGapAhead vo_X0_needsGapAhead rfl rfl (ok_X0_needsGapAhead er8) (by decide) (Nat.le_of_ble_eq_true rfl) ?_
      refine wp_if_eq (tgt := 90) dX3_keptOf_72 (by decide) (fun c9 => ?_) (fun c9 => ?_)
      · rw [if_pos c9] at h
        refine wp_aload_n (i := 0) dX3_keptOf_90 rfl rfl ?_
        refine wp_getR (t := 17) dX3_keptOf_91 fl_X3_9 rfl rfl ?_
        refine wp_iload dX3_keptOf_94 rfl ?_
        obtain ⟨x10, ex10, h⟩ := ob h
        refine wp_aI dX3_keptOf_96 ex10 ?_
        exact wp_sub (ls' := [some (.ref 16), some (.int v1), some (.long v2), none, some (.int v4), some (.int v5), some (.int v6), some (.int v7), some (.int r7.1), none, none, none, none, none]) ⟨rfl, rfl, rfl, rfl, rfl, rfl, rfl, rfl, trivial⟩ (w_X3_keptOf_97 ih h)
      · rw [if_neg c9] at h
        refine wp_aload_n (i := 0) dX3_keptOf_75 rfl rfl ?_
        refine wp_getR (t := 17) dX3_keptOf_76 fl_X3_9 rfl rfl ?_
        refine wp_iload dX3_keptOf_79 rfl ?_
        obtain ⟨x11, ex11, h⟩ := ob h
        refine wp_aI dX3_keptOf_81 ex11 ?_
        refine wp_iload dX3_keptOf_82 rfl ?_
        refine wp_iand dX3_keptOf_84 ?_
        refine wp_iconst (v := 1) dX3_keptOf_85 (by decide +kernel) ?_
        refine wp_ishl dX3_keptOf_86 ?_
        refine wp_goto (tgt := 97) dX3_keptOf_87 (by decide) ?_
        exact wp_sub (ls' := [some (.ref 16), some (.int v1), some (.long v2), none, some (.int v4), some (.int v5), some (.int v6), some (.int v7), some (.int r7.1), none, none, none, none, none]) ⟨rfl, rfl, rfl, rfl, rfl, rfl, rfl, rfl, trivial⟩ (w_X3_keptOf_97 ih h)
def f_X3_keptOf (a1 : Int32) (a2 : Int64) (s : St) : Option (Int64 × St) :=
  Option.bind (f_X0_cellsOf 3 a1 s) fun r1 =>
  Option.bind (aI r1.2 4 a1) fun x2 =>
  Option.bind (f_X3_cellsWith a2 (0 : Int32) r1.2) fun r3 =>
  Option.bind (f_X3_spreadUp (1 : Int32) r3.1 r3.2) fun r4 =>
  Option.bind (pI r4.2 17 (0 : Int32) r4.1) fun s5 =>
  f_X3_keptOf_43 FU a1 a2 r1.1 x2 r3.1 (0 : Int32) s5
set_option maxRecDepth 100000 in
set_option maxHeartbeats 4000000 in
theorem ok_X3_keptOf {a1 : Int32} {a2 : Int64} {s : St} {r : Int64 × St} (h : f_X3_keptOf a1 a2 s = some r) : Ct 1 m_X3_keptOf [.ref 16, .int a1, .long a2] s (some (.long r.1)) r.2 := by
  unfold f_X3_keptOf at h
  refine ct_of [some (.ref 16), some (.int a1), some (.long a2), none, none, none, none, none, none, none, none, none, none, none] 10 (by decide) rfl (Nat.le_of_ble_eq_true rfl) ?_
  refine wp_aload_n (i := 0) dX3_keptOf_0 rfl rfl ?_
  refine wp_getR (t := 3) dX3_keptOf_1 fl_X3_25 rfl rfl ?_
  refine wp_iload_n (i := 1) dX3_keptOf_4 rfl rfl ?_
  obtain ⟨r1, er1, h⟩ := ob h
  refine wp_cVi (N := m_X0_cellsOf) (As := [.int a1]) (rest := []) dX3_keptOf_5 ml_X3_29 mo_X0_cellsOf vo_X0_cellsOf rfl rfl (ok_X0_cellsOf er1) (by decide) (Nat.le_of_ble_eq_true rfl) ?_
  refine wp_istore (ls' := [some (.ref 16), some (.int a1), some (.long a2), none, some (.int r1.1), none, none, none, none, none, none, none, none, none]) dX3_keptOf_8 (by decide) rfl rfl ?_
  refine wp_aload_n (i := 0) dX3_keptOf_10 rfl rfl ?_
  refine wp_getR (t := 3) dX3_keptOf_11 fl_X3_25 rfl rfl ?_
  refine wp_getR (t := 4) dX3_keptOf_14 fl_X3_35 rfl rfl ?_
  refine wp_iload_n (i := 1) dX3_keptOf_17 rfl rfl ?_
  obtain ⟨x2, ex2, h⟩ := ob h
  refine wp_aI dX3_keptOf_18 ex2 ?_
  refine wp_istore (ls' := [some (.ref 16), some (.int a1), some (.long a2), none, some (.int r1.1), some (.int x2), none, none, none, none, none, none, none, none]) dX3_keptOf_19 (by decide) rfl rfl ?_
  refine wp_lload_n (i := 2) dX3_keptOf_21 rfl rfl ?_
  refine wp_iconst (v := 0) dX3_keptOf_22 (by decide +kernel) ?_
  obtain ⟨r3, er3, h⟩ := ob h
  refine wp_cSi (N := m_X3_cellsWith) (As := [.long a2, .int (0 : Int32)]) (rest := []) dX3_keptOf_23 ml_X3_38 mo_X3_cellsWith vo_X3_cellsWith rfl (ok_X3_cellsWith er3) (by decide) (Nat.le_of_ble_eq_true rfl) ?_
  refine wp_istore (ls' := [some (.ref 16), some (.int a1), some (.long a2), none, some (.int r1.1), some (.int x2), some (.int r3.1), none, none, none, none, none, none, none]) dX3_keptOf_26 (by decide) rfl rfl ?_
  refine wp_aload_n (i := 0) dX3_keptOf_28 rfl rfl ?_
  refine wp_getR (t := 17) dX3_keptOf_29 fl_X3_9 rfl rfl ?_
  refine wp_iconst (v := 0) dX3_keptOf_32 (by decide +kernel) ?_
  refine wp_iconst (v := 1) dX3_keptOf_33 (by decide +kernel) ?_
  refine wp_iload dX3_keptOf_34 rfl ?_
  obtain ⟨r4, er4, h⟩ := ob h
  refine wp_cSi (N := m_X3_spreadUp) (As := [.int (1 : Int32), .int r3.1]) (rest := [.int (0 : Int32), .ref 17]) dX3_keptOf_36 ml_X3_42 mo_X3_spreadUp vo_X3_spreadUp rfl (ok_X3_spreadUp er4) (by decide) (Nat.le_of_ble_eq_true rfl) ?_
  obtain ⟨s5, es5, h⟩ := ob h
  refine wp_pI dX3_keptOf_39 es5 ?_
  refine wp_iconst (v := 0) dX3_keptOf_40 (by decide +kernel) ?_
  refine wp_istore (ls' := [some (.ref 16), some (.int a1), some (.long a2), none, some (.int r1.1), some (.int x2), some (.int r3.1), some (.int (0 : Int32)), none, none, none, none, none, none]) dX3_keptOf_41 (by decide) rfl rfl ?_
  exact wp_sub (ls' := [some (.ref 16), some (.int a1), some (.long a2), none, some (.int r1.1), some (.int x2), some (.int r3.1), some (.int (0 : Int32)), none, none, none, none, none, none]) ⟨rfl, rfl, rfl, rfl, rfl, rfl, rfl, trivial⟩ (w_X3_keptOf_43 _ _ _ _ _ _ _ _ h)
def f_X3_countRun_175 (K79 : Int32 → Int32 → Int32 → Int32 → Int32 → Int32 → St → Option (St)) (v1 : Int32) (v5 : Int32) (v6 : Int32) (v7 : Int32) (v8 : Int32) (v9 : Int32) (s : St) : Option (St) :=
  K79 v1 v5 v6 v7 v8 (v9 + 1) s
set_option maxRecDepth 100000 in
set_option maxHeartbeats 4000000 in
theorem w_X3_countRun_175 {r : St} {K79 : Int32 → Int32 → Int32 → Int32 → Int32 → Int32 → St → Option (St)} (hK79 : ∀ (v1 : Int32) (v5 : Int32) (v6 : Int32) (v7 : Int32) (v8 : Int32) (v9 : Int32) (s : St), K79 v1 v5 v6 v7 v8 v9 s = some r → Wp m_X3_countRun 1 (PR none r) 79 [some (.ref 16), some (.int v1), none, none, none, some (.int v5), some (.int v6), some (.int v7), some (.int v8), some (.int v9), none] [] s) {v1 : Int32} {v5 : Int32} {v6 : Int32} {v7 : Int32} {v8 : Int32} {v9 : Int32}  {s : St} (h : f_X3_countRun_175 K79 v1 v5 v6 v7 v8 v9 s = some r) : Wp m_X3_countRun 1 (PR none r) 175 [some (.ref 16), some (.int v1), none, none, none, some (.int v5), some (.int v6), some (.int v7), some (.int v8), some (.int v9), none] [] s := by
  unfold f_X3_countRun_175 at h
  refine wp_inc (c := 1) (ls' := [some (.ref 16), some (.int v1), none, none, none, some (.int v5), some (.int v6), some (.int v7), some (.int v8), some (.int (v9 + 1)), none]) dX3_countRun_175 rfl (by decide +kernel) (by decide) rfl rfl ?_
  refine wp_goto (tgt := 79) dX3_countRun_178 (by decide) ?_
  exact wp_sub (ls' := [some (.ref 16), some (.int v1), none, none, none, some (.int v5), some (.int v6), some (.int v7), some (.int v8), some (.int (v9 + 1)), none]) ⟨rfl, rfl, rfl, rfl, rfl, rfl, rfl, trivial⟩ (hK79 _ _ _ _ _ _ _ h)
def f_X3_countRun_129 (K79 : Int32 → Int32 → Int32 → Int32 → Int32 → Int32 → St → Option (St)) (v1 : Int32) (v5 : Int32) (v6 : Int32) (v7 : Int32) (v8 : Int32) (v9 : Int32) (t0 : Int64) (t1 : Int32) (s : St) : Option (St) :=
  Option.bind (pJ s 20 t1 t0) fun s1 =>
  if (v9 - v6) < v7 then (
    f_X3_countRun_175 K79 v1 v5 v6 v7 v8 v9 s1)
  else (
    if (((v8.toUInt32 >>> ((v9 - v6).toUInt32 &&& Int32.toUInt32 31)).toInt32) &&& (1 : Int32)) = (1 : Int32) then (
      Option.bind (aJ s1 20 v9) fun x4 =>
      Option.bind (aJ s1 19 ((v9 - v6) - v7)) fun x5 =>
      Option.bind (pJ s1 20 v9 (x4 + x5)) fun s6 =>
      f_X3_countRun_175 K79 v1 v5 v6 v7 v8 v9 s6)
    else (
      f_X3_countRun_175 K79 v1 v5 v6 v7 v8 v9 s1))
set_option maxRecDepth 100000 in
set_option maxHeartbeats 4000000 in
theorem w_X3_countRun_129 {r : St} {K79 : Int32 → Int32 → Int32 → Int32 → Int32 → Int32 → St → Option (St)} (hK79 : ∀ (v1 : Int32) (v5 : Int32) (v6 : Int32) (v7 : Int32) (v8 : Int32) (v9 : Int32) (s : St), K79 v1 v5 v6 v7 v8 v9 s = some r → Wp m_X3_countRun 1 (PR none r) 79 [some (.ref 16), some (.int v1), none, none, none, some (.int v5), some (.int v6), some (.int v7), some (.int v8), some (.int v9), none] [] s) {v1 : Int32} {v5 : Int32} {v6 : Int32} {v7 : Int32} {v8 : Int32} {v9 : Int32} {t0 : Int64} {t1 : Int32}  {s : St} (h : f_X3_countRun_129 K79 v1 v5 v6 v7 v8 v9 t0 t1 s = some r) : Wp m_X3_countRun 1 (PR none r) 129 [some (.ref 16), some (.int v1), none, none, none, some (.int v5), some (.int v6), some (.int v7), some (.int v8), some (.int v9), none] [.long t0, .int t1, .ref 20] s := by
  unfold f_X3_countRun_129 at h
  obtain ⟨s1, es1, h⟩ := ob h
  refine wp_pJ dX3_countRun_129 es1 ?_
  refine wp_iload dX3_countRun_130 rfl ?_
  refine wp_iload dX3_countRun_132 rfl ?_
  refine wp_isub dX3_countRun_134 ?_
  refine wp_istore (ls' := [some (.ref 16), some (.int v1), none, none, none, some (.int v5), some (.int v6), some (.int v7), some (.int v8), some (.int v9), some (.int (v9 - v6))]) dX3_countRun_135 (by decide) rfl rfl ?_
  refine wp_iload dX3_countRun_137 rfl ?_
  refine wp_iload dX3_countRun_139 rfl ?_
  refine wp_icmp_lt (tgt := 175) dX3_countRun_141 (by decide) (fun c2 => ?_) (fun c2 => ?_)
  · rw [if_pos c2] at h
    exact wp_sub (ls' := [some (.ref 16), some (.int v1), none, none, none, some (.int v5), some (.int v6), some (.int v7), some (.int v8), some (.int v9), none]) ⟨rfl, rfl, rfl, rfl, rfl, rfl, rfl, trivial⟩ (w_X3_countRun_175 hK79 h)
  · rw [if_neg c2] at h
    refine wp_iload dX3_countRun_144 rfl ?_
    refine wp_iload dX3_countRun_146 rfl ?_
    refine wp_iushr dX3_countRun_148 ?_
    refine wp_iconst (v := 1) dX3_countRun_149 (by decide +kernel) ?_
    refine wp_iand dX3_countRun_150 ?_
    refine wp_iconst (v := 1) dX3_countRun_151 (by decide +kernel) ?_
    refine wp_icmp_ne (tgt := 175) dX3_countRun_152 (by decide) (fun c3 => ?_) (fun c3 => ?_)
    · rw [if_neg c3] at h
      exact wp_sub (ls' := [some (.ref 16), some (.int v1), none, none, none, some (.int v5), some (.int v6), some (.int v7), some (.int v8), some (.int v9), none]) ⟨rfl, rfl, rfl, rfl, rfl, rfl, rfl, trivial⟩ (w_X3_countRun_175 hK79 h)
    · rw [if_pos c3] at h
      refine wp_aload_n (i := 0) dX3_countRun_155 rfl rfl ?_
      refine wp_getR (t := 20) dX3_countRun_156 fl_X3_22 rfl rfl ?_
      refine wp_iload dX3_countRun_159 rfl ?_
      refine wp_dup2_ir dX3_countRun_161 ?_
      obtain ⟨x4, ex4, h⟩ := ob h
      refine wp_aJ dX3_countRun_162 ex4 ?_
      refine wp_aload_n (i := 0) dX3_countRun_163 rfl rfl ?_
      refine wp_getR (t := 19) dX3_countRun_164 fl_X3_18 rfl rfl ?_
      refine wp_iload dX3_countRun_167 rfl ?_
      refine wp_iload dX3_countRun_169 rfl ?_
      refine wp_isub dX3_countRun_171 ?_
      obtain ⟨x5, ex5, h⟩ := ob h
      refine wp_aJ dX3_countRun_172 ex5 ?_
      refine wp_ladd dX3_countRun_173 ?_
      obtain ⟨s6, es6, h⟩ := ob h
      refine wp_pJ dX3_countRun_174 es6 ?_
      exact wp_sub (ls' := [some (.ref 16), some (.int v1), none, none, none, some (.int v5), some (.int v6), some (.int v7), some (.int v8), some (.int v9), none]) ⟨rfl, rfl, rfl, rfl, rfl, rfl, rfl, trivial⟩ (w_X3_countRun_175 hK79 h)
def f_X3_countRun_128 (K79 : Int32 → Int32 → Int32 → Int32 → Int32 → Int32 → St → Option (St)) (v1 : Int32) (v5 : Int32) (v6 : Int32) (v7 : Int32) (v8 : Int32) (v9 : Int32) (t0 : Int32) (s : St) : Option (St) :=
  f_X3_countRun_129 K79 v1 v5 v6 v7 v8 v9 (0 : Int64) t0 s
set_option maxRecDepth 100000 in
set_option maxHeartbeats 4000000 in
theorem w_X3_countRun_128 {r : St} {K79 : Int32 → Int32 → Int32 → Int32 → Int32 → Int32 → St → Option (St)} (hK79 : ∀ (v1 : Int32) (v5 : Int32) (v6 : Int32) (v7 : Int32) (v8 : Int32) (v9 : Int32) (s : St), K79 v1 v5 v6 v7 v8 v9 s = some r → Wp m_X3_countRun 1 (PR none r) 79 [some (.ref 16), some (.int v1), none, none, none, some (.int v5), some (.int v6), some (.int v7), some (.int v8), some (.int v9), none] [] s) {v1 : Int32} {v5 : Int32} {v6 : Int32} {v7 : Int32} {v8 : Int32} {v9 : Int32} {t0 : Int32}  {s : St} (h : f_X3_countRun_128 K79 v1 v5 v6 v7 v8 v9 t0 s = some r) : Wp m_X3_countRun 1 (PR none r) 128 [some (.ref 16), some (.int v1), none, none, none, some (.int v5), some (.int v6), some (.int v7), some (.int v8), some (.int v9), none] [.int t0, .ref 20] s := by
  unfold f_X3_countRun_128 at h
  refine wp_lconst (v := 0) dX3_countRun_128 (by decide +kernel) ?_
  exact wp_sub (ls' := [some (.ref 16), some (.int v1), none, none, none, some (.int v5), some (.int v6), some (.int v7), some (.int v8), some (.int v9), none]) ⟨rfl, rfl, rfl, rfl, rfl, rfl, rfl, trivial⟩ (w_X3_countRun_129 hK79 h)
def f_X3_countRun_79 : Nat → Int32 → Int32 → Int32 → Int32 → Int32 → Int32 → St → Option (St)
  | 0, _, _, _, _, _, _, _ => none
  | n + 1, v1, v5, v6, v7, v8, v9, s =>
    Option.bind (f_X0_cellsOf 3 v1 s) fun r1 =>
    if r1.1 < v9 then (
      some r1.2)
    else (
      if v9 ≤ 0 then (
        f_X3_countRun_128 (f_X3_countRun_79 n) v1 v5 v6 v7 v8 v9 v9 r1.2)
      else (
        if (((v5.toUInt32 >>> ((v9 - (1 : Int32)).toUInt32 &&& Int32.toUInt32 31)).toInt32) &&& (1 : Int32)) = (1 : Int32) then (
          Option.bind (aJ r1.2 20 (v9 - (1 : Int32))) fun x5 =>
          f_X3_countRun_129 (f_X3_countRun_79 n) v1 v5 v6 v7 v8 v9 x5 v9 r1.2)
        else (
          f_X3_countRun_128 (f_X3_countRun_79 n) v1 v5 v6 v7 v8 v9 v9 r1.2)))
set_option maxRecDepth 100000 in
set_option maxHeartbeats 4000000 in
theorem w_X3_countRun_79 {r : St}   : ∀ (n : Nat) (v1 : Int32) (v5 : Int32) (v6 : Int32) (v7 : Int32) (v8 : Int32) (v9 : Int32) (s : St), f_X3_countRun_79  n v1 v5 v6 v7 v8 v9 s = some r → Wp m_X3_countRun 1 (PR none r) 79 [some (.ref 16), some (.int v1), none, none, none, some (.int v5), some (.int v6), some (.int v7), some (.int v8), some (.int v9), none] [] s := by
  intro n
  induction n with
  | zero => intro v1 v5 v6 v7 v8 v9 s h; cases h
  | succ n ih =>
    intro v1 v5 v6 v7 v8 v9 s h
    unfold f_X3_countRun_79 at h
    refine wp_iload dX3_countRun_79 rfl ?_
    refine wp_aload_n (i := 0) dX3_countRun_81 rfl rfl ?_
    refine wp_getR (t := 3) dX3_countRun_82 fl_X3_25 rfl rfl ?_
    refine wp_iload_n (i := 1) dX3_countRun_85 rfl rfl ?_
    obtain ⟨r1, er1, h⟩ := ob h
    refine wp_cVi (N := m_X0_cellsOf) (As := [.int v1]) (rest := [.int v9]) dX3_countRun_86 ml_X3_29 mo_X0_cellsOf vo_X0_cellsOf rfl rfl (ok_X0_cellsOf er1) (by decide) (Nat.le_of_ble_eq_true rfl) ?_
    refine wp_icmp_gt (tgt := 181) dX3_countRun_89 (by decide) (fun c2 => ?_) (fun c2 => ?_)
    · rw [if_pos c2] at h
      obtain rfl := Option.some.inj h
      exact wp_vret dX3_countRun_181 rfl
    · rw [if_neg c2] at h
      refine wp_aload_n (i := 0) dX3_countRun_92 rfl rfl ?_
      refine wp_getR (t := 20) dX3_countRun_93 fl_X3_22 rfl rfl ?_
      refine wp_iload dX3_countRun_96 rfl ?_
      refine wp_iload dX3_countRun_98 rfl ?_
      refine wp_if_le (tgt := 128) dX3_countRun_100 (by decide) (fun c3 => ?_) (fun c3 => ?_)
      · rw [if_pos c3] at h
        exact wp_sub (ls' := [some (.ref 16), some (.int v1), none, none, none, some (.int v5), some (.int v6), some (.int v7), some (.int v8), some (.int v9), none]) ⟨rfl, rfl, rfl, rfl, rfl, rfl, rfl, trivial⟩ (w_X3_countRun_128 ih h)
      · rw [if_neg c3] at h
        refine wp_iload dX3_countRun_103 rfl ?_
        refine wp_iload dX3_countRun_105 rfl ?_
        refine wp_iconst (v := 1) dX3_countRun_107 (by decide +kernel) ?_
        refine wp_isub dX3_countRun_108 ?_
        refine wp_iushr dX3_countRun_109 ?_
        refine wp_iconst (v := 1) dX3_countRun_110 (by decide +kernel) ?_
        refine wp_iand dX3_countRun_111 ?_
        refine wp_iconst (v := 1) dX3_countRun_112 (by decide +kernel) ?_
        refine wp_icmp_ne (tgt := 128) dX3_countRun_113 (by decide) (fun c4 => ?_) (fun c4 => ?_)
        · rw [if_neg c4] at h
          exact wp_sub (ls' := [some (.ref 16), some (.int v1), none, none, none, some (.int v5), some (.int v6), some (.int v7), some (.int v8), some (.int v9), none]) ⟨rfl, rfl, rfl, rfl, rfl, rfl, rfl, trivial⟩ (w_X3_countRun_128 ih h)
        · rw [if_pos c4] at h
          refine wp_aload_n (i := 0) dX3_countRun_116 rfl rfl ?_
          refine wp_getR (t := 20) dX3_countRun_117 fl_X3_22 rfl rfl ?_
          refine wp_iload dX3_countRun_120 rfl ?_
          refine wp_iconst (v := 1) dX3_countRun_122 (by decide +kernel) ?_
          refine wp_isub dX3_countRun_123 ?_
          obtain ⟨x5, ex5, h⟩ := ob h
          refine wp_aJ dX3_countRun_124 ex5 ?_
          refine wp_goto (tgt := 129) dX3_countRun_125 (by decide) ?_
          exact wp_sub (ls' := [some (.ref 16), some (.int v1), none, none, none, some (.int v5), some (.int v6), some (.int v7), some (.int v8), some (.int v9), none]) ⟨rfl, rfl, rfl, rfl, rfl, rfl, rfl, trivial⟩ (w_X3_countRun_129 ih h)
def f_X3_countRun_73 (v1 : Int32) (v5 : Int32) (v6 : Int32) (v7 : Int32) (t0 : Int32) (t1 : Int32) (s : St) : Option (St) :=
  f_X3_countRun_79 FU v1 v5 v6 v7 (t1 &&& t0) (0 : Int32) s
set_option maxRecDepth 100000 in
set_option maxHeartbeats 4000000 in
theorem w_X3_countRun_73 {r : St} {v1 : Int32} {v5 : Int32} {v6 : Int32} {v7 : Int32} {t0 : Int32} {t1 : Int32}  {s : St} (h : f_X3_countRun_73  v1 v5 v6 v7 t0 t1 s = some r) : Wp m_X3_countRun 1 (PR none r) 73 [some (.ref 16), some (.int v1), none, none, none, some (.int v5), some (.int v6), some (.int v7), none, none, none] [.int t0, .int t1] s := by
  unfold f_X3_countRun_73 at h
  refine wp_iand dX3_countRun_73 ?_
  refine wp_istore (ls' := [some (.ref 16), some (.int v1), none, none, none, some (.int v5), some (.int v6), some (.int v7), some (.int (t1 &&& t0)), none, none]) dX3_countRun_74 (by decide) rfl rfl ?_
  refine wp_iconst (v := 0) dX3_countRun_76 (by decide +kernel) ?_
  refine wp_istore (ls' := [some (.ref 16), some (.int v1), none, none, none, some (.int v5), some (.int v6), some (.int v7), some (.int (t1 &&& t0)), some (.int (0 : Int32)), none]) dX3_countRun_77 (by decide) rfl rfl ?_
  exact wp_sub (ls' := [some (.ref 16), some (.int v1), none, none, none, some (.int v5), some (.int v6), some (.int v7), some (.int (t1 &&& t0)), some (.int (0 : Int32)), none]) ⟨rfl, rfl, rfl, rfl, rfl, rfl, rfl, trivial⟩ (w_X3_countRun_79 _ _ _ _ _ _ _ _ h)
def f_X3_countRun_35 (v1 : Int32) (v2 : Int32) (v3 : Int64) (v5 : Int32) (v6 : Int32) (t0 : Int32) (s : St) : Option (St) :=
  Option.bind (f_X0_colourOf 3 v1 v2 s) fun r1 =>
  Option.bind (f_X3_cellsWith v3 r1.1 r1.2) fun r2 =>
  Option.bind (f_X3_stretches r2.1 v6 r2.2) fun r3 =>
  if t0 = 0 then (
    f_X3_countRun_73 v1 v5 v6 t0 r3.1 r3.1 r3.2)
  else (
    f_X3_countRun_73 v1 v5 v6 t0 (v5 <<< ((1 : Int32) &&& 31)) r3.1 r3.2)
set_option maxRecDepth 100000 in
set_option maxHeartbeats 4000000 in
theorem w_X3_countRun_35 {r : St} {v1 : Int32} {v2 : Int32} {v3 : Int64} {v5 : Int32} {v6 : Int32} {t0 : Int32}  {s : St} (h : f_X3_countRun_35  v1 v2 v3 v5 v6 t0 s = some r) : Wp m_X3_countRun 1 (PR none r) 35 [some (.ref 16), some (.int v1), some (.int v2), some (.long v3), none, some (.int v5), some (.int v6), none, none, none, none] [.int t0] s := by
  unfold f_X3_countRun_35 at h
  refine wp_istore (ls' := [some (.ref 16), some (.int v1), some (.int v2), some (.long v3), none, some (.int v5), some (.int v6), some (.int t0), none, none, none]) dX3_countRun_35 (by decide) rfl rfl ?_
  refine wp_lload_n (i := 3) dX3_countRun_37 rfl rfl ?_
  refine wp_aload_n (i := 0) dX3_countRun_38 rfl rfl ?_
  refine wp_getR (t := 3) dX3_countRun_39 fl_X3_25 rfl rfl ?_
  refine wp_iload_n (i := 1) dX3_countRun_42 rfl rfl ?_
  refine wp_iload_n (i := 2) dX3_countRun_43 rfl rfl ?_
  obtain ⟨r1, er1, h⟩ := ob h
  refine wp_cVi (N := m_X0_colourOf) (As := [.int v1, .int v2]) (rest := [.long v3]) dX3_countRun_44 ml_X3_53 mo_X0_colourOf vo_X0_colourOf rfl rfl (ok_X0_colourOf er1) (by decide) (Nat.le_of_ble_eq_true rfl) ?_
  obtain ⟨r2, er2, h⟩ := ob h
  refine wp_cSi (N := m_X3_cellsWith) (As := [.long v3, .int r1.1]) (rest := []) dX3_countRun_47 ml_X3_38 mo_X3_cellsWith vo_X3_cellsWith rfl (ok_X3_cellsWith er2) (by decide) (Nat.le_of_ble_eq_true rfl) ?_
  refine wp_iload dX3_countRun_50 rfl ?_
  obtain ⟨r3, er3, h⟩ := ob h
  refine wp_cSi (N := m_X3_stretches) (As := [.int r2.1, .int v6]) (rest := []) dX3_countRun_52 ml_X3_56 mo_X3_stretches vo_X3_stretches rfl (ok_X3_stretches er3) (by decide) (Nat.le_of_ble_eq_true rfl) ?_
  refine wp_istore (ls' := [some (.ref 16), some (.int v1), some (.int v2), some (.long v3), none, some (.int v5), some (.int v6), some (.int t0), some (.int r3.1), none, none]) dX3_countRun_55 (by decide) rfl rfl ?_
  refine wp_iload dX3_countRun_57 rfl ?_
  refine wp_iload dX3_countRun_59 rfl ?_
  refine wp_if_ne (tgt := 69) dX3_countRun_61 (by decide) (fun c4 => ?_) (fun c4 => ?_)
  · rw [if_neg c4] at h
    refine wp_iload dX3_countRun_69 rfl ?_
    refine wp_iconst (v := 1) dX3_countRun_71 (by decide +kernel) ?_
    refine wp_ishl dX3_countRun_72 ?_
    exact wp_sub (ls' := [some (.ref 16), some (.int v1), none, none, none, some (.int v5), some (.int v6), some (.int t0), none, none, none]) ⟨rfl, rfl, rfl, rfl, rfl, trivial⟩ (w_X3_countRun_73 h)
  · rw [if_pos c4] at h
    refine wp_iload dX3_countRun_64 rfl ?_
    refine wp_goto (tgt := 73) dX3_countRun_66 (by decide) ?_
    exact wp_sub (ls' := [some (.ref 16), some (.int v1), none, none, none, some (.int v5), some (.int v6), some (.int t0), none, none, none]) ⟨rfl, rfl, rfl, rfl, rfl, trivial⟩ (w_X3_countRun_73 h)
def f_X3_countRun (a1 : Int32) (a2 : Int32) (a3 : Int64) (s : St) : Option (St) :=
  Option.bind (f_X3_cellsWith a3 (0 : Int32) s) fun r1 =>
  Option.bind (f_X0_lengthOf 3 a1 a2 r1.2) fun r2 =>
  Option.bind (f_X0_needsGapAhead 3 a1 a2 r2.2) fun r3 =>
  if r3.1 = 0 then (
    f_X3_countRun_35 a1 a2 a3 r1.1 r2.1 (0 : Int32) r3.2)
  else (
    f_X3_countRun_35 a1 a2 a3 r1.1 r2.1 (1 : Int32) r3.2)
set_option maxRecDepth 100000 in
set_option maxHeartbeats 4000000 in
theorem ok_X3_countRun {a1 : Int32} {a2 : Int32} {a3 : Int64} {s : St} {r : St} (h : f_X3_countRun a1 a2 a3 s = some r) : Ct 1 m_X3_countRun [.ref 16, .int a1, .int a2, .long a3] s none r := by
  unfold f_X3_countRun at h
  refine ct_of [some (.ref 16), some (.int a1), some (.int a2), some (.long a3), none, none, none, none, none, none, none] 6 (by decide) rfl (Nat.le_of_ble_eq_true rfl) ?_
  refine wp_lload_n (i := 3) dX3_countRun_0 rfl rfl ?_
  refine wp_iconst (v := 0) dX3_countRun_1 (by decide +kernel) ?_
  obtain ⟨r1, er1, h⟩ := ob h
  refine wp_cSi (N := m_X3_cellsWith) (As := [.long a3, .int (0 : Int32)]) (rest := []) dX3_countRun_2 ml_X3_38 mo_X3_cellsWith vo_X3_cellsWith rfl (ok_X3_cellsWith er1) (by decide) (Nat.le_of_ble_eq_true rfl) ?_
  refine wp_istore (ls' := [some (.ref 16), some (.int a1), some (.int a2), some (.long a3), none, some (.int r1.1), none, none, none, none, none]) dX3_countRun_5 (by decide) rfl rfl ?_
  refine wp_aload_n (i := 0) dX3_countRun_7 rfl rfl ?_
  refine wp_getR (t := 3) dX3_countRun_8 fl_X3_25 rfl rfl ?_
  refine wp_iload_n (i := 1) dX3_countRun_11 rfl rfl ?_
  refine wp_iload_n (i := 2) dX3_countRun_12 rfl rfl ?_
  obtain ⟨r2, er2, h⟩ := ob h
  refine wp_cVi (N := m_X0_lengthOf) (As := [.int a1, .int a2]) (rest := []) dX3_countRun_13 ml_X3_46 mo_X0_lengthOf vo_X0_lengthOf rfl rfl (ok_X0_lengthOf er2) (by decide) (Nat.le_of_ble_eq_true rfl) ?_
  refine wp_istore (ls' := [some (.ref 16), some (.int a1), some (.int a2), some (.long a3), none, some (.int r1.1), some (.int r2.1), none, none, none, none]) dX3_countRun_16 (by decide) rfl rfl ?_
  refine wp_aload_n (i := 0) dX3_countRun_18 rfl rfl ?_
  refine wp_getR (t := 3) dX3_countRun_19 fl_X3_25 rfl rfl ?_
  refine wp_iload_n (i := 1) dX3_countRun_22 rfl rfl ?_
  refine wp_iload_n (i := 2) dX3_countRun_23 rfl rfl ?_
  obtain ⟨r3, er3, h⟩ := ob h
  refine wp_cVi (N := m_X0_needsGapAhead) (As := [.int a1, .int a2]) (rest := []) dX3_countRun_24 ml_X3_49 mo_X0_needsGapAhead vo_X0_needsGapAhead rfl rfl (ok_X0_needsGapAhead er3) (by decide) (Nat.le_of_ble_eq_true rfl) ?_
  refine wp_if_eq (tgt := 34) dX3_countRun_27 (by decide) (fun c4 => ?_) (fun c4 => ?_)
  · rw [if_pos c4] at h
    refine wp_iconst (v := 0) dX3_countRun_34 (by decide +kernel) ?_
    exact wp_sub (ls' := [some (.ref 16), some (.int a1), some (.int a2), some (.long a3), none, some (.int r1.1), some (.int r2.1), none, none, none, none]) ⟨rfl, rfl, rfl, rfl, rfl, rfl, trivial⟩ (w_X3_countRun_35 h)
  · rw [if_neg c4] at h
    refine wp_iconst (v := 1) dX3_countRun_30 (by decide +kernel) ?_
    refine wp_goto (tgt := 35) dX3_countRun_31 (by decide) ?_
    exact wp_sub (ls' := [some (.ref 16), some (.int a1), some (.int a2), some (.long a3), none, some (.int r1.1), some (.int r2.1), none, none, none, none]) ⟨rfl, rfl, rfl, rfl, rfl, rfl, trivial⟩ (w_X3_countRun_35 h)
def f_X3_countWays_75 : Nat → Int32 → Int64 → Int32 → Int32 → St → Option (Int64 × St)
  | 0, _, _, _, _, _ => none
  | n + 1, v1, v2, v4, v6, s =>
    Option.bind (aI s 4 v1) fun x1 =>
    if x1 ≤ v6 then (
      Option.bind (aJ s 19 v4) fun x3 =>
      some (x3, s))
    else (
      Option.bind (f_X3_countRun v1 v6 v2 s) fun s4 =>
      Option.bind (cpJ s4 20 (0 : Int32) 19 (0 : Int32) (v4 + (1 : Int32))) fun s5 =>
      f_X3_countWays_75 n v1 v2 v4 (v6 + 1) s5)
set_option maxRecDepth 100000 in
set_option maxHeartbeats 4000000 in
theorem w_X3_countWays_75 {r : Int64 × St}   : ∀ (n : Nat) (v1 : Int32) (v2 : Int64) (v4 : Int32) (v6 : Int32) (s : St), f_X3_countWays_75  n v1 v2 v4 v6 s = some r → Wp m_X3_countWays 2 (PR (some (.long r.1)) r.2) 75 [some (.ref 16), some (.int v1), some (.long v2), none, some (.int v4), none, some (.int v6)] [] s := by
  intro n
  induction n with
  | zero => intro v1 v2 v4 v6 s h; cases h
  | succ n ih =>
    intro v1 v2 v4 v6 s h
    unfold f_X3_countWays_75 at h
    refine wp_iload dX3_countWays_75 rfl ?_
    refine wp_aload_n (i := 0) dX3_countWays_77 rfl rfl ?_
    refine wp_getR (t := 3) dX3_countWays_78 fl_X3_25 rfl rfl ?_
    refine wp_getR (t := 4) dX3_countWays_81 fl_X3_35 rfl rfl ?_
    refine wp_iload_n (i := 1) dX3_countWays_84 rfl rfl ?_
    obtain ⟨x1, ex1, h⟩ := ob h
    refine wp_aI dX3_countWays_85 ex1 ?_
    refine wp_icmp_ge (tgt := 120) dX3_countWays_86 (by decide) (fun c2 => ?_) (fun c2 => ?_)
    · rw [if_pos c2] at h
      refine wp_aload_n (i := 0) dX3_countWays_120 rfl rfl ?_
      refine wp_getR (t := 19) dX3_countWays_121 fl_X3_18 rfl rfl ?_
      refine wp_iload dX3_countWays_124 rfl ?_
      obtain ⟨x3, ex3, h⟩ := ob h
      refine wp_aJ dX3_countWays_126 ex3 ?_
      obtain rfl := Option.some.inj h
      exact wp_lret dX3_countWays_127 rfl
    · rw [if_neg c2] at h
      refine wp_aload_n (i := 0) dX3_countWays_89 rfl rfl ?_
      refine wp_iload_n (i := 1) dX3_countWays_90 rfl rfl ?_
      refine wp_iload dX3_countWays_91 rfl ?_
      refine wp_lload_n (i := 2) dX3_countWays_93 rfl rfl ?_
      obtain ⟨s4, es4, h⟩ := ob h
      refine wp_cVv (N := m_X3_countRun) (As := [.int v1, .int v6, .long v2]) (rest := []) dX3_countWays_94 ml_X3_65 mo_X3_countRun vo_X3_countRun rfl rfl (ok_X3_countRun es4) (by decide) (Nat.le_of_ble_eq_true rfl) ?_
      refine wp_aload_n (i := 0) dX3_countWays_97 rfl rfl ?_
      refine wp_getR (t := 20) dX3_countWays_98 fl_X3_22 rfl rfl ?_
      refine wp_iconst (v := 0) dX3_countWays_101 (by decide +kernel) ?_
      refine wp_aload_n (i := 0) dX3_countWays_102 rfl rfl ?_
      refine wp_getR (t := 19) dX3_countWays_103 fl_X3_18 rfl rfl ?_
      refine wp_iconst (v := 0) dX3_countWays_106 (by decide +kernel) ?_
      refine wp_iload dX3_countWays_107 rfl ?_
      refine wp_iconst (v := 1) dX3_countWays_109 (by decide +kernel) ?_
      refine wp_iadd dX3_countWays_110 ?_
      obtain ⟨s5, es5, h⟩ := ob h
      refine wp_cpJ dX3_countWays_111 ml_X3_69 es5 (by decide) (Nat.le_of_ble_eq_true rfl) ?_
      refine wp_inc (c := 1) (ls' := [some (.ref 16), some (.int v1), some (.long v2), none, some (.int v4), none, some (.int (v6 + 1))]) dX3_countWays_114 rfl (by decide +kernel) (by decide) rfl rfl ?_
      refine wp_goto (tgt := 75) dX3_countWays_117 (by decide) ?_
      exact wp_sub (ls' := [some (.ref 16), some (.int v1), some (.long v2), none, some (.int v4), none, some (.int (v6 + 1))]) ⟨rfl, rfl, rfl, rfl, rfl, trivial⟩ (ih _ _ _ _ _ h)
def f_X3_countWays_65 (K27 : Int32 → Int64 → Int32 → Int32 → Int32 → St → Option (Int64 × St)) (v1 : Int32) (v2 : Int64) (v4 : Int32) (v5 : Int32) (v6 : Int32) (t0 : Int64) (t1 : Int32) (s : St) : Option (Int64 × St) :=
  Option.bind (pJ s 19 t1 t0) fun s1 =>
  K27 v1 v2 v4 v5 (v6 + 1) s1
set_option maxRecDepth 100000 in
set_option maxHeartbeats 4000000 in
theorem w_X3_countWays_65 {r : Int64 × St} {K27 : Int32 → Int64 → Int32 → Int32 → Int32 → St → Option (Int64 × St)} (hK27 : ∀ (v1 : Int32) (v2 : Int64) (v4 : Int32) (v5 : Int32) (v6 : Int32) (s : St), K27 v1 v2 v4 v5 v6 s = some r → Wp m_X3_countWays 2 (PR (some (.long r.1)) r.2) 27 [some (.ref 16), some (.int v1), some (.long v2), none, some (.int v4), some (.int v5), some (.int v6)] [] s) {v1 : Int32} {v2 : Int64} {v4 : Int32} {v5 : Int32} {v6 : Int32} {t0 : Int64} {t1 : Int32}  {s : St} (h : f_X3_countWays_65 K27 v1 v2 v4 v5 v6 t0 t1 s = some r) : Wp m_X3_countWays 2 (PR (some (.long r.1)) r.2) 65 [some (.ref 16), some (.int v1), some (.long v2), none, some (.int v4), some (.int v5), some (.int v6)] [.long t0, .int t1, .ref 19] s := by
  unfold f_X3_countWays_65 at h
  obtain ⟨s1, es1, h⟩ := ob h
  refine wp_pJ dX3_countWays_65 es1 ?_
  refine wp_inc (c := 1) (ls' := [some (.ref 16), some (.int v1), some (.long v2), none, some (.int v4), some (.int v5), some (.int (v6 + 1))]) dX3_countWays_66 rfl (by decide +kernel) (by decide) rfl rfl ?_
  refine wp_goto (tgt := 27) dX3_countWays_69 (by decide) ?_
  exact wp_sub (ls' := [some (.ref 16), some (.int v1), some (.long v2), none, some (.int v4), some (.int v5), some (.int (v6 + 1))]) ⟨rfl, rfl, rfl, rfl, rfl, rfl, trivial⟩ (hK27 _ _ _ _ _ _ h)
def f_X3_countWays_27 : Nat → Int32 → Int64 → Int32 → Int32 → Int32 → St → Option (Int64 × St)
  | 0, _, _, _, _, _, _ => none
  | n + 1, v1, v2, v4, v5, v6, s =>
    if v4 < v6 then (
      f_X3_countWays_75 FU v1 v2 v4 (0 : Int32) s)
    else (
      if (((v5.toUInt32 >>> ((v6 - (1 : Int32)).toUInt32 &&& Int32.toUInt32 31)).toInt32) &&& (1 : Int32)) = 0 then (
        f_X3_countWays_65 (f_X3_countWays_27 n) v1 v2 v4 v5 v6 (0 : Int64) v6 s)
      else (
        Option.bind (aJ s 19 (v6 - (1 : Int32))) fun x3 =>
        f_X3_countWays_65 (f_X3_countWays_27 n) v1 v2 v4 v5 v6 x3 v6 s))
set_option maxRecDepth 100000 in
set_option maxHeartbeats 4000000 in
theorem w_X3_countWays_27 {r : Int64 × St}   : ∀ (n : Nat) (v1 : Int32) (v2 : Int64) (v4 : Int32) (v5 : Int32) (v6 : Int32) (s : St), f_X3_countWays_27  n v1 v2 v4 v5 v6 s = some r → Wp m_X3_countWays 2 (PR (some (.long r.1)) r.2) 27 [some (.ref 16), some (.int v1), some (.long v2), none, some (.int v4), some (.int v5), some (.int v6)] [] s := by
  intro n
  induction n with
  | zero => intro v1 v2 v4 v5 v6 s h; cases h
  | succ n ih =>
    intro v1 v2 v4 v5 v6 s h
    unfold f_X3_countWays_27 at h
    refine wp_iload dX3_countWays_27 rfl ?_
    refine wp_iload dX3_countWays_29 rfl ?_
    refine wp_icmp_gt (tgt := 72) dX3_countWays_31 (by decide) (fun c1 => ?_) (fun c1 => ?_)
    · rw [if_pos c1] at h
      refine wp_iconst (v := 0) dX3_countWays_72 (by decide +kernel) ?_
      refine wp_istore (ls' := [some (.ref 16), some (.int v1), some (.long v2), none, some (.int v4), some (.int v5), some (.int (0 : Int32))]) dX3_countWays_73 (by decide) rfl rfl ?_
      exact wp_sub (ls' := [some (.ref 16), some (.int v1), some (.long v2), none, some (.int v4), none, some (.int (0 : Int32))]) ⟨rfl, rfl, rfl, rfl, rfl, trivial⟩ (w_X3_countWays_75 _ _ _ _ _ _ h)
    · rw [if_neg c1] at h
      refine wp_aload_n (i := 0) dX3_countWays_34 rfl rfl ?_
      refine wp_getR (t := 19) dX3_countWays_35 fl_X3_18 rfl rfl ?_
      refine wp_iload dX3_countWays_38 rfl ?_
      refine wp_iload dX3_countWays_40 rfl ?_
      refine wp_iload dX3_countWays_42 rfl ?_
      refine wp_iconst (v := 1) dX3_countWays_44 (by decide +kernel) ?_
      refine wp_isub dX3_countWays_45 ?_
      refine wp_iushr dX3_countWays_46 ?_
      refine wp_iconst (v := 1) dX3_countWays_47 (by decide +kernel) ?_
      refine wp_iand dX3_countWays_48 ?_
      refine wp_if_ne (tgt := 56) dX3_countWays_49 (by decide) (fun c2 => ?_) (fun c2 => ?_)
      · rw [if_neg c2] at h
        refine wp_aload_n (i := 0) dX3_countWays_56 rfl rfl ?_
        refine wp_getR (t := 19) dX3_countWays_57 fl_X3_18 rfl rfl ?_
        refine wp_iload dX3_countWays_60 rfl ?_
        refine wp_iconst (v := 1) dX3_countWays_62 (by decide +kernel) ?_
        refine wp_isub dX3_countWays_63 ?_
        obtain ⟨x3, ex3, h⟩ := ob h
        refine wp_aJ dX3_countWays_64 ex3 ?_
        exact wp_sub (ls' := [some (.ref 16), some (.int v1), some (.long v2), none, some (.int v4), some (.int v5), some (.int v6)]) ⟨rfl, rfl, rfl, rfl, rfl, rfl, trivial⟩ (w_X3_countWays_65 ih h)
      · rw [if_pos c2] at h
        refine wp_lconst (v := 0) dX3_countWays_52 (by decide +kernel) ?_
        refine wp_goto (tgt := 65) dX3_countWays_53 (by decide) ?_
        exact wp_sub (ls' := [some (.ref 16), some (.int v1), some (.long v2), none, some (.int v4), some (.int v5), some (.int v6)]) ⟨rfl, rfl, rfl, rfl, rfl, rfl, trivial⟩ (w_X3_countWays_65 ih h)
def f_X3_countWays (a1 : Int32) (a2 : Int64) (s : St) : Option (Int64 × St) :=
  Option.bind (f_X0_cellsOf 3 a1 s) fun r1 =>
  Option.bind (f_X3_cellsWith a2 (0 : Int32) r1.2) fun r2 =>
  Option.bind (pJ r2.2 19 (0 : Int32) (1 : Int64)) fun s3 =>
  f_X3_countWays_27 FU a1 a2 r1.1 r2.1 (1 : Int32) s3
set_option maxRecDepth 100000 in
set_option maxHeartbeats 4000000 in
theorem ok_X3_countWays {a1 : Int32} {a2 : Int64} {s : St} {r : Int64 × St} (h : f_X3_countWays a1 a2 s = some r) : Ct 2 m_X3_countWays [.ref 16, .int a1, .long a2] s (some (.long r.1)) r.2 := by
  unfold f_X3_countWays at h
  refine ct_of [some (.ref 16), some (.int a1), some (.long a2), none, none, none, none] 3 (by decide) rfl (Nat.le_of_ble_eq_true rfl) ?_
  refine wp_aload_n (i := 0) dX3_countWays_0 rfl rfl ?_
  refine wp_getR (t := 3) dX3_countWays_1 fl_X3_25 rfl rfl ?_
  refine wp_iload_n (i := 1) dX3_countWays_4 rfl rfl ?_
  obtain ⟨r1, er1, h⟩ := ob h
  refine wp_cVi (N := m_X0_cellsOf) (As := [.int a1]) (rest := []) dX3_countWays_5 ml_X3_29 mo_X0_cellsOf vo_X0_cellsOf rfl rfl (ok_X0_cellsOf er1) (by decide) (Nat.le_of_ble_eq_true rfl) ?_
  refine wp_istore (ls' := [some (.ref 16), some (.int a1), some (.long a2), none, some (.int r1.1), none, none]) dX3_countWays_8 (by decide) rfl rfl ?_
  refine wp_lload_n (i := 2) dX3_countWays_10 rfl rfl ?_
  refine wp_iconst (v := 0) dX3_countWays_11 (by decide +kernel) ?_
  obtain ⟨r2, er2, h⟩ := ob h
  refine wp_cSi (N := m_X3_cellsWith) (As := [.long a2, .int (0 : Int32)]) (rest := []) dX3_countWays_12 ml_X3_38 mo_X3_cellsWith vo_X3_cellsWith rfl (ok_X3_cellsWith er2) (by decide) (Nat.le_of_ble_eq_true rfl) ?_
  refine wp_istore (ls' := [some (.ref 16), some (.int a1), some (.long a2), none, some (.int r1.1), some (.int r2.1), none]) dX3_countWays_15 (by decide) rfl rfl ?_
  refine wp_aload_n (i := 0) dX3_countWays_17 rfl rfl ?_
  refine wp_getR (t := 19) dX3_countWays_18 fl_X3_18 rfl rfl ?_
  refine wp_iconst (v := 0) dX3_countWays_21 (by decide +kernel) ?_
  refine wp_lconst (v := 1) dX3_countWays_22 (by decide +kernel) ?_
  obtain ⟨s3, es3, h⟩ := ob h
  refine wp_pJ dX3_countWays_23 es3 ?_
  refine wp_iconst (v := 1) dX3_countWays_24 (by decide +kernel) ?_
  refine wp_istore (ls' := [some (.ref 16), some (.int a1), some (.long a2), none, some (.int r1.1), some (.int r2.1), some (.int (1 : Int32))]) dX3_countWays_25 (by decide) rfl rfl ?_
  exact wp_sub (ls' := [some (.ref 16), some (.int a1), some (.long a2), none, some (.int r1.1), some (.int r2.1), some (.int (1 : Int32))]) ⟨rfl, rfl, rfl, rfl, rfl, rfl, trivial⟩ (w_X3_countWays_27 _ _ _ _ _ _ _ h)
