/-! decompiled by wip/gen/gen.py -/
theorem dX7_isDigit_0 : decode cX7_isDigit 0 = .ok (.iload_n 0, 1) := by decide +kernel
theorem dX7_isDigit_1 : decode cX7_isDigit 1 = .ok (.bipush 48, 2) := by decide +kernel
theorem dX7_isDigit_3 : decode cX7_isDigit 3 = .ok (.if_icmp .lt 13, 3) := by decide +kernel
theorem dX7_isDigit_6 : decode cX7_isDigit 6 = .ok (.iload_n 0, 1) := by decide +kernel
theorem dX7_isDigit_7 : decode cX7_isDigit 7 = .ok (.bipush 57, 2) := by decide +kernel
theorem dX7_isDigit_9 : decode cX7_isDigit 9 = .ok (.if_icmp .gt 7, 3) := by decide +kernel
theorem dX7_isDigit_12 : decode cX7_isDigit 12 = .ok (.iconst 1, 1) := by decide +kernel
theorem dX7_isDigit_13 : decode cX7_isDigit 13 = .ok (.goto 4, 3) := by decide +kernel
theorem dX7_isDigit_16 : decode cX7_isDigit 16 = .ok (.iconst 0, 1) := by decide +kernel
theorem dX7_isDigit_17 : decode cX7_isDigit 17 = .ok (.ireturn, 1) := by decide +kernel
theorem dX7_endOfDigits_0 : decode cX7_endOfDigits 0 = .ok (.iload_n 1, 1) := by decide +kernel
theorem dX7_endOfDigits_1 : decode cX7_endOfDigits 1 = .ok (.istore_n 2, 1) := by decide +kernel
theorem dX7_endOfDigits_2 : decode cX7_endOfDigits 2 = .ok (.iload_n 2, 1) := by decide +kernel
theorem dX7_endOfDigits_3 : decode cX7_endOfDigits 3 = .ok (.aload_n 0, 1) := by decide +kernel
theorem dX7_endOfDigits_4 : decode cX7_endOfDigits 4 = .ok (.getfield 30, 3) := by decide +kernel
theorem dX7_endOfDigits_7 : decode cX7_endOfDigits 7 = .ok (.getfield 64, 3) := by decide +kernel
theorem dX7_endOfDigits_10 : decode cX7_endOfDigits 10 = .ok (.if_icmp .ge 23, 3) := by decide +kernel
theorem dX7_endOfDigits_13 : decode cX7_endOfDigits 13 = .ok (.aload_n 0, 1) := by decide +kernel
theorem dX7_endOfDigits_14 : decode cX7_endOfDigits 14 = .ok (.getfield 30, 3) := by decide +kernel
theorem dX7_endOfDigits_17 : decode cX7_endOfDigits 17 = .ok (.iload_n 2, 1) := by decide +kernel
theorem dX7_endOfDigits_18 : decode cX7_endOfDigits 18 = .ok (.invokevirtual 69, 3) := by decide +kernel
theorem dX7_endOfDigits_21 : decode cX7_endOfDigits 21 = .ok (.invokestatic 73, 3) := by decide +kernel
theorem dX7_endOfDigits_24 : decode cX7_endOfDigits 24 = .ok (.ifCond .eq 9, 3) := by decide +kernel
theorem dX7_endOfDigits_27 : decode cX7_endOfDigits 27 = .ok (.iinc 2 1, 3) := by decide +kernel
theorem dX7_endOfDigits_30 : decode cX7_endOfDigits 30 = .ok (.goto (-28), 3) := by decide +kernel
theorem dX7_endOfDigits_33 : decode cX7_endOfDigits 33 = .ok (.iload_n 2, 1) := by decide +kernel
theorem dX7_endOfDigits_34 : decode cX7_endOfDigits 34 = .ok (.ireturn, 1) := by decide +kernel
theorem dX7_isLetter_0 : decode cX7_isLetter 0 = .ok (.iload_n 0, 1) := by decide +kernel
theorem dX7_isLetter_1 : decode cX7_isLetter 1 = .ok (.bipush 97, 2) := by decide +kernel
theorem dX7_isLetter_3 : decode cX7_isLetter 3 = .ok (.if_icmp .lt 13, 3) := by decide +kernel
theorem dX7_isLetter_6 : decode cX7_isLetter 6 = .ok (.iload_n 0, 1) := by decide +kernel
theorem dX7_isLetter_7 : decode cX7_isLetter 7 = .ok (.bipush 99, 2) := by decide +kernel
theorem dX7_isLetter_9 : decode cX7_isLetter 9 = .ok (.if_icmp .gt 7, 3) := by decide +kernel
theorem dX7_isLetter_12 : decode cX7_isLetter 12 = .ok (.iconst 1, 1) := by decide +kernel
theorem dX7_isLetter_13 : decode cX7_isLetter 13 = .ok (.goto 4, 3) := by decide +kernel
theorem dX7_isLetter_16 : decode cX7_isLetter 16 = .ok (.iconst 0, 1) := by decide +kernel
theorem dX7_isLetter_17 : decode cX7_isLetter 17 = .ok (.ireturn, 1) := by decide +kernel
theorem dX7_isSpace_0 : decode cX7_isSpace 0 = .ok (.iload_n 0, 1) := by decide +kernel
theorem dX7_isSpace_1 : decode cX7_isSpace 1 = .ok (.bipush 32, 2) := by decide +kernel
theorem dX7_isSpace_3 : decode cX7_isSpace 3 = .ok (.if_icmp .eq 9, 3) := by decide +kernel
theorem dX7_isSpace_6 : decode cX7_isSpace 6 = .ok (.iload_n 0, 1) := by decide +kernel
theorem dX7_isSpace_7 : decode cX7_isSpace 7 = .ok (.bipush 10, 2) := by decide +kernel
theorem dX7_isSpace_9 : decode cX7_isSpace 9 = .ok (.if_icmp .ne 7, 3) := by decide +kernel
theorem dX7_isSpace_12 : decode cX7_isSpace 12 = .ok (.iconst 1, 1) := by decide +kernel
theorem dX7_isSpace_13 : decode cX7_isSpace 13 = .ok (.goto 4, 3) := by decide +kernel
theorem dX7_isSpace_16 : decode cX7_isSpace 16 = .ok (.iconst 0, 1) := by decide +kernel
theorem dX7_isSpace_17 : decode cX7_isSpace 17 = .ok (.ireturn, 1) := by decide +kernel
theorem dX7_advance_0 : decode cX7_advance 0 = .ok (.aload_n 0, 1) := by decide +kernel
theorem dX7_advance_1 : decode cX7_advance 1 = .ok (.aload_n 0, 1) := by decide +kernel
theorem dX7_advance_2 : decode cX7_advance 2 = .ok (.getfield 27, 3) := by decide +kernel
theorem dX7_advance_5 : decode cX7_advance 5 = .ok (.putfield 21, 3) := by decide +kernel
theorem dX7_advance_8 : decode cX7_advance 8 = .ok (.aload_n 0, 1) := by decide +kernel
theorem dX7_advance_9 : decode cX7_advance 9 = .ok (.getfield 21, 3) := by decide +kernel
theorem dX7_advance_12 : decode cX7_advance 12 = .ok (.aload_n 0, 1) := by decide +kernel
theorem dX7_advance_13 : decode cX7_advance 13 = .ok (.getfield 30, 3) := by decide +kernel
theorem dX7_advance_16 : decode cX7_advance 16 = .ok (.getfield 64, 3) := by decide +kernel
theorem dX7_advance_19 : decode cX7_advance 19 = .ok (.if_icmp .ge 33, 3) := by decide +kernel
theorem dX7_advance_22 : decode cX7_advance 22 = .ok (.aload_n 0, 1) := by decide +kernel
theorem dX7_advance_23 : decode cX7_advance 23 = .ok (.getfield 30, 3) := by decide +kernel
theorem dX7_advance_26 : decode cX7_advance 26 = .ok (.aload_n 0, 1) := by decide +kernel
theorem dX7_advance_27 : decode cX7_advance 27 = .ok (.getfield 21, 3) := by decide +kernel
theorem dX7_advance_30 : decode cX7_advance 30 = .ok (.invokevirtual 69, 3) := by decide +kernel
theorem dX7_advance_33 : decode cX7_advance 33 = .ok (.invokestatic 79, 3) := by decide +kernel
theorem dX7_advance_36 : decode cX7_advance 36 = .ok (.ifCond .eq 16, 3) := by decide +kernel
theorem dX7_advance_39 : decode cX7_advance 39 = .ok (.aload_n 0, 1) := by decide +kernel
theorem dX7_advance_40 : decode cX7_advance 40 = .ok (.dup, 1) := by decide +kernel
theorem dX7_advance_41 : decode cX7_advance 41 = .ok (.getfield 21, 3) := by decide +kernel
theorem dX7_advance_44 : decode cX7_advance 44 = .ok (.iconst 1, 1) := by decide +kernel
theorem dX7_advance_45 : decode cX7_advance 45 = .ok (.iadd, 1) := by decide +kernel
theorem dX7_advance_46 : decode cX7_advance 46 = .ok (.putfield 21, 3) := by decide +kernel
theorem dX7_advance_49 : decode cX7_advance 49 = .ok (.goto (-41), 3) := by decide +kernel
theorem dX7_advance_52 : decode cX7_advance 52 = .ok (.aload_n 0, 1) := by decide +kernel
theorem dX7_advance_53 : decode cX7_advance 53 = .ok (.getfield 30, 3) := by decide +kernel
theorem dX7_advance_56 : decode cX7_advance 56 = .ok (.aload_n 0, 1) := by decide +kernel
theorem dX7_advance_57 : decode cX7_advance 57 = .ok (.getfield 21, 3) := by decide +kernel
theorem dX7_advance_60 : decode cX7_advance 60 = .ok (.invokevirtual 69, 3) := by decide +kernel
theorem dX7_advance_63 : decode cX7_advance 63 = .ok (.istore_n 1, 1) := by decide +kernel
theorem dX7_advance_64 : decode cX7_advance 64 = .ok (.aload_n 0, 1) := by decide +kernel
theorem dX7_advance_65 : decode cX7_advance 65 = .ok (.iconst 0, 1) := by decide +kernel
theorem dX7_advance_66 : decode cX7_advance 66 = .ok (.putfield 24, 3) := by decide +kernel
theorem dX7_advance_69 : decode cX7_advance 69 = .ok (.aload_n 0, 1) := by decide +kernel
theorem dX7_advance_70 : decode cX7_advance 70 = .ok (.aload_n 0, 1) := by decide +kernel
theorem dX7_advance_71 : decode cX7_advance 71 = .ok (.getfield 21, 3) := by decide +kernel
theorem dX7_advance_74 : decode cX7_advance 74 = .ok (.iconst 1, 1) := by decide +kernel
theorem dX7_advance_75 : decode cX7_advance 75 = .ok (.iadd, 1) := by decide +kernel
theorem dX7_advance_76 : decode cX7_advance 76 = .ok (.putfield 27, 3) := by decide +kernel
theorem dX7_advance_79 : decode cX7_advance 79 = .ok (.aload_n 0, 1) := by decide +kernel
theorem dX7_advance_80 : decode cX7_advance 80 = .ok (.getfield 21, 3) := by decide +kernel
theorem dX7_advance_83 : decode cX7_advance 83 = .ok (.aload_n 0, 1) := by decide +kernel
theorem dX7_advance_84 : decode cX7_advance 84 = .ok (.getfield 30, 3) := by decide +kernel
theorem dX7_advance_87 : decode cX7_advance 87 = .ok (.getfield 64, 3) := by decide +kernel
theorem dX7_advance_90 : decode cX7_advance 90 = .ok (.if_icmp .lt 19, 3) := by decide +kernel
theorem dX7_advance_93 : decode cX7_advance 93 = .ok (.aload_n 0, 1) := by decide +kernel
theorem dX7_advance_94 : decode cX7_advance 94 = .ok (.iconst 0, 1) := by decide +kernel
theorem dX7_advance_95 : decode cX7_advance 95 = .ok (.putfield 18, 3) := by decide +kernel
theorem dX7_advance_98 : decode cX7_advance 98 = .ok (.aload_n 0, 1) := by decide +kernel
theorem dX7_advance_99 : decode cX7_advance 99 = .ok (.aload_n 0, 1) := by decide +kernel
theorem dX7_advance_100 : decode cX7_advance 100 = .ok (.getfield 21, 3) := by decide +kernel
theorem dX7_advance_103 : decode cX7_advance 103 = .ok (.putfield 27, 3) := by decide +kernel
theorem dX7_advance_106 : decode cX7_advance 106 = .ok (.goto 102, 3) := by decide +kernel
theorem dX7_advance_109 : decode cX7_advance 109 = .ok (.iload_n 1, 1) := by decide +kernel
theorem dX7_advance_110 : decode cX7_advance 110 = .ok (.invokestatic 73, 3) := by decide +kernel
theorem dX7_advance_113 : decode cX7_advance 113 = .ok (.ifCond .eq 65, 3) := by decide +kernel
theorem dX7_advance_116 : decode cX7_advance 116 = .ok (.aload_n 0, 1) := by decide +kernel
theorem dX7_advance_117 : decode cX7_advance 117 = .ok (.iconst 1, 1) := by decide +kernel
theorem dX7_advance_118 : decode cX7_advance 118 = .ok (.putfield 18, 3) := by decide +kernel
theorem dX7_advance_121 : decode cX7_advance 121 = .ok (.aload_n 0, 1) := by decide +kernel
theorem dX7_advance_122 : decode cX7_advance 122 = .ok (.aload_n 0, 1) := by decide +kernel
theorem dX7_advance_123 : decode cX7_advance 123 = .ok (.aload_n 0, 1) := by decide +kernel
theorem dX7_advance_124 : decode cX7_advance 124 = .ok (.getfield 21, 3) := by decide +kernel
theorem dX7_advance_127 : decode cX7_advance 127 = .ok (.invokevirtual 82, 3) := by decide +kernel
theorem dX7_advance_130 : decode cX7_advance 130 = .ok (.putfield 27, 3) := by decide +kernel
theorem dX7_advance_133 : decode cX7_advance 133 = .ok (.aload_n 0, 1) := by decide +kernel
theorem dX7_advance_134 : decode cX7_advance 134 = .ok (.getfield 21, 3) := by decide +kernel
theorem dX7_advance_137 : decode cX7_advance 137 = .ok (.istore_n 2, 1) := by decide +kernel
theorem dX7_advance_138 : decode cX7_advance 138 = .ok (.iload_n 2, 1) := by decide +kernel
theorem dX7_advance_139 : decode cX7_advance 139 = .ok (.aload_n 0, 1) := by decide +kernel
theorem dX7_advance_140 : decode cX7_advance 140 = .ok (.getfield 27, 3) := by decide +kernel
theorem dX7_advance_143 : decode cX7_advance 143 = .ok (.if_icmp .ge 32, 3) := by decide +kernel
theorem dX7_advance_146 : decode cX7_advance 146 = .ok (.aload_n 0, 1) := by decide +kernel
theorem dX7_advance_147 : decode cX7_advance 147 = .ok (.bipush 10, 2) := by decide +kernel
theorem dX7_advance_149 : decode cX7_advance 149 = .ok (.aload_n 0, 1) := by decide +kernel
theorem dX7_advance_150 : decode cX7_advance 150 = .ok (.getfield 24, 3) := by decide +kernel
theorem dX7_advance_153 : decode cX7_advance 153 = .ok (.imul, 1) := by decide +kernel
theorem dX7_advance_154 : decode cX7_advance 154 = .ok (.aload_n 0, 1) := by decide +kernel
theorem dX7_advance_155 : decode cX7_advance 155 = .ok (.getfield 30, 3) := by decide +kernel
theorem dX7_advance_158 : decode cX7_advance 158 = .ok (.iload_n 2, 1) := by decide +kernel
theorem dX7_advance_159 : decode cX7_advance 159 = .ok (.invokevirtual 69, 3) := by decide +kernel
theorem dX7_advance_162 : decode cX7_advance 162 = .ok (.iadd, 1) := by decide +kernel
theorem dX7_advance_163 : decode cX7_advance 163 = .ok (.bipush 48, 2) := by decide +kernel
theorem dX7_advance_165 : decode cX7_advance 165 = .ok (.isub, 1) := by decide +kernel
theorem dX7_advance_166 : decode cX7_advance 166 = .ok (.putfield 24, 3) := by decide +kernel
theorem dX7_advance_169 : decode cX7_advance 169 = .ok (.iinc 2 1, 3) := by decide +kernel
theorem dX7_advance_172 : decode cX7_advance 172 = .ok (.goto (-34), 3) := by decide +kernel
theorem dX7_advance_175 : decode cX7_advance 175 = .ok (.goto 33, 3) := by decide +kernel
theorem dX7_advance_178 : decode cX7_advance 178 = .ok (.iload_n 1, 1) := by decide +kernel
theorem dX7_advance_179 : decode cX7_advance 179 = .ok (.invokestatic 76, 3) := by decide +kernel
theorem dX7_advance_182 : decode cX7_advance 182 = .ok (.ifCond .eq 21, 3) := by decide +kernel
theorem dX7_advance_185 : decode cX7_advance 185 = .ok (.aload_n 0, 1) := by decide +kernel
theorem dX7_advance_186 : decode cX7_advance 186 = .ok (.iconst 2, 1) := by decide +kernel
theorem dX7_advance_187 : decode cX7_advance 187 = .ok (.putfield 18, 3) := by decide +kernel
theorem dX7_advance_190 : decode cX7_advance 190 = .ok (.aload_n 0, 1) := by decide +kernel
theorem dX7_advance_191 : decode cX7_advance 191 = .ok (.iload_n 1, 1) := by decide +kernel
theorem dX7_advance_192 : decode cX7_advance 192 = .ok (.bipush 97, 2) := by decide +kernel
theorem dX7_advance_194 : decode cX7_advance 194 = .ok (.isub, 1) := by decide +kernel
theorem dX7_advance_195 : decode cX7_advance 195 = .ok (.iconst 1, 1) := by decide +kernel
theorem dX7_advance_196 : decode cX7_advance 196 = .ok (.iadd, 1) := by decide +kernel
theorem dX7_advance_197 : decode cX7_advance 197 = .ok (.putfield 24, 3) := by decide +kernel
theorem dX7_advance_200 : decode cX7_advance 200 = .ok (.goto 8, 3) := by decide +kernel
theorem dX7_advance_203 : decode cX7_advance 203 = .ok (.aload_n 0, 1) := by decide +kernel
theorem dX7_advance_204 : decode cX7_advance 204 = .ok (.iconst 3, 1) := by decide +kernel
theorem dX7_advance_205 : decode cX7_advance 205 = .ok (.putfield 18, 3) := by decide +kernel
theorem dX7_advance_208 : decode cX7_advance 208 = .ok (.return_, 1) := by decide +kernel
theorem dX7_refuse_0 : decode cX7_refuse 0 = .ok (.aload_n 0, 1) := by decide +kernel
theorem dX7_refuse_1 : decode cX7_refuse 1 = .ok (.iload_n 1, 1) := by decide +kernel
theorem dX7_refuse_2 : decode cX7_refuse 2 = .ok (.putfield 9, 3) := by decide +kernel
theorem dX7_refuse_5 : decode cX7_refuse 5 = .ok (.aload_n 0, 1) := by decide +kernel
theorem dX7_refuse_6 : decode cX7_refuse 6 = .ok (.aload_n 0, 1) := by decide +kernel
theorem dX7_refuse_7 : decode cX7_refuse 7 = .ok (.getfield 21, 3) := by decide +kernel
theorem dX7_refuse_10 : decode cX7_refuse 10 = .ok (.putfield 15, 3) := by decide +kernel
theorem dX7_refuse_13 : decode cX7_refuse 13 = .ok (.iconst 0, 1) := by decide +kernel
theorem dX7_refuse_14 : decode cX7_refuse 14 = .ok (.ireturn, 1) := by decide +kernel
theorem dX7_cutsClean_0 : decode cX7_cutsClean 0 = .ok (.iconst 0, 1) := by decide +kernel
theorem dX7_cutsClean_1 : decode cX7_cutsClean 1 = .ok (.istore_n 1, 1) := by decide +kernel
theorem dX7_cutsClean_2 : decode cX7_cutsClean 2 = .ok (.iconst 0, 1) := by decide +kernel
theorem dX7_cutsClean_3 : decode cX7_cutsClean 3 = .ok (.istore_n 2, 1) := by decide +kernel
theorem dX7_cutsClean_4 : decode cX7_cutsClean 4 = .ok (.iload_n 2, 1) := by decide +kernel
theorem dX7_cutsClean_5 : decode cX7_cutsClean 5 = .ok (.aload_n 0, 1) := by decide +kernel
theorem dX7_cutsClean_6 : decode cX7_cutsClean 6 = .ok (.getfield 30, 3) := by decide +kernel
theorem dX7_cutsClean_9 : decode cX7_cutsClean 9 = .ok (.getfield 64, 3) := by decide +kernel
theorem dX7_cutsClean_12 : decode cX7_cutsClean 12 = .ok (.if_icmp .ge 99, 3) := by decide +kernel
theorem dX7_cutsClean_15 : decode cX7_cutsClean 15 = .ok (.aload_n 0, 1) := by decide +kernel
theorem dX7_cutsClean_16 : decode cX7_cutsClean 16 = .ok (.getfield 30, 3) := by decide +kernel
theorem dX7_cutsClean_19 : decode cX7_cutsClean 19 = .ok (.iload_n 2, 1) := by decide +kernel
theorem dX7_cutsClean_20 : decode cX7_cutsClean 20 = .ok (.invokevirtual 69, 3) := by decide +kernel
theorem dX7_cutsClean_23 : decode cX7_cutsClean 23 = .ok (.istore_n 3, 1) := by decide +kernel
theorem dX7_cutsClean_24 : decode cX7_cutsClean 24 = .ok (.iload_n 3, 1) := by decide +kernel
theorem dX7_cutsClean_25 : decode cX7_cutsClean 25 = .ok (.invokestatic 73, 3) := by decide +kernel
theorem dX7_cutsClean_28 : decode cX7_cutsClean 28 = .ok (.ifCond .eq 9, 3) := by decide +kernel
theorem dX7_cutsClean_31 : decode cX7_cutsClean 31 = .ok (.iload_n 1, 1) := by decide +kernel
theorem dX7_cutsClean_32 : decode cX7_cutsClean 32 = .ok (.iconst 1, 1) := by decide +kernel
theorem dX7_cutsClean_33 : decode cX7_cutsClean 33 = .ok (.iadd, 1) := by decide +kernel
theorem dX7_cutsClean_34 : decode cX7_cutsClean 34 = .ok (.goto 4, 3) := by decide +kernel
theorem dX7_cutsClean_37 : decode cX7_cutsClean 37 = .ok (.iconst 0, 1) := by decide +kernel
theorem dX7_cutsClean_38 : decode cX7_cutsClean 38 = .ok (.istore_n 1, 1) := by decide +kernel
theorem dX7_cutsClean_39 : decode cX7_cutsClean 39 = .ok (.iload_n 3, 1) := by decide +kernel
theorem dX7_cutsClean_40 : decode cX7_cutsClean 40 = .ok (.invokestatic 73, 3) := by decide +kernel
theorem dX7_cutsClean_43 : decode cX7_cutsClean 43 = .ok (.ifCond .ne 23, 3) := by decide +kernel
theorem dX7_cutsClean_46 : decode cX7_cutsClean 46 = .ok (.iload_n 3, 1) := by decide +kernel
theorem dX7_cutsClean_47 : decode cX7_cutsClean 47 = .ok (.invokestatic 76, 3) := by decide +kernel
theorem dX7_cutsClean_50 : decode cX7_cutsClean 50 = .ok (.ifCond .ne 16, 3) := by decide +kernel
theorem dX7_cutsClean_53 : decode cX7_cutsClean 53 = .ok (.iload_n 3, 1) := by decide +kernel
theorem dX7_cutsClean_54 : decode cX7_cutsClean 54 = .ok (.invokestatic 79, 3) := by decide +kernel
theorem dX7_cutsClean_57 : decode cX7_cutsClean 57 = .ok (.ifCond .ne 9, 3) := by decide +kernel
theorem dX7_cutsClean_60 : decode cX7_cutsClean 60 = .ok (.iload_n 3, 1) := by decide +kernel
theorem dX7_cutsClean_61 : decode cX7_cutsClean 61 = .ok (.bipush 59, 2) := by decide +kernel
theorem dX7_cutsClean_63 : decode cX7_cutsClean 63 = .ok (.if_icmp .ne 7, 3) := by decide +kernel
theorem dX7_cutsClean_66 : decode cX7_cutsClean 66 = .ok (.iconst 1, 1) := by decide +kernel
theorem dX7_cutsClean_67 : decode cX7_cutsClean 67 = .ok (.goto 4, 3) := by decide +kernel
theorem dX7_cutsClean_70 : decode cX7_cutsClean 70 = .ok (.iconst 0, 1) := by decide +kernel
theorem dX7_cutsClean_71 : decode cX7_cutsClean 71 = .ok (.istore 4, 2) := by decide +kernel
theorem dX7_cutsClean_73 : decode cX7_cutsClean 73 = .ok (.iload 4, 2) := by decide +kernel
theorem dX7_cutsClean_75 : decode cX7_cutsClean 75 = .ok (.ifCond .eq 8, 3) := by decide +kernel
theorem dX7_cutsClean_78 : decode cX7_cutsClean 78 = .ok (.iload_n 1, 1) := by decide +kernel
theorem dX7_cutsClean_79 : decode cX7_cutsClean 79 = .ok (.iconst 2, 1) := by decide +kernel
theorem dX7_cutsClean_80 : decode cX7_cutsClean 80 = .ok (.if_icmp .le 25, 3) := by decide +kernel
theorem dX7_cutsClean_83 : decode cX7_cutsClean 83 = .ok (.aload_n 0, 1) := by decide +kernel
theorem dX7_cutsClean_84 : decode cX7_cutsClean 84 = .ok (.iload 4, 2) := by decide +kernel
theorem dX7_cutsClean_86 : decode cX7_cutsClean 86 = .ok (.ifCond .eq 9, 3) := by decide +kernel
theorem dX7_cutsClean_89 : decode cX7_cutsClean 89 = .ok (.iload_n 2, 1) := by decide +kernel
theorem dX7_cutsClean_90 : decode cX7_cutsClean 90 = .ok (.iconst 2, 1) := by decide +kernel
theorem dX7_cutsClean_91 : decode cX7_cutsClean 91 = .ok (.isub, 1) := by decide +kernel
theorem dX7_cutsClean_92 : decode cX7_cutsClean 92 = .ok (.goto 4, 3) := by decide +kernel
theorem dX7_cutsClean_95 : decode cX7_cutsClean 95 = .ok (.iload_n 2, 1) := by decide +kernel
theorem dX7_cutsClean_96 : decode cX7_cutsClean 96 = .ok (.putfield 21, 3) := by decide +kernel
theorem dX7_cutsClean_99 : decode cX7_cutsClean 99 = .ok (.aload_n 0, 1) := by decide +kernel
theorem dX7_cutsClean_100 : decode cX7_cutsClean 100 = .ok (.iconst 1, 1) := by decide +kernel
theorem dX7_cutsClean_101 : decode cX7_cutsClean 101 = .ok (.invokevirtual 58, 3) := by decide +kernel
theorem dX7_cutsClean_104 : decode cX7_cutsClean 104 = .ok (.ireturn, 1) := by decide +kernel
theorem dX7_cutsClean_105 : decode cX7_cutsClean 105 = .ok (.iinc 2 1, 3) := by decide +kernel
theorem dX7_cutsClean_108 : decode cX7_cutsClean 108 = .ok (.goto (-104), 3) := by decide +kernel
theorem dX7_cutsClean_111 : decode cX7_cutsClean 111 = .ok (.iconst 1, 1) := by decide +kernel
theorem dX7_cutsClean_112 : decode cX7_cutsClean 112 = .ok (.ireturn, 1) := by decide +kernel
theorem dX7_sizeRead_0 : decode cX7_sizeRead 0 = .ok (.aload_n 0, 1) := by decide +kernel
theorem dX7_sizeRead_1 : decode cX7_sizeRead 1 = .ok (.getfield 18, 3) := by decide +kernel
theorem dX7_sizeRead_4 : decode cX7_sizeRead 4 = .ok (.iconst 1, 1) := by decide +kernel
theorem dX7_sizeRead_5 : decode cX7_sizeRead 5 = .ok (.if_icmp .eq 11, 3) := by decide +kernel
theorem dX7_sizeRead_8 : decode cX7_sizeRead 8 = .ok (.aload_n 0, 1) := by decide +kernel
theorem dX7_sizeRead_9 : decode cX7_sizeRead 9 = .ok (.iconst 2, 1) := by decide +kernel
theorem dX7_sizeRead_10 : decode cX7_sizeRead 10 = .ok (.invokevirtual 58, 3) := by decide +kernel
theorem dX7_sizeRead_13 : decode cX7_sizeRead 13 = .ok (.pop, 1) := by decide +kernel
theorem dX7_sizeRead_14 : decode cX7_sizeRead 14 = .ok (.iconst (-1), 1) := by decide +kernel
theorem dX7_sizeRead_15 : decode cX7_sizeRead 15 = .ok (.ireturn, 1) := by decide +kernel
theorem dX7_sizeRead_16 : decode cX7_sizeRead 16 = .ok (.aload_n 0, 1) := by decide +kernel
theorem dX7_sizeRead_17 : decode cX7_sizeRead 17 = .ok (.getfield 24, 3) := by decide +kernel
theorem dX7_sizeRead_20 : decode cX7_sizeRead 20 = .ok (.iload_n 1, 1) := by decide +kernel
theorem dX7_sizeRead_21 : decode cX7_sizeRead 21 = .ok (.invokestatic 92, 3) := by decide +kernel
theorem dX7_sizeRead_24 : decode cX7_sizeRead 24 = .ok (.ifCond .ne 11, 3) := by decide +kernel
theorem dX7_sizeRead_27 : decode cX7_sizeRead 27 = .ok (.aload_n 0, 1) := by decide +kernel
theorem dX7_sizeRead_28 : decode cX7_sizeRead 28 = .ok (.iconst 3, 1) := by decide +kernel
theorem dX7_sizeRead_29 : decode cX7_sizeRead 29 = .ok (.invokevirtual 58, 3) := by decide +kernel
theorem dX7_sizeRead_32 : decode cX7_sizeRead 32 = .ok (.pop, 1) := by decide +kernel
theorem dX7_sizeRead_33 : decode cX7_sizeRead 33 = .ok (.iconst (-1), 1) := by decide +kernel
theorem dX7_sizeRead_34 : decode cX7_sizeRead 34 = .ok (.ireturn, 1) := by decide +kernel
theorem dX7_sizeRead_35 : decode cX7_sizeRead 35 = .ok (.aload_n 0, 1) := by decide +kernel
theorem dX7_sizeRead_36 : decode cX7_sizeRead 36 = .ok (.getfield 24, 3) := by decide +kernel
theorem dX7_sizeRead_39 : decode cX7_sizeRead 39 = .ok (.istore_n 2, 1) := by decide +kernel
theorem dX7_sizeRead_40 : decode cX7_sizeRead 40 = .ok (.aload_n 0, 1) := by decide +kernel
theorem dX7_sizeRead_41 : decode cX7_sizeRead 41 = .ok (.invokevirtual 42, 3) := by decide +kernel
theorem dX7_sizeRead_44 : decode cX7_sizeRead 44 = .ok (.iload_n 2, 1) := by decide +kernel
theorem dX7_sizeRead_45 : decode cX7_sizeRead 45 = .ok (.ireturn, 1) := by decide +kernel
theorem dX7_readsHead_0 : decode cX7_readsHead 0 = .ok (.aload_n 0, 1) := by decide +kernel
theorem dX7_readsHead_1 : decode cX7_readsHead 1 = .ok (.bipush 12, 2) := by decide +kernel
theorem dX7_readsHead_3 : decode cX7_readsHead 3 = .ok (.invokevirtual 85, 3) := by decide +kernel
theorem dX7_readsHead_6 : decode cX7_readsHead 6 = .ok (.istore_n 1, 1) := by decide +kernel
theorem dX7_readsHead_7 : decode cX7_readsHead 7 = .ok (.iload_n 1, 1) := by decide +kernel
theorem dX7_readsHead_8 : decode cX7_readsHead 8 = .ok (.iconst (-1), 1) := by decide +kernel
theorem dX7_readsHead_9 : decode cX7_readsHead 9 = .ok (.if_icmp .ne 7, 3) := by decide +kernel
theorem dX7_readsHead_12 : decode cX7_readsHead 12 = .ok (.iconst (-1), 1) := by decide +kernel
theorem dX7_readsHead_13 : decode cX7_readsHead 13 = .ok (.goto 9, 3) := by decide +kernel
theorem dX7_readsHead_16 : decode cX7_readsHead 16 = .ok (.aload_n 0, 1) := by decide +kernel
theorem dX7_readsHead_17 : decode cX7_readsHead 17 = .ok (.bipush 12, 2) := by decide +kernel
theorem dX7_readsHead_19 : decode cX7_readsHead 19 = .ok (.invokevirtual 85, 3) := by decide +kernel
theorem dX7_readsHead_22 : decode cX7_readsHead 22 = .ok (.istore_n 2, 1) := by decide +kernel
theorem dX7_readsHead_23 : decode cX7_readsHead 23 = .ok (.iload_n 2, 1) := by decide +kernel
theorem dX7_readsHead_24 : decode cX7_readsHead 24 = .ok (.iconst (-1), 1) := by decide +kernel
theorem dX7_readsHead_25 : decode cX7_readsHead 25 = .ok (.if_icmp .ne 7, 3) := by decide +kernel
theorem dX7_readsHead_28 : decode cX7_readsHead 28 = .ok (.iconst (-1), 1) := by decide +kernel
theorem dX7_readsHead_29 : decode cX7_readsHead 29 = .ok (.goto 8, 3) := by decide +kernel
theorem dX7_readsHead_32 : decode cX7_readsHead 32 = .ok (.aload_n 0, 1) := by decide +kernel
theorem dX7_readsHead_33 : decode cX7_readsHead 33 = .ok (.iconst 3, 1) := by decide +kernel
theorem dX7_readsHead_34 : decode cX7_readsHead 34 = .ok (.invokevirtual 85, 3) := by decide +kernel
theorem dX7_readsHead_37 : decode cX7_readsHead 37 = .ok (.istore_n 3, 1) := by decide +kernel
theorem dX7_readsHead_38 : decode cX7_readsHead 38 = .ok (.iload_n 3, 1) := by decide +kernel
theorem dX7_readsHead_39 : decode cX7_readsHead 39 = .ok (.iconst (-1), 1) := by decide +kernel
theorem dX7_readsHead_40 : decode cX7_readsHead 40 = .ok (.if_icmp .ne 5, 3) := by decide +kernel
theorem dX7_readsHead_43 : decode cX7_readsHead 43 = .ok (.iconst 0, 1) := by decide +kernel
theorem dX7_readsHead_44 : decode cX7_readsHead 44 = .ok (.ireturn, 1) := by decide +kernel
theorem dX7_readsHead_45 : decode cX7_readsHead 45 = .ok (.aload_n 0, 1) := by decide +kernel
theorem dX7_readsHead_46 : decode cX7_readsHead 46 = .ok (.getfield 18, 3) := by decide +kernel
theorem dX7_readsHead_49 : decode cX7_readsHead 49 = .ok (.iconst 3, 1) := by decide +kernel
theorem dX7_readsHead_50 : decode cX7_readsHead 50 = .ok (.if_icmp .eq 9, 3) := by decide +kernel
theorem dX7_readsHead_53 : decode cX7_readsHead 53 = .ok (.aload_n 0, 1) := by decide +kernel
theorem dX7_readsHead_54 : decode cX7_readsHead 54 = .ok (.iconst 2, 1) := by decide +kernel
theorem dX7_readsHead_55 : decode cX7_readsHead 55 = .ok (.invokevirtual 58, 3) := by decide +kernel
theorem dX7_readsHead_58 : decode cX7_readsHead 58 = .ok (.ireturn, 1) := by decide +kernel
theorem dX7_readsHead_59 : decode cX7_readsHead 59 = .ok (.aload_n 0, 1) := by decide +kernel
theorem dX7_readsHead_60 : decode cX7_readsHead 60 = .ok (.invokevirtual 42, 3) := by decide +kernel
theorem dX7_readsHead_63 : decode cX7_readsHead 63 = .ok (.aload_n 0, 1) := by decide +kernel
theorem dX7_readsHead_64 : decode cX7_readsHead 64 = .ok (.getfield 34, 3) := by decide +kernel
theorem dX7_readsHead_67 : decode cX7_readsHead 67 = .ok (.iload_n 1, 1) := by decide +kernel
theorem dX7_readsHead_68 : decode cX7_readsHead 68 = .ok (.iload_n 2, 1) := by decide +kernel
theorem dX7_readsHead_69 : decode cX7_readsHead 69 = .ok (.iload_n 3, 1) := by decide +kernel
theorem dX7_readsHead_70 : decode cX7_readsHead 70 = .ok (.invokevirtual 88, 3) := by decide +kernel
theorem dX7_readsHead_73 : decode cX7_readsHead 73 = .ok (.iconst 1, 1) := by decide +kernel
theorem dX7_readsHead_74 : decode cX7_readsHead 74 = .ok (.ireturn, 1) := by decide +kernel
theorem dX7_readsRun_0 : decode cX7_readsRun 0 = .ok (.aload_n 0, 1) := by decide +kernel
theorem dX7_readsRun_1 : decode cX7_readsRun 1 = .ok (.getfield 24, 3) := by decide +kernel
theorem dX7_readsRun_4 : decode cX7_readsRun 4 = .ok (.ifCond .ne 9, 3) := by decide +kernel
theorem dX7_readsRun_7 : decode cX7_readsRun 7 = .ok (.aload_n 0, 1) := by decide +kernel
theorem dX7_readsRun_8 : decode cX7_readsRun 8 = .ok (.iconst 4, 1) := by decide +kernel
theorem dX7_readsRun_9 : decode cX7_readsRun 9 = .ok (.invokevirtual 58, 3) := by decide +kernel
theorem dX7_readsRun_12 : decode cX7_readsRun 12 = .ok (.ireturn, 1) := by decide +kernel
theorem dX7_readsRun_13 : decode cX7_readsRun 13 = .ok (.iload_n 2, 1) := by decide +kernel
theorem dX7_readsRun_14 : decode cX7_readsRun 14 = .ok (.bipush 12, 2) := by decide +kernel
theorem dX7_readsRun_16 : decode cX7_readsRun 16 = .ok (.if_icmp .lt 9, 3) := by decide +kernel
theorem dX7_readsRun_19 : decode cX7_readsRun 19 = .ok (.aload_n 0, 1) := by decide +kernel
theorem dX7_readsRun_20 : decode cX7_readsRun 20 = .ok (.iconst 5, 1) := by decide +kernel
theorem dX7_readsRun_21 : decode cX7_readsRun 21 = .ok (.invokevirtual 58, 3) := by decide +kernel
theorem dX7_readsRun_24 : decode cX7_readsRun 24 = .ok (.ireturn, 1) := by decide +kernel
theorem dX7_readsRun_25 : decode cX7_readsRun 25 = .ok (.aload_n 0, 1) := by decide +kernel
theorem dX7_readsRun_26 : decode cX7_readsRun 26 = .ok (.getfield 24, 3) := by decide +kernel
theorem dX7_readsRun_29 : decode cX7_readsRun 29 = .ok (.istore_n 3, 1) := by decide +kernel
theorem dX7_readsRun_30 : decode cX7_readsRun 30 = .ok (.iconst 1, 1) := by decide +kernel
theorem dX7_readsRun_31 : decode cX7_readsRun 31 = .ok (.istore 4, 2) := by decide +kernel
theorem dX7_readsRun_33 : decode cX7_readsRun 33 = .ok (.aload_n 0, 1) := by decide +kernel
theorem dX7_readsRun_34 : decode cX7_readsRun 34 = .ok (.invokevirtual 42, 3) := by decide +kernel
theorem dX7_readsRun_37 : decode cX7_readsRun 37 = .ok (.aload_n 0, 1) := by decide +kernel
theorem dX7_readsRun_38 : decode cX7_readsRun 38 = .ok (.getfield 18, 3) := by decide +kernel
theorem dX7_readsRun_41 : decode cX7_readsRun 41 = .ok (.iconst 2, 1) := by decide +kernel
theorem dX7_readsRun_42 : decode cX7_readsRun 42 = .ok (.if_icmp .ne 33, 3) := by decide +kernel
theorem dX7_readsRun_45 : decode cX7_readsRun 45 = .ok (.aload_n 0, 1) := by decide +kernel
theorem dX7_readsRun_46 : decode cX7_readsRun 46 = .ok (.getfield 24, 3) := by decide +kernel
theorem dX7_readsRun_49 : decode cX7_readsRun 49 = .ok (.aload_n 0, 1) := by decide +kernel
theorem dX7_readsRun_50 : decode cX7_readsRun 50 = .ok (.getfield 34, 3) := by decide +kernel
theorem dX7_readsRun_53 : decode cX7_readsRun 53 = .ok (.getfield 102, 3) := by decide +kernel
theorem dX7_readsRun_56 : decode cX7_readsRun 56 = .ok (.if_icmp .le 9, 3) := by decide +kernel
theorem dX7_readsRun_59 : decode cX7_readsRun 59 = .ok (.aload_n 0, 1) := by decide +kernel
theorem dX7_readsRun_60 : decode cX7_readsRun 60 = .ok (.iconst 4, 1) := by decide +kernel
theorem dX7_readsRun_61 : decode cX7_readsRun 61 = .ok (.invokevirtual 58, 3) := by decide +kernel
theorem dX7_readsRun_64 : decode cX7_readsRun 64 = .ok (.ireturn, 1) := by decide +kernel
theorem dX7_readsRun_65 : decode cX7_readsRun 65 = .ok (.aload_n 0, 1) := by decide +kernel
theorem dX7_readsRun_66 : decode cX7_readsRun 66 = .ok (.getfield 24, 3) := by decide +kernel
theorem dX7_readsRun_69 : decode cX7_readsRun 69 = .ok (.istore 4, 2) := by decide +kernel
theorem dX7_readsRun_71 : decode cX7_readsRun 71 = .ok (.aload_n 0, 1) := by decide +kernel
theorem dX7_readsRun_72 : decode cX7_readsRun 72 = .ok (.invokevirtual 42, 3) := by decide +kernel
theorem dX7_readsRun_75 : decode cX7_readsRun 75 = .ok (.aload_n 0, 1) := by decide +kernel
theorem dX7_readsRun_76 : decode cX7_readsRun 76 = .ok (.getfield 34, 3) := by decide +kernel
theorem dX7_readsRun_79 : decode cX7_readsRun 79 = .ok (.iload_n 1, 1) := by decide +kernel
theorem dX7_readsRun_80 : decode cX7_readsRun 80 = .ok (.iload_n 3, 1) := by decide +kernel
theorem dX7_readsRun_81 : decode cX7_readsRun 81 = .ok (.iload 4, 2) := by decide +kernel
theorem dX7_readsRun_83 : decode cX7_readsRun 83 = .ok (.invokevirtual 105, 3) := by decide +kernel
theorem dX7_readsRun_86 : decode cX7_readsRun 86 = .ok (.iconst 1, 1) := by decide +kernel
theorem dX7_readsRun_87 : decode cX7_readsRun 87 = .ok (.ireturn, 1) := by decide +kernel
theorem dX7_readsLine_0 : decode cX7_readsLine 0 = .ok (.iconst 0, 1) := by decide +kernel
theorem dX7_readsLine_1 : decode cX7_readsLine 1 = .ok (.istore_n 2, 1) := by decide +kernel
theorem dX7_readsLine_2 : decode cX7_readsLine 2 = .ok (.iload_n 2, 1) := by decide +kernel
theorem dX7_readsLine_3 : decode cX7_readsLine 3 = .ok (.bipush 12, 2) := by decide +kernel
theorem dX7_readsLine_5 : decode cX7_readsLine 5 = .ok (.if_icmp .gt 28, 3) := by decide +kernel
theorem dX7_readsLine_8 : decode cX7_readsLine 8 = .ok (.aload_n 0, 1) := by decide +kernel
theorem dX7_readsLine_9 : decode cX7_readsLine 9 = .ok (.getfield 18, 3) := by decide +kernel
theorem dX7_readsLine_12 : decode cX7_readsLine 12 = .ok (.iconst 1, 1) := by decide +kernel
theorem dX7_readsLine_13 : decode cX7_readsLine 13 = .ok (.if_icmp .ne 20, 3) := by decide +kernel
theorem dX7_readsLine_16 : decode cX7_readsLine 16 = .ok (.aload_n 0, 1) := by decide +kernel
theorem dX7_readsLine_17 : decode cX7_readsLine 17 = .ok (.iload_n 1, 1) := by decide +kernel
theorem dX7_readsLine_18 : decode cX7_readsLine 18 = .ok (.iload_n 2, 1) := by decide +kernel
theorem dX7_readsLine_19 : decode cX7_readsLine 19 = .ok (.invokevirtual 96, 3) := by decide +kernel
theorem dX7_readsLine_22 : decode cX7_readsLine 22 = .ok (.ifCond .ne 5, 3) := by decide +kernel
theorem dX7_readsLine_25 : decode cX7_readsLine 25 = .ok (.iconst 0, 1) := by decide +kernel
theorem dX7_readsLine_26 : decode cX7_readsLine 26 = .ok (.ireturn, 1) := by decide +kernel
theorem dX7_readsLine_27 : decode cX7_readsLine 27 = .ok (.iinc 2 1, 3) := by decide +kernel
theorem dX7_readsLine_30 : decode cX7_readsLine 30 = .ok (.goto (-28), 3) := by decide +kernel
theorem dX7_readsLine_33 : decode cX7_readsLine 33 = .ok (.aload_n 0, 1) := by decide +kernel
theorem dX7_readsLine_34 : decode cX7_readsLine 34 = .ok (.getfield 18, 3) := by decide +kernel
theorem dX7_readsLine_37 : decode cX7_readsLine 37 = .ok (.iconst 3, 1) := by decide +kernel
theorem dX7_readsLine_38 : decode cX7_readsLine 38 = .ok (.if_icmp .eq 9, 3) := by decide +kernel
theorem dX7_readsLine_41 : decode cX7_readsLine 41 = .ok (.aload_n 0, 1) := by decide +kernel
theorem dX7_readsLine_42 : decode cX7_readsLine 42 = .ok (.iconst 2, 1) := by decide +kernel
theorem dX7_readsLine_43 : decode cX7_readsLine 43 = .ok (.invokevirtual 58, 3) := by decide +kernel
theorem dX7_readsLine_46 : decode cX7_readsLine 46 = .ok (.ireturn, 1) := by decide +kernel
theorem dX7_readsLine_47 : decode cX7_readsLine 47 = .ok (.aload_n 0, 1) := by decide +kernel
theorem dX7_readsLine_48 : decode cX7_readsLine 48 = .ok (.getfield 34, 3) := by decide +kernel
theorem dX7_readsLine_51 : decode cX7_readsLine 51 = .ok (.iload_n 1, 1) := by decide +kernel
theorem dX7_readsLine_52 : decode cX7_readsLine 52 = .ok (.invokevirtual 99, 3) := by decide +kernel
theorem dX7_readsLine_55 : decode cX7_readsLine 55 = .ok (.ifCond .ne 10, 3) := by decide +kernel
theorem dX7_readsLine_58 : decode cX7_readsLine 58 = .ok (.aload_n 0, 1) := by decide +kernel
theorem dX7_readsLine_59 : decode cX7_readsLine 59 = .ok (.bipush 6, 2) := by decide +kernel
theorem dX7_readsLine_61 : decode cX7_readsLine 61 = .ok (.invokevirtual 58, 3) := by decide +kernel
theorem dX7_readsLine_64 : decode cX7_readsLine 64 = .ok (.ireturn, 1) := by decide +kernel
theorem dX7_readsLine_65 : decode cX7_readsLine 65 = .ok (.aload_n 0, 1) := by decide +kernel
theorem dX7_readsLine_66 : decode cX7_readsLine 66 = .ok (.invokevirtual 42, 3) := by decide +kernel
theorem dX7_readsLine_69 : decode cX7_readsLine 69 = .ok (.iconst 1, 1) := by decide +kernel
theorem dX7_readsLine_70 : decode cX7_readsLine 70 = .ok (.ireturn, 1) := by decide +kernel
theorem dX7_readsAll_0 : decode cX7_readsAll 0 = .ok (.aload_n 0, 1) := by decide +kernel
theorem dX7_readsAll_1 : decode cX7_readsAll 1 = .ok (.iconst 0, 1) := by decide +kernel
theorem dX7_readsAll_2 : decode cX7_readsAll 2 = .ok (.putfield 9, 3) := by decide +kernel
theorem dX7_readsAll_5 : decode cX7_readsAll 5 = .ok (.aload_n 0, 1) := by decide +kernel
theorem dX7_readsAll_6 : decode cX7_readsAll 6 = .ok (.iconst 0, 1) := by decide +kernel
theorem dX7_readsAll_7 : decode cX7_readsAll 7 = .ok (.putfield 15, 3) := by decide +kernel
theorem dX7_readsAll_10 : decode cX7_readsAll 10 = .ok (.aload_n 0, 1) := by decide +kernel
theorem dX7_readsAll_11 : decode cX7_readsAll 11 = .ok (.invokevirtual 38, 3) := by decide +kernel
theorem dX7_readsAll_14 : decode cX7_readsAll 14 = .ok (.ifCond .ne 5, 3) := by decide +kernel
theorem dX7_readsAll_17 : decode cX7_readsAll 17 = .ok (.iconst 0, 1) := by decide +kernel
theorem dX7_readsAll_18 : decode cX7_readsAll 18 = .ok (.ireturn, 1) := by decide +kernel
theorem dX7_readsAll_19 : decode cX7_readsAll 19 = .ok (.aload_n 0, 1) := by decide +kernel
theorem dX7_readsAll_20 : decode cX7_readsAll 20 = .ok (.iconst 0, 1) := by decide +kernel
theorem dX7_readsAll_21 : decode cX7_readsAll 21 = .ok (.putfield 27, 3) := by decide +kernel
theorem dX7_readsAll_24 : decode cX7_readsAll 24 = .ok (.aload_n 0, 1) := by decide +kernel
theorem dX7_readsAll_25 : decode cX7_readsAll 25 = .ok (.invokevirtual 42, 3) := by decide +kernel
theorem dX7_readsAll_28 : decode cX7_readsAll 28 = .ok (.aload_n 0, 1) := by decide +kernel
theorem dX7_readsAll_29 : decode cX7_readsAll 29 = .ok (.invokevirtual 45, 3) := by decide +kernel
theorem dX7_readsAll_32 : decode cX7_readsAll 32 = .ok (.ifCond .ne 5, 3) := by decide +kernel
theorem dX7_readsAll_35 : decode cX7_readsAll 35 = .ok (.iconst 0, 1) := by decide +kernel
theorem dX7_readsAll_36 : decode cX7_readsAll 36 = .ok (.ireturn, 1) := by decide +kernel
theorem dX7_readsAll_37 : decode cX7_readsAll 37 = .ok (.iconst 0, 1) := by decide +kernel
theorem dX7_readsAll_38 : decode cX7_readsAll 38 = .ok (.istore_n 1, 1) := by decide +kernel
theorem dX7_readsAll_39 : decode cX7_readsAll 39 = .ok (.iload_n 1, 1) := by decide +kernel
theorem dX7_readsAll_40 : decode cX7_readsAll 40 = .ok (.aload_n 0, 1) := by decide +kernel
theorem dX7_readsAll_41 : decode cX7_readsAll 41 = .ok (.getfield 34, 3) := by decide +kernel
theorem dX7_readsAll_44 : decode cX7_readsAll 44 = .ok (.invokevirtual 48, 3) := by decide +kernel
theorem dX7_readsAll_47 : decode cX7_readsAll 47 = .ok (.if_icmp .ge 19, 3) := by decide +kernel
theorem dX7_readsAll_50 : decode cX7_readsAll 50 = .ok (.aload_n 0, 1) := by decide +kernel
theorem dX7_readsAll_51 : decode cX7_readsAll 51 = .ok (.iload_n 1, 1) := by decide +kernel
theorem dX7_readsAll_52 : decode cX7_readsAll 52 = .ok (.invokevirtual 54, 3) := by decide +kernel
theorem dX7_readsAll_55 : decode cX7_readsAll 55 = .ok (.ifCond .ne 5, 3) := by decide +kernel
theorem dX7_readsAll_58 : decode cX7_readsAll 58 = .ok (.iconst 0, 1) := by decide +kernel
theorem dX7_readsAll_59 : decode cX7_readsAll 59 = .ok (.ireturn, 1) := by decide +kernel
theorem dX7_readsAll_60 : decode cX7_readsAll 60 = .ok (.iinc 1 1, 3) := by decide +kernel
theorem dX7_readsAll_63 : decode cX7_readsAll 63 = .ok (.goto (-24), 3) := by decide +kernel
theorem dX7_readsAll_66 : decode cX7_readsAll 66 = .ok (.aload_n 0, 1) := by decide +kernel
theorem dX7_readsAll_67 : decode cX7_readsAll 67 = .ok (.getfield 18, 3) := by decide +kernel
theorem dX7_readsAll_70 : decode cX7_readsAll 70 = .ok (.ifCond .eq 9, 3) := by decide +kernel
theorem dX7_readsAll_73 : decode cX7_readsAll 73 = .ok (.aload_n 0, 1) := by decide +kernel
theorem dX7_readsAll_74 : decode cX7_readsAll 74 = .ok (.iconst 2, 1) := by decide +kernel
theorem dX7_readsAll_75 : decode cX7_readsAll 75 = .ok (.invokevirtual 58, 3) := by decide +kernel
theorem dX7_readsAll_78 : decode cX7_readsAll 78 = .ok (.ireturn, 1) := by decide +kernel
theorem dX7_readsAll_79 : decode cX7_readsAll 79 = .ok (.aload_n 0, 1) := by decide +kernel
theorem dX7_readsAll_80 : decode cX7_readsAll 80 = .ok (.getfield 34, 3) := by decide +kernel
theorem dX7_readsAll_83 : decode cX7_readsAll 83 = .ok (.invokevirtual 61, 3) := by decide +kernel
theorem dX7_readsAll_86 : decode cX7_readsAll 86 = .ok (.ifCond .ne 12, 3) := by decide +kernel
theorem dX7_readsAll_89 : decode cX7_readsAll 89 = .ok (.aload_n 0, 1) := by decide +kernel
theorem dX7_readsAll_90 : decode cX7_readsAll 90 = .ok (.bipush 7, 2) := by decide +kernel
theorem dX7_readsAll_92 : decode cX7_readsAll 92 = .ok (.invokevirtual 58, 3) := by decide +kernel
theorem dX7_readsAll_95 : decode cX7_readsAll 95 = .ok (.ifCond .eq 7, 3) := by decide +kernel
theorem dX7_readsAll_98 : decode cX7_readsAll 98 = .ok (.iconst 1, 1) := by decide +kernel
theorem dX7_readsAll_99 : decode cX7_readsAll 99 = .ok (.goto 4, 3) := by decide +kernel
theorem dX7_readsAll_102 : decode cX7_readsAll 102 = .ok (.iconst 0, 1) := by decide +kernel
theorem dX7_readsAll_103 : decode cX7_readsAll 103 = .ok (.ireturn, 1) := by decide +kernel
def f_X7_isDigit (a1 : Int32) (s : St) : Option (Int32 × St) :=
  if a1 < (48 : Int32) then (
    some ((0 : Int32), s))
  else (
    if (57 : Int32) < a1 then (
      some ((0 : Int32), s))
    else (
      some ((1 : Int32), s)))
set_option maxRecDepth 100000 in
set_option maxHeartbeats 4000000 in
theorem ok_X7_isDigit {a1 : Int32} {s : St} {r : Int32 × St} (h : f_X7_isDigit a1 s = some r) : Ct 0 m_X7_isDigit [.int a1] s (some (.int r.1)) r.2 := by
  unfold f_X7_isDigit at h
  refine ct_of [some (.int a1)] 0 (by decide) rfl (Nat.le_of_ble_eq_true rfl) ?_
  refine wp_iload_n (i := 0) dX7_isDigit_0 rfl rfl ?_
  refine wp_bipush (v := 48) dX7_isDigit_1 (by decide +kernel) ?_
  refine wp_icmp_lt (tgt := 16) dX7_isDigit_3 (by decide) (fun c1 => ?_) (fun c1 => ?_)
  · rw [if_pos c1] at h
    refine wp_iconst (v := 0) dX7_isDigit_16 (by decide +kernel) ?_
    obtain rfl := Option.some.inj h
    exact wp_iret dX7_isDigit_17 rfl (narrow_z (Or.inl rfl)).1
  · rw [if_neg c1] at h
    refine wp_iload_n (i := 0) dX7_isDigit_6 rfl rfl ?_
    refine wp_bipush (v := 57) dX7_isDigit_7 (by decide +kernel) ?_
    refine wp_icmp_gt (tgt := 16) dX7_isDigit_9 (by decide) (fun c2 => ?_) (fun c2 => ?_)
    · rw [if_pos c2] at h
      refine wp_iconst (v := 0) dX7_isDigit_16 (by decide +kernel) ?_
      obtain rfl := Option.some.inj h
      exact wp_iret dX7_isDigit_17 rfl (narrow_z (Or.inl rfl)).1
    · rw [if_neg c2] at h
      refine wp_iconst (v := 1) dX7_isDigit_12 (by decide +kernel) ?_
      refine wp_goto (tgt := 17) dX7_isDigit_13 (by decide) ?_
      obtain rfl := Option.some.inj h
      exact wp_iret dX7_isDigit_17 rfl (narrow_z (Or.inr rfl)).1
def f_X7_endOfDigits_2 : Nat → Int32 → St → Option (Int32 × St)
  | 0, _, _ => none
  | n + 1, v2, s =>
    if (s.1 1 1) ≤ v2 then (
      some (v2, s))
    else (
      Option.bind (f_X6_byteAt v2 s) fun r2 =>
      Option.bind (f_X7_isDigit r2.1 r2.2) fun r3 =>
      if r3.1 = 0 then (
        some (v2, r3.2))
      else (
        f_X7_endOfDigits_2 n (v2 + 1) r3.2))
set_option maxRecDepth 100000 in
set_option maxHeartbeats 4000000 in
theorem w_X7_endOfDigits_2 {r : Int32 × St}   : ∀ (n : Nat) (v2 : Int32) (s : St), f_X7_endOfDigits_2  n v2 s = some r → Wp m_X7_endOfDigits 1 (PR (some (.int r.1)) r.2) 2 [some (.ref 11), none, some (.int v2)] [] s := by
  intro n
  induction n with
  | zero => intro v2 s h; cases h
  | succ n ih =>
    intro v2 s h
    unfold f_X7_endOfDigits_2 at h
    refine wp_iload_n (i := 2) dX7_endOfDigits_2 rfl rfl ?_
    refine wp_aload_n (i := 0) dX7_endOfDigits_3 rfl rfl ?_
    refine wp_getR (t := 1) dX7_endOfDigits_4 fl_X7_30 rfl rfl ?_
    refine wp_getI dX7_endOfDigits_7 fl_X7_64 rfl rfl ?_
    refine wp_icmp_ge (tgt := 33) dX7_endOfDigits_10 (by decide) (fun c1 => ?_) (fun c1 => ?_)
    · rw [if_pos c1] at h
      refine wp_iload_n (i := 2) dX7_endOfDigits_33 rfl rfl ?_
      obtain rfl := Option.some.inj h
      exact wp_iret dX7_endOfDigits_34 rfl rfl
    · rw [if_neg c1] at h
      refine wp_aload_n (i := 0) dX7_endOfDigits_13 rfl rfl ?_
      refine wp_getR (t := 1) dX7_endOfDigits_14 fl_X7_30 rfl rfl ?_
      refine wp_iload_n (i := 2) dX7_endOfDigits_17 rfl rfl ?_
      obtain ⟨r2, er2, h⟩ := ob h
      refine wp_cVi (N := m_X6_byteAt) (As := [.int v2]) (rest := []) dX7_endOfDigits_18 ml_X7_69 mo_X6_byteAt vo_X6_byteAt rfl rfl (ok_X6_byteAt er2) (by decide) (Nat.le_of_ble_eq_true rfl) ?_
      obtain ⟨r3, er3, h⟩ := ob h
      refine wp_cSi (N := m_X7_isDigit) (As := [.int r2.1]) (rest := []) dX7_endOfDigits_21 ml_X7_73 mo_X7_isDigit vo_X7_isDigit rfl (ok_X7_isDigit er3) (by decide) (Nat.le_of_ble_eq_true rfl) ?_
      refine wp_if_eq (tgt := 33) dX7_endOfDigits_24 (by decide) (fun c4 => ?_) (fun c4 => ?_)
      · rw [if_pos c4] at h
        refine wp_iload_n (i := 2) dX7_endOfDigits_33 rfl rfl ?_
        obtain rfl := Option.some.inj h
        exact wp_iret dX7_endOfDigits_34 rfl rfl
      · rw [if_neg c4] at h
        refine wp_inc (c := 1) (ls' := [some (.ref 11), none, some (.int (v2 + 1))]) dX7_endOfDigits_27 rfl (by decide +kernel) (by decide) rfl rfl ?_
        refine wp_goto (tgt := 2) dX7_endOfDigits_30 (by decide) ?_
        exact wp_sub (ls' := [some (.ref 11), none, some (.int (v2 + 1))]) ⟨rfl, rfl, trivial⟩ (ih _ _ h)
def f_X7_endOfDigits (a1 : Int32) (s : St) : Option (Int32 × St) :=
  f_X7_endOfDigits_2 FU a1 s
set_option maxRecDepth 100000 in
set_option maxHeartbeats 4000000 in
theorem ok_X7_endOfDigits {a1 : Int32} {s : St} {r : Int32 × St} (h : f_X7_endOfDigits a1 s = some r) : Ct 1 m_X7_endOfDigits [.ref 11, .int a1] s (some (.int r.1)) r.2 := by
  unfold f_X7_endOfDigits at h
  refine ct_of [some (.ref 11), some (.int a1), none] 1 (by decide) rfl (Nat.le_of_ble_eq_true rfl) ?_
  refine wp_iload_n (i := 1) dX7_endOfDigits_0 rfl rfl ?_
  refine wp_istore_n (ls' := [some (.ref 11), some (.int a1), some (.int a1)]) dX7_endOfDigits_1 rfl (by decide) rfl rfl ?_
  exact wp_sub (ls' := [some (.ref 11), none, some (.int a1)]) ⟨rfl, rfl, trivial⟩ (w_X7_endOfDigits_2 _ _ _ h)
def f_X7_isLetter (a1 : Int32) (s : St) : Option (Int32 × St) :=
  if a1 < (97 : Int32) then (
    some ((0 : Int32), s))
  else (
    if (99 : Int32) < a1 then (
      some ((0 : Int32), s))
    else (
      some ((1 : Int32), s)))
set_option maxRecDepth 100000 in
set_option maxHeartbeats 4000000 in
theorem ok_X7_isLetter {a1 : Int32} {s : St} {r : Int32 × St} (h : f_X7_isLetter a1 s = some r) : Ct 0 m_X7_isLetter [.int a1] s (some (.int r.1)) r.2 := by
  unfold f_X7_isLetter at h
  refine ct_of [some (.int a1)] 0 (by decide) rfl (Nat.le_of_ble_eq_true rfl) ?_
  refine wp_iload_n (i := 0) dX7_isLetter_0 rfl rfl ?_
  refine wp_bipush (v := 97) dX7_isLetter_1 (by decide +kernel) ?_
  refine wp_icmp_lt (tgt := 16) dX7_isLetter_3 (by decide) (fun c1 => ?_) (fun c1 => ?_)
  · rw [if_pos c1] at h
    refine wp_iconst (v := 0) dX7_isLetter_16 (by decide +kernel) ?_
    obtain rfl := Option.some.inj h
    exact wp_iret dX7_isLetter_17 rfl (narrow_z (Or.inl rfl)).1
  · rw [if_neg c1] at h
    refine wp_iload_n (i := 0) dX7_isLetter_6 rfl rfl ?_
    refine wp_bipush (v := 99) dX7_isLetter_7 (by decide +kernel) ?_
    refine wp_icmp_gt (tgt := 16) dX7_isLetter_9 (by decide) (fun c2 => ?_) (fun c2 => ?_)
    · rw [if_pos c2] at h
      refine wp_iconst (v := 0) dX7_isLetter_16 (by decide +kernel) ?_
      obtain rfl := Option.some.inj h
      exact wp_iret dX7_isLetter_17 rfl (narrow_z (Or.inl rfl)).1
    · rw [if_neg c2] at h
      refine wp_iconst (v := 1) dX7_isLetter_12 (by decide +kernel) ?_
      refine wp_goto (tgt := 17) dX7_isLetter_13 (by decide) ?_
      obtain rfl := Option.some.inj h
      exact wp_iret dX7_isLetter_17 rfl (narrow_z (Or.inr rfl)).1
def f_X7_isSpace (a1 : Int32) (s : St) : Option (Int32 × St) :=
  if a1 = (32 : Int32) then (
    some ((1 : Int32), s))
  else (
    if a1 = (10 : Int32) then (
      some ((1 : Int32), s))
    else (
      some ((0 : Int32), s)))
set_option maxRecDepth 100000 in
set_option maxHeartbeats 4000000 in
theorem ok_X7_isSpace {a1 : Int32} {s : St} {r : Int32 × St} (h : f_X7_isSpace a1 s = some r) : Ct 0 m_X7_isSpace [.int a1] s (some (.int r.1)) r.2 := by
  unfold f_X7_isSpace at h
  refine ct_of [some (.int a1)] 0 (by decide) rfl (Nat.le_of_ble_eq_true rfl) ?_
  refine wp_iload_n (i := 0) dX7_isSpace_0 rfl rfl ?_
  refine wp_bipush (v := 32) dX7_isSpace_1 (by decide +kernel) ?_
  refine wp_icmp_eq (tgt := 12) dX7_isSpace_3 (by decide) (fun c1 => ?_) (fun c1 => ?_)
  · rw [if_pos c1] at h
    refine wp_iconst (v := 1) dX7_isSpace_12 (by decide +kernel) ?_
    refine wp_goto (tgt := 17) dX7_isSpace_13 (by decide) ?_
    obtain rfl := Option.some.inj h
    exact wp_iret dX7_isSpace_17 rfl (narrow_z (Or.inr rfl)).1
  · rw [if_neg c1] at h
    refine wp_iload_n (i := 0) dX7_isSpace_6 rfl rfl ?_
    refine wp_bipush (v := 10) dX7_isSpace_7 (by decide +kernel) ?_
    refine wp_icmp_ne (tgt := 16) dX7_isSpace_9 (by decide) (fun c2 => ?_) (fun c2 => ?_)
    · rw [if_neg c2] at h
      refine wp_iconst (v := 0) dX7_isSpace_16 (by decide +kernel) ?_
      obtain rfl := Option.some.inj h
      exact wp_iret dX7_isSpace_17 rfl (narrow_z (Or.inl rfl)).1
    · rw [if_pos c2] at h
      refine wp_iconst (v := 1) dX7_isSpace_12 (by decide +kernel) ?_
      refine wp_goto (tgt := 17) dX7_isSpace_13 (by decide) ?_
      obtain rfl := Option.some.inj h
      exact wp_iret dX7_isSpace_17 rfl (narrow_z (Or.inr rfl)).1
def f_X7_advance_138 : Nat → Int32 → St → Option (St)
  | 0, _, _ => none
  | n + 1, v2, s =>
    if (s.1 11 7) ≤ v2 then (
      some s)
    else (
      Option.bind (f_X6_byteAt v2 s) fun r2 =>
      Option.bind (some (sF r2.2 11 6 ((((10 : Int32) * (s.1 11 6)) + r2.1) - (48 : Int32)))) fun s3 =>
      f_X7_advance_138 n (v2 + 1) s3)
set_option maxRecDepth 100000 in
set_option maxHeartbeats 4000000 in
theorem w_X7_advance_138 {r : St}   : ∀ (n : Nat) (v2 : Int32) (s : St), f_X7_advance_138  n v2 s = some r → Wp m_X7_advance 2 (PR none r) 138 [some (.ref 11), none, some (.int v2)] [] s := by
  intro n
  induction n with
  | zero => intro v2 s h; cases h
  | succ n ih =>
    intro v2 s h
    unfold f_X7_advance_138 at h
    refine wp_iload_n (i := 2) dX7_advance_138 rfl rfl ?_
    refine wp_aload_n (i := 0) dX7_advance_139 rfl rfl ?_
    refine wp_getI dX7_advance_140 fl_X7_27 rfl rfl ?_
    refine wp_icmp_ge (tgt := 175) dX7_advance_143 (by decide) (fun c1 => ?_) (fun c1 => ?_)
    · rw [if_pos c1] at h
      refine wp_goto (tgt := 208) dX7_advance_175 (by decide) ?_
      obtain rfl := Option.some.inj h
      exact wp_vret dX7_advance_208 rfl
    · rw [if_neg c1] at h
      refine wp_aload_n (i := 0) dX7_advance_146 rfl rfl ?_
      refine wp_bipush (v := 10) dX7_advance_147 (by decide +kernel) ?_
      refine wp_aload_n (i := 0) dX7_advance_149 rfl rfl ?_
      refine wp_getI dX7_advance_150 fl_X7_24 rfl rfl ?_
      refine wp_imul dX7_advance_153 ?_
      refine wp_aload_n (i := 0) dX7_advance_154 rfl rfl ?_
      refine wp_getR (t := 1) dX7_advance_155 fl_X7_30 rfl rfl ?_
      refine wp_iload_n (i := 2) dX7_advance_158 rfl rfl ?_
      obtain ⟨r2, er2, h⟩ := ob h
      refine wp_cVi (N := m_X6_byteAt) (As := [.int v2]) (rest := [.int ((10 : Int32) * (s.1 11 6)), .ref 11]) dX7_advance_159 ml_X7_69 mo_X6_byteAt vo_X6_byteAt rfl rfl (ok_X6_byteAt er2) (by decide) (Nat.le_of_ble_eq_true rfl) ?_
      refine wp_iadd dX7_advance_162 ?_
      refine wp_bipush (v := 48) dX7_advance_163 (by decide +kernel) ?_
      refine wp_isub dX7_advance_165 ?_
      obtain ⟨s3, es3, h⟩ := ob h
      refine wp_putI2 dX7_advance_166 fl_X7_24 rfl rfl rfl rfl es3 ?_
      refine wp_inc (c := 1) (ls' := [some (.ref 11), none, some (.int (v2 + 1))]) dX7_advance_169 rfl (by decide +kernel) (by decide) rfl rfl ?_
      refine wp_goto (tgt := 138) dX7_advance_172 (by decide) ?_
      exact wp_sub (ls' := [some (.ref 11), none, some (.int (v2 + 1))]) ⟨rfl, rfl, trivial⟩ (ih _ _ h)
def f_X7_advance_52  (s : St) : Option (St) :=
  Option.bind (f_X6_byteAt (s.1 11 5) s) fun r1 =>
  Option.bind (some (sF r1.2 11 6 (0 : Int32))) fun s2 =>
  Option.bind (some (sF s2 11 7 ((s2.1 11 5) + (1 : Int32)))) fun s3 =>
  if (s3.1 11 5) < (s3.1 1 1) then (
    Option.bind (f_X7_isDigit r1.1 s3) fun r5 =>
    if r5.1 = 0 then (
      Option.bind (f_X7_isLetter r1.1 r5.2) fun r7 =>
      if r7.1 = 0 then (
        Option.bind (some (sF r7.2 11 4 (3 : Int32))) fun s9 =>
        some s9)
      else (
        Option.bind (some (sF r7.2 11 4 (2 : Int32))) fun s10 =>
        Option.bind (some (sF s10 11 6 ((r1.1 - (97 : Int32)) + (1 : Int32)))) fun s11 =>
        some s11))
    else (
      Option.bind (some (sF r5.2 11 4 (1 : Int32))) fun s12 =>
      Option.bind (f_X7_endOfDigits (s12.1 11 5) s12) fun r13 =>
      Option.bind (some (sF r13.2 11 7 r13.1)) fun s14 =>
      f_X7_advance_138 FU (s14.1 11 5) s14))
  else (
    Option.bind (some (sF s3 11 4 (0 : Int32))) fun s15 =>
    Option.bind (some (sF s15 11 7 (s15.1 11 5))) fun s16 =>
    some s16)
set_option maxRecDepth 100000 in
set_option maxHeartbeats 4000000 in
theorem w_X7_advance_52 {r : St}   {s : St} (h : f_X7_advance_52  s = some r) : Wp m_X7_advance 2 (PR none r) 52 [some (.ref 11), none, none] [] s := by
  unfold f_X7_advance_52 at h
  refine wp_aload_n (i := 0) dX7_advance_52 rfl rfl ?_
  refine wp_getR (t := 1) dX7_advance_53 fl_X7_30 rfl rfl ?_
  refine wp_aload_n (i := 0) dX7_advance_56 rfl rfl ?_
  refine wp_getI dX7_advance_57 fl_X7_21 rfl rfl ?_
  obtain ⟨r1, er1, h⟩ := ob h
  refine wp_cVi (N := m_X6_byteAt) (As := [.int (s.1 11 5)]) (rest := []) dX7_advance_60 ml_X7_69 mo_X6_byteAt vo_X6_byteAt rfl rfl (ok_X6_byteAt er1) (by decide) (Nat.le_of_ble_eq_true rfl) ?_
  refine wp_istore_n (ls' := [some (.ref 11), some (.int r1.1), none]) dX7_advance_63 rfl (by decide) rfl rfl ?_
  refine wp_aload_n (i := 0) dX7_advance_64 rfl rfl ?_
  refine wp_iconst (v := 0) dX7_advance_65 (by decide +kernel) ?_
  obtain ⟨s2, es2, h⟩ := ob h
  refine wp_putI2 dX7_advance_66 fl_X7_24 rfl rfl rfl rfl es2 ?_
  refine wp_aload_n (i := 0) dX7_advance_69 rfl rfl ?_
  refine wp_aload_n (i := 0) dX7_advance_70 rfl rfl ?_
  refine wp_getI dX7_advance_71 fl_X7_21 rfl rfl ?_
  refine wp_iconst (v := 1) dX7_advance_74 (by decide +kernel) ?_
  refine wp_iadd dX7_advance_75 ?_
  obtain ⟨s3, es3, h⟩ := ob h
  refine wp_putI2 dX7_advance_76 fl_X7_27 rfl rfl rfl rfl es3 ?_
  refine wp_aload_n (i := 0) dX7_advance_79 rfl rfl ?_
  refine wp_getI dX7_advance_80 fl_X7_21 rfl rfl ?_
  refine wp_aload_n (i := 0) dX7_advance_83 rfl rfl ?_
  refine wp_getR (t := 1) dX7_advance_84 fl_X7_30 rfl rfl ?_
  refine wp_getI dX7_advance_87 fl_X7_64 rfl rfl ?_
  refine wp_icmp_lt (tgt := 109) dX7_advance_90 (by decide) (fun c4 => ?_) (fun c4 => ?_)
  · rw [if_pos c4] at h
    refine wp_iload_n (i := 1) dX7_advance_109 rfl rfl ?_
    obtain ⟨r5, er5, h⟩ := ob h
    refine wp_cSi (N := m_X7_isDigit) (As := [.int r1.1]) (rest := []) dX7_advance_110 ml_X7_73 mo_X7_isDigit vo_X7_isDigit rfl (ok_X7_isDigit er5) (by decide) (Nat.le_of_ble_eq_true rfl) ?_
    refine wp_if_eq (tgt := 178) dX7_advance_113 (by decide) (fun c6 => ?_) (fun c6 => ?_)
    · rw [if_pos c6] at h
      refine wp_iload_n (i := 1) dX7_advance_178 rfl rfl ?_
      obtain ⟨r7, er7, h⟩ := ob h
      refine wp_cSi (N := m_X7_isLetter) (As := [.int r1.1]) (rest := []) dX7_advance_179 ml_X7_76 mo_X7_isLetter vo_X7_isLetter rfl (ok_X7_isLetter er7) (by decide) (Nat.le_of_ble_eq_true rfl) ?_
      refine wp_if_eq (tgt := 203) dX7_advance_182 (by decide) (fun c8 => ?_) (fun c8 => ?_)
      · rw [if_pos c8] at h
        refine wp_aload_n (i := 0) dX7_advance_203 rfl rfl ?_
        refine wp_iconst (v := 3) dX7_advance_204 (by decide +kernel) ?_
        obtain ⟨s9, es9, h⟩ := ob h
        refine wp_putI2 dX7_advance_205 fl_X7_18 rfl rfl rfl rfl es9 ?_
        obtain rfl := Option.some.inj h
        exact wp_vret dX7_advance_208 rfl
      · rw [if_neg c8] at h
        refine wp_aload_n (i := 0) dX7_advance_185 rfl rfl ?_
        refine wp_iconst (v := 2) dX7_advance_186 (by decide +kernel) ?_
        obtain ⟨s10, es10, h⟩ := ob h
        refine wp_putI2 dX7_advance_187 fl_X7_18 rfl rfl rfl rfl es10 ?_
        refine wp_aload_n (i := 0) dX7_advance_190 rfl rfl ?_
        refine wp_iload_n (i := 1) dX7_advance_191 rfl rfl ?_
        refine wp_bipush (v := 97) dX7_advance_192 (by decide +kernel) ?_
        refine wp_isub dX7_advance_194 ?_
        refine wp_iconst (v := 1) dX7_advance_195 (by decide +kernel) ?_
        refine wp_iadd dX7_advance_196 ?_
        obtain ⟨s11, es11, h⟩ := ob h
        refine wp_putI2 dX7_advance_197 fl_X7_24 rfl rfl rfl rfl es11 ?_
        refine wp_goto (tgt := 208) dX7_advance_200 (by decide) ?_
        obtain rfl := Option.some.inj h
        exact wp_vret dX7_advance_208 rfl
    · rw [if_neg c6] at h
      refine wp_aload_n (i := 0) dX7_advance_116 rfl rfl ?_
      refine wp_iconst (v := 1) dX7_advance_117 (by decide +kernel) ?_
      obtain ⟨s12, es12, h⟩ := ob h
      refine wp_putI2 dX7_advance_118 fl_X7_18 rfl rfl rfl rfl es12 ?_
      refine wp_aload_n (i := 0) dX7_advance_121 rfl rfl ?_
      refine wp_aload_n (i := 0) dX7_advance_122 rfl rfl ?_
      refine wp_aload_n (i := 0) dX7_advance_123 rfl rfl ?_
      refine wp_getI dX7_advance_124 fl_X7_21 rfl rfl ?_
      obtain ⟨r13, er13, h⟩ := ob h
      refine wp_cVi (N := m_X7_endOfDigits) (As := [.int (s12.1 11 5)]) (rest := [.ref 11]) dX7_advance_127 ml_X7_82 mo_X7_endOfDigits vo_X7_endOfDigits rfl rfl (ok_X7_endOfDigits er13) (by decide) (Nat.le_of_ble_eq_true rfl) ?_
      obtain ⟨s14, es14, h⟩ := ob h
      refine wp_putI2 dX7_advance_130 fl_X7_27 rfl rfl rfl rfl es14 ?_
      refine wp_aload_n (i := 0) dX7_advance_133 rfl rfl ?_
      refine wp_getI dX7_advance_134 fl_X7_21 rfl rfl ?_
      refine wp_istore_n (ls' := [some (.ref 11), some (.int r1.1), some (.int (s14.1 11 5))]) dX7_advance_137 rfl (by decide) rfl rfl ?_
      exact wp_sub (ls' := [some (.ref 11), none, some (.int (s14.1 11 5))]) ⟨rfl, rfl, trivial⟩ (w_X7_advance_138 _ _ _ h)
  · rw [if_neg c4] at h
    refine wp_aload_n (i := 0) dX7_advance_93 rfl rfl ?_
    refine wp_iconst (v := 0) dX7_advance_94 (by decide +kernel) ?_
    obtain ⟨s15, es15, h⟩ := ob h
    refine wp_putI2 dX7_advance_95 fl_X7_18 rfl rfl rfl rfl es15 ?_
    refine wp_aload_n (i := 0) dX7_advance_98 rfl rfl ?_
    refine wp_aload_n (i := 0) dX7_advance_99 rfl rfl ?_
    refine wp_getI dX7_advance_100 fl_X7_21 rfl rfl ?_
    obtain ⟨s16, es16, h⟩ := ob h
    refine wp_putI2 dX7_advance_103 fl_X7_27 rfl rfl rfl rfl es16 ?_
    refine wp_goto (tgt := 208) dX7_advance_106 (by decide) ?_
    obtain rfl := Option.some.inj h
    exact wp_vret dX7_advance_208 rfl
def f_X7_advance_8 : Nat → St → Option (St)
  | 0, _ => none
  | n + 1, s =>
    if (s.1 1 1) ≤ (s.1 11 5) then (
      f_X7_advance_52 s)
    else (
      Option.bind (f_X6_byteAt (s.1 11 5) s) fun r2 =>
      Option.bind (f_X7_isSpace r2.1 r2.2) fun r3 =>
      if r3.1 = 0 then (
        f_X7_advance_52 r3.2)
      else (
        Option.bind (some (sF r3.2 11 5 ((r3.2.1 11 5) + (1 : Int32)))) fun s5 =>
        f_X7_advance_8 n s5))
set_option maxRecDepth 100000 in
set_option maxHeartbeats 4000000 in
theorem w_X7_advance_8 {r : St}   : ∀ (n : Nat)  (s : St), f_X7_advance_8  n s = some r → Wp m_X7_advance 2 (PR none r) 8 [some (.ref 11), none, none] [] s := by
  intro n
  induction n with
  | zero => intro  s h; cases h
  | succ n ih =>
    intro  s h
    unfold f_X7_advance_8 at h
    refine wp_aload_n (i := 0) dX7_advance_8 rfl rfl ?_
    refine wp_getI dX7_advance_9 fl_X7_21 rfl rfl ?_
    refine wp_aload_n (i := 0) dX7_advance_12 rfl rfl ?_
    refine wp_getR (t := 1) dX7_advance_13 fl_X7_30 rfl rfl ?_
    refine wp_getI dX7_advance_16 fl_X7_64 rfl rfl ?_
    refine wp_icmp_ge (tgt := 52) dX7_advance_19 (by decide) (fun c1 => ?_) (fun c1 => ?_)
    · rw [if_pos c1] at h
      exact wp_sub (ls' := [some (.ref 11), none, none]) ⟨rfl, trivial⟩ (w_X7_advance_52 h)
    · rw [if_neg c1] at h
      refine wp_aload_n (i := 0) dX7_advance_22 rfl rfl ?_
      refine wp_getR (t := 1) dX7_advance_23 fl_X7_30 rfl rfl ?_
      refine wp_aload_n (i := 0) dX7_advance_26 rfl rfl ?_
      refine wp_getI dX7_advance_27 fl_X7_21 rfl rfl ?_
      obtain ⟨r2, er2, h⟩ := ob h
      refine wp_cVi (N := m_X6_byteAt) (As := [.int (s.1 11 5)]) (rest := []) dX7_advance_30 ml_X7_69 mo_X6_byteAt vo_X6_byteAt rfl rfl (ok_X6_byteAt er2) (by decide) (Nat.le_of_ble_eq_true rfl) ?_
      obtain ⟨r3, er3, h⟩ := ob h
      refine wp_cSi (N := m_X7_isSpace) (As := [.int r2.1]) (rest := []) dX7_advance_33 ml_X7_79 mo_X7_isSpace vo_X7_isSpace rfl (ok_X7_isSpace er3) (by decide) (Nat.le_of_ble_eq_true rfl) ?_
      refine wp_if_eq (tgt := 52) dX7_advance_36 (by decide) (fun c4 => ?_) (fun c4 => ?_)
      · rw [if_pos c4] at h
        exact wp_sub (ls' := [some (.ref 11), none, none]) ⟨rfl, trivial⟩ (w_X7_advance_52 h)
      · rw [if_neg c4] at h
        refine wp_aload_n (i := 0) dX7_advance_39 rfl rfl ?_
        refine wp_dup_r dX7_advance_40 ?_
        refine wp_getI dX7_advance_41 fl_X7_21 rfl rfl ?_
        refine wp_iconst (v := 1) dX7_advance_44 (by decide +kernel) ?_
        refine wp_iadd dX7_advance_45 ?_
        obtain ⟨s5, es5, h⟩ := ob h
        refine wp_putI2 dX7_advance_46 fl_X7_21 rfl rfl rfl rfl es5 ?_
        refine wp_goto (tgt := 8) dX7_advance_49 (by decide) ?_
        exact wp_sub (ls' := [some (.ref 11), none, none]) ⟨rfl, trivial⟩ (ih _ h)
def f_X7_advance  (s : St) : Option (St) :=
  Option.bind (some (sF s 11 5 (s.1 11 7))) fun s1 =>
  f_X7_advance_8 FU s1
set_option maxRecDepth 100000 in
set_option maxHeartbeats 4000000 in
theorem ok_X7_advance  {s : St} {r : St} (h : f_X7_advance  s = some r) : Ct 2 m_X7_advance [.ref 11] s none r := by
  unfold f_X7_advance at h
  refine ct_of [some (.ref 11), none, none] 2 (by decide) rfl (Nat.le_of_ble_eq_true rfl) ?_
  refine wp_aload_n (i := 0) dX7_advance_0 rfl rfl ?_
  refine wp_aload_n (i := 0) dX7_advance_1 rfl rfl ?_
  refine wp_getI dX7_advance_2 fl_X7_27 rfl rfl ?_
  obtain ⟨s1, es1, h⟩ := ob h
  refine wp_putI2 dX7_advance_5 fl_X7_21 rfl rfl rfl rfl es1 ?_
  exact wp_sub (ls' := [some (.ref 11), none, none]) ⟨rfl, trivial⟩ (w_X7_advance_8 _ _ h)
def f_X7_refuse (a1 : Int32) (s : St) : Option (Int32 × St) :=
  Option.bind (some (sF s 11 2 a1)) fun s1 =>
  Option.bind (some (sF s1 11 3 (s1.1 11 5))) fun s2 =>
  some ((0 : Int32), s2)
set_option maxRecDepth 100000 in
set_option maxHeartbeats 4000000 in
theorem ok_X7_refuse {a1 : Int32} {s : St} {r : Int32 × St} (h : f_X7_refuse a1 s = some r) : Ct 0 m_X7_refuse [.ref 11, .int a1] s (some (.int r.1)) r.2 := by
  unfold f_X7_refuse at h
  refine ct_of [some (.ref 11), some (.int a1)] 0 (by decide) rfl (Nat.le_of_ble_eq_true rfl) ?_
  refine wp_aload_n (i := 0) dX7_refuse_0 rfl rfl ?_
  refine wp_iload_n (i := 1) dX7_refuse_1 rfl rfl ?_
  obtain ⟨s1, es1, h⟩ := ob h
  refine wp_putI2 dX7_refuse_2 fl_X7_9 rfl rfl rfl rfl es1 ?_
  refine wp_aload_n (i := 0) dX7_refuse_5 rfl rfl ?_
  refine wp_aload_n (i := 0) dX7_refuse_6 rfl rfl ?_
  refine wp_getI dX7_refuse_7 fl_X7_21 rfl rfl ?_
  obtain ⟨s2, es2, h⟩ := ob h
  refine wp_putI2 dX7_refuse_10 fl_X7_15 rfl rfl rfl rfl es2 ?_
  refine wp_iconst (v := 0) dX7_refuse_13 (by decide +kernel) ?_
  obtain rfl := Option.some.inj h
  exact wp_iret dX7_refuse_14 rfl (narrow_z (Or.inl rfl)).1
def f_X7_cutsClean_96 (t0 : Int32) (s : St) : Option (Int32 × St) :=
  Option.bind (some (sF s 11 5 t0)) fun s1 =>
  Option.bind (f_X7_refuse (1 : Int32) s1) fun r2 =>
  if r2.1 = 0 ∨ r2.1 = 1 then some (r2.1, r2.2) else none
set_option maxRecDepth 100000 in
set_option maxHeartbeats 4000000 in
theorem w_X7_cutsClean_96 {r : Int32 × St} {t0 : Int32}  {s : St} (h : f_X7_cutsClean_96  t0 s = some r) : Wp m_X7_cutsClean 1 (PR (some (.int r.1)) r.2) 96 [some (.ref 11), none, none, none, none] [.int t0, .ref 11] s := by
  unfold f_X7_cutsClean_96 at h
  obtain ⟨s1, es1, h⟩ := ob h
  refine wp_putI2 dX7_cutsClean_96 fl_X7_21 rfl rfl rfl rfl es1 ?_
  refine wp_aload_n (i := 0) dX7_cutsClean_99 rfl rfl ?_
  refine wp_iconst (v := 1) dX7_cutsClean_100 (by decide +kernel) ?_
  obtain ⟨r2, er2, h⟩ := ob h
  refine wp_cVi (N := m_X7_refuse) (As := [.int (1 : Int32)]) (rest := []) dX7_cutsClean_101 ml_X7_58 mo_X7_refuse vo_X7_refuse rfl rfl (ok_X7_refuse er2) (by decide) (Nat.le_of_ble_eq_true rfl) ?_
  obtain ⟨hb, h⟩ := ifn h
  obtain rfl := Option.some.inj h
  exact wp_iret dX7_cutsClean_104 rfl (narrow_z hb).1
def f_X7_cutsClean_83 (v2 : Int32) (v4 : Int32) (s : St) : Option (Int32 × St) :=
  if v4 = 0 then (
    f_X7_cutsClean_96 v2 s)
  else (
    f_X7_cutsClean_96 (v2 - (2 : Int32)) s)
set_option maxRecDepth 100000 in
set_option maxHeartbeats 4000000 in
theorem w_X7_cutsClean_83 {r : Int32 × St} {v2 : Int32} {v4 : Int32}  {s : St} (h : f_X7_cutsClean_83  v2 v4 s = some r) : Wp m_X7_cutsClean 1 (PR (some (.int r.1)) r.2) 83 [some (.ref 11), none, some (.int v2), none, some (.int v4)] [] s := by
  unfold f_X7_cutsClean_83 at h
  refine wp_aload_n (i := 0) dX7_cutsClean_83 rfl rfl ?_
  refine wp_iload dX7_cutsClean_84 rfl ?_
  refine wp_if_eq (tgt := 95) dX7_cutsClean_86 (by decide) (fun c1 => ?_) (fun c1 => ?_)
  · rw [if_pos c1] at h
    refine wp_iload_n (i := 2) dX7_cutsClean_95 rfl rfl ?_
    exact wp_sub (ls' := [some (.ref 11), none, none, none, none]) ⟨rfl, trivial⟩ (w_X7_cutsClean_96 h)
  · rw [if_neg c1] at h
    refine wp_iload_n (i := 2) dX7_cutsClean_89 rfl rfl ?_
    refine wp_iconst (v := 2) dX7_cutsClean_90 (by decide +kernel) ?_
    refine wp_isub dX7_cutsClean_91 ?_
    refine wp_goto (tgt := 96) dX7_cutsClean_92 (by decide) ?_
    exact wp_sub (ls' := [some (.ref 11), none, none, none, none]) ⟨rfl, trivial⟩ (w_X7_cutsClean_96 h)
def f_X7_cutsClean_71 (K4 : Int32 → Int32 → St → Option (Int32 × St)) (v1 : Int32) (v2 : Int32) (t0 : Int32) (s : St) : Option (Int32 × St) :=
  if t0 = 0 then (
    f_X7_cutsClean_83 v2 t0 s)
  else (
    if v1 ≤ (2 : Int32) then (
      K4 v1 (v2 + 1) s)
    else (
      f_X7_cutsClean_83 v2 t0 s))
set_option maxRecDepth 100000 in
set_option maxHeartbeats 4000000 in
theorem w_X7_cutsClean_71 {r : Int32 × St} {K4 : Int32 → Int32 → St → Option (Int32 × St)} (hK4 : ∀ (v1 : Int32) (v2 : Int32) (s : St), K4 v1 v2 s = some r → Wp m_X7_cutsClean 1 (PR (some (.int r.1)) r.2) 4 [some (.ref 11), some (.int v1), some (.int v2), none, none] [] s) {v1 : Int32} {v2 : Int32} {t0 : Int32}  {s : St} (h : f_X7_cutsClean_71 K4 v1 v2 t0 s = some r) : Wp m_X7_cutsClean 1 (PR (some (.int r.1)) r.2) 71 [some (.ref 11), some (.int v1), some (.int v2), none, none] [.int t0] s := by
  unfold f_X7_cutsClean_71 at h
  refine wp_istore (ls' := [some (.ref 11), some (.int v1), some (.int v2), none, some (.int t0)]) dX7_cutsClean_71 (by decide) rfl rfl ?_
  refine wp_iload dX7_cutsClean_73 rfl ?_
  refine wp_if_eq (tgt := 83) dX7_cutsClean_75 (by decide) (fun c1 => ?_) (fun c1 => ?_)
  · rw [if_pos c1] at h
    exact wp_sub (ls' := [some (.ref 11), none, some (.int v2), none, some (.int t0)]) ⟨rfl, rfl, rfl, trivial⟩ (w_X7_cutsClean_83 h)
  · rw [if_neg c1] at h
    refine wp_iload_n (i := 1) dX7_cutsClean_78 rfl rfl ?_
    refine wp_iconst (v := 2) dX7_cutsClean_79 (by decide +kernel) ?_
    refine wp_icmp_le (tgt := 105) dX7_cutsClean_80 (by decide) (fun c2 => ?_) (fun c2 => ?_)
    · rw [if_pos c2] at h
      refine wp_inc (c := 1) (ls' := [some (.ref 11), some (.int v1), some (.int (v2 + 1)), none, some (.int t0)]) dX7_cutsClean_105 rfl (by decide +kernel) (by decide) rfl rfl ?_
      refine wp_goto (tgt := 4) dX7_cutsClean_108 (by decide) ?_
      exact wp_sub (ls' := [some (.ref 11), some (.int v1), some (.int (v2 + 1)), none, none]) ⟨rfl, rfl, rfl, trivial⟩ (hK4 _ _ _ h)
    · rw [if_neg c2] at h
      exact wp_sub (ls' := [some (.ref 11), none, some (.int v2), none, some (.int t0)]) ⟨rfl, rfl, rfl, trivial⟩ (w_X7_cutsClean_83 h)
def f_X7_cutsClean_66 (K4 : Int32 → Int32 → St → Option (Int32 × St)) (v1 : Int32) (v2 : Int32) (s : St) : Option (Int32 × St) :=
  f_X7_cutsClean_71 K4 v1 v2 (1 : Int32) s
set_option maxRecDepth 100000 in
set_option maxHeartbeats 4000000 in
theorem w_X7_cutsClean_66 {r : Int32 × St} {K4 : Int32 → Int32 → St → Option (Int32 × St)} (hK4 : ∀ (v1 : Int32) (v2 : Int32) (s : St), K4 v1 v2 s = some r → Wp m_X7_cutsClean 1 (PR (some (.int r.1)) r.2) 4 [some (.ref 11), some (.int v1), some (.int v2), none, none] [] s) {v1 : Int32} {v2 : Int32}  {s : St} (h : f_X7_cutsClean_66 K4 v1 v2 s = some r) : Wp m_X7_cutsClean 1 (PR (some (.int r.1)) r.2) 66 [some (.ref 11), some (.int v1), some (.int v2), none, none] [] s := by
  unfold f_X7_cutsClean_66 at h
  refine wp_iconst (v := 1) dX7_cutsClean_66 (by decide +kernel) ?_
  refine wp_goto (tgt := 71) dX7_cutsClean_67 (by decide) ?_
  exact wp_sub (ls' := [some (.ref 11), some (.int v1), some (.int v2), none, none]) ⟨rfl, rfl, rfl, trivial⟩ (w_X7_cutsClean_71 hK4 h)
def f_X7_cutsClean_38 (K4 : Int32 → Int32 → St → Option (Int32 × St)) (v2 : Int32) (v3 : Int32) (t0 : Int32) (s : St) : Option (Int32 × St) :=
  Option.bind (f_X7_isDigit v3 s) fun r1 =>
  if r1.1 = 0 then (
    Option.bind (f_X7_isLetter v3 r1.2) fun r3 =>
    if r3.1 = 0 then (
      Option.bind (f_X7_isSpace v3 r3.2) fun r5 =>
      if r5.1 = 0 then (
        if v3 = (59 : Int32) then (
          f_X7_cutsClean_66 K4 t0 v2 r5.2)
        else (
          f_X7_cutsClean_71 K4 t0 v2 (0 : Int32) r5.2))
      else (
        f_X7_cutsClean_66 K4 t0 v2 r5.2))
    else (
      f_X7_cutsClean_66 K4 t0 v2 r3.2))
  else (
    f_X7_cutsClean_66 K4 t0 v2 r1.2)
set_option maxRecDepth 100000 in
set_option maxHeartbeats 4000000 in
theorem w_X7_cutsClean_38 {r : Int32 × St} {K4 : Int32 → Int32 → St → Option (Int32 × St)} (hK4 : ∀ (v1 : Int32) (v2 : Int32) (s : St), K4 v1 v2 s = some r → Wp m_X7_cutsClean 1 (PR (some (.int r.1)) r.2) 4 [some (.ref 11), some (.int v1), some (.int v2), none, none] [] s) {v2 : Int32} {v3 : Int32} {t0 : Int32}  {s : St} (h : f_X7_cutsClean_38 K4 v2 v3 t0 s = some r) : Wp m_X7_cutsClean 1 (PR (some (.int r.1)) r.2) 38 [some (.ref 11), none, some (.int v2), some (.int v3), none] [.int t0] s := by
  unfold f_X7_cutsClean_38 at h
  refine wp_istore_n (ls' := [some (.ref 11), some (.int t0), some (.int v2), some (.int v3), none]) dX7_cutsClean_38 rfl (by decide) rfl rfl ?_
  refine wp_iload_n (i := 3) dX7_cutsClean_39 rfl rfl ?_
  obtain ⟨r1, er1, h⟩ := ob h
  refine wp_cSi (N := m_X7_isDigit) (As := [.int v3]) (rest := []) dX7_cutsClean_40 ml_X7_73 mo_X7_isDigit vo_X7_isDigit rfl (ok_X7_isDigit er1) (by decide) (Nat.le_of_ble_eq_true rfl) ?_
  refine wp_if_ne (tgt := 66) dX7_cutsClean_43 (by decide) (fun c2 => ?_) (fun c2 => ?_)
  · rw [if_neg c2] at h
    exact wp_sub (ls' := [some (.ref 11), some (.int t0), some (.int v2), none, none]) ⟨rfl, rfl, rfl, trivial⟩ (w_X7_cutsClean_66 hK4 h)
  · rw [if_pos c2] at h
    refine wp_iload_n (i := 3) dX7_cutsClean_46 rfl rfl ?_
    obtain ⟨r3, er3, h⟩ := ob h
    refine wp_cSi (N := m_X7_isLetter) (As := [.int v3]) (rest := []) dX7_cutsClean_47 ml_X7_76 mo_X7_isLetter vo_X7_isLetter rfl (ok_X7_isLetter er3) (by decide) (Nat.le_of_ble_eq_true rfl) ?_
    refine wp_if_ne (tgt := 66) dX7_cutsClean_50 (by decide) (fun c4 => ?_) (fun c4 => ?_)
    · rw [if_neg c4] at h
      exact wp_sub (ls' := [some (.ref 11), some (.int t0), some (.int v2), none, none]) ⟨rfl, rfl, rfl, trivial⟩ (w_X7_cutsClean_66 hK4 h)
    · rw [if_pos c4] at h
      refine wp_iload_n (i := 3) dX7_cutsClean_53 rfl rfl ?_
      obtain ⟨r5, er5, h⟩ := ob h
      refine wp_cSi (N := m_X7_isSpace) (As := [.int v3]) (rest := []) dX7_cutsClean_54 ml_X7_79 mo_X7_isSpace vo_X7_isSpace rfl (ok_X7_isSpace er5) (by decide) (Nat.le_of_ble_eq_true rfl) ?_
      refine wp_if_ne (tgt := 66) dX7_cutsClean_57 (by decide) (fun c6 => ?_) (fun c6 => ?_)
      · rw [if_neg c6] at h
        exact wp_sub (ls' := [some (.ref 11), some (.int t0), some (.int v2), none, none]) ⟨rfl, rfl, rfl, trivial⟩ (w_X7_cutsClean_66 hK4 h)
      · rw [if_pos c6] at h
        refine wp_iload_n (i := 3) dX7_cutsClean_60 rfl rfl ?_
        refine wp_bipush (v := 59) dX7_cutsClean_61 (by decide +kernel) ?_
        refine wp_icmp_ne (tgt := 70) dX7_cutsClean_63 (by decide) (fun c7 => ?_) (fun c7 => ?_)
        · rw [if_neg c7] at h
          refine wp_iconst (v := 0) dX7_cutsClean_70 (by decide +kernel) ?_
          exact wp_sub (ls' := [some (.ref 11), some (.int t0), some (.int v2), none, none]) ⟨rfl, rfl, rfl, trivial⟩ (w_X7_cutsClean_71 hK4 h)
        · rw [if_pos c7] at h
          exact wp_sub (ls' := [some (.ref 11), some (.int t0), some (.int v2), none, none]) ⟨rfl, rfl, rfl, trivial⟩ (w_X7_cutsClean_66 hK4 h)
def f_X7_cutsClean_4 : Nat → Int32 → Int32 → St → Option (Int32 × St)
  | 0, _, _, _ => none
  | n + 1, v1, v2, s =>
    if (s.1 1 1) ≤ v2 then (
      some ((1 : Int32), s))
    else (
      Option.bind (f_X6_byteAt v2 s) fun r2 =>
      Option.bind (f_X7_isDigit r2.1 r2.2) fun r3 =>
      if r3.1 = 0 then (
        f_X7_cutsClean_38 (f_X7_cutsClean_4 n) v2 r2.1 (0 : Int32) r3.2)
      else (
        f_X7_cutsClean_38 (f_X7_cutsClean_4 n) v2 r2.1 (v1 + (1 : Int32)) r3.2))
set_option maxRecDepth 100000 in
set_option maxHeartbeats 4000000 in
theorem w_X7_cutsClean_4 {r : Int32 × St}   : ∀ (n : Nat) (v1 : Int32) (v2 : Int32) (s : St), f_X7_cutsClean_4  n v1 v2 s = some r → Wp m_X7_cutsClean 1 (PR (some (.int r.1)) r.2) 4 [some (.ref 11), some (.int v1), some (.int v2), none, none] [] s := by
  intro n
  induction n with
  | zero => intro v1 v2 s h; cases h
  | succ n ih =>
    intro v1 v2 s h
    unfold f_X7_cutsClean_4 at h
    refine wp_iload_n (i := 2) dX7_cutsClean_4 rfl rfl ?_
    refine wp_aload_n (i := 0) dX7_cutsClean_5 rfl rfl ?_
    refine wp_getR (t := 1) dX7_cutsClean_6 fl_X7_30 rfl rfl ?_
    refine wp_getI dX7_cutsClean_9 fl_X7_64 rfl rfl ?_
    refine wp_icmp_ge (tgt := 111) dX7_cutsClean_12 (by decide) (fun c1 => ?_) (fun c1 => ?_)
    · rw [if_pos c1] at h
      refine wp_iconst (v := 1) dX7_cutsClean_111 (by decide +kernel) ?_
      obtain rfl := Option.some.inj h
      exact wp_iret dX7_cutsClean_112 rfl (narrow_z (Or.inr rfl)).1
    · rw [if_neg c1] at h
      refine wp_aload_n (i := 0) dX7_cutsClean_15 rfl rfl ?_
      refine wp_getR (t := 1) dX7_cutsClean_16 fl_X7_30 rfl rfl ?_
      refine wp_iload_n (i := 2) dX7_cutsClean_19 rfl rfl ?_
      obtain ⟨r2, er2, h⟩ := ob h
      refine wp_cVi (N := m_X6_byteAt) (As := [.int v2]) (rest := []) dX7_cutsClean_20 ml_X7_69 mo_X6_byteAt vo_X6_byteAt rfl rfl (ok_X6_byteAt er2) (by decide) (Nat.le_of_ble_eq_true rfl) ?_
      refine wp_istore_n (ls' := [some (.ref 11), some (.int v1), some (.int v2), some (.int r2.1), none]) dX7_cutsClean_23 rfl (by decide) rfl rfl ?_
      refine wp_iload_n (i := 3) dX7_cutsClean_24 rfl rfl ?_
      obtain ⟨r3, er3, h⟩ := ob h
      refine wp_cSi (N := m_X7_isDigit) (As := [.int r2.1]) (rest := []) dX7_cutsClean_25 ml_X7_73 mo_X7_isDigit vo_X7_isDigit rfl (ok_X7_isDigit er3) (by decide) (Nat.le_of_ble_eq_true rfl) ?_
      refine wp_if_eq (tgt := 37) dX7_cutsClean_28 (by decide) (fun c4 => ?_) (fun c4 => ?_)
      · rw [if_pos c4] at h
        refine wp_iconst (v := 0) dX7_cutsClean_37 (by decide +kernel) ?_
        exact wp_sub (ls' := [some (.ref 11), none, some (.int v2), some (.int r2.1), none]) ⟨rfl, rfl, rfl, trivial⟩ (w_X7_cutsClean_38 ih h)
      · rw [if_neg c4] at h
        refine wp_iload_n (i := 1) dX7_cutsClean_31 rfl rfl ?_
        refine wp_iconst (v := 1) dX7_cutsClean_32 (by decide +kernel) ?_
        refine wp_iadd dX7_cutsClean_33 ?_
        refine wp_goto (tgt := 38) dX7_cutsClean_34 (by decide) ?_
        exact wp_sub (ls' := [some (.ref 11), none, some (.int v2), some (.int r2.1), none]) ⟨rfl, rfl, rfl, trivial⟩ (w_X7_cutsClean_38 ih h)
def f_X7_cutsClean  (s : St) : Option (Int32 × St) :=
  f_X7_cutsClean_4 FU (0 : Int32) (0 : Int32) s
set_option maxRecDepth 100000 in
set_option maxHeartbeats 4000000 in
theorem ok_X7_cutsClean  {s : St} {r : Int32 × St} (h : f_X7_cutsClean  s = some r) : Ct 1 m_X7_cutsClean [.ref 11] s (some (.int r.1)) r.2 := by
  unfold f_X7_cutsClean at h
  refine ct_of [some (.ref 11), none, none, none, none] 4 (by decide) rfl (Nat.le_of_ble_eq_true rfl) ?_
  refine wp_iconst (v := 0) dX7_cutsClean_0 (by decide +kernel) ?_
  refine wp_istore_n (ls' := [some (.ref 11), some (.int (0 : Int32)), none, none, none]) dX7_cutsClean_1 rfl (by decide) rfl rfl ?_
  refine wp_iconst (v := 0) dX7_cutsClean_2 (by decide +kernel) ?_
  refine wp_istore_n (ls' := [some (.ref 11), some (.int (0 : Int32)), some (.int (0 : Int32)), none, none]) dX7_cutsClean_3 rfl (by decide) rfl rfl ?_
  exact wp_sub (ls' := [some (.ref 11), some (.int (0 : Int32)), some (.int (0 : Int32)), none, none]) ⟨rfl, rfl, rfl, trivial⟩ (w_X7_cutsClean_4 _ _ _ _ h)
def f_X7_sizeRead (a1 : Int32) (s : St) : Option (Int32 × St) :=
  if (s.1 11 4) = (1 : Int32) then (
    Option.bind (f_X8_isSize (s.1 11 6) a1 s) fun r2 =>
    if r2.1 = 0 then (
      Option.bind (f_X7_refuse (3 : Int32) r2.2) fun r5 =>
      some ((-1 : Int32), r5.2))
    else (
      Option.bind (f_X7_advance r2.2) fun s4 =>
      some (r2.2.1 11 6, s4)))
  else (
    Option.bind (f_X7_refuse (2 : Int32) s) fun r6 =>
    some ((-1 : Int32), r6.2))
set_option maxRecDepth 100000 in
set_option maxHeartbeats 4000000 in
theorem ok_X7_sizeRead {a1 : Int32} {s : St} {r : Int32 × St} (h : f_X7_sizeRead a1 s = some r) : Ct 3 m_X7_sizeRead [.ref 11, .int a1] s (some (.int r.1)) r.2 := by
  unfold f_X7_sizeRead at h
  refine ct_of [some (.ref 11), some (.int a1), none] 1 (by decide) rfl (Nat.le_of_ble_eq_true rfl) ?_
  refine wp_aload_n (i := 0) dX7_sizeRead_0 rfl rfl ?_
  refine wp_getI dX7_sizeRead_1 fl_X7_18 rfl rfl ?_
  refine wp_iconst (v := 1) dX7_sizeRead_4 (by decide +kernel) ?_
  refine wp_icmp_eq (tgt := 16) dX7_sizeRead_5 (by decide) (fun c1 => ?_) (fun c1 => ?_)
  · rw [if_pos c1] at h
    refine wp_aload_n (i := 0) dX7_sizeRead_16 rfl rfl ?_
    refine wp_getI dX7_sizeRead_17 fl_X7_24 rfl rfl ?_
    refine wp_iload_n (i := 1) dX7_sizeRead_20 rfl rfl ?_
    obtain ⟨r2, er2, h⟩ := ob h
    refine wp_cSi (N := m_X8_isSize) (As := [.int (s.1 11 6), .int a1]) (rest := []) dX7_sizeRead_21 ml_X7_92 mo_X8_isSize vo_X8_isSize rfl (ok_X8_isSize er2) (by decide) (Nat.le_of_ble_eq_true rfl) ?_
    refine wp_if_ne (tgt := 35) dX7_sizeRead_24 (by decide) (fun c3 => ?_) (fun c3 => ?_)
    · rw [if_neg c3] at h
      refine wp_aload_n (i := 0) dX7_sizeRead_35 rfl rfl ?_
      refine wp_getI dX7_sizeRead_36 fl_X7_24 rfl rfl ?_
      refine wp_istore_n (ls' := [some (.ref 11), some (.int a1), some (.int (r2.2.1 11 6))]) dX7_sizeRead_39 rfl (by decide) rfl rfl ?_
      refine wp_aload_n (i := 0) dX7_sizeRead_40 rfl rfl ?_
      obtain ⟨s4, es4, h⟩ := ob h
      refine wp_cVv (N := m_X7_advance) (As := []) (rest := []) dX7_sizeRead_41 ml_X7_42 mo_X7_advance vo_X7_advance rfl rfl (ok_X7_advance es4) (by decide) (Nat.le_of_ble_eq_true rfl) ?_
      refine wp_iload_n (i := 2) dX7_sizeRead_44 rfl rfl ?_
      obtain rfl := Option.some.inj h
      exact wp_iret dX7_sizeRead_45 rfl rfl
    · rw [if_pos c3] at h
      refine wp_aload_n (i := 0) dX7_sizeRead_27 rfl rfl ?_
      refine wp_iconst (v := 3) dX7_sizeRead_28 (by decide +kernel) ?_
      obtain ⟨r5, er5, h⟩ := ob h
      refine wp_cVi (N := m_X7_refuse) (As := [.int (3 : Int32)]) (rest := []) dX7_sizeRead_29 ml_X7_58 mo_X7_refuse vo_X7_refuse rfl rfl (ok_X7_refuse er5) (by decide) (Nat.le_of_ble_eq_true rfl) ?_
      refine wp_pop_i dX7_sizeRead_32 ?_
      refine wp_iconst (v := -1) dX7_sizeRead_33 (by decide +kernel) ?_
      obtain rfl := Option.some.inj h
      exact wp_iret dX7_sizeRead_34 rfl rfl
  · rw [if_neg c1] at h
    refine wp_aload_n (i := 0) dX7_sizeRead_8 rfl rfl ?_
    refine wp_iconst (v := 2) dX7_sizeRead_9 (by decide +kernel) ?_
    obtain ⟨r6, er6, h⟩ := ob h
    refine wp_cVi (N := m_X7_refuse) (As := [.int (2 : Int32)]) (rest := []) dX7_sizeRead_10 ml_X7_58 mo_X7_refuse vo_X7_refuse rfl rfl (ok_X7_refuse er6) (by decide) (Nat.le_of_ble_eq_true rfl) ?_
    refine wp_pop_i dX7_sizeRead_13 ?_
    refine wp_iconst (v := -1) dX7_sizeRead_14 (by decide +kernel) ?_
    obtain rfl := Option.some.inj h
    exact wp_iret dX7_sizeRead_15 rfl rfl
def f_X7_readsHead_37 (v1 : Int32) (v2 : Int32) (t0 : Int32) (s : St) : Option (Int32 × St) :=
  if t0 = (-1 : Int32) then (
    some ((0 : Int32), s))
  else (
    if (s.1 11 4) = (3 : Int32) then (
      Option.bind (f_X7_advance s) fun s3 =>
      Option.bind (f_X0_begin 7 v1 v2 t0 s3) fun s4 =>
      some ((1 : Int32), s4))
    else (
      Option.bind (f_X7_refuse (2 : Int32) s) fun r5 =>
      if r5.1 = 0 ∨ r5.1 = 1 then some (r5.1, r5.2) else none))
set_option maxRecDepth 100000 in
set_option maxHeartbeats 4000000 in
theorem w_X7_readsHead_37 {r : Int32 × St} {v1 : Int32} {v2 : Int32} {t0 : Int32}  {s : St} (h : f_X7_readsHead_37  v1 v2 t0 s = some r) : Wp m_X7_readsHead 4 (PR (some (.int r.1)) r.2) 37 [some (.ref 11), some (.int v1), some (.int v2), none] [.int t0] s := by
  unfold f_X7_readsHead_37 at h
  refine wp_istore_n (ls' := [some (.ref 11), some (.int v1), some (.int v2), some (.int t0)]) dX7_readsHead_37 rfl (by decide) rfl rfl ?_
  refine wp_iload_n (i := 3) dX7_readsHead_38 rfl rfl ?_
  refine wp_iconst (v := -1) dX7_readsHead_39 (by decide +kernel) ?_
  refine wp_icmp_ne (tgt := 45) dX7_readsHead_40 (by decide) (fun c1 => ?_) (fun c1 => ?_)
  · rw [if_neg c1] at h
    refine wp_aload_n (i := 0) dX7_readsHead_45 rfl rfl ?_
    refine wp_getI dX7_readsHead_46 fl_X7_18 rfl rfl ?_
    refine wp_iconst (v := 3) dX7_readsHead_49 (by decide +kernel) ?_
    refine wp_icmp_eq (tgt := 59) dX7_readsHead_50 (by decide) (fun c2 => ?_) (fun c2 => ?_)
    · rw [if_pos c2] at h
      refine wp_aload_n (i := 0) dX7_readsHead_59 rfl rfl ?_
      obtain ⟨s3, es3, h⟩ := ob h
      refine wp_cVv (N := m_X7_advance) (As := []) (rest := []) dX7_readsHead_60 ml_X7_42 mo_X7_advance vo_X7_advance rfl rfl (ok_X7_advance es3) (by decide) (Nat.le_of_ble_eq_true rfl) ?_
      refine wp_aload_n (i := 0) dX7_readsHead_63 rfl rfl ?_
      refine wp_getR (t := 7) dX7_readsHead_64 fl_X7_34 rfl rfl ?_
      refine wp_iload_n (i := 1) dX7_readsHead_67 rfl rfl ?_
      refine wp_iload_n (i := 2) dX7_readsHead_68 rfl rfl ?_
      refine wp_iload_n (i := 3) dX7_readsHead_69 rfl rfl ?_
      obtain ⟨s4, es4, h⟩ := ob h
      refine wp_cVv (N := m_X0_begin) (As := [.int v1, .int v2, .int t0]) (rest := []) dX7_readsHead_70 ml_X7_88 mo_X0_begin vo_X0_begin rfl rfl (ok_X0_begin es4) (by decide) (Nat.le_of_ble_eq_true rfl) ?_
      refine wp_iconst (v := 1) dX7_readsHead_73 (by decide +kernel) ?_
      obtain rfl := Option.some.inj h
      exact wp_iret dX7_readsHead_74 rfl (narrow_z (Or.inr rfl)).1
    · rw [if_neg c2] at h
      refine wp_aload_n (i := 0) dX7_readsHead_53 rfl rfl ?_
      refine wp_iconst (v := 2) dX7_readsHead_54 (by decide +kernel) ?_
      obtain ⟨r5, er5, h⟩ := ob h
      refine wp_cVi (N := m_X7_refuse) (As := [.int (2 : Int32)]) (rest := []) dX7_readsHead_55 ml_X7_58 mo_X7_refuse vo_X7_refuse rfl rfl (ok_X7_refuse er5) (by decide) (Nat.le_of_ble_eq_true rfl) ?_
      obtain ⟨hb, h⟩ := ifn h
      obtain rfl := Option.some.inj h
      exact wp_iret dX7_readsHead_58 rfl (narrow_z hb).1
  · rw [if_pos c1] at h
    refine wp_iconst (v := 0) dX7_readsHead_43 (by decide +kernel) ?_
    obtain rfl := Option.some.inj h
    exact wp_iret dX7_readsHead_44 rfl (narrow_z (Or.inl rfl)).1
def f_X7_readsHead_22 (v1 : Int32) (t0 : Int32) (s : St) : Option (Int32 × St) :=
  if t0 = (-1 : Int32) then (
    f_X7_readsHead_37 v1 t0 (-1 : Int32) s)
  else (
    Option.bind (f_X7_sizeRead (3 : Int32) s) fun r2 =>
    f_X7_readsHead_37 v1 t0 r2.1 r2.2)
set_option maxRecDepth 100000 in
set_option maxHeartbeats 4000000 in
theorem w_X7_readsHead_22 {r : Int32 × St} {v1 : Int32} {t0 : Int32}  {s : St} (h : f_X7_readsHead_22  v1 t0 s = some r) : Wp m_X7_readsHead 4 (PR (some (.int r.1)) r.2) 22 [some (.ref 11), some (.int v1), none, none] [.int t0] s := by
  unfold f_X7_readsHead_22 at h
  refine wp_istore_n (ls' := [some (.ref 11), some (.int v1), some (.int t0), none]) dX7_readsHead_22 rfl (by decide) rfl rfl ?_
  refine wp_iload_n (i := 2) dX7_readsHead_23 rfl rfl ?_
  refine wp_iconst (v := -1) dX7_readsHead_24 (by decide +kernel) ?_
  refine wp_icmp_ne (tgt := 32) dX7_readsHead_25 (by decide) (fun c1 => ?_) (fun c1 => ?_)
  · rw [if_neg c1] at h
    refine wp_aload_n (i := 0) dX7_readsHead_32 rfl rfl ?_
    refine wp_iconst (v := 3) dX7_readsHead_33 (by decide +kernel) ?_
    obtain ⟨r2, er2, h⟩ := ob h
    refine wp_cVi (N := m_X7_sizeRead) (As := [.int (3 : Int32)]) (rest := []) dX7_readsHead_34 ml_X7_85 mo_X7_sizeRead vo_X7_sizeRead rfl rfl (ok_X7_sizeRead er2) (by decide) (Nat.le_of_ble_eq_true rfl) ?_
    exact wp_sub (ls' := [some (.ref 11), some (.int v1), some (.int t0), none]) ⟨rfl, rfl, rfl, trivial⟩ (w_X7_readsHead_37 h)
  · rw [if_pos c1] at h
    refine wp_iconst (v := -1) dX7_readsHead_28 (by decide +kernel) ?_
    refine wp_goto (tgt := 37) dX7_readsHead_29 (by decide) ?_
    exact wp_sub (ls' := [some (.ref 11), some (.int v1), some (.int t0), none]) ⟨rfl, rfl, rfl, trivial⟩ (w_X7_readsHead_37 h)
def f_X7_readsHead  (s : St) : Option (Int32 × St) :=
  Option.bind (f_X7_sizeRead (12 : Int32) s) fun r1 =>
  if r1.1 = (-1 : Int32) then (
    f_X7_readsHead_22 r1.1 (-1 : Int32) r1.2)
  else (
    Option.bind (f_X7_sizeRead (12 : Int32) r1.2) fun r3 =>
    f_X7_readsHead_22 r1.1 r3.1 r3.2)
set_option maxRecDepth 100000 in
set_option maxHeartbeats 4000000 in
theorem ok_X7_readsHead  {s : St} {r : Int32 × St} (h : f_X7_readsHead  s = some r) : Ct 4 m_X7_readsHead [.ref 11] s (some (.int r.1)) r.2 := by
  unfold f_X7_readsHead at h
  refine ct_of [some (.ref 11), none, none, none] 3 (by decide) rfl (Nat.le_of_ble_eq_true rfl) ?_
  refine wp_aload_n (i := 0) dX7_readsHead_0 rfl rfl ?_
  refine wp_bipush (v := 12) dX7_readsHead_1 (by decide +kernel) ?_
  obtain ⟨r1, er1, h⟩ := ob h
  refine wp_cVi (N := m_X7_sizeRead) (As := [.int (12 : Int32)]) (rest := []) dX7_readsHead_3 ml_X7_85 mo_X7_sizeRead vo_X7_sizeRead rfl rfl (ok_X7_sizeRead er1) (by decide) (Nat.le_of_ble_eq_true rfl) ?_
  refine wp_istore_n (ls' := [some (.ref 11), some (.int r1.1), none, none]) dX7_readsHead_6 rfl (by decide) rfl rfl ?_
  refine wp_iload_n (i := 1) dX7_readsHead_7 rfl rfl ?_
  refine wp_iconst (v := -1) dX7_readsHead_8 (by decide +kernel) ?_
  refine wp_icmp_ne (tgt := 16) dX7_readsHead_9 (by decide) (fun c2 => ?_) (fun c2 => ?_)
  · rw [if_neg c2] at h
    refine wp_aload_n (i := 0) dX7_readsHead_16 rfl rfl ?_
    refine wp_bipush (v := 12) dX7_readsHead_17 (by decide +kernel) ?_
    obtain ⟨r3, er3, h⟩ := ob h
    refine wp_cVi (N := m_X7_sizeRead) (As := [.int (12 : Int32)]) (rest := []) dX7_readsHead_19 ml_X7_85 mo_X7_sizeRead vo_X7_sizeRead rfl rfl (ok_X7_sizeRead er3) (by decide) (Nat.le_of_ble_eq_true rfl) ?_
    exact wp_sub (ls' := [some (.ref 11), some (.int r1.1), none, none]) ⟨rfl, rfl, trivial⟩ (w_X7_readsHead_22 h)
  · rw [if_pos c2] at h
    refine wp_iconst (v := -1) dX7_readsHead_12 (by decide +kernel) ?_
    refine wp_goto (tgt := 22) dX7_readsHead_13 (by decide) ?_
    exact wp_sub (ls' := [some (.ref 11), some (.int r1.1), none, none]) ⟨rfl, rfl, trivial⟩ (w_X7_readsHead_22 h)
def f_X7_readsRun_75 (v1 : Int32) (v3 : Int32) (v4 : Int32) (s : St) : Option (Int32 × St) :=
  Option.bind (f_X0_add 7 v1 v3 v4 s) fun s1 =>
  some ((1 : Int32), s1)
set_option maxRecDepth 100000 in
set_option maxHeartbeats 4000000 in
theorem w_X7_readsRun_75 {r : Int32 × St} {v1 : Int32} {v3 : Int32} {v4 : Int32}  {s : St} (h : f_X7_readsRun_75  v1 v3 v4 s = some r) : Wp m_X7_readsRun 3 (PR (some (.int r.1)) r.2) 75 [some (.ref 11), some (.int v1), none, some (.int v3), some (.int v4)] [] s := by
  unfold f_X7_readsRun_75 at h
  refine wp_aload_n (i := 0) dX7_readsRun_75 rfl rfl ?_
  refine wp_getR (t := 7) dX7_readsRun_76 fl_X7_34 rfl rfl ?_
  refine wp_iload_n (i := 1) dX7_readsRun_79 rfl rfl ?_
  refine wp_iload_n (i := 3) dX7_readsRun_80 rfl rfl ?_
  refine wp_iload dX7_readsRun_81 rfl ?_
  obtain ⟨s1, es1, h⟩ := ob h
  refine wp_cVv (N := m_X0_add) (As := [.int v1, .int v3, .int v4]) (rest := []) dX7_readsRun_83 ml_X7_105 mo_X0_add vo_X0_add rfl rfl (ok_X0_add es1) (by decide) (Nat.le_of_ble_eq_true rfl) ?_
  refine wp_iconst (v := 1) dX7_readsRun_86 (by decide +kernel) ?_
  obtain rfl := Option.some.inj h
  exact wp_iret dX7_readsRun_87 rfl (narrow_z (Or.inr rfl)).1
def f_X7_readsRun (a1 : Int32) (a2 : Int32) (s : St) : Option (Int32 × St) :=
  if (s.1 11 6) = 0 then (
    Option.bind (f_X7_refuse (4 : Int32) s) fun r9 =>
    if r9.1 = 0 ∨ r9.1 = 1 then some (r9.1, r9.2) else none)
  else (
    if a2 < (12 : Int32) then (
      Option.bind (f_X7_advance s) fun s3 =>
      if (s3.1 11 4) = (2 : Int32) then (
        if (s3.1 11 6) ≤ (s3.1 7 5) then (
          Option.bind (f_X7_advance s3) fun s6 =>
          f_X7_readsRun_75 a1 (s.1 11 6) (s3.1 11 6) s6)
        else (
          Option.bind (f_X7_refuse (4 : Int32) s3) fun r7 =>
          if r7.1 = 0 ∨ r7.1 = 1 then some (r7.1, r7.2) else none))
      else (
        f_X7_readsRun_75 a1 (s.1 11 6) (1 : Int32) s3))
    else (
      Option.bind (f_X7_refuse (5 : Int32) s) fun r8 =>
      if r8.1 = 0 ∨ r8.1 = 1 then some (r8.1, r8.2) else none))
set_option maxRecDepth 100000 in
set_option maxHeartbeats 4000000 in
theorem ok_X7_readsRun {a1 : Int32} {a2 : Int32} {s : St} {r : Int32 × St} (h : f_X7_readsRun a1 a2 s = some r) : Ct 3 m_X7_readsRun [.ref 11, .int a1, .int a2] s (some (.int r.1)) r.2 := by
  unfold f_X7_readsRun at h
  refine ct_of [some (.ref 11), some (.int a1), some (.int a2), none, none] 2 (by decide) rfl (Nat.le_of_ble_eq_true rfl) ?_
  refine wp_aload_n (i := 0) dX7_readsRun_0 rfl rfl ?_
  refine wp_getI dX7_readsRun_1 fl_X7_24 rfl rfl ?_
  refine wp_if_ne (tgt := 13) dX7_readsRun_4 (by decide) (fun c1 => ?_) (fun c1 => ?_)
  · rw [if_neg c1] at h
    refine wp_iload_n (i := 2) dX7_readsRun_13 rfl rfl ?_
    refine wp_bipush (v := 12) dX7_readsRun_14 (by decide +kernel) ?_
    refine wp_icmp_lt (tgt := 25) dX7_readsRun_16 (by decide) (fun c2 => ?_) (fun c2 => ?_)
    · rw [if_pos c2] at h
      refine wp_aload_n (i := 0) dX7_readsRun_25 rfl rfl ?_
      refine wp_getI dX7_readsRun_26 fl_X7_24 rfl rfl ?_
      refine wp_istore_n (ls' := [some (.ref 11), some (.int a1), some (.int a2), some (.int (s.1 11 6)), none]) dX7_readsRun_29 rfl (by decide) rfl rfl ?_
      refine wp_iconst (v := 1) dX7_readsRun_30 (by decide +kernel) ?_
      refine wp_istore (ls' := [some (.ref 11), some (.int a1), some (.int a2), some (.int (s.1 11 6)), some (.int (1 : Int32))]) dX7_readsRun_31 (by decide) rfl rfl ?_
      refine wp_aload_n (i := 0) dX7_readsRun_33 rfl rfl ?_
      obtain ⟨s3, es3, h⟩ := ob h
      refine wp_cVv (N := m_X7_advance) (As := []) (rest := []) dX7_readsRun_34 ml_X7_42 mo_X7_advance vo_X7_advance rfl rfl (ok_X7_advance es3) (by decide) (Nat.le_of_ble_eq_true rfl) ?_
      refine wp_aload_n (i := 0) dX7_readsRun_37 rfl rfl ?_
      refine wp_getI dX7_readsRun_38 fl_X7_18 rfl rfl ?_
      refine wp_iconst (v := 2) dX7_readsRun_41 (by decide +kernel) ?_
      refine wp_icmp_ne (tgt := 75) dX7_readsRun_42 (by decide) (fun c4 => ?_) (fun c4 => ?_)
      · rw [if_neg c4] at h
        exact wp_sub (ls' := [some (.ref 11), some (.int a1), none, some (.int (s.1 11 6)), some (.int (1 : Int32))]) ⟨rfl, rfl, rfl, rfl, trivial⟩ (w_X7_readsRun_75 h)
      · rw [if_pos c4] at h
        refine wp_aload_n (i := 0) dX7_readsRun_45 rfl rfl ?_
        refine wp_getI dX7_readsRun_46 fl_X7_24 rfl rfl ?_
        refine wp_aload_n (i := 0) dX7_readsRun_49 rfl rfl ?_
        refine wp_getR (t := 7) dX7_readsRun_50 fl_X7_34 rfl rfl ?_
        refine wp_getI dX7_readsRun_53 fl_X7_102 rfl rfl ?_
        refine wp_icmp_le (tgt := 65) dX7_readsRun_56 (by decide) (fun c5 => ?_) (fun c5 => ?_)
        · rw [if_pos c5] at h
          refine wp_aload_n (i := 0) dX7_readsRun_65 rfl rfl ?_
          refine wp_getI dX7_readsRun_66 fl_X7_24 rfl rfl ?_
          refine wp_istore (ls' := [some (.ref 11), some (.int a1), some (.int a2), some (.int (s.1 11 6)), some (.int (s3.1 11 6))]) dX7_readsRun_69 (by decide) rfl rfl ?_
          refine wp_aload_n (i := 0) dX7_readsRun_71 rfl rfl ?_
          obtain ⟨s6, es6, h⟩ := ob h
          refine wp_cVv (N := m_X7_advance) (As := []) (rest := []) dX7_readsRun_72 ml_X7_42 mo_X7_advance vo_X7_advance rfl rfl (ok_X7_advance es6) (by decide) (Nat.le_of_ble_eq_true rfl) ?_
          exact wp_sub (ls' := [some (.ref 11), some (.int a1), none, some (.int (s.1 11 6)), some (.int (s3.1 11 6))]) ⟨rfl, rfl, rfl, rfl, trivial⟩ (w_X7_readsRun_75 h)
        · rw [if_neg c5] at h
          refine wp_aload_n (i := 0) dX7_readsRun_59 rfl rfl ?_
          refine wp_iconst (v := 4) dX7_readsRun_60 (by decide +kernel) ?_
          obtain ⟨r7, er7, h⟩ := ob h
          refine wp_cVi (N := m_X7_refuse) (As := [.int (4 : Int32)]) (rest := []) dX7_readsRun_61 ml_X7_58 mo_X7_refuse vo_X7_refuse rfl rfl (ok_X7_refuse er7) (by decide) (Nat.le_of_ble_eq_true rfl) ?_
          obtain ⟨hb, h⟩ := ifn h
          obtain rfl := Option.some.inj h
          exact wp_iret dX7_readsRun_64 rfl (narrow_z hb).1
    · rw [if_neg c2] at h
      refine wp_aload_n (i := 0) dX7_readsRun_19 rfl rfl ?_
      refine wp_iconst (v := 5) dX7_readsRun_20 (by decide +kernel) ?_
      obtain ⟨r8, er8, h⟩ := ob h
      refine wp_cVi (N := m_X7_refuse) (As := [.int (5 : Int32)]) (rest := []) dX7_readsRun_21 ml_X7_58 mo_X7_refuse vo_X7_refuse rfl rfl (ok_X7_refuse er8) (by decide) (Nat.le_of_ble_eq_true rfl) ?_
      obtain ⟨hb, h⟩ := ifn h
      obtain rfl := Option.some.inj h
      exact wp_iret dX7_readsRun_24 rfl (narrow_z hb).1
  · rw [if_pos c1] at h
    refine wp_aload_n (i := 0) dX7_readsRun_7 rfl rfl ?_
    refine wp_iconst (v := 4) dX7_readsRun_8 (by decide +kernel) ?_
    obtain ⟨r9, er9, h⟩ := ob h
    refine wp_cVi (N := m_X7_refuse) (As := [.int (4 : Int32)]) (rest := []) dX7_readsRun_9 ml_X7_58 mo_X7_refuse vo_X7_refuse rfl rfl (ok_X7_refuse er9) (by decide) (Nat.le_of_ble_eq_true rfl) ?_
    obtain ⟨hb, h⟩ := ifn h
    obtain rfl := Option.some.inj h
    exact wp_iret dX7_readsRun_12 rfl (narrow_z hb).1
def f_X7_readsLine_33 (v1 : Int32) (s : St) : Option (Int32 × St) :=
  if (s.1 11 4) = (3 : Int32) then (
    Option.bind (f_X0_fitsItsCells 7 v1 s) fun r2 =>
    if r2.1 = 0 then (
      Option.bind (f_X7_refuse (6 : Int32) r2.2) fun r5 =>
      if r5.1 = 0 ∨ r5.1 = 1 then some (r5.1, r5.2) else none)
    else (
      Option.bind (f_X7_advance r2.2) fun s4 =>
      some ((1 : Int32), s4)))
  else (
    Option.bind (f_X7_refuse (2 : Int32) s) fun r6 =>
    if r6.1 = 0 ∨ r6.1 = 1 then some (r6.1, r6.2) else none)
set_option maxRecDepth 100000 in
set_option maxHeartbeats 4000000 in
theorem w_X7_readsLine_33 {r : Int32 × St} {v1 : Int32}  {s : St} (h : f_X7_readsLine_33  v1 s = some r) : Wp m_X7_readsLine 4 (PR (some (.int r.1)) r.2) 33 [some (.ref 11), some (.int v1), none] [] s := by
  unfold f_X7_readsLine_33 at h
  refine wp_aload_n (i := 0) dX7_readsLine_33 rfl rfl ?_
  refine wp_getI dX7_readsLine_34 fl_X7_18 rfl rfl ?_
  refine wp_iconst (v := 3) dX7_readsLine_37 (by decide +kernel) ?_
  refine wp_icmp_eq (tgt := 47) dX7_readsLine_38 (by decide) (fun c1 => ?_) (fun c1 => ?_)
  · rw [if_pos c1] at h
    refine wp_aload_n (i := 0) dX7_readsLine_47 rfl rfl ?_
    refine wp_getR (t := 7) dX7_readsLine_48 fl_X7_34 rfl rfl ?_
    refine wp_iload_n (i := 1) dX7_readsLine_51 rfl rfl ?_
    obtain ⟨r2, er2, h⟩ := ob h
    refine wp_cVi (N := m_X0_fitsItsCells) (As := [.int v1]) (rest := []) dX7_readsLine_52 ml_X7_99 mo_X0_fitsItsCells vo_X0_fitsItsCells rfl rfl (ok_X0_fitsItsCells er2) (by decide) (Nat.le_of_ble_eq_true rfl) ?_
    refine wp_if_ne (tgt := 65) dX7_readsLine_55 (by decide) (fun c3 => ?_) (fun c3 => ?_)
    · rw [if_neg c3] at h
      refine wp_aload_n (i := 0) dX7_readsLine_65 rfl rfl ?_
      obtain ⟨s4, es4, h⟩ := ob h
      refine wp_cVv (N := m_X7_advance) (As := []) (rest := []) dX7_readsLine_66 ml_X7_42 mo_X7_advance vo_X7_advance rfl rfl (ok_X7_advance es4) (by decide) (Nat.le_of_ble_eq_true rfl) ?_
      refine wp_iconst (v := 1) dX7_readsLine_69 (by decide +kernel) ?_
      obtain rfl := Option.some.inj h
      exact wp_iret dX7_readsLine_70 rfl (narrow_z (Or.inr rfl)).1
    · rw [if_pos c3] at h
      refine wp_aload_n (i := 0) dX7_readsLine_58 rfl rfl ?_
      refine wp_bipush (v := 6) dX7_readsLine_59 (by decide +kernel) ?_
      obtain ⟨r5, er5, h⟩ := ob h
      refine wp_cVi (N := m_X7_refuse) (As := [.int (6 : Int32)]) (rest := []) dX7_readsLine_61 ml_X7_58 mo_X7_refuse vo_X7_refuse rfl rfl (ok_X7_refuse er5) (by decide) (Nat.le_of_ble_eq_true rfl) ?_
      obtain ⟨hb, h⟩ := ifn h
      obtain rfl := Option.some.inj h
      exact wp_iret dX7_readsLine_64 rfl (narrow_z hb).1
  · rw [if_neg c1] at h
    refine wp_aload_n (i := 0) dX7_readsLine_41 rfl rfl ?_
    refine wp_iconst (v := 2) dX7_readsLine_42 (by decide +kernel) ?_
    obtain ⟨r6, er6, h⟩ := ob h
    refine wp_cVi (N := m_X7_refuse) (As := [.int (2 : Int32)]) (rest := []) dX7_readsLine_43 ml_X7_58 mo_X7_refuse vo_X7_refuse rfl rfl (ok_X7_refuse er6) (by decide) (Nat.le_of_ble_eq_true rfl) ?_
    obtain ⟨hb, h⟩ := ifn h
    obtain rfl := Option.some.inj h
    exact wp_iret dX7_readsLine_46 rfl (narrow_z hb).1
def f_X7_readsLine_2 : Nat → Int32 → Int32 → St → Option (Int32 × St)
  | 0, _, _, _ => none
  | n + 1, v1, v2, s =>
    if (12 : Int32) < v2 then (
      f_X7_readsLine_33 v1 s)
    else (
      if (s.1 11 4) = (1 : Int32) then (
        Option.bind (f_X7_readsRun v1 v2 s) fun r3 =>
        if r3.1 = 0 then (
          some ((0 : Int32), r3.2))
        else (
          f_X7_readsLine_2 n v1 (v2 + 1) r3.2))
      else (
        f_X7_readsLine_33 v1 s))
set_option maxRecDepth 100000 in
set_option maxHeartbeats 4000000 in
theorem w_X7_readsLine_2 {r : Int32 × St}   : ∀ (n : Nat) (v1 : Int32) (v2 : Int32) (s : St), f_X7_readsLine_2  n v1 v2 s = some r → Wp m_X7_readsLine 4 (PR (some (.int r.1)) r.2) 2 [some (.ref 11), some (.int v1), some (.int v2)] [] s := by
  intro n
  induction n with
  | zero => intro v1 v2 s h; cases h
  | succ n ih =>
    intro v1 v2 s h
    unfold f_X7_readsLine_2 at h
    refine wp_iload_n (i := 2) dX7_readsLine_2 rfl rfl ?_
    refine wp_bipush (v := 12) dX7_readsLine_3 (by decide +kernel) ?_
    refine wp_icmp_gt (tgt := 33) dX7_readsLine_5 (by decide) (fun c1 => ?_) (fun c1 => ?_)
    · rw [if_pos c1] at h
      exact wp_sub (ls' := [some (.ref 11), some (.int v1), none]) ⟨rfl, rfl, trivial⟩ (w_X7_readsLine_33 h)
    · rw [if_neg c1] at h
      refine wp_aload_n (i := 0) dX7_readsLine_8 rfl rfl ?_
      refine wp_getI dX7_readsLine_9 fl_X7_18 rfl rfl ?_
      refine wp_iconst (v := 1) dX7_readsLine_12 (by decide +kernel) ?_
      refine wp_icmp_ne (tgt := 33) dX7_readsLine_13 (by decide) (fun c2 => ?_) (fun c2 => ?_)
      · rw [if_neg c2] at h
        exact wp_sub (ls' := [some (.ref 11), some (.int v1), none]) ⟨rfl, rfl, trivial⟩ (w_X7_readsLine_33 h)
      · rw [if_pos c2] at h
        refine wp_aload_n (i := 0) dX7_readsLine_16 rfl rfl ?_
        refine wp_iload_n (i := 1) dX7_readsLine_17 rfl rfl ?_
        refine wp_iload_n (i := 2) dX7_readsLine_18 rfl rfl ?_
        obtain ⟨r3, er3, h⟩ := ob h
        refine wp_cVi (N := m_X7_readsRun) (As := [.int v1, .int v2]) (rest := []) dX7_readsLine_19 ml_X7_96 mo_X7_readsRun vo_X7_readsRun rfl rfl (ok_X7_readsRun er3) (by decide) (Nat.le_of_ble_eq_true rfl) ?_
        refine wp_if_ne (tgt := 27) dX7_readsLine_22 (by decide) (fun c4 => ?_) (fun c4 => ?_)
        · rw [if_neg c4] at h
          refine wp_inc (c := 1) (ls' := [some (.ref 11), some (.int v1), some (.int (v2 + 1))]) dX7_readsLine_27 rfl (by decide +kernel) (by decide) rfl rfl ?_
          refine wp_goto (tgt := 2) dX7_readsLine_30 (by decide) ?_
          exact wp_sub (ls' := [some (.ref 11), some (.int v1), some (.int (v2 + 1))]) ⟨rfl, rfl, rfl, trivial⟩ (ih _ _ _ h)
        · rw [if_pos c4] at h
          refine wp_iconst (v := 0) dX7_readsLine_25 (by decide +kernel) ?_
          obtain rfl := Option.some.inj h
          exact wp_iret dX7_readsLine_26 rfl (narrow_z (Or.inl rfl)).1
def f_X7_readsLine (a1 : Int32) (s : St) : Option (Int32 × St) :=
  f_X7_readsLine_2 FU a1 (0 : Int32) s
set_option maxRecDepth 100000 in
set_option maxHeartbeats 4000000 in
theorem ok_X7_readsLine {a1 : Int32} {s : St} {r : Int32 × St} (h : f_X7_readsLine a1 s = some r) : Ct 4 m_X7_readsLine [.ref 11, .int a1] s (some (.int r.1)) r.2 := by
  unfold f_X7_readsLine at h
  refine ct_of [some (.ref 11), some (.int a1), none] 1 (by decide) rfl (Nat.le_of_ble_eq_true rfl) ?_
  refine wp_iconst (v := 0) dX7_readsLine_0 (by decide +kernel) ?_
  refine wp_istore_n (ls' := [some (.ref 11), some (.int a1), some (.int (0 : Int32))]) dX7_readsLine_1 rfl (by decide) rfl rfl ?_
  exact wp_sub (ls' := [some (.ref 11), some (.int a1), some (.int (0 : Int32))]) ⟨rfl, rfl, rfl, trivial⟩ (w_X7_readsLine_2 _ _ _ _ h)
def f_X7_readsAll_39 : Nat → Int32 → St → Option (Int32 × St)
  | 0, _, _ => none
  | n + 1, v1, s =>
    Option.bind (f_X0_lines 7 s) fun r1 =>
    if r1.1 ≤ v1 then (
      if (r1.2.1 11 4) = 0 then (
        Option.bind (f_X0_isBalanced 7 r1.2) fun r4 =>
        if r4.1 = 0 then (
          Option.bind (f_X7_refuse (7 : Int32) r4.2) fun r6 =>
          if r6.1 = 0 then (
            some ((0 : Int32), r6.2))
          else (
            some ((1 : Int32), r6.2)))
        else (
          some ((1 : Int32), r4.2)))
      else (
        Option.bind (f_X7_refuse (2 : Int32) r1.2) fun r8 =>
        if r8.1 = 0 ∨ r8.1 = 1 then some (r8.1, r8.2) else none))
    else (
      Option.bind (f_X7_readsLine v1 r1.2) fun r9 =>
      if r9.1 = 0 then (
        some ((0 : Int32), r9.2))
      else (
        f_X7_readsAll_39 n (v1 + 1) r9.2))
set_option maxRecDepth 100000 in
set_option maxHeartbeats 4000000 in
theorem w_X7_readsAll_39 {r : Int32 × St}   : ∀ (n : Nat) (v1 : Int32) (s : St), f_X7_readsAll_39  n v1 s = some r → Wp m_X7_readsAll 5 (PR (some (.int r.1)) r.2) 39 [some (.ref 11), some (.int v1)] [] s := by
  intro n
  induction n with
  | zero => intro v1 s h; cases h
  | succ n ih =>
    intro v1 s h
    unfold f_X7_readsAll_39 at h
    refine wp_iload_n (i := 1) dX7_readsAll_39 rfl rfl ?_
    refine wp_aload_n (i := 0) dX7_readsAll_40 rfl rfl ?_
    refine wp_getR (t := 7) dX7_readsAll_41 fl_X7_34 rfl rfl ?_
    obtain ⟨r1, er1, h⟩ := ob h
    refine wp_cVi (N := m_X0_lines) (As := []) (rest := [.int v1]) dX7_readsAll_44 ml_X7_48 mo_X0_lines vo_X0_lines rfl rfl (ok_X0_lines er1) (by decide) (Nat.le_of_ble_eq_true rfl) ?_
    refine wp_icmp_ge (tgt := 66) dX7_readsAll_47 (by decide) (fun c2 => ?_) (fun c2 => ?_)
    · rw [if_pos c2] at h
      refine wp_aload_n (i := 0) dX7_readsAll_66 rfl rfl ?_
      refine wp_getI dX7_readsAll_67 fl_X7_18 rfl rfl ?_
      refine wp_if_eq (tgt := 79) dX7_readsAll_70 (by decide) (fun c3 => ?_) (fun c3 => ?_)
      · rw [if_pos c3] at h
        refine wp_aload_n (i := 0) dX7_readsAll_79 rfl rfl ?_
        refine wp_getR (t := 7) dX7_readsAll_80 fl_X7_34 rfl rfl ?_
        obtain ⟨r4, er4, h⟩ := ob h
        refine wp_cVi (N := m_X0_isBalanced) (As := []) (rest := []) dX7_readsAll_83 ml_X7_61 mo_X0_isBalanced vo_X0_isBalanced rfl rfl (ok_X0_isBalanced er4) (by decide) (Nat.le_of_ble_eq_true rfl) ?_
        refine wp_if_ne (tgt := 98) dX7_readsAll_86 (by decide) (fun c5 => ?_) (fun c5 => ?_)
        · rw [if_neg c5] at h
          refine wp_iconst (v := 1) dX7_readsAll_98 (by decide +kernel) ?_
          refine wp_goto (tgt := 103) dX7_readsAll_99 (by decide) ?_
          obtain rfl := Option.some.inj h
          exact wp_iret dX7_readsAll_103 rfl (narrow_z (Or.inr rfl)).1
        · rw [if_pos c5] at h
          refine wp_aload_n (i := 0) dX7_readsAll_89 rfl rfl ?_
          refine wp_bipush (v := 7) dX7_readsAll_90 (by decide +kernel) ?_
          obtain ⟨r6, er6, h⟩ := ob h
          refine wp_cVi (N := m_X7_refuse) (As := [.int (7 : Int32)]) (rest := []) dX7_readsAll_92 ml_X7_58 mo_X7_refuse vo_X7_refuse rfl rfl (ok_X7_refuse er6) (by decide) (Nat.le_of_ble_eq_true rfl) ?_
          refine wp_if_eq (tgt := 102) dX7_readsAll_95 (by decide) (fun c7 => ?_) (fun c7 => ?_)
          · rw [if_pos c7] at h
            refine wp_iconst (v := 0) dX7_readsAll_102 (by decide +kernel) ?_
            obtain rfl := Option.some.inj h
            exact wp_iret dX7_readsAll_103 rfl (narrow_z (Or.inl rfl)).1
          · rw [if_neg c7] at h
            refine wp_iconst (v := 1) dX7_readsAll_98 (by decide +kernel) ?_
            refine wp_goto (tgt := 103) dX7_readsAll_99 (by decide) ?_
            obtain rfl := Option.some.inj h
            exact wp_iret dX7_readsAll_103 rfl (narrow_z (Or.inr rfl)).1
      · rw [if_neg c3] at h
        refine wp_aload_n (i := 0) dX7_readsAll_73 rfl rfl ?_
        refine wp_iconst (v := 2) dX7_readsAll_74 (by decide +kernel) ?_
        obtain ⟨r8, er8, h⟩ := ob h
        refine wp_cVi (N := m_X7_refuse) (As := [.int (2 : Int32)]) (rest := []) dX7_readsAll_75 ml_X7_58 mo_X7_refuse vo_X7_refuse rfl rfl (ok_X7_refuse er8) (by decide) (Nat.le_of_ble_eq_true rfl) ?_
        obtain ⟨hb, h⟩ := ifn h
        obtain rfl := Option.some.inj h
        exact wp_iret dX7_readsAll_78 rfl (narrow_z hb).1
    · rw [if_neg c2] at h
      refine wp_aload_n (i := 0) dX7_readsAll_50 rfl rfl ?_
      refine wp_iload_n (i := 1) dX7_readsAll_51 rfl rfl ?_
      obtain ⟨r9, er9, h⟩ := ob h
      refine wp_cVi (N := m_X7_readsLine) (As := [.int v1]) (rest := []) dX7_readsAll_52 ml_X7_54 mo_X7_readsLine vo_X7_readsLine rfl rfl (ok_X7_readsLine er9) (by decide) (Nat.le_of_ble_eq_true rfl) ?_
      refine wp_if_ne (tgt := 60) dX7_readsAll_55 (by decide) (fun c10 => ?_) (fun c10 => ?_)
      · rw [if_neg c10] at h
        refine wp_inc (c := 1) (ls' := [some (.ref 11), some (.int (v1 + 1))]) dX7_readsAll_60 rfl (by decide +kernel) (by decide) rfl rfl ?_
        refine wp_goto (tgt := 39) dX7_readsAll_63 (by decide) ?_
        exact wp_sub (ls' := [some (.ref 11), some (.int (v1 + 1))]) ⟨rfl, rfl, trivial⟩ (ih _ _ h)
      · rw [if_pos c10] at h
        refine wp_iconst (v := 0) dX7_readsAll_58 (by decide +kernel) ?_
        obtain rfl := Option.some.inj h
        exact wp_iret dX7_readsAll_59 rfl (narrow_z (Or.inl rfl)).1
def f_X7_readsAll  (s : St) : Option (Int32 × St) :=
  Option.bind (some (sF s 11 2 (0 : Int32))) fun s1 =>
  Option.bind (some (sF s1 11 3 (0 : Int32))) fun s2 =>
  Option.bind (f_X7_cutsClean s2) fun r3 =>
  if r3.1 = 0 then (
    some ((0 : Int32), r3.2))
  else (
    Option.bind (some (sF r3.2 11 7 (0 : Int32))) fun s5 =>
    Option.bind (f_X7_advance s5) fun s6 =>
    Option.bind (f_X7_readsHead s6) fun r7 =>
    if r7.1 = 0 then (
      some ((0 : Int32), r7.2))
    else (
      f_X7_readsAll_39 FU (0 : Int32) r7.2))
set_option maxRecDepth 100000 in
set_option maxHeartbeats 4000000 in
theorem ok_X7_readsAll  {s : St} {r : Int32 × St} (h : f_X7_readsAll  s = some r) : Ct 5 m_X7_readsAll [.ref 11] s (some (.int r.1)) r.2 := by
  unfold f_X7_readsAll at h
  refine ct_of [some (.ref 11), none] 1 (by decide) rfl (Nat.le_of_ble_eq_true rfl) ?_
  refine wp_aload_n (i := 0) dX7_readsAll_0 rfl rfl ?_
  refine wp_iconst (v := 0) dX7_readsAll_1 (by decide +kernel) ?_
  obtain ⟨s1, es1, h⟩ := ob h
  refine wp_putI2 dX7_readsAll_2 fl_X7_9 rfl rfl rfl rfl es1 ?_
  refine wp_aload_n (i := 0) dX7_readsAll_5 rfl rfl ?_
  refine wp_iconst (v := 0) dX7_readsAll_6 (by decide +kernel) ?_
  obtain ⟨s2, es2, h⟩ := ob h
  refine wp_putI2 dX7_readsAll_7 fl_X7_15 rfl rfl rfl rfl es2 ?_
  refine wp_aload_n (i := 0) dX7_readsAll_10 rfl rfl ?_
  obtain ⟨r3, er3, h⟩ := ob h
  refine wp_cVi (N := m_X7_cutsClean) (As := []) (rest := []) dX7_readsAll_11 ml_X7_38 mo_X7_cutsClean vo_X7_cutsClean rfl rfl (ok_X7_cutsClean er3) (by decide) (Nat.le_of_ble_eq_true rfl) ?_
  refine wp_if_ne (tgt := 19) dX7_readsAll_14 (by decide) (fun c4 => ?_) (fun c4 => ?_)
  · rw [if_neg c4] at h
    refine wp_aload_n (i := 0) dX7_readsAll_19 rfl rfl ?_
    refine wp_iconst (v := 0) dX7_readsAll_20 (by decide +kernel) ?_
    obtain ⟨s5, es5, h⟩ := ob h
    refine wp_putI2 dX7_readsAll_21 fl_X7_27 rfl rfl rfl rfl es5 ?_
    refine wp_aload_n (i := 0) dX7_readsAll_24 rfl rfl ?_
    obtain ⟨s6, es6, h⟩ := ob h
    refine wp_cVv (N := m_X7_advance) (As := []) (rest := []) dX7_readsAll_25 ml_X7_42 mo_X7_advance vo_X7_advance rfl rfl (ok_X7_advance es6) (by decide) (Nat.le_of_ble_eq_true rfl) ?_
    refine wp_aload_n (i := 0) dX7_readsAll_28 rfl rfl ?_
    obtain ⟨r7, er7, h⟩ := ob h
    refine wp_cVi (N := m_X7_readsHead) (As := []) (rest := []) dX7_readsAll_29 ml_X7_45 mo_X7_readsHead vo_X7_readsHead rfl rfl (ok_X7_readsHead er7) (by decide) (Nat.le_of_ble_eq_true rfl) ?_
    refine wp_if_ne (tgt := 37) dX7_readsAll_32 (by decide) (fun c8 => ?_) (fun c8 => ?_)
    · rw [if_neg c8] at h
      refine wp_iconst (v := 0) dX7_readsAll_37 (by decide +kernel) ?_
      refine wp_istore_n (ls' := [some (.ref 11), some (.int (0 : Int32))]) dX7_readsAll_38 rfl (by decide) rfl rfl ?_
      exact wp_sub (ls' := [some (.ref 11), some (.int (0 : Int32))]) ⟨rfl, rfl, trivial⟩ (w_X7_readsAll_39 _ _ _ h)
    · rw [if_pos c8] at h
      refine wp_iconst (v := 0) dX7_readsAll_35 (by decide +kernel) ?_
      obtain rfl := Option.some.inj h
      exact wp_iret dX7_readsAll_36 rfl (narrow_z (Or.inl rfl)).1
  · rw [if_pos c4] at h
    refine wp_iconst (v := 0) dX7_readsAll_17 (by decide +kernel) ?_
    obtain rfl := Option.some.inj h
    exact wp_iret dX7_readsAll_18 rfl (narrow_z (Or.inl rfl)).1
