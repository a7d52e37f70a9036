/-! decompiled by wip/gen/gen.py -/
theorem dX9_hint_0 : decode cX9_hint 0 = .ok (.aload_n 0, 1) := by decide +kernel
theorem dX9_hint_1 : decode cX9_hint 1 = .ok (.iconst 0, 1) := by decide +kernel
theorem dX9_hint_2 : decode cX9_hint 2 = .ok (.putfield 80, 3) := by decide +kernel
theorem dX9_hint_5 : decode cX9_hint 5 = .ok (.aload_n 0, 1) := by decide +kernel
theorem dX9_hint_6 : decode cX9_hint 6 = .ok (.invokevirtual 89, 3) := by decide +kernel
theorem dX9_hint_9 : decode cX9_hint 9 = .ok (.ifCond .ne 5, 3) := by decide +kernel
theorem dX9_hint_12 : decode cX9_hint 12 = .ok (.iconst (-1), 1) := by decide +kernel
theorem dX9_hint_13 : decode cX9_hint 13 = .ok (.ireturn, 1) := by decide +kernel
theorem dX9_hint_14 : decode cX9_hint 14 = .ok (.iconst 0, 1) := by decide +kernel
theorem dX9_hint_15 : decode cX9_hint 15 = .ok (.istore_n 1, 1) := by decide +kernel
theorem dX9_hint_16 : decode cX9_hint 16 = .ok (.iload_n 1, 1) := by decide +kernel
theorem dX9_hint_17 : decode cX9_hint 17 = .ok (.aload_n 0, 1) := by decide +kernel
theorem dX9_hint_18 : decode cX9_hint 18 = .ok (.invokevirtual 93, 3) := by decide +kernel
theorem dX9_hint_21 : decode cX9_hint 21 = .ok (.if_icmp .ge 181, 3) := by decide +kernel
theorem dX9_hint_24 : decode cX9_hint 24 = .ok (.iconst 0, 1) := by decide +kernel
theorem dX9_hint_25 : decode cX9_hint 25 = .ok (.istore_n 2, 1) := by decide +kernel
theorem dX9_hint_26 : decode cX9_hint 26 = .ok (.iload_n 2, 1) := by decide +kernel
theorem dX9_hint_27 : decode cX9_hint 27 = .ok (.sipush 144, 3) := by decide +kernel
theorem dX9_hint_30 : decode cX9_hint 30 = .ok (.if_icmp .ge 67, 3) := by decide +kernel
theorem dX9_hint_33 : decode cX9_hint 33 = .ok (.aload_n 0, 1) := by decide +kernel
theorem dX9_hint_34 : decode cX9_hint 34 = .ok (.getfield 71, 3) := by decide +kernel
theorem dX9_hint_37 : decode cX9_hint 37 = .ok (.iload_n 2, 1) := by decide +kernel
theorem dX9_hint_38 : decode cX9_hint 38 = .ok (.aload_n 0, 1) := by decide +kernel
theorem dX9_hint_39 : decode cX9_hint 39 = .ok (.getfield 19, 3) := by decide +kernel
theorem dX9_hint_42 : decode cX9_hint 42 = .ok (.iload_n 2, 1) := by decide +kernel
theorem dX9_hint_43 : decode cX9_hint 43 = .ok (.iaload, 1) := by decide +kernel
theorem dX9_hint_44 : decode cX9_hint 44 = .ok (.iconst (-1), 1) := by decide +kernel
theorem dX9_hint_45 : decode cX9_hint 45 = .ok (.if_icmp .eq 14, 3) := by decide +kernel
theorem dX9_hint_48 : decode cX9_hint 48 = .ok (.iconst 1, 1) := by decide +kernel
theorem dX9_hint_49 : decode cX9_hint 49 = .ok (.aload_n 0, 1) := by decide +kernel
theorem dX9_hint_50 : decode cX9_hint 50 = .ok (.getfield 19, 3) := by decide +kernel
theorem dX9_hint_53 : decode cX9_hint 53 = .ok (.iload_n 2, 1) := by decide +kernel
theorem dX9_hint_54 : decode cX9_hint 54 = .ok (.iaload, 1) := by decide +kernel
theorem dX9_hint_55 : decode cX9_hint 55 = .ok (.ishl, 1) := by decide +kernel
theorem dX9_hint_56 : decode cX9_hint 56 = .ok (.goto 34, 3) := by decide +kernel
theorem dX9_hint_59 : decode cX9_hint 59 = .ok (.aload_n 0, 1) := by decide +kernel
theorem dX9_hint_60 : decode cX9_hint 60 = .ok (.getfield 22, 3) := by decide +kernel
theorem dX9_hint_63 : decode cX9_hint 63 = .ok (.iload_n 2, 1) := by decide +kernel
theorem dX9_hint_64 : decode cX9_hint 64 = .ok (.iaload, 1) := by decide +kernel
theorem dX9_hint_65 : decode cX9_hint 65 = .ok (.iconst (-1), 1) := by decide +kernel
theorem dX9_hint_66 : decode cX9_hint 66 = .ok (.if_icmp .eq 14, 3) := by decide +kernel
theorem dX9_hint_69 : decode cX9_hint 69 = .ok (.iconst 1, 1) := by decide +kernel
theorem dX9_hint_70 : decode cX9_hint 70 = .ok (.aload_n 0, 1) := by decide +kernel
theorem dX9_hint_71 : decode cX9_hint 71 = .ok (.getfield 22, 3) := by decide +kernel
theorem dX9_hint_74 : decode cX9_hint 74 = .ok (.iload_n 2, 1) := by decide +kernel
theorem dX9_hint_75 : decode cX9_hint 75 = .ok (.iaload, 1) := by decide +kernel
theorem dX9_hint_76 : decode cX9_hint 76 = .ok (.ishl, 1) := by decide +kernel
theorem dX9_hint_77 : decode cX9_hint 77 = .ok (.goto 13, 3) := by decide +kernel
theorem dX9_hint_80 : decode cX9_hint 80 = .ok (.iconst 1, 1) := by decide +kernel
theorem dX9_hint_81 : decode cX9_hint 81 = .ok (.aload_n 0, 1) := by decide +kernel
theorem dX9_hint_82 : decode cX9_hint 82 = .ok (.getfield 169, 3) := by decide +kernel
theorem dX9_hint_85 : decode cX9_hint 85 = .ok (.iconst 1, 1) := by decide +kernel
theorem dX9_hint_86 : decode cX9_hint 86 = .ok (.iadd, 1) := by decide +kernel
theorem dX9_hint_87 : decode cX9_hint 87 = .ok (.ishl, 1) := by decide +kernel
theorem dX9_hint_88 : decode cX9_hint 88 = .ok (.iconst 1, 1) := by decide +kernel
theorem dX9_hint_89 : decode cX9_hint 89 = .ok (.isub, 1) := by decide +kernel
theorem dX9_hint_90 : decode cX9_hint 90 = .ok (.iastore, 1) := by decide +kernel
theorem dX9_hint_91 : decode cX9_hint 91 = .ok (.iinc 2 1, 3) := by decide +kernel
theorem dX9_hint_94 : decode cX9_hint 94 = .ok (.goto (-68), 3) := by decide +kernel
theorem dX9_hint_97 : decode cX9_hint 97 = .ok (.aload_n 0, 1) := by decide +kernel
theorem dX9_hint_98 : decode cX9_hint 98 = .ok (.aload_n 0, 1) := by decide +kernel
theorem dX9_hint_99 : decode cX9_hint 99 = .ok (.getfield 71, 3) := by decide +kernel
theorem dX9_hint_102 : decode cX9_hint 102 = .ok (.iconst 0, 1) := by decide +kernel
theorem dX9_hint_103 : decode cX9_hint 103 = .ok (.iload_n 1, 1) := by decide +kernel
theorem dX9_hint_104 : decode cX9_hint 104 = .ok (.invokevirtual 229, 3) := by decide +kernel
theorem dX9_hint_107 : decode cX9_hint 107 = .ok (.bipush (-2), 2) := by decide +kernel
theorem dX9_hint_109 : decode cX9_hint 109 = .ok (.if_icmp .ne 8, 3) := by decide +kernel
theorem dX9_hint_112 : decode cX9_hint 112 = .ok (.bipush (-2), 2) := by decide +kernel
theorem dX9_hint_114 : decode cX9_hint 114 = .ok (.iload_n 1, 1) := by decide +kernel
theorem dX9_hint_115 : decode cX9_hint 115 = .ok (.isub, 1) := by decide +kernel
theorem dX9_hint_116 : decode cX9_hint 116 = .ok (.ireturn, 1) := by decide +kernel
theorem dX9_hint_117 : decode cX9_hint 117 = .ok (.iconst 0, 1) := by decide +kernel
theorem dX9_hint_118 : decode cX9_hint 118 = .ok (.istore_n 2, 1) := by decide +kernel
theorem dX9_hint_119 : decode cX9_hint 119 = .ok (.iload_n 2, 1) := by decide +kernel
theorem dX9_hint_120 : decode cX9_hint 120 = .ok (.aload_n 0, 1) := by decide +kernel
theorem dX9_hint_121 : decode cX9_hint 121 = .ok (.iload_n 1, 1) := by decide +kernel
theorem dX9_hint_122 : decode cX9_hint 122 = .ok (.invokevirtual 209, 3) := by decide +kernel
theorem dX9_hint_125 : decode cX9_hint 125 = .ok (.if_icmp .ge 71, 3) := by decide +kernel
theorem dX9_hint_128 : decode cX9_hint 128 = .ok (.aload_n 0, 1) := by decide +kernel
theorem dX9_hint_129 : decode cX9_hint 129 = .ok (.iload_n 1, 1) := by decide +kernel
theorem dX9_hint_130 : decode cX9_hint 130 = .ok (.iload_n 2, 1) := by decide +kernel
theorem dX9_hint_131 : decode cX9_hint 131 = .ok (.invokevirtual 206, 3) := by decide +kernel
theorem dX9_hint_134 : decode cX9_hint 134 = .ok (.istore_n 3, 1) := by decide +kernel
theorem dX9_hint_135 : decode cX9_hint 135 = .ok (.aload_n 0, 1) := by decide +kernel
theorem dX9_hint_136 : decode cX9_hint 136 = .ok (.getfield 19, 3) := by decide +kernel
theorem dX9_hint_139 : decode cX9_hint 139 = .ok (.iload_n 3, 1) := by decide +kernel
theorem dX9_hint_140 : decode cX9_hint 140 = .ok (.iaload, 1) := by decide +kernel
theorem dX9_hint_141 : decode cX9_hint 141 = .ok (.iconst (-1), 1) := by decide +kernel
theorem dX9_hint_142 : decode cX9_hint 142 = .ok (.if_icmp .ne 48, 3) := by decide +kernel
theorem dX9_hint_145 : decode cX9_hint 145 = .ok (.aload_n 0, 1) := by decide +kernel
theorem dX9_hint_146 : decode cX9_hint 146 = .ok (.getfield 22, 3) := by decide +kernel
theorem dX9_hint_149 : decode cX9_hint 149 = .ok (.iload_n 3, 1) := by decide +kernel
theorem dX9_hint_150 : decode cX9_hint 150 = .ok (.iaload, 1) := by decide +kernel
theorem dX9_hint_151 : decode cX9_hint 151 = .ok (.iconst (-1), 1) := by decide +kernel
theorem dX9_hint_152 : decode cX9_hint 152 = .ok (.if_icmp .ne 38, 3) := by decide +kernel
theorem dX9_hint_155 : decode cX9_hint 155 = .ok (.aload_n 0, 1) := by decide +kernel
theorem dX9_hint_156 : decode cX9_hint 156 = .ok (.getfield 71, 3) := by decide +kernel
theorem dX9_hint_159 : decode cX9_hint 159 = .ok (.iload_n 3, 1) := by decide +kernel
theorem dX9_hint_160 : decode cX9_hint 160 = .ok (.iaload, 1) := by decide +kernel
theorem dX9_hint_161 : decode cX9_hint 161 = .ok (.invokestatic 185, 3) := by decide +kernel
theorem dX9_hint_164 : decode cX9_hint 164 = .ok (.iconst 1, 1) := by decide +kernel
theorem dX9_hint_165 : decode cX9_hint 165 = .ok (.if_icmp .ne 25, 3) := by decide +kernel
theorem dX9_hint_168 : decode cX9_hint 168 = .ok (.sipush 10000, 3) := by decide +kernel
theorem dX9_hint_171 : decode cX9_hint 171 = .ok (.iload_n 1, 1) := by decide +kernel
theorem dX9_hint_172 : decode cX9_hint 172 = .ok (.imul, 1) := by decide +kernel
theorem dX9_hint_173 : decode cX9_hint 173 = .ok (.sipush 1000, 3) := by decide +kernel
theorem dX9_hint_176 : decode cX9_hint 176 = .ok (.aload_n 0, 1) := by decide +kernel
theorem dX9_hint_177 : decode cX9_hint 177 = .ok (.getfield 71, 3) := by decide +kernel
theorem dX9_hint_180 : decode cX9_hint 180 = .ok (.iload_n 3, 1) := by decide +kernel
theorem dX9_hint_181 : decode cX9_hint 181 = .ok (.iaload, 1) := by decide +kernel
theorem dX9_hint_182 : decode cX9_hint 182 = .ok (.invokestatic 258, 3) := by decide +kernel
theorem dX9_hint_185 : decode cX9_hint 185 = .ok (.imul, 1) := by decide +kernel
theorem dX9_hint_186 : decode cX9_hint 186 = .ok (.iadd, 1) := by decide +kernel
theorem dX9_hint_187 : decode cX9_hint 187 = .ok (.iload_n 3, 1) := by decide +kernel
theorem dX9_hint_188 : decode cX9_hint 188 = .ok (.iadd, 1) := by decide +kernel
theorem dX9_hint_189 : decode cX9_hint 189 = .ok (.ireturn, 1) := by decide +kernel
theorem dX9_hint_190 : decode cX9_hint 190 = .ok (.iinc 2 1, 3) := by decide +kernel
theorem dX9_hint_193 : decode cX9_hint 193 = .ok (.goto (-74), 3) := by decide +kernel
theorem dX9_hint_196 : decode cX9_hint 196 = .ok (.iinc 1 1, 3) := by decide +kernel
theorem dX9_hint_199 : decode cX9_hint 199 = .ok (.goto (-183), 3) := by decide +kernel
theorem dX9_hint_202 : decode cX9_hint 202 = .ok (.iconst (-1), 1) := by decide +kernel
theorem dX9_hint_203 : decode cX9_hint 203 = .ok (.ireturn, 1) := by decide +kernel
theorem dX9_draw_0 : decode cX9_draw 0 = .ok (.aload_n 0, 1) := by decide +kernel
theorem dX9_draw_1 : decode cX9_draw 1 = .ok (.iconst 0, 1) := by decide +kernel
theorem dX9_draw_2 : decode cX9_draw 2 = .ok (.putfield 80, 3) := by decide +kernel
theorem dX9_draw_5 : decode cX9_draw 5 = .ok (.aload_n 0, 1) := by decide +kernel
theorem dX9_draw_6 : decode cX9_draw 6 = .ok (.invokevirtual 89, 3) := by decide +kernel
theorem dX9_draw_9 : decode cX9_draw 9 = .ok (.ifCond .ne 5, 3) := by decide +kernel
theorem dX9_draw_12 : decode cX9_draw 12 = .ok (.iconst (-1), 1) := by decide +kernel
theorem dX9_draw_13 : decode cX9_draw 13 = .ok (.ireturn, 1) := by decide +kernel
theorem dX9_draw_14 : decode cX9_draw 14 = .ok (.iconst 0, 1) := by decide +kernel
theorem dX9_draw_15 : decode cX9_draw 15 = .ok (.istore_n 1, 1) := by decide +kernel
theorem dX9_draw_16 : decode cX9_draw 16 = .ok (.iload_n 1, 1) := by decide +kernel
theorem dX9_draw_17 : decode cX9_draw 17 = .ok (.aload_n 0, 1) := by decide +kernel
theorem dX9_draw_18 : decode cX9_draw 18 = .ok (.invokevirtual 93, 3) := by decide +kernel
theorem dX9_draw_21 : decode cX9_draw 21 = .ok (.if_icmp .ge 72, 3) := by decide +kernel
theorem dX9_draw_24 : decode cX9_draw 24 = .ok (.aload_n 0, 1) := by decide +kernel
theorem dX9_draw_25 : decode cX9_draw 25 = .ok (.getfield 9, 3) := by decide +kernel
theorem dX9_draw_28 : decode cX9_draw 28 = .ok (.iload_n 1, 1) := by decide +kernel
theorem dX9_draw_29 : decode cX9_draw 29 = .ok (.aload_n 0, 1) := by decide +kernel
theorem dX9_draw_30 : decode cX9_draw 30 = .ok (.iload_n 1, 1) := by decide +kernel
theorem dX9_draw_31 : decode cX9_draw 31 = .ok (.invokevirtual 288, 3) := by decide +kernel
theorem dX9_draw_34 : decode cX9_draw 34 = .ok (.iastore, 1) := by decide +kernel
theorem dX9_draw_35 : decode cX9_draw 35 = .ok (.iconst 0, 1) := by decide +kernel
theorem dX9_draw_36 : decode cX9_draw 36 = .ok (.istore_n 2, 1) := by decide +kernel
theorem dX9_draw_37 : decode cX9_draw 37 = .ok (.iload_n 2, 1) := by decide +kernel
theorem dX9_draw_38 : decode cX9_draw 38 = .ok (.aload_n 0, 1) := by decide +kernel
theorem dX9_draw_39 : decode cX9_draw 39 = .ok (.getfield 9, 3) := by decide +kernel
theorem dX9_draw_42 : decode cX9_draw 42 = .ok (.iload_n 1, 1) := by decide +kernel
theorem dX9_draw_43 : decode cX9_draw 43 = .ok (.iaload, 1) := by decide +kernel
theorem dX9_draw_44 : decode cX9_draw 44 = .ok (.if_icmp .ge 43, 3) := by decide +kernel
theorem dX9_draw_47 : decode cX9_draw 47 = .ok (.aload_n 0, 1) := by decide +kernel
theorem dX9_draw_48 : decode cX9_draw 48 = .ok (.getfield 13, 3) := by decide +kernel
theorem dX9_draw_51 : decode cX9_draw 51 = .ok (.bipush 12, 2) := by decide +kernel
theorem dX9_draw_53 : decode cX9_draw 53 = .ok (.iload_n 1, 1) := by decide +kernel
theorem dX9_draw_54 : decode cX9_draw 54 = .ok (.imul, 1) := by decide +kernel
theorem dX9_draw_55 : decode cX9_draw 55 = .ok (.iload_n 2, 1) := by decide +kernel
theorem dX9_draw_56 : decode cX9_draw 56 = .ok (.iadd, 1) := by decide +kernel
theorem dX9_draw_57 : decode cX9_draw 57 = .ok (.aload_n 0, 1) := by decide +kernel
theorem dX9_draw_58 : decode cX9_draw 58 = .ok (.getfield 74, 3) := by decide +kernel
theorem dX9_draw_61 : decode cX9_draw 61 = .ok (.iload_n 2, 1) := by decide +kernel
theorem dX9_draw_62 : decode cX9_draw 62 = .ok (.iaload, 1) := by decide +kernel
theorem dX9_draw_63 : decode cX9_draw 63 = .ok (.iastore, 1) := by decide +kernel
theorem dX9_draw_64 : decode cX9_draw 64 = .ok (.aload_n 0, 1) := by decide +kernel
theorem dX9_draw_65 : decode cX9_draw 65 = .ok (.getfield 16, 3) := by decide +kernel
theorem dX9_draw_68 : decode cX9_draw 68 = .ok (.bipush 12, 2) := by decide +kernel
theorem dX9_draw_70 : decode cX9_draw 70 = .ok (.iload_n 1, 1) := by decide +kernel
theorem dX9_draw_71 : decode cX9_draw 71 = .ok (.imul, 1) := by decide +kernel
theorem dX9_draw_72 : decode cX9_draw 72 = .ok (.iload_n 2, 1) := by decide +kernel
theorem dX9_draw_73 : decode cX9_draw 73 = .ok (.iadd, 1) := by decide +kernel
theorem dX9_draw_74 : decode cX9_draw 74 = .ok (.aload_n 0, 1) := by decide +kernel
theorem dX9_draw_75 : decode cX9_draw 75 = .ok (.getfield 77, 3) := by decide +kernel
theorem dX9_draw_78 : decode cX9_draw 78 = .ok (.iload_n 2, 1) := by decide +kernel
theorem dX9_draw_79 : decode cX9_draw 79 = .ok (.iaload, 1) := by decide +kernel
theorem dX9_draw_80 : decode cX9_draw 80 = .ok (.iastore, 1) := by decide +kernel
theorem dX9_draw_81 : decode cX9_draw 81 = .ok (.iinc 2 1, 3) := by decide +kernel
theorem dX9_draw_84 : decode cX9_draw 84 = .ok (.goto (-47), 3) := by decide +kernel
theorem dX9_draw_87 : decode cX9_draw 87 = .ok (.iinc 1 1, 3) := by decide +kernel
theorem dX9_draw_90 : decode cX9_draw 90 = .ok (.goto (-74), 3) := by decide +kernel
theorem dX9_draw_93 : decode cX9_draw 93 = .ok (.aload_n 0, 1) := by decide +kernel
theorem dX9_draw_94 : decode cX9_draw 94 = .ok (.invokevirtual 172, 3) := by decide +kernel
theorem dX9_draw_97 : decode cX9_draw 97 = .ok (.aload_n 0, 1) := by decide +kernel
theorem dX9_draw_98 : decode cX9_draw 98 = .ok (.invokevirtual 178, 3) := by decide +kernel
theorem dX9_draw_101 : decode cX9_draw 101 = .ok (.ireturn, 1) := by decide +kernel
theorem dX9_mend_0 : decode cX9_mend 0 = .ok (.aload_n 0, 1) := by decide +kernel
theorem dX9_mend_1 : decode cX9_mend 1 = .ok (.iconst 0, 1) := by decide +kernel
theorem dX9_mend_2 : decode cX9_mend 2 = .ok (.putfield 80, 3) := by decide +kernel
theorem dX9_mend_5 : decode cX9_mend 5 = .ok (.aload_n 0, 1) := by decide +kernel
theorem dX9_mend_6 : decode cX9_mend 6 = .ok (.invokevirtual 89, 3) := by decide +kernel
theorem dX9_mend_9 : decode cX9_mend 9 = .ok (.ifCond .eq 10, 3) := by decide +kernel
theorem dX9_mend_12 : decode cX9_mend 12 = .ok (.aload_n 0, 1) := by decide +kernel
theorem dX9_mend_13 : decode cX9_mend 13 = .ok (.invokevirtual 291, 3) := by decide +kernel
theorem dX9_mend_16 : decode cX9_mend 16 = .ok (.ifCond .ne 5, 3) := by decide +kernel
theorem dX9_mend_19 : decode cX9_mend 19 = .ok (.iconst (-1), 1) := by decide +kernel
theorem dX9_mend_20 : decode cX9_mend 20 = .ok (.ireturn, 1) := by decide +kernel
theorem dX9_mend_21 : decode cX9_mend 21 = .ok (.iconst 0, 1) := by decide +kernel
theorem dX9_mend_22 : decode cX9_mend 22 = .ok (.istore_n 1, 1) := by decide +kernel
theorem dX9_mend_23 : decode cX9_mend 23 = .ok (.aload_n 0, 1) := by decide +kernel
theorem dX9_mend_24 : decode cX9_mend 24 = .ok (.iconst 2, 1) := by decide +kernel
theorem dX9_mend_25 : decode cX9_mend 25 = .ok (.sipush 400, 3) := by decide +kernel
theorem dX9_mend_28 : decode cX9_mend 28 = .ok (.invokevirtual 279, 3) := by decide +kernel
theorem dX9_mend_31 : decode cX9_mend 31 = .ok (.aload_n 0, 1) := by decide +kernel
theorem dX9_mend_32 : decode cX9_mend 32 = .ok (.getfield 264, 3) := by decide +kernel
theorem dX9_mend_35 : decode cX9_mend 35 = .ok (.ifCond .ne 84, 3) := by decide +kernel
theorem dX9_mend_38 : decode cX9_mend 38 = .ok (.aload_n 0, 1) := by decide +kernel
theorem dX9_mend_39 : decode cX9_mend 39 = .ok (.getfield 255, 3) := by decide +kernel
theorem dX9_mend_42 : decode cX9_mend 42 = .ok (.iconst 2, 1) := by decide +kernel
theorem dX9_mend_43 : decode cX9_mend 43 = .ok (.if_icmp .ne 76, 3) := by decide +kernel
theorem dX9_mend_46 : decode cX9_mend 46 = .ok (.iconst 0, 1) := by decide +kernel
theorem dX9_mend_47 : decode cX9_mend 47 = .ok (.istore_n 2, 1) := by decide +kernel
theorem dX9_mend_48 : decode cX9_mend 48 = .ok (.aload_n 0, 1) := by decide +kernel
theorem dX9_mend_49 : decode cX9_mend 49 = .ok (.getfield 68, 3) := by decide +kernel
theorem dX9_mend_52 : decode cX9_mend 52 = .ok (.aload_n 0, 1) := by decide +kernel
theorem dX9_mend_53 : decode cX9_mend 53 = .ok (.iload_n 2, 1) := by decide +kernel
theorem dX9_mend_54 : decode cX9_mend 54 = .ok (.invokevirtual 236, 3) := by decide +kernel
theorem dX9_mend_57 : decode cX9_mend 57 = .ok (.iaload, 1) := by decide +kernel
theorem dX9_mend_58 : decode cX9_mend 58 = .ok (.aload_n 0, 1) := by decide +kernel
theorem dX9_mend_59 : decode cX9_mend 59 = .ok (.getfield 68, 3) := by decide +kernel
theorem dX9_mend_62 : decode cX9_mend 62 = .ok (.sipush 144, 3) := by decide +kernel
theorem dX9_mend_65 : decode cX9_mend 65 = .ok (.aload_n 0, 1) := by decide +kernel
theorem dX9_mend_66 : decode cX9_mend 66 = .ok (.iload_n 2, 1) := by decide +kernel
theorem dX9_mend_67 : decode cX9_mend 67 = .ok (.invokevirtual 236, 3) := by decide +kernel
theorem dX9_mend_70 : decode cX9_mend 70 = .ok (.iadd, 1) := by decide +kernel
theorem dX9_mend_71 : decode cX9_mend 71 = .ok (.iaload, 1) := by decide +kernel
theorem dX9_mend_72 : decode cX9_mend 72 = .ok (.if_icmp .ne 9, 3) := by decide +kernel
theorem dX9_mend_75 : decode cX9_mend 75 = .ok (.iinc 2 1, 3) := by decide +kernel
theorem dX9_mend_78 : decode cX9_mend 78 = .ok (.goto (-30), 3) := by decide +kernel
theorem dX9_mend_81 : decode cX9_mend 81 = .ok (.aload_n 0, 1) := by decide +kernel
theorem dX9_mend_82 : decode cX9_mend 82 = .ok (.getfield 19, 3) := by decide +kernel
theorem dX9_mend_85 : decode cX9_mend 85 = .ok (.aload_n 0, 1) := by decide +kernel
theorem dX9_mend_86 : decode cX9_mend 86 = .ok (.iload_n 2, 1) := by decide +kernel
theorem dX9_mend_87 : decode cX9_mend 87 = .ok (.invokevirtual 236, 3) := by decide +kernel
theorem dX9_mend_90 : decode cX9_mend 90 = .ok (.aload_n 0, 1) := by decide +kernel
theorem dX9_mend_91 : decode cX9_mend 91 = .ok (.aload_n 0, 1) := by decide +kernel
theorem dX9_mend_92 : decode cX9_mend 92 = .ok (.iload_n 2, 1) := by decide +kernel
theorem dX9_mend_93 : decode cX9_mend 93 = .ok (.invokevirtual 236, 3) := by decide +kernel
theorem dX9_mend_96 : decode cX9_mend 96 = .ok (.invokevirtual 285, 3) := by decide +kernel
theorem dX9_mend_99 : decode cX9_mend 99 = .ok (.iastore, 1) := by decide +kernel
theorem dX9_mend_100 : decode cX9_mend 100 = .ok (.aload_n 0, 1) := by decide +kernel
theorem dX9_mend_101 : decode cX9_mend 101 = .ok (.iconst 0, 1) := by decide +kernel
theorem dX9_mend_102 : decode cX9_mend 102 = .ok (.putfield 105, 3) := by decide +kernel
theorem dX9_mend_105 : decode cX9_mend 105 = .ok (.iinc 1 1, 3) := by decide +kernel
theorem dX9_mend_108 : decode cX9_mend 108 = .ok (.aload_n 0, 1) := by decide +kernel
theorem dX9_mend_109 : decode cX9_mend 109 = .ok (.iconst 2, 1) := by decide +kernel
theorem dX9_mend_110 : decode cX9_mend 110 = .ok (.sipush 400, 3) := by decide +kernel
theorem dX9_mend_113 : decode cX9_mend 113 = .ok (.invokevirtual 279, 3) := by decide +kernel
theorem dX9_mend_116 : decode cX9_mend 116 = .ok (.goto (-85), 3) := by decide +kernel
theorem dX9_mend_119 : decode cX9_mend 119 = .ok (.aload_n 0, 1) := by decide +kernel
theorem dX9_mend_120 : decode cX9_mend 120 = .ok (.getfield 264, 3) := by decide +kernel
theorem dX9_mend_123 : decode cX9_mend 123 = .ok (.ifCond .eq 8, 3) := by decide +kernel
theorem dX9_mend_126 : decode cX9_mend 126 = .ok (.bipush (-2), 2) := by decide +kernel
theorem dX9_mend_128 : decode cX9_mend 128 = .ok (.goto 4, 3) := by decide +kernel
theorem dX9_mend_131 : decode cX9_mend 131 = .ok (.iload_n 1, 1) := by decide +kernel
theorem dX9_mend_132 : decode cX9_mend 132 = .ok (.ireturn, 1) := by decide +kernel
def f_X9_hint_190 (K16 : Int32 → St → Option (Int32 × St)) (K119 : Int32 → Int32 → St → Option (Int32 × St)) (v1 : Int32) (v2 : Int32) (s : St) : Option (Int32 × St) :=
  K119 v1 (v2 + 1) s
set_option maxRecDepth 100000 in
set_option maxHeartbeats 4000000 in
theorem w_X9_hint_190 {r : Int32 × St} {K16 : Int32 → St → Option (Int32 × St)} (hK16 : ∀ (v1 : Int32) (s : St), K16 v1 s = some r → Wp m_X9_hint 19 (PR (some (.int r.1)) r.2) 16 [some (.ref 43), some (.int v1), none, none] [] s) {K119 : Int32 → Int32 → St → Option (Int32 × St)} (hK119 : ∀ (v1 : Int32) (v2 : Int32) (s : St), K119 v1 v2 s = some r → Wp m_X9_hint 19 (PR (some (.int r.1)) r.2) 119 [some (.ref 43), some (.int v1), some (.int v2), none] [] s) {v1 : Int32} {v2 : Int32}  {s : St} (h : f_X9_hint_190 K16 K119 v1 v2 s = some r) : Wp m_X9_hint 19 (PR (some (.int r.1)) r.2) 190 [some (.ref 43), some (.int v1), some (.int v2), none] [] s := by
  unfold f_X9_hint_190 at h
  refine wp_inc (c := 1) (ls' := [some (.ref 43), some (.int v1), some (.int (v2 + 1)), none]) dX9_hint_190 rfl (by decide +kernel) (by decide) rfl rfl ?_
  refine wp_goto (tgt := 119) dX9_hint_193 (by decide) ?_
  exact wp_sub (ls' := [some (.ref 43), some (.int v1), some (.int (v2 + 1)), none]) ⟨rfl, rfl, rfl, trivial⟩ (hK119 _ _ _ h)
def f_X9_hint_119 (K16 : Int32 → St → Option (Int32 × St)) : Nat → Int32 → Int32 → St → Option (Int32 × St)
  | 0, _, _, _ => none
  | n + 1, v1, v2, s =>
    Option.bind (f_X9_sizeOf v1 s) fun r1 =>
    if r1.1 ≤ v2 then (
      K16 (v1 + 1) r1.2)
    else (
      Option.bind (f_X9_cellOf v1 v2 r1.2) fun r3 =>
      Option.bind (aI r3.2 47 r3.1) fun x4 =>
      if x4 = (-1 : Int32) then (
        Option.bind (aI r3.2 48 r3.1) fun x6 =>
        if x6 = (-1 : Int32) then (
          Option.bind (aI r3.2 63 r3.1) fun x8 =>
          Option.bind (f_X9_many x8 r3.2) fun r9 =>
          if r9.1 = (1 : Int32) then (
            Option.bind (aI r9.2 63 r3.1) fun x11 =>
            Option.bind (f_X9_least x11 r9.2) fun r12 =>
            some ((((10000 : Int32) * v1) + ((1000 : Int32) * r12.1)) + r3.1, r12.2))
          else (
            f_X9_hint_190 K16 (f_X9_hint_119 K16 n) v1 v2 r9.2))
        else (
          f_X9_hint_190 K16 (f_X9_hint_119 K16 n) v1 v2 r3.2))
      else (
        f_X9_hint_190 K16 (f_X9_hint_119 K16 n) v1 v2 r3.2))
set_option maxRecDepth 100000 in
set_option maxHeartbeats 4000000 in
theorem w_X9_hint_119 {r : Int32 × St} {K16 : Int32 → St → Option (Int32 × St)} (hK16 : ∀ (v1 : Int32) (s : St), K16 v1 s = some r → Wp m_X9_hint 19 (PR (some (.int r.1)) r.2) 16 [some (.ref 43), some (.int v1), none, none] [] s)   : ∀ (n : Nat) (v1 : Int32) (v2 : Int32) (s : St), f_X9_hint_119 K16 n v1 v2 s = some r → Wp m_X9_hint 19 (PR (some (.int r.1)) r.2) 119 [some (.ref 43), some (.int v1), some (.int v2), none] [] s := by
  intro n
  induction n with
  | zero => intro v1 v2 s h; cases h
  | succ n ih =>
    intro v1 v2 s h
    unfold f_X9_hint_119 at h
    refine wp_iload_n (i := 2) dX9_hint_119 rfl rfl ?_
    refine wp_aload_n (i := 0) dX9_hint_120 rfl rfl ?_
    refine wp_iload_n (i := 1) dX9_hint_121 rfl rfl ?_
    obtain ⟨r1, er1, h⟩ := ob h
    refine wp_cVi (N := m_X9_sizeOf) (As := [.int v1]) (rest := [.int v2]) dX9_hint_122 ml_X9_209 mo_X9_sizeOf vo_X9_sizeOf rfl rfl (ok_X9_sizeOf er1) (by decide) (Nat.le_of_ble_eq_true rfl) ?_
    refine wp_icmp_ge (tgt := 196) dX9_hint_125 (by decide) (fun c2 => ?_) (fun c2 => ?_)
    · rw [if_pos c2] at h
      refine wp_inc (c := 1) (ls' := [some (.ref 43), some (.int (v1 + 1)), some (.int v2), none]) dX9_hint_196 rfl (by decide +kernel) (by decide) rfl rfl ?_
      refine wp_goto (tgt := 16) dX9_hint_199 (by decide) ?_
      exact wp_sub (ls' := [some (.ref 43), some (.int (v1 + 1)), none, none]) ⟨rfl, rfl, trivial⟩ (hK16 _ _ h)
    · rw [if_neg c2] at h
      refine wp_aload_n (i := 0) dX9_hint_128 rfl rfl ?_
      refine wp_iload_n (i := 1) dX9_hint_129 rfl rfl ?_
      refine wp_iload_n (i := 2) dX9_hint_130 rfl rfl ?_
      obtain ⟨r3, er3, h⟩ := ob h
      refine wp_cVi (N := m_X9_cellOf) (As := [.int v1, .int v2]) (rest := []) dX9_hint_131 ml_X9_206 mo_X9_cellOf vo_X9_cellOf rfl rfl (ok_X9_cellOf er3) (by decide) (Nat.le_of_ble_eq_true rfl) ?_
      refine wp_istore_n (ls' := [some (.ref 43), some (.int v1), some (.int v2), some (.int r3.1)]) dX9_hint_134 rfl (by decide) rfl rfl ?_
      refine wp_aload_n (i := 0) dX9_hint_135 rfl rfl ?_
      refine wp_getR (t := 47) dX9_hint_136 fl_X9_19 rfl rfl ?_
      refine wp_iload_n (i := 3) dX9_hint_139 rfl rfl ?_
      obtain ⟨x4, ex4, h⟩ := ob h
      refine wp_aI dX9_hint_140 ex4 ?_
      refine wp_iconst (v := -1) dX9_hint_141 (by decide +kernel) ?_
      refine wp_icmp_ne (tgt := 190) dX9_hint_142 (by decide) (fun c5 => ?_) (fun c5 => ?_)
      · rw [if_neg c5] at h
        exact wp_sub (ls' := [some (.ref 43), some (.int v1), some (.int v2), none]) ⟨rfl, rfl, rfl, trivial⟩ (w_X9_hint_190 hK16 ih h)
      · rw [if_pos c5] at h
        refine wp_aload_n (i := 0) dX9_hint_145 rfl rfl ?_
        refine wp_getR (t := 48) dX9_hint_146 fl_X9_22 rfl rfl ?_
        refine wp_iload_n (i := 3) dX9_hint_149 rfl rfl ?_
        obtain ⟨x6, ex6, h⟩ := ob h
        refine wp_aI dX9_hint_150 ex6 ?_
        refine wp_iconst (v := -1) dX9_hint_151 (by decide +kernel) ?_
        refine wp_icmp_ne (tgt := 190) dX9_hint_152 (by decide) (fun c7 => ?_) (fun c7 => ?_)
        · rw [if_neg c7] at h
          exact wp_sub (ls' := [some (.ref 43), some (.int v1), some (.int v2), none]) ⟨rfl, rfl, rfl, trivial⟩ (w_X9_hint_190 hK16 ih h)
        · rw [if_pos c7] at h
          refine wp_aload_n (i := 0) dX9_hint_155 rfl rfl ?_
          refine wp_getR (t := 63) dX9_hint_156 fl_X9_71 rfl rfl ?_
          refine wp_iload_n (i := 3) dX9_hint_159 rfl rfl ?_
          obtain ⟨x8, ex8, h⟩ := ob h
          refine wp_aI dX9_hint_160 ex8 ?_
          obtain ⟨r9, er9, h⟩ := ob h
          refine wp_cSi (N := m_X9_many) (As := [.int x8]) (rest := []) dX9_hint_161 ml_X9_185 mo_X9_many vo_X9_many rfl (ok_X9_many er9) (by decide) (Nat.le_of_ble_eq_true rfl) ?_
          refine wp_iconst (v := 1) dX9_hint_164 (by decide +kernel) ?_
          refine wp_icmp_ne (tgt := 190) dX9_hint_165 (by decide) (fun c10 => ?_) (fun c10 => ?_)
          · rw [if_neg c10] at h
            exact wp_sub (ls' := [some (.ref 43), some (.int v1), some (.int v2), none]) ⟨rfl, rfl, rfl, trivial⟩ (w_X9_hint_190 hK16 ih h)
          · rw [if_pos c10] at h
            refine wp_sipush (v := 10000) dX9_hint_168 (by decide +kernel) ?_
            refine wp_iload_n (i := 1) dX9_hint_171 rfl rfl ?_
            refine wp_imul dX9_hint_172 ?_
            refine wp_sipush (v := 1000) dX9_hint_173 (by decide +kernel) ?_
            refine wp_aload_n (i := 0) dX9_hint_176 rfl rfl ?_
            refine wp_getR (t := 63) dX9_hint_177 fl_X9_71 rfl rfl ?_
            refine wp_iload_n (i := 3) dX9_hint_180 rfl rfl ?_
            obtain ⟨x11, ex11, h⟩ := ob h
            refine wp_aI dX9_hint_181 ex11 ?_
            obtain ⟨r12, er12, h⟩ := ob h
            refine wp_cSi (N := m_X9_least) (As := [.int x11]) (rest := [.int (1000 : Int32), .int ((10000 : Int32) * v1)]) dX9_hint_182 ml_X9_258 mo_X9_least vo_X9_least rfl (ok_X9_least er12) (by decide) (Nat.le_of_ble_eq_true rfl) ?_
            refine wp_imul dX9_hint_185 ?_
            refine wp_iadd dX9_hint_186 ?_
            refine wp_iload_n (i := 3) dX9_hint_187 rfl rfl ?_
            refine wp_iadd dX9_hint_188 ?_
            obtain rfl := Option.some.inj h
            exact wp_iret dX9_hint_189 rfl rfl
def f_X9_hint_90 (K16 : Int32 → St → Option (Int32 × St)) (K26 : Int32 → Int32 → St → Option (Int32 × St)) (v1 : Int32) (v2 : Int32) (t0 : Int32) (t1 : Int32) (s : St) : Option (Int32 × St) :=
  Option.bind (pI s 63 t1 t0) fun s1 =>
  K26 v1 (v2 + 1) s1
set_option maxRecDepth 100000 in
set_option maxHeartbeats 4000000 in
theorem w_X9_hint_90 {r : Int32 × St} {K16 : Int32 → St → Option (Int32 × St)} (hK16 : ∀ (v1 : Int32) (s : St), K16 v1 s = some r → Wp m_X9_hint 19 (PR (some (.int r.1)) r.2) 16 [some (.ref 43), some (.int v1), none, none] [] s) {K26 : Int32 → Int32 → St → Option (Int32 × St)} (hK26 : ∀ (v1 : Int32) (v2 : Int32) (s : St), K26 v1 v2 s = some r → Wp m_X9_hint 19 (PR (some (.int r.1)) r.2) 26 [some (.ref 43), some (.int v1), some (.int v2), none] [] s) {v1 : Int32} {v2 : Int32} {t0 : Int32} {t1 : Int32}  {s : St} (h : f_X9_hint_90 K16 K26 v1 v2 t0 t1 s = some r) : Wp m_X9_hint 19 (PR (some (.int r.1)) r.2) 90 [some (.ref 43), some (.int v1), some (.int v2), none] [.int t0, .int t1, .ref 63] s := by
  unfold f_X9_hint_90 at h
  obtain ⟨s1, es1, h⟩ := ob h
  refine wp_pI dX9_hint_90 es1 ?_
  refine wp_inc (c := 1) (ls' := [some (.ref 43), some (.int v1), some (.int (v2 + 1)), none]) dX9_hint_91 rfl (by decide +kernel) (by decide) rfl rfl ?_
  refine wp_goto (tgt := 26) dX9_hint_94 (by decide) ?_
  exact wp_sub (ls' := [some (.ref 43), some (.int v1), some (.int (v2 + 1)), none]) ⟨rfl, rfl, rfl, trivial⟩ (hK26 _ _ _ h)
def f_X9_hint_26 (K16 : Int32 → St → Option (Int32 × St)) : Nat → Int32 → Int32 → St → Option (Int32 × St)
  | 0, _, _, _ => none
  | n + 1, v1, v2, s =>
    if (144 : Int32) ≤ v2 then (
      Option.bind (f_X9_lineRule 63 (0 : Int32) v1 s) fun r2 =>
      if r2.1 = (-2 : Int32) then (
        some ((-2 : Int32) - v1, r2.2))
      else (
        f_X9_hint_119 K16 FU v1 (0 : Int32) r2.2))
    else (
      Option.bind (aI s 47 v2) fun x4 =>
      if x4 = (-1 : Int32) then (
        Option.bind (aI s 48 v2) fun x6 =>
        if x6 = (-1 : Int32) then (
          f_X9_hint_90 K16 (f_X9_hint_26 K16 n) v1 v2 (((1 : Int32) <<< (((s.1 43 3) + (1 : Int32)) &&& 31)) - (1 : Int32)) v2 s)
        else (
          Option.bind (aI s 48 v2) fun x8 =>
          f_X9_hint_90 K16 (f_X9_hint_26 K16 n) v1 v2 ((1 : Int32) <<< (x8 &&& 31)) v2 s))
      else (
        Option.bind (aI s 47 v2) fun x9 =>
        f_X9_hint_90 K16 (f_X9_hint_26 K16 n) v1 v2 ((1 : Int32) <<< (x9 &&& 31)) v2 s))
set_option maxRecDepth 100000 in
set_option maxHeartbeats 4000000 in
theorem w_X9_hint_26 {r : Int32 × St} {K16 : Int32 → St → Option (Int32 × St)} (hK16 : ∀ (v1 : Int32) (s : St), K16 v1 s = some r → Wp m_X9_hint 19 (PR (some (.int r.1)) r.2) 16 [some (.ref 43), some (.int v1), none, none] [] s)   : ∀ (n : Nat) (v1 : Int32) (v2 : Int32) (s : St), f_X9_hint_26 K16 n v1 v2 s = some r → Wp m_X9_hint 19 (PR (some (.int r.1)) r.2) 26 [some (.ref 43), some (.int v1), some (.int v2), none] [] s := by
  intro n
  induction n with
  | zero => intro v1 v2 s h; cases h
  | succ n ih =>
    intro v1 v2 s h
    unfold f_X9_hint_26 at h
    refine wp_iload_n (i := 2) dX9_hint_26 rfl rfl ?_
    refine wp_sipush (v := 144) dX9_hint_27 (by decide +kernel) ?_
    refine wp_icmp_ge (tgt := 97) dX9_hint_30 (by decide) (fun c1 => ?_) (fun c1 => ?_)
    · rw [if_pos c1] at h
      refine wp_aload_n (i := 0) dX9_hint_97 rfl rfl ?_
      refine wp_aload_n (i := 0) dX9_hint_98 rfl rfl ?_
      refine wp_getR (t := 63) dX9_hint_99 fl_X9_71 rfl rfl ?_
      refine wp_iconst (v := 0) dX9_hint_102 (by decide +kernel) ?_
      refine wp_iload_n (i := 1) dX9_hint_103 rfl rfl ?_
      obtain ⟨r2, er2, h⟩ := ob h
      refine wp_cVi (N := m_X9_lineRule) (As := [.ref 63, .int (0 : Int32), .int v1]) (rest := []) dX9_hint_104 ml_X9_229 mo_X9_lineRule vo_X9_lineRule rfl rfl (ok_X9_lineRule er2) (by decide) (Nat.le_of_ble_eq_true rfl) ?_
      refine wp_bipush (v := -2) dX9_hint_107 (by decide +kernel) ?_
      refine wp_icmp_ne (tgt := 117) dX9_hint_109 (by decide) (fun c3 => ?_) (fun c3 => ?_)
      · rw [if_neg c3] at h
        refine wp_iconst (v := 0) dX9_hint_117 (by decide +kernel) ?_
        refine wp_istore_n (ls' := [some (.ref 43), some (.int v1), some (.int (0 : Int32)), none]) dX9_hint_118 rfl (by decide) rfl rfl ?_
        exact wp_sub (ls' := [some (.ref 43), some (.int v1), some (.int (0 : Int32)), none]) ⟨rfl, rfl, rfl, trivial⟩ (w_X9_hint_119 hK16 _ _ _ _ h)
      · rw [if_pos c3] at h
        refine wp_bipush (v := -2) dX9_hint_112 (by decide +kernel) ?_
        refine wp_iload_n (i := 1) dX9_hint_114 rfl rfl ?_
        refine wp_isub dX9_hint_115 ?_
        obtain rfl := Option.some.inj h
        exact wp_iret dX9_hint_116 rfl rfl
    · rw [if_neg c1] at h
      refine wp_aload_n (i := 0) dX9_hint_33 rfl rfl ?_
      refine wp_getR (t := 63) dX9_hint_34 fl_X9_71 rfl rfl ?_
      refine wp_iload_n (i := 2) dX9_hint_37 rfl rfl ?_
      refine wp_aload_n (i := 0) dX9_hint_38 rfl rfl ?_
      refine wp_getR (t := 47) dX9_hint_39 fl_X9_19 rfl rfl ?_
      refine wp_iload_n (i := 2) dX9_hint_42 rfl rfl ?_
      obtain ⟨x4, ex4, h⟩ := ob h
      refine wp_aI dX9_hint_43 ex4 ?_
      refine wp_iconst (v := -1) dX9_hint_44 (by decide +kernel) ?_
      refine wp_icmp_eq (tgt := 59) dX9_hint_45 (by decide) (fun c5 => ?_) (fun c5 => ?_)
      · rw [if_pos c5] at h
        refine wp_aload_n (i := 0) dX9_hint_59 rfl rfl ?_
        refine wp_getR (t := 48) dX9_hint_60 fl_X9_22 rfl rfl ?_
        refine wp_iload_n (i := 2) dX9_hint_63 rfl rfl ?_
        obtain ⟨x6, ex6, h⟩ := ob h
        refine wp_aI dX9_hint_64 ex6 ?_
        refine wp_iconst (v := -1) dX9_hint_65 (by decide +kernel) ?_
        refine wp_icmp_eq (tgt := 80) dX9_hint_66 (by decide) (fun c7 => ?_) (fun c7 => ?_)
        · rw [if_pos c7] at h
          refine wp_iconst (v := 1) dX9_hint_80 (by decide +kernel) ?_
          refine wp_aload_n (i := 0) dX9_hint_81 rfl rfl ?_
          refine wp_getI dX9_hint_82 fl_X9_169 rfl rfl ?_
          refine wp_iconst (v := 1) dX9_hint_85 (by decide +kernel) ?_
          refine wp_iadd dX9_hint_86 ?_
          refine wp_ishl dX9_hint_87 ?_
          refine wp_iconst (v := 1) dX9_hint_88 (by decide +kernel) ?_
          refine wp_isub dX9_hint_89 ?_
          exact wp_sub (ls' := [some (.ref 43), some (.int v1), some (.int v2), none]) ⟨rfl, rfl, rfl, trivial⟩ (w_X9_hint_90 hK16 ih h)
        · rw [if_neg c7] at h
          refine wp_iconst (v := 1) dX9_hint_69 (by decide +kernel) ?_
          refine wp_aload_n (i := 0) dX9_hint_70 rfl rfl ?_
          refine wp_getR (t := 48) dX9_hint_71 fl_X9_22 rfl rfl ?_
          refine wp_iload_n (i := 2) dX9_hint_74 rfl rfl ?_
          obtain ⟨x8, ex8, h⟩ := ob h
          refine wp_aI dX9_hint_75 ex8 ?_
          refine wp_ishl dX9_hint_76 ?_
          refine wp_goto (tgt := 90) dX9_hint_77 (by decide) ?_
          exact wp_sub (ls' := [some (.ref 43), some (.int v1), some (.int v2), none]) ⟨rfl, rfl, rfl, trivial⟩ (w_X9_hint_90 hK16 ih h)
      · rw [if_neg c5] at h
        refine wp_iconst (v := 1) dX9_hint_48 (by decide +kernel) ?_
        refine wp_aload_n (i := 0) dX9_hint_49 rfl rfl ?_
        refine wp_getR (t := 47) dX9_hint_50 fl_X9_19 rfl rfl ?_
        refine wp_iload_n (i := 2) dX9_hint_53 rfl rfl ?_
        obtain ⟨x9, ex9, h⟩ := ob h
        refine wp_aI dX9_hint_54 ex9 ?_
        refine wp_ishl dX9_hint_55 ?_
        refine wp_goto (tgt := 90) dX9_hint_56 (by decide) ?_
        exact wp_sub (ls' := [some (.ref 43), some (.int v1), some (.int v2), none]) ⟨rfl, rfl, rfl, trivial⟩ (w_X9_hint_90 hK16 ih h)
def f_X9_hint_16 : Nat → Int32 → St → Option (Int32 × St)
  | 0, _, _ => none
  | n + 1, v1, s =>
    Option.bind (f_X9_lines s) fun r1 =>
    if r1.1 ≤ v1 then (
      some ((-1 : Int32), r1.2))
    else (
      f_X9_hint_26 (f_X9_hint_16 n) FU v1 (0 : Int32) r1.2)
set_option maxRecDepth 100000 in
set_option maxHeartbeats 4000000 in
theorem w_X9_hint_16 {r : Int32 × St}   : ∀ (n : Nat) (v1 : Int32) (s : St), f_X9_hint_16  n v1 s = some r → Wp m_X9_hint 19 (PR (some (.int r.1)) r.2) 16 [some (.ref 43), some (.int v1), none, none] [] s := by
  intro n
  induction n with
  | zero => intro v1 s h; cases h
  | succ n ih =>
    intro v1 s h
    unfold f_X9_hint_16 at h
    refine wp_iload_n (i := 1) dX9_hint_16 rfl rfl ?_
    refine wp_aload_n (i := 0) dX9_hint_17 rfl rfl ?_
    obtain ⟨r1, er1, h⟩ := ob h
    refine wp_cVi (N := m_X9_lines) (As := []) (rest := [.int v1]) dX9_hint_18 ml_X9_93 mo_X9_lines vo_X9_lines rfl rfl (ok_X9_lines er1) (by decide) (Nat.le_of_ble_eq_true rfl) ?_
    refine wp_icmp_ge (tgt := 202) dX9_hint_21 (by decide) (fun c2 => ?_) (fun c2 => ?_)
    · rw [if_pos c2] at h
      refine wp_iconst (v := -1) dX9_hint_202 (by decide +kernel) ?_
      obtain rfl := Option.some.inj h
      exact wp_iret dX9_hint_203 rfl rfl
    · rw [if_neg c2] at h
      refine wp_iconst (v := 0) dX9_hint_24 (by decide +kernel) ?_
      refine wp_istore_n (ls' := [some (.ref 43), some (.int v1), some (.int (0 : Int32)), none]) dX9_hint_25 rfl (by decide) rfl rfl ?_
      exact wp_sub (ls' := [some (.ref 43), some (.int v1), some (.int (0 : Int32)), none]) ⟨rfl, rfl, rfl, trivial⟩ (w_X9_hint_26 ih _ _ _ _ h)
def f_X9_hint  (s : St) : Option (Int32 × St) :=
  Option.bind (some (sF s 43 0 (0 : Int32))) fun s1 =>
  Option.bind (f_X9_is s1) fun r2 =>
  if r2.1 = 0 then (
    some ((-1 : Int32), r2.2))
  else (
    f_X9_hint_16 FU (0 : Int32) r2.2)
set_option maxRecDepth 100000 in
set_option maxHeartbeats 4000000 in
theorem ok_X9_hint  {s : St} {r : Int32 × St} (h : f_X9_hint  s = some r) : Ct 19 m_X9_hint [.ref 43] s (some (.int r.1)) r.2 := by
  unfold f_X9_hint at h
  refine ct_of [some (.ref 43), none, none, none] 3 (by decide) rfl (Nat.le_of_ble_eq_true rfl) ?_
  refine wp_aload_n (i := 0) dX9_hint_0 rfl rfl ?_
  refine wp_iconst (v := 0) dX9_hint_1 (by decide +kernel) ?_
  obtain ⟨s1, es1, h⟩ := ob h
  refine wp_putI2 dX9_hint_2 fl_X9_80 rfl rfl rfl rfl es1 ?_
  refine wp_aload_n (i := 0) dX9_hint_5 rfl rfl ?_
  obtain ⟨r2, er2, h⟩ := ob h
  refine wp_cVi (N := m_X9_is) (As := []) (rest := []) dX9_hint_6 ml_X9_89 mo_X9_is vo_X9_is rfl rfl (ok_X9_is er2) (by decide) (Nat.le_of_ble_eq_true rfl) ?_
  refine wp_if_ne (tgt := 14) dX9_hint_9 (by decide) (fun c3 => ?_) (fun c3 => ?_)
  · rw [if_neg c3] at h
    refine wp_iconst (v := 0) dX9_hint_14 (by decide +kernel) ?_
    refine wp_istore_n (ls' := [some (.ref 43), some (.int (0 : Int32)), none, none]) dX9_hint_15 rfl (by decide) rfl rfl ?_
    exact wp_sub (ls' := [some (.ref 43), some (.int (0 : Int32)), none, none]) ⟨rfl, rfl, trivial⟩ (w_X9_hint_16 _ _ _ h)
  · rw [if_pos c3] at h
    refine wp_iconst (v := -1) dX9_hint_12 (by decide +kernel) ?_
    obtain rfl := Option.some.inj h
    exact wp_iret dX9_hint_13 rfl rfl
def f_X9_draw_37 (K16 : Int32 → St → Option (Int32 × St)) : Nat → Int32 → Int32 → St → Option (Int32 × St)
  | 0, _, _, _ => none
  | n + 1, v1, v2, s =>
    Option.bind (aI s 44 v1) fun x1 =>
    if x1 ≤ v2 then (
      K16 (v1 + 1) s)
    else (
      Option.bind (aI s 64 v2) fun x3 =>
      Option.bind (pI s 45 (((12 : Int32) * v1) + v2) x3) fun s4 =>
      Option.bind (aI s4 65 v2) fun x5 =>
      Option.bind (pI s4 46 (((12 : Int32) * v1) + v2) x5) fun s6 =>
      f_X9_draw_37 K16 n v1 (v2 + 1) s6)
set_option maxRecDepth 100000 in
set_option maxHeartbeats 4000000 in
theorem w_X9_draw_37 {r : Int32 × St} {K16 : Int32 → St → Option (Int32 × St)} (hK16 : ∀ (v1 : Int32) (s : St), K16 v1 s = some r → Wp m_X9_draw 2 (PR (some (.int r.1)) r.2) 16 [some (.ref 43), some (.int v1), none] [] s)   : ∀ (n : Nat) (v1 : Int32) (v2 : Int32) (s : St), f_X9_draw_37 K16 n v1 v2 s = some r → Wp m_X9_draw 2 (PR (some (.int r.1)) r.2) 37 [some (.ref 43), some (.int v1), some (.int v2)] [] s := by
  intro n
  induction n with
  | zero => intro v1 v2 s h; cases h
  | succ n ih =>
    intro v1 v2 s h
    unfold f_X9_draw_37 at h
    refine wp_iload_n (i := 2) dX9_draw_37 rfl rfl ?_
    refine wp_aload_n (i := 0) dX9_draw_38 rfl rfl ?_
    refine wp_getR (t := 44) dX9_draw_39 fl_X9_9 rfl rfl ?_
    refine wp_iload_n (i := 1) dX9_draw_42 rfl rfl ?_
    obtain ⟨x1, ex1, h⟩ := ob h
    refine wp_aI dX9_draw_43 ex1 ?_
    refine wp_icmp_ge (tgt := 87) dX9_draw_44 (by decide) (fun c2 => ?_) (fun c2 => ?_)
    · rw [if_pos c2] at h
      refine wp_inc (c := 1) (ls' := [some (.ref 43), some (.int (v1 + 1)), some (.int v2)]) dX9_draw_87 rfl (by decide +kernel) (by decide) rfl rfl ?_
      refine wp_goto (tgt := 16) dX9_draw_90 (by decide) ?_
      exact wp_sub (ls' := [some (.ref 43), some (.int (v1 + 1)), none]) ⟨rfl, rfl, trivial⟩ (hK16 _ _ h)
    · rw [if_neg c2] at h
      refine wp_aload_n (i := 0) dX9_draw_47 rfl rfl ?_
      refine wp_getR (t := 45) dX9_draw_48 fl_X9_13 rfl rfl ?_
      refine wp_bipush (v := 12) dX9_draw_51 (by decide +kernel) ?_
      refine wp_iload_n (i := 1) dX9_draw_53 rfl rfl ?_
      refine wp_imul dX9_draw_54 ?_
      refine wp_iload_n (i := 2) dX9_draw_55 rfl rfl ?_
      refine wp_iadd dX9_draw_56 ?_
      refine wp_aload_n (i := 0) dX9_draw_57 rfl rfl ?_
      refine wp_getR (t := 64) dX9_draw_58 fl_X9_74 rfl rfl ?_
      refine wp_iload_n (i := 2) dX9_draw_61 rfl rfl ?_
      obtain ⟨x3, ex3, h⟩ := ob h
      refine wp_aI dX9_draw_62 ex3 ?_
      obtain ⟨s4, es4, h⟩ := ob h
      refine wp_pI dX9_draw_63 es4 ?_
      refine wp_aload_n (i := 0) dX9_draw_64 rfl rfl ?_
      refine wp_getR (t := 46) dX9_draw_65 fl_X9_16 rfl rfl ?_
      refine wp_bipush (v := 12) dX9_draw_68 (by decide +kernel) ?_
      refine wp_iload_n (i := 1) dX9_draw_70 rfl rfl ?_
      refine wp_imul dX9_draw_71 ?_
      refine wp_iload_n (i := 2) dX9_draw_72 rfl rfl ?_
      refine wp_iadd dX9_draw_73 ?_
      refine wp_aload_n (i := 0) dX9_draw_74 rfl rfl ?_
      refine wp_getR (t := 65) dX9_draw_75 fl_X9_77 rfl rfl ?_
      refine wp_iload_n (i := 2) dX9_draw_78 rfl rfl ?_
      obtain ⟨x5, ex5, h⟩ := ob h
      refine wp_aI dX9_draw_79 ex5 ?_
      obtain ⟨s6, es6, h⟩ := ob h
      refine wp_pI dX9_draw_80 es6 ?_
      refine wp_inc (c := 1) (ls' := [some (.ref 43), some (.int v1), some (.int (v2 + 1))]) dX9_draw_81 rfl (by decide +kernel) (by decide) rfl rfl ?_
      refine wp_goto (tgt := 37) dX9_draw_84 (by decide) ?_
      exact wp_sub (ls' := [some (.ref 43), some (.int v1), some (.int (v2 + 1))]) ⟨rfl, rfl, rfl, trivial⟩ (ih _ _ _ h)
def f_X9_draw_16 : Nat → Int32 → St → Option (Int32 × St)
  | 0, _, _ => none
  | n + 1, v1, s =>
    Option.bind (f_X9_lines s) fun r1 =>
    if r1.1 ≤ v1 then (
      Option.bind (f_X9_isNew r1.2) fun s3 =>
      Option.bind (f_X9_runMany s3) fun r4 =>
      some (r4.1, r4.2))
    else (
      Option.bind (f_X9_readsAs v1 r1.2) fun r5 =>
      Option.bind (pI r5.2 44 v1 r5.1) fun s6 =>
      f_X9_draw_37 (f_X9_draw_16 n) FU v1 (0 : Int32) s6)
set_option maxRecDepth 100000 in
set_option maxHeartbeats 4000000 in
theorem w_X9_draw_16 {r : Int32 × St}   : ∀ (n : Nat) (v1 : Int32) (s : St), f_X9_draw_16  n v1 s = some r → Wp m_X9_draw 2 (PR (some (.int r.1)) r.2) 16 [some (.ref 43), some (.int v1), none] [] s := by
  intro n
  induction n with
  | zero => intro v1 s h; cases h
  | succ n ih =>
    intro v1 s h
    unfold f_X9_draw_16 at h
    refine wp_iload_n (i := 1) dX9_draw_16 rfl rfl ?_
    refine wp_aload_n (i := 0) dX9_draw_17 rfl rfl ?_
    obtain ⟨r1, er1, h⟩ := ob h
    refine wp_cVi (N := m_X9_lines) (As := []) (rest := [.int v1]) dX9_draw_18 ml_X9_93 mo_X9_lines vo_X9_lines rfl rfl (ok_X9_lines er1) (by decide) (Nat.le_of_ble_eq_true rfl) ?_
    refine wp_icmp_ge (tgt := 93) dX9_draw_21 (by decide) (fun c2 => ?_) (fun c2 => ?_)
    · rw [if_pos c2] at h
      refine wp_aload_n (i := 0) dX9_draw_93 rfl rfl ?_
      obtain ⟨s3, es3, h⟩ := ob h
      refine wp_cVv (N := m_X9_isNew) (As := []) (rest := []) dX9_draw_94 ml_X9_172 mo_X9_isNew vo_X9_isNew rfl rfl (ok_X9_isNew es3) (by decide) (Nat.le_of_ble_eq_true rfl) ?_
      refine wp_aload_n (i := 0) dX9_draw_97 rfl rfl ?_
      obtain ⟨r4, er4, h⟩ := ob h
      refine wp_cVi (N := m_X9_runMany) (As := []) (rest := []) dX9_draw_98 ml_X9_178 mo_X9_runMany vo_X9_runMany rfl rfl (ok_X9_runMany er4) (by decide) (Nat.le_of_ble_eq_true rfl) ?_
      obtain rfl := Option.some.inj h
      exact wp_iret dX9_draw_101 rfl rfl
    · rw [if_neg c2] at h
      refine wp_aload_n (i := 0) dX9_draw_24 rfl rfl ?_
      refine wp_getR (t := 44) dX9_draw_25 fl_X9_9 rfl rfl ?_
      refine wp_iload_n (i := 1) dX9_draw_28 rfl rfl ?_
      refine wp_aload_n (i := 0) dX9_draw_29 rfl rfl ?_
      refine wp_iload_n (i := 1) dX9_draw_30 rfl rfl ?_
      obtain ⟨r5, er5, h⟩ := ob h
      refine wp_cVi (N := m_X9_readsAs) (As := [.int v1]) (rest := [.int v1, .ref 44]) dX9_draw_31 ml_X9_288 mo_X9_readsAs vo_X9_readsAs rfl rfl (ok_X9_readsAs er5) (by decide) (Nat.le_of_ble_eq_true rfl) ?_
      obtain ⟨s6, es6, h⟩ := ob h
      refine wp_pI dX9_draw_34 es6 ?_
      refine wp_iconst (v := 0) dX9_draw_35 (by decide +kernel) ?_
      refine wp_istore_n (ls' := [some (.ref 43), some (.int v1), some (.int (0 : Int32))]) dX9_draw_36 rfl (by decide) rfl rfl ?_
      exact wp_sub (ls' := [some (.ref 43), some (.int v1), some (.int (0 : Int32))]) ⟨rfl, rfl, rfl, trivial⟩ (w_X9_draw_37 ih _ _ _ _ h)
def f_X9_draw  (s : St) : Option (Int32 × St) :=
  Option.bind (some (sF s 43 0 (0 : Int32))) fun s1 =>
  Option.bind (f_X9_is s1) fun r2 =>
  if r2.1 = 0 then (
    some ((-1 : Int32), r2.2))
  else (
    f_X9_draw_16 FU (0 : Int32) r2.2)
set_option maxRecDepth 100000 in
set_option maxHeartbeats 4000000 in
theorem ok_X9_draw  {s : St} {r : Int32 × St} (h : f_X9_draw  s = some r) : Ct 2 m_X9_draw [.ref 43] s (some (.int r.1)) r.2 := by
  unfold f_X9_draw at h
  refine ct_of [some (.ref 43), none, none] 2 (by decide) rfl (Nat.le_of_ble_eq_true rfl) ?_
  refine wp_aload_n (i := 0) dX9_draw_0 rfl rfl ?_
  refine wp_iconst (v := 0) dX9_draw_1 (by decide +kernel) ?_
  obtain ⟨s1, es1, h⟩ := ob h
  refine wp_putI2 dX9_draw_2 fl_X9_80 rfl rfl rfl rfl es1 ?_
  refine wp_aload_n (i := 0) dX9_draw_5 rfl rfl ?_
  obtain ⟨r2, er2, h⟩ := ob h
  refine wp_cVi (N := m_X9_is) (As := []) (rest := []) dX9_draw_6 ml_X9_89 mo_X9_is vo_X9_is rfl rfl (ok_X9_is er2) (by decide) (Nat.le_of_ble_eq_true rfl) ?_
  refine wp_if_ne (tgt := 14) dX9_draw_9 (by decide) (fun c3 => ?_) (fun c3 => ?_)
  · rw [if_neg c3] at h
    refine wp_iconst (v := 0) dX9_draw_14 (by decide +kernel) ?_
    refine wp_istore_n (ls' := [some (.ref 43), some (.int (0 : Int32)), none]) dX9_draw_15 rfl (by decide) rfl rfl ?_
    exact wp_sub (ls' := [some (.ref 43), some (.int (0 : Int32)), none]) ⟨rfl, rfl, trivial⟩ (w_X9_draw_16 _ _ _ h)
  · rw [if_pos c3] at h
    refine wp_iconst (v := -1) dX9_draw_12 (by decide +kernel) ?_
    obtain rfl := Option.some.inj h
    exact wp_iret dX9_draw_13 rfl rfl
def f_X9_mend_119 (v1 : Int32) (s : St) : Option (Int32 × St) :=
  if (s.1 43 45) = 0 then (
    some (v1, s))
  else (
    some ((-2 : Int32), s))
set_option maxRecDepth 100000 in
set_option maxHeartbeats 4000000 in
theorem w_X9_mend_119 {r : Int32 × St} {v1 : Int32}  {s : St} (h : f_X9_mend_119  v1 s = some r) : Wp m_X9_mend 169 (PR (some (.int r.1)) r.2) 119 [some (.ref 43), some (.int v1), none] [] s := by
  unfold f_X9_mend_119 at h
  refine wp_aload_n (i := 0) dX9_mend_119 rfl rfl ?_
  refine wp_getI dX9_mend_120 fl_X9_264 rfl rfl ?_
  refine wp_if_eq (tgt := 131) dX9_mend_123 (by decide) (fun c1 => ?_) (fun c1 => ?_)
  · rw [if_pos c1] at h
    refine wp_iload_n (i := 1) dX9_mend_131 rfl rfl ?_
    obtain rfl := Option.some.inj h
    exact wp_iret dX9_mend_132 rfl rfl
  · rw [if_neg c1] at h
    refine wp_bipush (v := -2) dX9_mend_126 (by decide +kernel) ?_
    refine wp_goto (tgt := 132) dX9_mend_128 (by decide) ?_
    obtain rfl := Option.some.inj h
    exact wp_iret dX9_mend_132 rfl rfl
def f_X9_mend_48 (K31 : Int32 → St → Option (Int32 × St)) : Nat → Int32 → Int32 → St → Option (Int32 × St)
  | 0, _, _, _ => none
  | n + 1, v1, v2, s =>
    Option.bind (f_X9_inOrder v2 s) fun r1 =>
    Option.bind (aI r1.2 62 r1.1) fun x2 =>
    Option.bind (f_X9_inOrder v2 r1.2) fun r3 =>
    Option.bind (aI r3.2 62 ((144 : Int32) + r3.1)) fun x4 =>
    if x2 = x4 then (
      f_X9_mend_48 K31 n v1 (v2 + 1) r3.2)
    else (
      Option.bind (f_X9_inOrder v2 r3.2) fun r6 =>
      Option.bind (f_X9_inOrder v2 r6.2) fun r7 =>
      Option.bind (f_X9_shown r7.1 r7.2) fun r8 =>
      Option.bind (pI r8.2 47 r6.1 r8.1) fun s9 =>
      Option.bind (some (sF s9 43 11 (0 : Int32))) fun s10 =>
      Option.bind (f_X9_searches (2 : Int32) (400 : Int32) s10) fun s11 =>
      K31 (v1 + 1) s11)
set_option maxRecDepth 100000 in
set_option maxHeartbeats 4000000 in
theorem w_X9_mend_48 {r : Int32 × St} {K31 : Int32 → St → Option (Int32 × St)} (hK31 : ∀ (v1 : Int32) (s : St), K31 v1 s = some r → Wp m_X9_mend 169 (PR (some (.int r.1)) r.2) 31 [some (.ref 43), some (.int v1), none] [] s)   : ∀ (n : Nat) (v1 : Int32) (v2 : Int32) (s : St), f_X9_mend_48 K31 n v1 v2 s = some r → Wp m_X9_mend 169 (PR (some (.int r.1)) r.2) 48 [some (.ref 43), some (.int v1), some (.int v2)] [] s := by
  intro n
  induction n with
  | zero => intro v1 v2 s h; cases h
  | succ n ih =>
    intro v1 v2 s h
    unfold f_X9_mend_48 at h
    refine wp_aload_n (i := 0) dX9_mend_48 rfl rfl ?_
    refine wp_getR (t := 62) dX9_mend_49 fl_X9_68 rfl rfl ?_
    refine wp_aload_n (i := 0) dX9_mend_52 rfl rfl ?_
    refine wp_iload_n (i := 2) dX9_mend_53 rfl rfl ?_
    obtain ⟨r1, er1, h⟩ := ob h
    refine wp_cVi (N := m_X9_inOrder) (As := [.int v2]) (rest := [.ref 62]) dX9_mend_54 ml_X9_236 mo_X9_inOrder vo_X9_inOrder rfl rfl (ok_X9_inOrder er1) (by decide) (Nat.le_of_ble_eq_true rfl) ?_
    obtain ⟨x2, ex2, h⟩ := ob h
    refine wp_aI dX9_mend_57 ex2 ?_
    refine wp_aload_n (i := 0) dX9_mend_58 rfl rfl ?_
    refine wp_getR (t := 62) dX9_mend_59 fl_X9_68 rfl rfl ?_
    refine wp_sipush (v := 144) dX9_mend_62 (by decide +kernel) ?_
    refine wp_aload_n (i := 0) dX9_mend_65 rfl rfl ?_
    refine wp_iload_n (i := 2) dX9_mend_66 rfl rfl ?_
    obtain ⟨r3, er3, h⟩ := ob h
    refine wp_cVi (N := m_X9_inOrder) (As := [.int v2]) (rest := [.int (144 : Int32), .ref 62, .int x2]) dX9_mend_67 ml_X9_236 mo_X9_inOrder vo_X9_inOrder rfl rfl (ok_X9_inOrder er3) (by decide) (Nat.le_of_ble_eq_true rfl) ?_
    refine wp_iadd dX9_mend_70 ?_
    obtain ⟨x4, ex4, h⟩ := ob h
    refine wp_aI dX9_mend_71 ex4 ?_
    refine wp_icmp_ne (tgt := 81) dX9_mend_72 (by decide) (fun c5 => ?_) (fun c5 => ?_)
    · rw [if_neg c5] at h
      refine wp_aload_n (i := 0) dX9_mend_81 rfl rfl ?_
      refine wp_getR (t := 47) dX9_mend_82 fl_X9_19 rfl rfl ?_
      refine wp_aload_n (i := 0) dX9_mend_85 rfl rfl ?_
      refine wp_iload_n (i := 2) dX9_mend_86 rfl rfl ?_
      obtain ⟨r6, er6, h⟩ := ob h
      refine wp_cVi (N := m_X9_inOrder) (As := [.int v2]) (rest := [.ref 47]) dX9_mend_87 ml_X9_236 mo_X9_inOrder vo_X9_inOrder rfl rfl (ok_X9_inOrder er6) (by decide) (Nat.le_of_ble_eq_true rfl) ?_
      refine wp_aload_n (i := 0) dX9_mend_90 rfl rfl ?_
      refine wp_aload_n (i := 0) dX9_mend_91 rfl rfl ?_
      refine wp_iload_n (i := 2) dX9_mend_92 rfl rfl ?_
      obtain ⟨r7, er7, h⟩ := ob h
      refine wp_cVi (N := m_X9_inOrder) (As := [.int v2]) (rest := [.ref 43, .int r6.1, .ref 47]) dX9_mend_93 ml_X9_236 mo_X9_inOrder vo_X9_inOrder rfl rfl (ok_X9_inOrder er7) (by decide) (Nat.le_of_ble_eq_true rfl) ?_
      obtain ⟨r8, er8, h⟩ := ob h
      refine wp_cVi (N := m_X9_shown) (As := [.int r7.1]) (rest := [.int r6.1, .ref 47]) dX9_mend_96 ml_X9_285 mo_X9_shown vo_X9_shown rfl rfl (ok_X9_shown er8) (by decide) (Nat.le_of_ble_eq_true rfl) ?_
      obtain ⟨s9, es9, h⟩ := ob h
      refine wp_pI dX9_mend_99 es9 ?_
      refine wp_aload_n (i := 0) dX9_mend_100 rfl rfl ?_
      refine wp_iconst (v := 0) dX9_mend_101 (by decide +kernel) ?_
      obtain ⟨s10, es10, h⟩ := ob h
      refine wp_putZ2 dX9_mend_102 fl_X9_105 rfl rfl rfl rfl (Or.inl rfl) es10 ?_
      refine wp_inc (c := 1) (ls' := [some (.ref 43), some (.int (v1 + 1)), some (.int v2)]) dX9_mend_105 rfl (by decide +kernel) (by decide) rfl rfl ?_
      refine wp_aload_n (i := 0) dX9_mend_108 rfl rfl ?_
      refine wp_iconst (v := 2) dX9_mend_109 (by decide +kernel) ?_
      refine wp_sipush (v := 400) dX9_mend_110 (by decide +kernel) ?_
      obtain ⟨s11, es11, h⟩ := ob h
      refine wp_cVv (N := m_X9_searches) (As := [.int (2 : Int32), .int (400 : Int32)]) (rest := []) dX9_mend_113 ml_X9_279 mo_X9_searches vo_X9_searches rfl rfl (ok_X9_searches es11) (by decide) (Nat.le_of_ble_eq_true rfl) ?_
      refine wp_goto (tgt := 31) dX9_mend_116 (by decide) ?_
      exact wp_sub (ls' := [some (.ref 43), some (.int (v1 + 1)), none]) ⟨rfl, rfl, trivial⟩ (hK31 _ _ h)
    · rw [if_pos c5] at h
      refine wp_inc (c := 1) (ls' := [some (.ref 43), some (.int v1), some (.int (v2 + 1))]) dX9_mend_75 rfl (by decide +kernel) (by decide) rfl rfl ?_
      refine wp_goto (tgt := 48) dX9_mend_78 (by decide) ?_
      exact wp_sub (ls' := [some (.ref 43), some (.int v1), some (.int (v2 + 1))]) ⟨rfl, rfl, rfl, trivial⟩ (ih _ _ _ h)
def f_X9_mend_31 : Nat → Int32 → St → Option (Int32 × St)
  | 0, _, _ => none
  | n + 1, v1, s =>
    if (s.1 43 45) = 0 then (
      if (s.1 43 44) = (2 : Int32) then (
        f_X9_mend_48 (f_X9_mend_31 n) FU v1 (0 : Int32) s)
      else (
        f_X9_mend_119 v1 s))
    else (
      f_X9_mend_119 v1 s)
set_option maxRecDepth 100000 in
set_option maxHeartbeats 4000000 in
theorem w_X9_mend_31 {r : Int32 × St}   : ∀ (n : Nat) (v1 : Int32) (s : St), f_X9_mend_31  n v1 s = some r → Wp m_X9_mend 169 (PR (some (.int r.1)) r.2) 31 [some (.ref 43), some (.int v1), none] [] s := by
  intro n
  induction n with
  | zero => intro v1 s h; cases h
  | succ n ih =>
    intro v1 s h
    unfold f_X9_mend_31 at h
    refine wp_aload_n (i := 0) dX9_mend_31 rfl rfl ?_
    refine wp_getI dX9_mend_32 fl_X9_264 rfl rfl ?_
    refine wp_if_ne (tgt := 119) dX9_mend_35 (by decide) (fun c1 => ?_) (fun c1 => ?_)
    · rw [if_neg c1] at h
      exact wp_sub (ls' := [some (.ref 43), some (.int v1), none]) ⟨rfl, rfl, trivial⟩ (w_X9_mend_119 h)
    · rw [if_pos c1] at h
      refine wp_aload_n (i := 0) dX9_mend_38 rfl rfl ?_
      refine wp_getI dX9_mend_39 fl_X9_255 rfl rfl ?_
      refine wp_iconst (v := 2) dX9_mend_42 (by decide +kernel) ?_
      refine wp_icmp_ne (tgt := 119) dX9_mend_43 (by decide) (fun c2 => ?_) (fun c2 => ?_)
      · rw [if_neg c2] at h
        exact wp_sub (ls' := [some (.ref 43), some (.int v1), none]) ⟨rfl, rfl, trivial⟩ (w_X9_mend_119 h)
      · rw [if_pos c2] at h
        refine wp_iconst (v := 0) dX9_mend_46 (by decide +kernel) ?_
        refine wp_istore_n (ls' := [some (.ref 43), some (.int v1), some (.int (0 : Int32))]) dX9_mend_47 rfl (by decide) rfl rfl ?_
        exact wp_sub (ls' := [some (.ref 43), some (.int v1), some (.int (0 : Int32))]) ⟨rfl, rfl, rfl, trivial⟩ (w_X9_mend_48 ih _ _ _ _ h)
def f_X9_mend  (s : St) : Option (Int32 × St) :=
  Option.bind (some (sF s 43 0 (0 : Int32))) fun s1 =>
  Option.bind (f_X9_is s1) fun r2 =>
  if r2.1 = 0 then (
    some ((-1 : Int32), r2.2))
  else (
    Option.bind (f_X9_isDone r2.2) fun r4 =>
    if r4.1 = 0 then (
      some ((-1 : Int32), r4.2))
    else (
      Option.bind (f_X9_searches (2 : Int32) (400 : Int32) r4.2) fun s6 =>
      f_X9_mend_31 FU (0 : Int32) s6))
set_option maxRecDepth 100000 in
set_option maxHeartbeats 4000000 in
theorem ok_X9_mend  {s : St} {r : Int32 × St} (h : f_X9_mend  s = some r) : Ct 169 m_X9_mend [.ref 43] s (some (.int r.1)) r.2 := by
  unfold f_X9_mend at h
  refine ct_of [some (.ref 43), none, none] 2 (by decide) rfl (Nat.le_of_ble_eq_true rfl) ?_
  refine wp_aload_n (i := 0) dX9_mend_0 rfl rfl ?_
  refine wp_iconst (v := 0) dX9_mend_1 (by decide +kernel) ?_
  obtain ⟨s1, es1, h⟩ := ob h
  refine wp_putI2 dX9_mend_2 fl_X9_80 rfl rfl rfl rfl es1 ?_
  refine wp_aload_n (i := 0) dX9_mend_5 rfl rfl ?_
  obtain ⟨r2, er2, h⟩ := ob h
  refine wp_cVi (N := m_X9_is) (As := []) (rest := []) dX9_mend_6 ml_X9_89 mo_X9_is vo_X9_is rfl rfl (ok_X9_is er2) (by decide) (Nat.le_of_ble_eq_true rfl) ?_
  refine wp_if_eq (tgt := 19) dX9_mend_9 (by decide) (fun c3 => ?_) (fun c3 => ?_)
  · rw [if_pos c3] at h
    refine wp_iconst (v := -1) dX9_mend_19 (by decide +kernel) ?_
    obtain rfl := Option.some.inj h
    exact wp_iret dX9_mend_20 rfl rfl
  · rw [if_neg c3] at h
    refine wp_aload_n (i := 0) dX9_mend_12 rfl rfl ?_
    obtain ⟨r4, er4, h⟩ := ob h
    refine wp_cVi (N := m_X9_isDone) (As := []) (rest := []) dX9_mend_13 ml_X9_291 mo_X9_isDone vo_X9_isDone rfl rfl (ok_X9_isDone er4) (by decide) (Nat.le_of_ble_eq_true rfl) ?_
    refine wp_if_ne (tgt := 21) dX9_mend_16 (by decide) (fun c5 => ?_) (fun c5 => ?_)
    · rw [if_neg c5] at h
      refine wp_iconst (v := 0) dX9_mend_21 (by decide +kernel) ?_
      refine wp_istore_n (ls' := [some (.ref 43), some (.int (0 : Int32)), none]) dX9_mend_22 rfl (by decide) rfl rfl ?_
      refine wp_aload_n (i := 0) dX9_mend_23 rfl rfl ?_
      refine wp_iconst (v := 2) dX9_mend_24 (by decide +kernel) ?_
      refine wp_sipush (v := 400) dX9_mend_25 (by decide +kernel) ?_
      obtain ⟨s6, es6, h⟩ := ob h
      refine wp_cVv (N := m_X9_searches) (As := [.int (2 : Int32), .int (400 : Int32)]) (rest := []) dX9_mend_28 ml_X9_279 mo_X9_searches vo_X9_searches rfl rfl (ok_X9_searches es6) (by decide) (Nat.le_of_ble_eq_true rfl) ?_
      exact wp_sub (ls' := [some (.ref 43), some (.int (0 : Int32)), none]) ⟨rfl, rfl, trivial⟩ (w_X9_mend_31 _ _ _ h)
    · rw [if_pos c5] at h
      refine wp_iconst (v := -1) dX9_mend_19 (by decide +kernel) ?_
      obtain rfl := Option.some.inj h
      exact wp_iret dX9_mend_20 rfl rfl
