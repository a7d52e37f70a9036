/-! decompiled by wip/gen/gen.py -/
theorem dX9_fault_0 : decode cX9_fault 0 = .ok (.aload_n 0, 1) := by decide +kernel
theorem dX9_fault_1 : decode cX9_fault 1 = .ok (.iconst 0, 1) := by decide +kernel
theorem dX9_fault_2 : decode cX9_fault 2 = .ok (.putfield 80, 3) := by decide +kernel
theorem dX9_fault_5 : decode cX9_fault 5 = .ok (.aload_n 0, 1) := by decide +kernel
theorem dX9_fault_6 : decode cX9_fault 6 = .ok (.getfield 166, 3) := by decide +kernel
theorem dX9_fault_9 : decode cX9_fault 9 = .ok (.ireturn, 1) := by decide +kernel
theorem dX9_blank_0 : decode cX9_blank 0 = .ok (.aload_n 0, 1) := by decide +kernel
theorem dX9_blank_1 : decode cX9_blank 1 = .ok (.iconst 0, 1) := by decide +kernel
theorem dX9_blank_2 : decode cX9_blank 2 = .ok (.putfield 80, 3) := by decide +kernel
theorem dX9_blank_5 : decode cX9_blank 5 = .ok (.iload_n 1, 1) := by decide +kernel
theorem dX9_blank_6 : decode cX9_blank 6 = .ok (.iconst 1, 1) := by decide +kernel
theorem dX9_blank_7 : decode cX9_blank 7 = .ok (.bipush 12, 2) := by decide +kernel
theorem dX9_blank_9 : decode cX9_blank 9 = .ok (.invokestatic 97, 3) := by decide +kernel
theorem dX9_blank_12 : decode cX9_blank 12 = .ok (.ifCond .eq 22, 3) := by decide +kernel
theorem dX9_blank_15 : decode cX9_blank 15 = .ok (.iload_n 2, 1) := by decide +kernel
theorem dX9_blank_16 : decode cX9_blank 16 = .ok (.iconst 1, 1) := by decide +kernel
theorem dX9_blank_17 : decode cX9_blank 17 = .ok (.bipush 12, 2) := by decide +kernel
theorem dX9_blank_19 : decode cX9_blank 19 = .ok (.invokestatic 97, 3) := by decide +kernel
theorem dX9_blank_22 : decode cX9_blank 22 = .ok (.ifCond .eq 12, 3) := by decide +kernel
theorem dX9_blank_25 : decode cX9_blank 25 = .ok (.iload_n 3, 1) := by decide +kernel
theorem dX9_blank_26 : decode cX9_blank 26 = .ok (.iconst 1, 1) := by decide +kernel
theorem dX9_blank_27 : decode cX9_blank 27 = .ok (.iconst 3, 1) := by decide +kernel
theorem dX9_blank_28 : decode cX9_blank 28 = .ok (.invokestatic 97, 3) := by decide +kernel
theorem dX9_blank_31 : decode cX9_blank 31 = .ok (.ifCond .ne 5, 3) := by decide +kernel
theorem dX9_blank_34 : decode cX9_blank 34 = .ok (.iconst 0, 1) := by decide +kernel
theorem dX9_blank_35 : decode cX9_blank 35 = .ok (.ireturn, 1) := by decide +kernel
theorem dX9_blank_36 : decode cX9_blank 36 = .ok (.aload_n 0, 1) := by decide +kernel
theorem dX9_blank_37 : decode cX9_blank 37 = .ok (.iload_n 1, 1) := by decide +kernel
theorem dX9_blank_38 : decode cX9_blank 38 = .ok (.putfield 83, 3) := by decide +kernel
theorem dX9_blank_41 : decode cX9_blank 41 = .ok (.aload_n 0, 1) := by decide +kernel
theorem dX9_blank_42 : decode cX9_blank 42 = .ok (.iload_n 2, 1) := by decide +kernel
theorem dX9_blank_43 : decode cX9_blank 43 = .ok (.putfield 86, 3) := by decide +kernel
theorem dX9_blank_46 : decode cX9_blank 46 = .ok (.aload_n 0, 1) := by decide +kernel
theorem dX9_blank_47 : decode cX9_blank 47 = .ok (.iload_n 3, 1) := by decide +kernel
theorem dX9_blank_48 : decode cX9_blank 48 = .ok (.putfield 169, 3) := by decide +kernel
theorem dX9_blank_51 : decode cX9_blank 51 = .ok (.iconst 0, 1) := by decide +kernel
theorem dX9_blank_52 : decode cX9_blank 52 = .ok (.istore 4, 2) := by decide +kernel
theorem dX9_blank_54 : decode cX9_blank 54 = .ok (.iload 4, 2) := by decide +kernel
theorem dX9_blank_56 : decode cX9_blank 56 = .ok (.bipush 24, 2) := by decide +kernel
theorem dX9_blank_58 : decode cX9_blank 58 = .ok (.if_icmp .ge 17, 3) := by decide +kernel
theorem dX9_blank_61 : decode cX9_blank 61 = .ok (.aload_n 0, 1) := by decide +kernel
theorem dX9_blank_62 : decode cX9_blank 62 = .ok (.getfield 9, 3) := by decide +kernel
theorem dX9_blank_65 : decode cX9_blank 65 = .ok (.iload 4, 2) := by decide +kernel
theorem dX9_blank_67 : decode cX9_blank 67 = .ok (.iconst 0, 1) := by decide +kernel
theorem dX9_blank_68 : decode cX9_blank 68 = .ok (.iastore, 1) := by decide +kernel
theorem dX9_blank_69 : decode cX9_blank 69 = .ok (.iinc 4 1, 3) := by decide +kernel
theorem dX9_blank_72 : decode cX9_blank 72 = .ok (.goto (-18), 3) := by decide +kernel
theorem dX9_blank_75 : decode cX9_blank 75 = .ok (.aload_n 0, 1) := by decide +kernel
theorem dX9_blank_76 : decode cX9_blank 76 = .ok (.invokevirtual 172, 3) := by decide +kernel
theorem dX9_blank_79 : decode cX9_blank 79 = .ok (.aload_n 0, 1) := by decide +kernel
theorem dX9_blank_80 : decode cX9_blank 80 = .ok (.invokevirtual 175, 3) := by decide +kernel
theorem dX9_blank_83 : decode cX9_blank 83 = .ok (.iconst 1, 1) := by decide +kernel
theorem dX9_blank_84 : decode cX9_blank 84 = .ok (.ireturn, 1) := by decide +kernel
theorem dX9_many_0 : decode cX9_many 0 = .ok (.iconst 0, 1) := by decide +kernel
theorem dX9_many_1 : decode cX9_many 1 = .ok (.istore_n 1, 1) := by decide +kernel
theorem dX9_many_2 : decode cX9_many 2 = .ok (.iconst 0, 1) := by decide +kernel
theorem dX9_many_3 : decode cX9_many 3 = .ok (.istore_n 2, 1) := by decide +kernel
theorem dX9_many_4 : decode cX9_many 4 = .ok (.iload_n 2, 1) := by decide +kernel
theorem dX9_many_5 : decode cX9_many 5 = .ok (.iconst 4, 1) := by decide +kernel
theorem dX9_many_6 : decode cX9_many 6 = .ok (.if_icmp .ge 17, 3) := by decide +kernel
theorem dX9_many_9 : decode cX9_many 9 = .ok (.iload_n 1, 1) := by decide +kernel
theorem dX9_many_10 : decode cX9_many 10 = .ok (.iload_n 0, 1) := by decide +kernel
theorem dX9_many_11 : decode cX9_many 11 = .ok (.iload_n 2, 1) := by decide +kernel
theorem dX9_many_12 : decode cX9_many 12 = .ok (.ishr, 1) := by decide +kernel
theorem dX9_many_13 : decode cX9_many 13 = .ok (.iconst 1, 1) := by decide +kernel
theorem dX9_many_14 : decode cX9_many 14 = .ok (.iand, 1) := by decide +kernel
theorem dX9_many_15 : decode cX9_many 15 = .ok (.iadd, 1) := by decide +kernel
theorem dX9_many_16 : decode cX9_many 16 = .ok (.istore_n 1, 1) := by decide +kernel
theorem dX9_many_17 : decode cX9_many 17 = .ok (.iinc 2 1, 3) := by decide +kernel
theorem dX9_many_20 : decode cX9_many 20 = .ok (.goto (-16), 3) := by decide +kernel
theorem dX9_many_23 : decode cX9_many 23 = .ok (.iload_n 1, 1) := by decide +kernel
theorem dX9_many_24 : decode cX9_many 24 = .ok (.ireturn, 1) := by decide +kernel
theorem dX9_about_0 : decode cX9_about 0 = .ok (.aload_n 0, 1) := by decide +kernel
theorem dX9_about_1 : decode cX9_about 1 = .ok (.iconst 0, 1) := by decide +kernel
theorem dX9_about_2 : decode cX9_about 2 = .ok (.putfield 80, 3) := by decide +kernel
theorem dX9_about_5 : decode cX9_about 5 = .ok (.aload_n 0, 1) := by decide +kernel
theorem dX9_about_6 : decode cX9_about 6 = .ok (.invokevirtual 89, 3) := by decide +kernel
theorem dX9_about_9 : decode cX9_about 9 = .ok (.ifCond .ne 5, 3) := by decide +kernel
theorem dX9_about_12 : decode cX9_about 12 = .ok (.iconst (-1), 1) := by decide +kernel
theorem dX9_about_13 : decode cX9_about 13 = .ok (.ireturn, 1) := by decide +kernel
theorem dX9_about_14 : decode cX9_about 14 = .ok (.iconst 0, 1) := by decide +kernel
theorem dX9_about_15 : decode cX9_about 15 = .ok (.istore_n 2, 1) := by decide +kernel
theorem dX9_about_16 : decode cX9_about 16 = .ok (.iconst 0, 1) := by decide +kernel
theorem dX9_about_17 : decode cX9_about 17 = .ok (.istore_n 3, 1) := by decide +kernel
theorem dX9_about_18 : decode cX9_about 18 = .ok (.iload_n 3, 1) := by decide +kernel
theorem dX9_about_19 : decode cX9_about 19 = .ok (.sipush 144, 3) := by decide +kernel
theorem dX9_about_22 : decode cX9_about 22 = .ok (.if_icmp .ge 108, 3) := by decide +kernel
theorem dX9_about_25 : decode cX9_about 25 = .ok (.aload_n 0, 1) := by decide +kernel
theorem dX9_about_26 : decode cX9_about 26 = .ok (.iload_n 3, 1) := by decide +kernel
theorem dX9_about_27 : decode cX9_about 27 = .ok (.bipush 12, 2) := by decide +kernel
theorem dX9_about_29 : decode cX9_about 29 = .ok (.irem, 1) := by decide +kernel
theorem dX9_about_30 : decode cX9_about 30 = .ok (.iload_n 3, 1) := by decide +kernel
theorem dX9_about_31 : decode cX9_about 31 = .ok (.bipush 12, 2) := by decide +kernel
theorem dX9_about_33 : decode cX9_about 33 = .ok (.idiv, 1) := by decide +kernel
theorem dX9_about_34 : decode cX9_about 34 = .ok (.invokevirtual 181, 3) := by decide +kernel
theorem dX9_about_37 : decode cX9_about 37 = .ok (.ifCond .ne 6, 3) := by decide +kernel
theorem dX9_about_40 : decode cX9_about 40 = .ok (.goto 84, 3) := by decide +kernel
theorem dX9_about_43 : decode cX9_about 43 = .ok (.iload_n 1, 1) := by decide +kernel
theorem dX9_about_44 : decode cX9_about 44 = .ok (.iconst 5, 1) := by decide +kernel
theorem dX9_about_45 : decode cX9_about 45 = .ok (.if_icmp .ne 21, 3) := by decide +kernel
theorem dX9_about_48 : decode cX9_about 48 = .ok (.iload_n 2, 1) := by decide +kernel
theorem dX9_about_49 : decode cX9_about 49 = .ok (.aload_n 0, 1) := by decide +kernel
theorem dX9_about_50 : decode cX9_about 50 = .ok (.getfield 19, 3) := by decide +kernel
theorem dX9_about_53 : decode cX9_about 53 = .ok (.iload_n 3, 1) := by decide +kernel
theorem dX9_about_54 : decode cX9_about 54 = .ok (.iaload, 1) := by decide +kernel
theorem dX9_about_55 : decode cX9_about 55 = .ok (.iconst (-1), 1) := by decide +kernel
theorem dX9_about_56 : decode cX9_about 56 = .ok (.if_icmp .eq 7, 3) := by decide +kernel
theorem dX9_about_59 : decode cX9_about 59 = .ok (.iconst 1, 1) := by decide +kernel
theorem dX9_about_60 : decode cX9_about 60 = .ok (.goto 4, 3) := by decide +kernel
theorem dX9_about_63 : decode cX9_about 63 = .ok (.iconst 0, 1) := by decide +kernel
theorem dX9_about_64 : decode cX9_about 64 = .ok (.iadd, 1) := by decide +kernel
theorem dX9_about_65 : decode cX9_about 65 = .ok (.istore_n 2, 1) := by decide +kernel
theorem dX9_about_66 : decode cX9_about 66 = .ok (.iload_n 1, 1) := by decide +kernel
theorem dX9_about_67 : decode cX9_about 67 = .ok (.bipush 6, 2) := by decide +kernel
theorem dX9_about_69 : decode cX9_about 69 = .ok (.if_icmp .ne 21, 3) := by decide +kernel
theorem dX9_about_72 : decode cX9_about 72 = .ok (.iload_n 2, 1) := by decide +kernel
theorem dX9_about_73 : decode cX9_about 73 = .ok (.aload_n 0, 1) := by decide +kernel
theorem dX9_about_74 : decode cX9_about 74 = .ok (.getfield 22, 3) := by decide +kernel
theorem dX9_about_77 : decode cX9_about 77 = .ok (.iload_n 3, 1) := by decide +kernel
theorem dX9_about_78 : decode cX9_about 78 = .ok (.iaload, 1) := by decide +kernel
theorem dX9_about_79 : decode cX9_about 79 = .ok (.iconst (-1), 1) := by decide +kernel
theorem dX9_about_80 : decode cX9_about 80 = .ok (.if_icmp .eq 7, 3) := by decide +kernel
theorem dX9_about_83 : decode cX9_about 83 = .ok (.iconst 1, 1) := by decide +kernel
theorem dX9_about_84 : decode cX9_about 84 = .ok (.goto 4, 3) := by decide +kernel
theorem dX9_about_87 : decode cX9_about 87 = .ok (.iconst 0, 1) := by decide +kernel
theorem dX9_about_88 : decode cX9_about 88 = .ok (.iadd, 1) := by decide +kernel
theorem dX9_about_89 : decode cX9_about 89 = .ok (.istore_n 2, 1) := by decide +kernel
theorem dX9_about_90 : decode cX9_about 90 = .ok (.iload_n 1, 1) := by decide +kernel
theorem dX9_about_91 : decode cX9_about 91 = .ok (.bipush 7, 2) := by decide +kernel
theorem dX9_about_93 : decode cX9_about 93 = .ok (.if_icmp .ne 31, 3) := by decide +kernel
theorem dX9_about_96 : decode cX9_about 96 = .ok (.iload_n 2, 1) := by decide +kernel
theorem dX9_about_97 : decode cX9_about 97 = .ok (.aload_n 0, 1) := by decide +kernel
theorem dX9_about_98 : decode cX9_about 98 = .ok (.getfield 101, 3) := by decide +kernel
theorem dX9_about_101 : decode cX9_about 101 = .ok (.ifCond .eq 20, 3) := by decide +kernel
theorem dX9_about_104 : decode cX9_about 104 = .ok (.aload_n 0, 1) := by decide +kernel
theorem dX9_about_105 : decode cX9_about 105 = .ok (.getfield 25, 3) := by decide +kernel
theorem dX9_about_108 : decode cX9_about 108 = .ok (.iload_n 3, 1) := by decide +kernel
theorem dX9_about_109 : decode cX9_about 109 = .ok (.iaload, 1) := by decide +kernel
theorem dX9_about_110 : decode cX9_about 110 = .ok (.invokestatic 185, 3) := by decide +kernel
theorem dX9_about_113 : decode cX9_about 113 = .ok (.iconst 1, 1) := by decide +kernel
theorem dX9_about_114 : decode cX9_about 114 = .ok (.if_icmp .ne 7, 3) := by decide +kernel
theorem dX9_about_117 : decode cX9_about 117 = .ok (.iconst 1, 1) := by decide +kernel
theorem dX9_about_118 : decode cX9_about 118 = .ok (.goto 4, 3) := by decide +kernel
theorem dX9_about_121 : decode cX9_about 121 = .ok (.iconst 0, 1) := by decide +kernel
theorem dX9_about_122 : decode cX9_about 122 = .ok (.iadd, 1) := by decide +kernel
theorem dX9_about_123 : decode cX9_about 123 = .ok (.istore_n 2, 1) := by decide +kernel
theorem dX9_about_124 : decode cX9_about 124 = .ok (.iinc 3 1, 3) := by decide +kernel
theorem dX9_about_127 : decode cX9_about 127 = .ok (.goto (-109), 3) := by decide +kernel
theorem dX9_about_130 : decode cX9_about 130 = .ok (.iload_n 1, 1) := by decide +kernel
theorem dX9_about_131 : decode cX9_about 131 = .ok (.tableswitch 72 0 7 #[45, 50, 55, 60, 65, 70, 70, 70], 45) := by decide +kernel
theorem dX9_about_176 : decode cX9_about 176 = .ok (.aload_n 0, 1) := by decide +kernel
theorem dX9_about_177 : decode cX9_about 177 = .ok (.getfield 83, 3) := by decide +kernel
theorem dX9_about_180 : decode cX9_about 180 = .ok (.ireturn, 1) := by decide +kernel
theorem dX9_about_181 : decode cX9_about 181 = .ok (.aload_n 0, 1) := by decide +kernel
theorem dX9_about_182 : decode cX9_about 182 = .ok (.getfield 86, 3) := by decide +kernel
theorem dX9_about_185 : decode cX9_about 185 = .ok (.ireturn, 1) := by decide +kernel
theorem dX9_about_186 : decode cX9_about 186 = .ok (.aload_n 0, 1) := by decide +kernel
theorem dX9_about_187 : decode cX9_about 187 = .ok (.getfield 169, 3) := by decide +kernel
theorem dX9_about_190 : decode cX9_about 190 = .ok (.ireturn, 1) := by decide +kernel
theorem dX9_about_191 : decode cX9_about 191 = .ok (.aload_n 0, 1) := by decide +kernel
theorem dX9_about_192 : decode cX9_about 192 = .ok (.invokevirtual 93, 3) := by decide +kernel
theorem dX9_about_195 : decode cX9_about 195 = .ok (.ireturn, 1) := by decide +kernel
theorem dX9_about_196 : decode cX9_about 196 = .ok (.aload_n 0, 1) := by decide +kernel
theorem dX9_about_197 : decode cX9_about 197 = .ok (.invokevirtual 178, 3) := by decide +kernel
theorem dX9_about_200 : decode cX9_about 200 = .ok (.ireturn, 1) := by decide +kernel
theorem dX9_about_201 : decode cX9_about 201 = .ok (.iload_n 2, 1) := by decide +kernel
theorem dX9_about_202 : decode cX9_about 202 = .ok (.ireturn, 1) := by decide +kernel
theorem dX9_about_203 : decode cX9_about 203 = .ok (.iconst (-1), 1) := by decide +kernel
theorem dX9_about_204 : decode cX9_about 204 = .ok (.ireturn, 1) := by decide +kernel
theorem dX9_run_0 : decode cX9_run 0 = .ok (.aload_n 0, 1) := by decide +kernel
theorem dX9_run_1 : decode cX9_run 1 = .ok (.iconst 0, 1) := by decide +kernel
theorem dX9_run_2 : decode cX9_run 2 = .ok (.putfield 80, 3) := by decide +kernel
theorem dX9_run_5 : decode cX9_run 5 = .ok (.aload_n 0, 1) := by decide +kernel
theorem dX9_run_6 : decode cX9_run 6 = .ok (.iload_n 1, 1) := by decide +kernel
theorem dX9_run_7 : decode cX9_run 7 = .ok (.invokevirtual 189, 3) := by decide +kernel
theorem dX9_run_10 : decode cX9_run 10 = .ok (.ifCond .ne 5, 3) := by decide +kernel
theorem dX9_run_13 : decode cX9_run 13 = .ok (.iconst (-1), 1) := by decide +kernel
theorem dX9_run_14 : decode cX9_run 14 = .ok (.ireturn, 1) := by decide +kernel
theorem dX9_run_15 : decode cX9_run 15 = .ok (.iload_n 2, 1) := by decide +kernel
theorem dX9_run_16 : decode cX9_run 16 = .ok (.iconst (-1), 1) := by decide +kernel
theorem dX9_run_17 : decode cX9_run 17 = .ok (.if_icmp .ne 10, 3) := by decide +kernel
theorem dX9_run_20 : decode cX9_run 20 = .ok (.aload_n 0, 1) := by decide +kernel
theorem dX9_run_21 : decode cX9_run 21 = .ok (.getfield 9, 3) := by decide +kernel
theorem dX9_run_24 : decode cX9_run 24 = .ok (.iload_n 1, 1) := by decide +kernel
theorem dX9_run_25 : decode cX9_run 25 = .ok (.iaload, 1) := by decide +kernel
theorem dX9_run_26 : decode cX9_run 26 = .ok (.ireturn, 1) := by decide +kernel
theorem dX9_run_27 : decode cX9_run 27 = .ok (.iload_n 2, 1) := by decide +kernel
theorem dX9_run_28 : decode cX9_run 28 = .ok (.iconst 0, 1) := by decide +kernel
theorem dX9_run_29 : decode cX9_run 29 = .ok (.aload_n 0, 1) := by decide +kernel
theorem dX9_run_30 : decode cX9_run 30 = .ok (.getfield 9, 3) := by decide +kernel
theorem dX9_run_33 : decode cX9_run 33 = .ok (.iload_n 1, 1) := by decide +kernel
theorem dX9_run_34 : decode cX9_run 34 = .ok (.iaload, 1) := by decide +kernel
theorem dX9_run_35 : decode cX9_run 35 = .ok (.iconst 1, 1) := by decide +kernel
theorem dX9_run_36 : decode cX9_run 36 = .ok (.isub, 1) := by decide +kernel
theorem dX9_run_37 : decode cX9_run 37 = .ok (.invokestatic 97, 3) := by decide +kernel
theorem dX9_run_40 : decode cX9_run 40 = .ok (.ifCond .eq 12, 3) := by decide +kernel
theorem dX9_run_43 : decode cX9_run 43 = .ok (.iload_n 3, 1) := by decide +kernel
theorem dX9_run_44 : decode cX9_run 44 = .ok (.iconst 0, 1) := by decide +kernel
theorem dX9_run_45 : decode cX9_run 45 = .ok (.iconst 1, 1) := by decide +kernel
theorem dX9_run_46 : decode cX9_run 46 = .ok (.invokestatic 97, 3) := by decide +kernel
theorem dX9_run_49 : decode cX9_run 49 = .ok (.ifCond .ne 5, 3) := by decide +kernel
theorem dX9_run_52 : decode cX9_run 52 = .ok (.iconst (-1), 1) := by decide +kernel
theorem dX9_run_53 : decode cX9_run 53 = .ok (.ireturn, 1) := by decide +kernel
theorem dX9_run_54 : decode cX9_run 54 = .ok (.iload_n 3, 1) := by decide +kernel
theorem dX9_run_55 : decode cX9_run 55 = .ok (.ifCond .ne 17, 3) := by decide +kernel
theorem dX9_run_58 : decode cX9_run 58 = .ok (.aload_n 0, 1) := by decide +kernel
theorem dX9_run_59 : decode cX9_run 59 = .ok (.getfield 13, 3) := by decide +kernel
theorem dX9_run_62 : decode cX9_run 62 = .ok (.bipush 12, 2) := by decide +kernel
theorem dX9_run_64 : decode cX9_run 64 = .ok (.iload_n 1, 1) := by decide +kernel
theorem dX9_run_65 : decode cX9_run 65 = .ok (.imul, 1) := by decide +kernel
theorem dX9_run_66 : decode cX9_run 66 = .ok (.iload_n 2, 1) := by decide +kernel
theorem dX9_run_67 : decode cX9_run 67 = .ok (.iadd, 1) := by decide +kernel
theorem dX9_run_68 : decode cX9_run 68 = .ok (.iaload, 1) := by decide +kernel
theorem dX9_run_69 : decode cX9_run 69 = .ok (.goto 14, 3) := by decide +kernel
theorem dX9_run_72 : decode cX9_run 72 = .ok (.aload_n 0, 1) := by decide +kernel
theorem dX9_run_73 : decode cX9_run 73 = .ok (.getfield 16, 3) := by decide +kernel
theorem dX9_run_76 : decode cX9_run 76 = .ok (.bipush 12, 2) := by decide +kernel
theorem dX9_run_78 : decode cX9_run 78 = .ok (.iload_n 1, 1) := by decide +kernel
theorem dX9_run_79 : decode cX9_run 79 = .ok (.imul, 1) := by decide +kernel
theorem dX9_run_80 : decode cX9_run 80 = .ok (.iload_n 2, 1) := by decide +kernel
theorem dX9_run_81 : decode cX9_run 81 = .ok (.iadd, 1) := by decide +kernel
theorem dX9_run_82 : decode cX9_run 82 = .ok (.iaload, 1) := by decide +kernel
theorem dX9_run_83 : decode cX9_run 83 = .ok (.ireturn, 1) := by decide +kernel
theorem dX9_give_0 : decode cX9_give 0 = .ok (.aload_n 0, 1) := by decide +kernel
theorem dX9_give_1 : decode cX9_give 1 = .ok (.iconst 0, 1) := by decide +kernel
theorem dX9_give_2 : decode cX9_give 2 = .ok (.putfield 80, 3) := by decide +kernel
theorem dX9_give_5 : decode cX9_give 5 = .ok (.aload_n 0, 1) := by decide +kernel
theorem dX9_give_6 : decode cX9_give 6 = .ok (.iload_n 1, 1) := by decide +kernel
theorem dX9_give_7 : decode cX9_give 7 = .ok (.iload_n 2, 1) := by decide +kernel
theorem dX9_give_8 : decode cX9_give 8 = .ok (.invokevirtual 181, 3) := by decide +kernel
theorem dX9_give_11 : decode cX9_give 11 = .ok (.ifCond .eq 15, 3) := by decide +kernel
theorem dX9_give_14 : decode cX9_give 14 = .ok (.iload_n 3, 1) := by decide +kernel
theorem dX9_give_15 : decode cX9_give 15 = .ok (.iconst (-1), 1) := by decide +kernel
theorem dX9_give_16 : decode cX9_give 16 = .ok (.aload_n 0, 1) := by decide +kernel
theorem dX9_give_17 : decode cX9_give 17 = .ok (.getfield 169, 3) := by decide +kernel
theorem dX9_give_20 : decode cX9_give 20 = .ok (.invokestatic 97, 3) := by decide +kernel
theorem dX9_give_23 : decode cX9_give 23 = .ok (.ifCond .ne 5, 3) := by decide +kernel
theorem dX9_give_26 : decode cX9_give 26 = .ok (.iconst 0, 1) := by decide +kernel
theorem dX9_give_27 : decode cX9_give 27 = .ok (.ireturn, 1) := by decide +kernel
theorem dX9_give_28 : decode cX9_give 28 = .ok (.aload_n 0, 1) := by decide +kernel
theorem dX9_give_29 : decode cX9_give 29 = .ok (.getfield 19, 3) := by decide +kernel
theorem dX9_give_32 : decode cX9_give 32 = .ok (.bipush 12, 2) := by decide +kernel
theorem dX9_give_34 : decode cX9_give 34 = .ok (.iload_n 2, 1) := by decide +kernel
theorem dX9_give_35 : decode cX9_give 35 = .ok (.imul, 1) := by decide +kernel
theorem dX9_give_36 : decode cX9_give 36 = .ok (.iload_n 1, 1) := by decide +kernel
theorem dX9_give_37 : decode cX9_give 37 = .ok (.iadd, 1) := by decide +kernel
theorem dX9_give_38 : decode cX9_give 38 = .ok (.iload_n 3, 1) := by decide +kernel
theorem dX9_give_39 : decode cX9_give 39 = .ok (.iastore, 1) := by decide +kernel
theorem dX9_give_40 : decode cX9_give 40 = .ok (.aload_n 0, 1) := by decide +kernel
theorem dX9_give_41 : decode cX9_give 41 = .ok (.iconst 0, 1) := by decide +kernel
theorem dX9_give_42 : decode cX9_give 42 = .ok (.putfield 105, 3) := by decide +kernel
theorem dX9_give_45 : decode cX9_give 45 = .ok (.iconst 1, 1) := by decide +kernel
theorem dX9_give_46 : decode cX9_give 46 = .ok (.ireturn, 1) := by decide +kernel
theorem dX9_given_0 : decode cX9_given 0 = .ok (.aload_n 0, 1) := by decide +kernel
theorem dX9_given_1 : decode cX9_given 1 = .ok (.iconst 0, 1) := by decide +kernel
theorem dX9_given_2 : decode cX9_given 2 = .ok (.putfield 80, 3) := by decide +kernel
theorem dX9_given_5 : decode cX9_given 5 = .ok (.aload_n 0, 1) := by decide +kernel
theorem dX9_given_6 : decode cX9_given 6 = .ok (.iload_n 1, 1) := by decide +kernel
theorem dX9_given_7 : decode cX9_given 7 = .ok (.iload_n 2, 1) := by decide +kernel
theorem dX9_given_8 : decode cX9_given 8 = .ok (.invokevirtual 181, 3) := by decide +kernel
theorem dX9_given_11 : decode cX9_given 11 = .ok (.ifCond .eq 17, 3) := by decide +kernel
theorem dX9_given_14 : decode cX9_given 14 = .ok (.aload_n 0, 1) := by decide +kernel
theorem dX9_given_15 : decode cX9_given 15 = .ok (.getfield 19, 3) := by decide +kernel
theorem dX9_given_18 : decode cX9_given 18 = .ok (.bipush 12, 2) := by decide +kernel
theorem dX9_given_20 : decode cX9_given 20 = .ok (.iload_n 2, 1) := by decide +kernel
theorem dX9_given_21 : decode cX9_given 21 = .ok (.imul, 1) := by decide +kernel
theorem dX9_given_22 : decode cX9_given 22 = .ok (.iload_n 1, 1) := by decide +kernel
theorem dX9_given_23 : decode cX9_given 23 = .ok (.iadd, 1) := by decide +kernel
theorem dX9_given_24 : decode cX9_given 24 = .ok (.iaload, 1) := by decide +kernel
theorem dX9_given_25 : decode cX9_given 25 = .ok (.goto 4, 3) := by decide +kernel
theorem dX9_given_28 : decode cX9_given 28 = .ok (.iconst (-1), 1) := by decide +kernel
theorem dX9_given_29 : decode cX9_given 29 = .ok (.ireturn, 1) := by decide +kernel
theorem dX9_first_0 : decode cX9_first 0 = .ok (.iconst 0, 1) := by decide +kernel
theorem dX9_first_1 : decode cX9_first 1 = .ok (.istore_n 3, 1) := by decide +kernel
theorem dX9_first_2 : decode cX9_first 2 = .ok (.iload_n 3, 1) := by decide +kernel
theorem dX9_first_3 : decode cX9_first 3 = .ok (.sipush 144, 3) := by decide +kernel
theorem dX9_first_6 : decode cX9_first 6 = .ok (.if_icmp .ge 45, 3) := by decide +kernel
theorem dX9_first_9 : decode cX9_first 9 = .ok (.aload_n 1, 1) := by decide +kernel
theorem dX9_first_10 : decode cX9_first 10 = .ok (.iload_n 2, 1) := by decide +kernel
theorem dX9_first_11 : decode cX9_first 11 = .ok (.iload_n 3, 1) := by decide +kernel
theorem dX9_first_12 : decode cX9_first 12 = .ok (.iadd, 1) := by decide +kernel
theorem dX9_first_13 : decode cX9_first 13 = .ok (.aload_n 0, 1) := by decide +kernel
theorem dX9_first_14 : decode cX9_first 14 = .ok (.getfield 19, 3) := by decide +kernel
theorem dX9_first_17 : decode cX9_first 17 = .ok (.iload_n 3, 1) := by decide +kernel
theorem dX9_first_18 : decode cX9_first 18 = .ok (.iaload, 1) := by decide +kernel
theorem dX9_first_19 : decode cX9_first 19 = .ok (.iconst (-1), 1) := by decide +kernel
theorem dX9_first_20 : decode cX9_first 20 = .ok (.if_icmp .eq 14, 3) := by decide +kernel
theorem dX9_first_23 : decode cX9_first 23 = .ok (.iconst 1, 1) := by decide +kernel
theorem dX9_first_24 : decode cX9_first 24 = .ok (.aload_n 0, 1) := by decide +kernel
theorem dX9_first_25 : decode cX9_first 25 = .ok (.getfield 19, 3) := by decide +kernel
theorem dX9_first_28 : decode cX9_first 28 = .ok (.iload_n 3, 1) := by decide +kernel
theorem dX9_first_29 : decode cX9_first 29 = .ok (.iaload, 1) := by decide +kernel
theorem dX9_first_30 : decode cX9_first 30 = .ok (.ishl, 1) := by decide +kernel
theorem dX9_first_31 : decode cX9_first 31 = .ok (.goto 13, 3) := by decide +kernel
theorem dX9_first_34 : decode cX9_first 34 = .ok (.iconst 1, 1) := by decide +kernel
theorem dX9_first_35 : decode cX9_first 35 = .ok (.aload_n 0, 1) := by decide +kernel
theorem dX9_first_36 : decode cX9_first 36 = .ok (.getfield 169, 3) := by decide +kernel
theorem dX9_first_39 : decode cX9_first 39 = .ok (.iconst 1, 1) := by decide +kernel
theorem dX9_first_40 : decode cX9_first 40 = .ok (.iadd, 1) := by decide +kernel
theorem dX9_first_41 : decode cX9_first 41 = .ok (.ishl, 1) := by decide +kernel
theorem dX9_first_42 : decode cX9_first 42 = .ok (.iconst 1, 1) := by decide +kernel
theorem dX9_first_43 : decode cX9_first 43 = .ok (.isub, 1) := by decide +kernel
theorem dX9_first_44 : decode cX9_first 44 = .ok (.iastore, 1) := by decide +kernel
theorem dX9_first_45 : decode cX9_first 45 = .ok (.iinc 3 1, 3) := by decide +kernel
theorem dX9_first_48 : decode cX9_first 48 = .ok (.goto (-46), 3) := by decide +kernel
theorem dX9_first_51 : decode cX9_first 51 = .ok (.return_, 1) := by decide +kernel
theorem dX9_fresh_0 : decode cX9_fresh 0 = .ok (.aload_n 0, 1) := by decide +kernel
theorem dX9_fresh_1 : decode cX9_fresh 1 = .ok (.iconst 0, 1) := by decide +kernel
theorem dX9_fresh_2 : decode cX9_fresh 2 = .ok (.putfield 80, 3) := by decide +kernel
theorem dX9_fresh_5 : decode cX9_fresh 5 = .ok (.aload_n 0, 1) := by decide +kernel
theorem dX9_fresh_6 : decode cX9_fresh 6 = .ok (.invokevirtual 89, 3) := by decide +kernel
theorem dX9_fresh_9 : decode cX9_fresh 9 = .ok (.ifCond .ne 5, 3) := by decide +kernel
theorem dX9_fresh_12 : decode cX9_fresh 12 = .ok (.iconst 0, 1) := by decide +kernel
theorem dX9_fresh_13 : decode cX9_fresh 13 = .ok (.ireturn, 1) := by decide +kernel
theorem dX9_fresh_14 : decode cX9_fresh 14 = .ok (.aload_n 0, 1) := by decide +kernel
theorem dX9_fresh_15 : decode cX9_fresh 15 = .ok (.aload_n 0, 1) := by decide +kernel
theorem dX9_fresh_16 : decode cX9_fresh 16 = .ok (.getfield 25, 3) := by decide +kernel
theorem dX9_fresh_19 : decode cX9_fresh 19 = .ok (.iconst 0, 1) := by decide +kernel
theorem dX9_fresh_20 : decode cX9_fresh 20 = .ok (.invokevirtual 193, 3) := by decide +kernel
theorem dX9_fresh_23 : decode cX9_fresh 23 = .ok (.aload_n 0, 1) := by decide +kernel
theorem dX9_fresh_24 : decode cX9_fresh 24 = .ok (.iconst 1, 1) := by decide +kernel
theorem dX9_fresh_25 : decode cX9_fresh 25 = .ok (.putfield 101, 3) := by decide +kernel
theorem dX9_fresh_28 : decode cX9_fresh 28 = .ok (.iconst 1, 1) := by decide +kernel
theorem dX9_fresh_29 : decode cX9_fresh 29 = .ok (.ireturn, 1) := by decide +kernel
theorem dX9_can_0 : decode cX9_can 0 = .ok (.aload_n 0, 1) := by decide +kernel
theorem dX9_can_1 : decode cX9_can 1 = .ok (.getfield 197, 3) := by decide +kernel
theorem dX9_can_4 : decode cX9_can 4 = .ok (.aload_n 0, 1) := by decide +kernel
theorem dX9_can_5 : decode cX9_can 5 = .ok (.getfield 200, 3) := by decide +kernel
theorem dX9_can_8 : decode cX9_can 8 = .ok (.aload_n 0, 1) := by decide +kernel
theorem dX9_can_9 : decode cX9_can 9 = .ok (.aload_n 0, 1) := by decide +kernel
theorem dX9_can_10 : decode cX9_can 10 = .ok (.getfield 203, 3) := by decide +kernel
theorem dX9_can_13 : decode cX9_can 13 = .ok (.iload_n 1, 1) := by decide +kernel
theorem dX9_can_14 : decode cX9_can 14 = .ok (.invokevirtual 206, 3) := by decide +kernel
theorem dX9_can_17 : decode cX9_can 17 = .ok (.iadd, 1) := by decide +kernel
theorem dX9_can_18 : decode cX9_can 18 = .ok (.iaload, 1) := by decide +kernel
theorem dX9_can_19 : decode cX9_can 19 = .ok (.iload_n 2, 1) := by decide +kernel
theorem dX9_can_20 : decode cX9_can 20 = .ok (.ishr, 1) := by decide +kernel
theorem dX9_can_21 : decode cX9_can 21 = .ok (.iconst 1, 1) := by decide +kernel
theorem dX9_can_22 : decode cX9_can 22 = .ok (.iand, 1) := by decide +kernel
theorem dX9_can_23 : decode cX9_can 23 = .ok (.iconst 1, 1) := by decide +kernel
theorem dX9_can_24 : decode cX9_can 24 = .ok (.if_icmp .ne 7, 3) := by decide +kernel
theorem dX9_can_27 : decode cX9_can 27 = .ok (.iconst 1, 1) := by decide +kernel
theorem dX9_can_28 : decode cX9_can 28 = .ok (.goto 4, 3) := by decide +kernel
theorem dX9_can_31 : decode cX9_can 31 = .ok (.iconst 0, 1) := by decide +kernel
theorem dX9_can_32 : decode cX9_can 32 = .ok (.ireturn, 1) := by decide +kernel
theorem dX9_lay_0 : decode cX9_lay 0 = .ok (.aload_n 0, 1) := by decide +kernel
theorem dX9_lay_1 : decode cX9_lay 1 = .ok (.aload_n 0, 1) := by decide +kernel
theorem dX9_lay_2 : decode cX9_lay 2 = .ok (.getfield 203, 3) := by decide +kernel
theorem dX9_lay_5 : decode cX9_lay 5 = .ok (.invokevirtual 209, 3) := by decide +kernel
theorem dX9_lay_8 : decode cX9_lay 8 = .ok (.istore_n 3, 1) := by decide +kernel
theorem dX9_lay_9 : decode cX9_lay 9 = .ok (.iload_n 1, 1) := by decide +kernel
theorem dX9_lay_10 : decode cX9_lay 10 = .ok (.aload_n 0, 1) := by decide +kernel
theorem dX9_lay_11 : decode cX9_lay 11 = .ok (.getfield 9, 3) := by decide +kernel
theorem dX9_lay_14 : decode cX9_lay 14 = .ok (.aload_n 0, 1) := by decide +kernel
theorem dX9_lay_15 : decode cX9_lay 15 = .ok (.getfield 203, 3) := by decide +kernel
theorem dX9_lay_18 : decode cX9_lay 18 = .ok (.iaload, 1) := by decide +kernel
theorem dX9_lay_19 : decode cX9_lay 19 = .ok (.if_icmp .ne 82, 3) := by decide +kernel
theorem dX9_lay_22 : decode cX9_lay 22 = .ok (.iload_n 2, 1) := by decide +kernel
theorem dX9_lay_23 : decode cX9_lay 23 = .ok (.istore 4, 2) := by decide +kernel
theorem dX9_lay_25 : decode cX9_lay 25 = .ok (.iload 4, 2) := by decide +kernel
theorem dX9_lay_27 : decode cX9_lay 27 = .ok (.iload_n 3, 1) := by decide +kernel
theorem dX9_lay_28 : decode cX9_lay 28 = .ok (.if_icmp .ge 28, 3) := by decide +kernel
theorem dX9_lay_31 : decode cX9_lay 31 = .ok (.aload_n 0, 1) := by decide +kernel
theorem dX9_lay_32 : decode cX9_lay 32 = .ok (.iload 4, 2) := by decide +kernel
theorem dX9_lay_34 : decode cX9_lay 34 = .ok (.iconst 0, 1) := by decide +kernel
theorem dX9_lay_35 : decode cX9_lay 35 = .ok (.invokevirtual 212, 3) := by decide +kernel
theorem dX9_lay_38 : decode cX9_lay 38 = .ok (.ifCond .ne 4, 3) := by decide +kernel
theorem dX9_lay_41 : decode cX9_lay 41 = .ok (.return_, 1) := by decide +kernel
theorem dX9_lay_42 : decode cX9_lay 42 = .ok (.aload_n 0, 1) := by decide +kernel
theorem dX9_lay_43 : decode cX9_lay 43 = .ok (.getfield 56, 3) := by decide +kernel
theorem dX9_lay_46 : decode cX9_lay 46 = .ok (.iload 4, 2) := by decide +kernel
theorem dX9_lay_48 : decode cX9_lay 48 = .ok (.iconst 0, 1) := by decide +kernel
theorem dX9_lay_49 : decode cX9_lay 49 = .ok (.iastore, 1) := by decide +kernel
theorem dX9_lay_50 : decode cX9_lay 50 = .ok (.iinc 4 1, 3) := by decide +kernel
theorem dX9_lay_53 : decode cX9_lay 53 = .ok (.goto (-28), 3) := by decide +kernel
theorem dX9_lay_56 : decode cX9_lay 56 = .ok (.aload_n 0, 1) := by decide +kernel
theorem dX9_lay_57 : decode cX9_lay 57 = .ok (.dup, 1) := by decide +kernel
theorem dX9_lay_58 : decode cX9_lay 58 = .ok (.getfield 215, 3) := by decide +kernel
theorem dX9_lay_61 : decode cX9_lay 61 = .ok (.lconst 1, 1) := by decide +kernel
theorem dX9_lay_62 : decode cX9_lay 62 = .ok (.ladd, 1) := by decide +kernel
theorem dX9_lay_63 : decode cX9_lay 63 = .ok (.putfield 215, 3) := by decide +kernel
theorem dX9_lay_66 : decode cX9_lay 66 = .ok (.iconst 0, 1) := by decide +kernel
theorem dX9_lay_67 : decode cX9_lay 67 = .ok (.istore 4, 2) := by decide +kernel
theorem dX9_lay_69 : decode cX9_lay 69 = .ok (.iload 4, 2) := by decide +kernel
theorem dX9_lay_71 : decode cX9_lay 71 = .ok (.iload_n 3, 1) := by decide +kernel
theorem dX9_lay_72 : decode cX9_lay 72 = .ok (.if_icmp .ge 28, 3) := by decide +kernel
theorem dX9_lay_75 : decode cX9_lay 75 = .ok (.aload_n 0, 1) := by decide +kernel
theorem dX9_lay_76 : decode cX9_lay 76 = .ok (.getfield 59, 3) := by decide +kernel
theorem dX9_lay_79 : decode cX9_lay 79 = .ok (.iload 4, 2) := by decide +kernel
theorem dX9_lay_81 : decode cX9_lay 81 = .ok (.dup2, 1) := by decide +kernel
theorem dX9_lay_82 : decode cX9_lay 82 = .ok (.iaload, 1) := by decide +kernel
theorem dX9_lay_83 : decode cX9_lay 83 = .ok (.iconst 1, 1) := by decide +kernel
theorem dX9_lay_84 : decode cX9_lay 84 = .ok (.aload_n 0, 1) := by decide +kernel
theorem dX9_lay_85 : decode cX9_lay 85 = .ok (.getfield 56, 3) := by decide +kernel
theorem dX9_lay_88 : decode cX9_lay 88 = .ok (.iload 4, 2) := by decide +kernel
theorem dX9_lay_90 : decode cX9_lay 90 = .ok (.iaload, 1) := by decide +kernel
theorem dX9_lay_91 : decode cX9_lay 91 = .ok (.ishl, 1) := by decide +kernel
theorem dX9_lay_92 : decode cX9_lay 92 = .ok (.ior, 1) := by decide +kernel
theorem dX9_lay_93 : decode cX9_lay 93 = .ok (.iastore, 1) := by decide +kernel
theorem dX9_lay_94 : decode cX9_lay 94 = .ok (.iinc 4 1, 3) := by decide +kernel
theorem dX9_lay_97 : decode cX9_lay 97 = .ok (.goto (-28), 3) := by decide +kernel
theorem dX9_lay_100 : decode cX9_lay 100 = .ok (.return_, 1) := by decide +kernel
theorem dX9_lay_101 : decode cX9_lay 101 = .ok (.aload_n 0, 1) := by decide +kernel
theorem dX9_lay_102 : decode cX9_lay 102 = .ok (.getfield 13, 3) := by decide +kernel
theorem dX9_lay_105 : decode cX9_lay 105 = .ok (.bipush 12, 2) := by decide +kernel
theorem dX9_lay_107 : decode cX9_lay 107 = .ok (.aload_n 0, 1) := by decide +kernel
theorem dX9_lay_108 : decode cX9_lay 108 = .ok (.getfield 203, 3) := by decide +kernel
theorem dX9_lay_111 : decode cX9_lay 111 = .ok (.imul, 1) := by decide +kernel
theorem dX9_lay_112 : decode cX9_lay 112 = .ok (.iload_n 1, 1) := by decide +kernel
theorem dX9_lay_113 : decode cX9_lay 113 = .ok (.iadd, 1) := by decide +kernel
theorem dX9_lay_114 : decode cX9_lay 114 = .ok (.iaload, 1) := by decide +kernel
theorem dX9_lay_115 : decode cX9_lay 115 = .ok (.istore 4, 2) := by decide +kernel
theorem dX9_lay_117 : decode cX9_lay 117 = .ok (.aload_n 0, 1) := by decide +kernel
theorem dX9_lay_118 : decode cX9_lay 118 = .ok (.getfield 16, 3) := by decide +kernel
theorem dX9_lay_121 : decode cX9_lay 121 = .ok (.bipush 12, 2) := by decide +kernel
theorem dX9_lay_123 : decode cX9_lay 123 = .ok (.aload_n 0, 1) := by decide +kernel
theorem dX9_lay_124 : decode cX9_lay 124 = .ok (.getfield 203, 3) := by decide +kernel
theorem dX9_lay_127 : decode cX9_lay 127 = .ok (.imul, 1) := by decide +kernel
theorem dX9_lay_128 : decode cX9_lay 128 = .ok (.iload_n 1, 1) := by decide +kernel
theorem dX9_lay_129 : decode cX9_lay 129 = .ok (.iadd, 1) := by decide +kernel
theorem dX9_lay_130 : decode cX9_lay 130 = .ok (.iaload, 1) := by decide +kernel
theorem dX9_lay_131 : decode cX9_lay 131 = .ok (.istore 5, 2) := by decide +kernel
theorem dX9_lay_133 : decode cX9_lay 133 = .ok (.iload_n 1, 1) := by decide +kernel
theorem dX9_lay_134 : decode cX9_lay 134 = .ok (.ifCond .le 28, 3) := by decide +kernel
theorem dX9_lay_137 : decode cX9_lay 137 = .ok (.aload_n 0, 1) := by decide +kernel
theorem dX9_lay_138 : decode cX9_lay 138 = .ok (.getfield 16, 3) := by decide +kernel
theorem dX9_lay_141 : decode cX9_lay 141 = .ok (.bipush 12, 2) := by decide +kernel
theorem dX9_lay_143 : decode cX9_lay 143 = .ok (.aload_n 0, 1) := by decide +kernel
theorem dX9_lay_144 : decode cX9_lay 144 = .ok (.getfield 203, 3) := by decide +kernel
theorem dX9_lay_147 : decode cX9_lay 147 = .ok (.imul, 1) := by decide +kernel
theorem dX9_lay_148 : decode cX9_lay 148 = .ok (.iload_n 1, 1) := by decide +kernel
theorem dX9_lay_149 : decode cX9_lay 149 = .ok (.iadd, 1) := by decide +kernel
theorem dX9_lay_150 : decode cX9_lay 150 = .ok (.iconst 1, 1) := by decide +kernel
theorem dX9_lay_151 : decode cX9_lay 151 = .ok (.isub, 1) := by decide +kernel
theorem dX9_lay_152 : decode cX9_lay 152 = .ok (.iaload, 1) := by decide +kernel
theorem dX9_lay_153 : decode cX9_lay 153 = .ok (.iload 5, 2) := by decide +kernel
theorem dX9_lay_155 : decode cX9_lay 155 = .ok (.if_icmp .ne 7, 3) := by decide +kernel
theorem dX9_lay_158 : decode cX9_lay 158 = .ok (.iconst 1, 1) := by decide +kernel
theorem dX9_lay_159 : decode cX9_lay 159 = .ok (.goto 4, 3) := by decide +kernel
theorem dX9_lay_162 : decode cX9_lay 162 = .ok (.iconst 0, 1) := by decide +kernel
theorem dX9_lay_163 : decode cX9_lay 163 = .ok (.istore 6, 2) := by decide +kernel
theorem dX9_lay_165 : decode cX9_lay 165 = .ok (.iload_n 2, 1) := by decide +kernel
theorem dX9_lay_166 : decode cX9_lay 166 = .ok (.istore 7, 2) := by decide +kernel
theorem dX9_lay_168 : decode cX9_lay 168 = .ok (.iload 7, 2) := by decide +kernel
theorem dX9_lay_170 : decode cX9_lay 170 = .ok (.iload 4, 2) := by decide +kernel
theorem dX9_lay_172 : decode cX9_lay 172 = .ok (.iadd, 1) := by decide +kernel
theorem dX9_lay_173 : decode cX9_lay 173 = .ok (.iload_n 3, 1) := by decide +kernel
theorem dX9_lay_174 : decode cX9_lay 174 = .ok (.if_icmp .gt 127, 3) := by decide +kernel
theorem dX9_lay_177 : decode cX9_lay 177 = .ok (.iload 6, 2) := by decide +kernel
theorem dX9_lay_179 : decode cX9_lay 179 = .ok (.ifCond .eq 9, 3) := by decide +kernel
theorem dX9_lay_182 : decode cX9_lay 182 = .ok (.iload 7, 2) := by decide +kernel
theorem dX9_lay_184 : decode cX9_lay 184 = .ok (.iload_n 2, 1) := by decide +kernel
theorem dX9_lay_185 : decode cX9_lay 185 = .ok (.if_icmp .le 7, 3) := by decide +kernel
theorem dX9_lay_188 : decode cX9_lay 188 = .ok (.iconst 1, 1) := by decide +kernel
theorem dX9_lay_189 : decode cX9_lay 189 = .ok (.goto 4, 3) := by decide +kernel
theorem dX9_lay_192 : decode cX9_lay 192 = .ok (.iconst 0, 1) := by decide +kernel
theorem dX9_lay_193 : decode cX9_lay 193 = .ok (.istore 8, 2) := by decide +kernel
theorem dX9_lay_195 : decode cX9_lay 195 = .ok (.iload 7, 2) := by decide +kernel
theorem dX9_lay_197 : decode cX9_lay 197 = .ok (.istore 9, 2) := by decide +kernel
theorem dX9_lay_199 : decode cX9_lay 199 = .ok (.iload 9, 2) := by decide +kernel
theorem dX9_lay_201 : decode cX9_lay 201 = .ok (.iload 7, 2) := by decide +kernel
theorem dX9_lay_203 : decode cX9_lay 203 = .ok (.iload 4, 2) := by decide +kernel
theorem dX9_lay_205 : decode cX9_lay 205 = .ok (.iadd, 1) := by decide +kernel
theorem dX9_lay_206 : decode cX9_lay 206 = .ok (.if_icmp .ge 24, 3) := by decide +kernel
theorem dX9_lay_209 : decode cX9_lay 209 = .ok (.iload 8, 2) := by decide +kernel
theorem dX9_lay_211 : decode cX9_lay 211 = .ok (.ifCond .eq 19, 3) := by decide +kernel
theorem dX9_lay_214 : decode cX9_lay 214 = .ok (.aload_n 0, 1) := by decide +kernel
theorem dX9_lay_215 : decode cX9_lay 215 = .ok (.iload 9, 2) := by decide +kernel
theorem dX9_lay_217 : decode cX9_lay 217 = .ok (.iload 5, 2) := by decide +kernel
theorem dX9_lay_219 : decode cX9_lay 219 = .ok (.invokevirtual 212, 3) := by decide +kernel
theorem dX9_lay_222 : decode cX9_lay 222 = .ok (.istore 8, 2) := by decide +kernel
theorem dX9_lay_224 : decode cX9_lay 224 = .ok (.iinc 9 1, 3) := by decide +kernel
theorem dX9_lay_227 : decode cX9_lay 227 = .ok (.goto (-28), 3) := by decide +kernel
theorem dX9_lay_230 : decode cX9_lay 230 = .ok (.iload 8, 2) := by decide +kernel
theorem dX9_lay_232 : decode cX9_lay 232 = .ok (.ifCond .eq 44, 3) := by decide +kernel
theorem dX9_lay_235 : decode cX9_lay 235 = .ok (.iload 7, 2) := by decide +kernel
theorem dX9_lay_237 : decode cX9_lay 237 = .ok (.istore 9, 2) := by decide +kernel
theorem dX9_lay_239 : decode cX9_lay 239 = .ok (.iload 9, 2) := by decide +kernel
theorem dX9_lay_241 : decode cX9_lay 241 = .ok (.iload 7, 2) := by decide +kernel
theorem dX9_lay_243 : decode cX9_lay 243 = .ok (.iload 4, 2) := by decide +kernel
theorem dX9_lay_245 : decode cX9_lay 245 = .ok (.iadd, 1) := by decide +kernel
theorem dX9_lay_246 : decode cX9_lay 246 = .ok (.if_icmp .ge 18, 3) := by decide +kernel
theorem dX9_lay_249 : decode cX9_lay 249 = .ok (.aload_n 0, 1) := by decide +kernel
theorem dX9_lay_250 : decode cX9_lay 250 = .ok (.getfield 56, 3) := by decide +kernel
theorem dX9_lay_253 : decode cX9_lay 253 = .ok (.iload 9, 2) := by decide +kernel
theorem dX9_lay_255 : decode cX9_lay 255 = .ok (.iload 5, 2) := by decide +kernel
theorem dX9_lay_257 : decode cX9_lay 257 = .ok (.iastore, 1) := by decide +kernel
theorem dX9_lay_258 : decode cX9_lay 258 = .ok (.iinc 9 1, 3) := by decide +kernel
theorem dX9_lay_261 : decode cX9_lay 261 = .ok (.goto (-22), 3) := by decide +kernel
theorem dX9_lay_264 : decode cX9_lay 264 = .ok (.aload_n 0, 1) := by decide +kernel
theorem dX9_lay_265 : decode cX9_lay 265 = .ok (.iload_n 1, 1) := by decide +kernel
theorem dX9_lay_266 : decode cX9_lay 266 = .ok (.iconst 1, 1) := by decide +kernel
theorem dX9_lay_267 : decode cX9_lay 267 = .ok (.iadd, 1) := by decide +kernel
theorem dX9_lay_268 : decode cX9_lay 268 = .ok (.iload 7, 2) := by decide +kernel
theorem dX9_lay_270 : decode cX9_lay 270 = .ok (.iload 4, 2) := by decide +kernel
theorem dX9_lay_272 : decode cX9_lay 272 = .ok (.iadd, 1) := by decide +kernel
theorem dX9_lay_273 : decode cX9_lay 273 = .ok (.invokevirtual 219, 3) := by decide +kernel
theorem dX9_lay_276 : decode cX9_lay 276 = .ok (.aload_n 0, 1) := by decide +kernel
theorem dX9_lay_277 : decode cX9_lay 277 = .ok (.iload 7, 2) := by decide +kernel
theorem dX9_lay_279 : decode cX9_lay 279 = .ok (.iconst 0, 1) := by decide +kernel
theorem dX9_lay_280 : decode cX9_lay 280 = .ok (.invokevirtual 212, 3) := by decide +kernel
theorem dX9_lay_283 : decode cX9_lay 283 = .ok (.ifCond .ne 4, 3) := by decide +kernel
theorem dX9_lay_286 : decode cX9_lay 286 = .ok (.return_, 1) := by decide +kernel
theorem dX9_lay_287 : decode cX9_lay 287 = .ok (.aload_n 0, 1) := by decide +kernel
theorem dX9_lay_288 : decode cX9_lay 288 = .ok (.getfield 56, 3) := by decide +kernel
theorem dX9_lay_291 : decode cX9_lay 291 = .ok (.iload 7, 2) := by decide +kernel
theorem dX9_lay_293 : decode cX9_lay 293 = .ok (.iconst 0, 1) := by decide +kernel
theorem dX9_lay_294 : decode cX9_lay 294 = .ok (.iastore, 1) := by decide +kernel
theorem dX9_lay_295 : decode cX9_lay 295 = .ok (.iinc 7 1, 3) := by decide +kernel
theorem dX9_lay_298 : decode cX9_lay 298 = .ok (.goto (-130), 3) := by decide +kernel
theorem dX9_lay_301 : decode cX9_lay 301 = .ok (.return_, 1) := by decide +kernel
theorem dX9_allWays_0 : decode cX9_allWays 0 = .ok (.aload_n 0, 1) := by decide +kernel
theorem dX9_allWays_1 : decode cX9_allWays 1 = .ok (.aload_n 1, 1) := by decide +kernel
theorem dX9_allWays_2 : decode cX9_allWays 2 = .ok (.putfield 197, 3) := by decide +kernel
theorem dX9_allWays_5 : decode cX9_allWays 5 = .ok (.aload_n 0, 1) := by decide +kernel
theorem dX9_allWays_6 : decode cX9_allWays 6 = .ok (.iload_n 2, 1) := by decide +kernel
theorem dX9_allWays_7 : decode cX9_allWays 7 = .ok (.putfield 200, 3) := by decide +kernel
theorem dX9_allWays_10 : decode cX9_allWays 10 = .ok (.aload_n 0, 1) := by decide +kernel
theorem dX9_allWays_11 : decode cX9_allWays 11 = .ok (.iload_n 3, 1) := by decide +kernel
theorem dX9_allWays_12 : decode cX9_allWays 12 = .ok (.putfield 203, 3) := by decide +kernel
theorem dX9_allWays_15 : decode cX9_allWays 15 = .ok (.aload_n 0, 1) := by decide +kernel
theorem dX9_allWays_16 : decode cX9_allWays 16 = .ok (.lconst 0, 1) := by decide +kernel
theorem dX9_allWays_17 : decode cX9_allWays 17 = .ok (.putfield 215, 3) := by decide +kernel
theorem dX9_allWays_20 : decode cX9_allWays 20 = .ok (.iconst 0, 1) := by decide +kernel
theorem dX9_allWays_21 : decode cX9_allWays 21 = .ok (.istore 4, 2) := by decide +kernel
theorem dX9_allWays_23 : decode cX9_allWays 23 = .ok (.iload 4, 2) := by decide +kernel
theorem dX9_allWays_25 : decode cX9_allWays 25 = .ok (.bipush 12, 2) := by decide +kernel
theorem dX9_allWays_27 : decode cX9_allWays 27 = .ok (.if_icmp .ge 17, 3) := by decide +kernel
theorem dX9_allWays_30 : decode cX9_allWays 30 = .ok (.aload_n 0, 1) := by decide +kernel
theorem dX9_allWays_31 : decode cX9_allWays 31 = .ok (.getfield 59, 3) := by decide +kernel
theorem dX9_allWays_34 : decode cX9_allWays 34 = .ok (.iload 4, 2) := by decide +kernel
theorem dX9_allWays_36 : decode cX9_allWays 36 = .ok (.iconst 0, 1) := by decide +kernel
theorem dX9_allWays_37 : decode cX9_allWays 37 = .ok (.iastore, 1) := by decide +kernel
theorem dX9_allWays_38 : decode cX9_allWays 38 = .ok (.iinc 4 1, 3) := by decide +kernel
theorem dX9_allWays_41 : decode cX9_allWays 41 = .ok (.goto (-18), 3) := by decide +kernel
theorem dX9_allWays_44 : decode cX9_allWays 44 = .ok (.aload_n 0, 1) := by decide +kernel
theorem dX9_allWays_45 : decode cX9_allWays 45 = .ok (.iconst 0, 1) := by decide +kernel
theorem dX9_allWays_46 : decode cX9_allWays 46 = .ok (.iconst 0, 1) := by decide +kernel
theorem dX9_allWays_47 : decode cX9_allWays 47 = .ok (.invokevirtual 219, 3) := by decide +kernel
theorem dX9_allWays_50 : decode cX9_allWays 50 = .ok (.return_, 1) := by decide +kernel
theorem dX9_lineRule_0 : decode cX9_lineRule 0 = .ok (.aload_n 0, 1) := by decide +kernel
theorem dX9_lineRule_1 : decode cX9_lineRule 1 = .ok (.aload_n 1, 1) := by decide +kernel
theorem dX9_lineRule_2 : decode cX9_lineRule 2 = .ok (.iload_n 2, 1) := by decide +kernel
theorem dX9_lineRule_3 : decode cX9_lineRule 3 = .ok (.iload_n 3, 1) := by decide +kernel
theorem dX9_lineRule_4 : decode cX9_lineRule 4 = .ok (.invokevirtual 222, 3) := by decide +kernel
theorem dX9_lineRule_7 : decode cX9_lineRule 7 = .ok (.aload_n 0, 1) := by decide +kernel
theorem dX9_lineRule_8 : decode cX9_lineRule 8 = .ok (.getfield 215, 3) := by decide +kernel
theorem dX9_lineRule_11 : decode cX9_lineRule 11 = .ok (.lconst 0, 1) := by decide +kernel
theorem dX9_lineRule_12 : decode cX9_lineRule 12 = .ok (.lcmp, 1) := by decide +kernel
theorem dX9_lineRule_13 : decode cX9_lineRule 13 = .ok (.ifCond .ne 6, 3) := by decide +kernel
theorem dX9_lineRule_16 : decode cX9_lineRule 16 = .ok (.bipush (-2), 2) := by decide +kernel
theorem dX9_lineRule_18 : decode cX9_lineRule 18 = .ok (.ireturn, 1) := by decide +kernel
theorem dX9_lineRule_19 : decode cX9_lineRule 19 = .ok (.iconst 0, 1) := by decide +kernel
theorem dX9_lineRule_20 : decode cX9_lineRule 20 = .ok (.istore 4, 2) := by decide +kernel
theorem dX9_lineRule_22 : decode cX9_lineRule 22 = .ok (.iconst 0, 1) := by decide +kernel
theorem dX9_lineRule_23 : decode cX9_lineRule 23 = .ok (.istore 5, 2) := by decide +kernel
theorem dX9_lineRule_25 : decode cX9_lineRule 25 = .ok (.iload 5, 2) := by decide +kernel
theorem dX9_lineRule_27 : decode cX9_lineRule 27 = .ok (.aload_n 0, 1) := by decide +kernel
theorem dX9_lineRule_28 : decode cX9_lineRule 28 = .ok (.iload_n 3, 1) := by decide +kernel
theorem dX9_lineRule_29 : decode cX9_lineRule 29 = .ok (.invokevirtual 209, 3) := by decide +kernel
theorem dX9_lineRule_32 : decode cX9_lineRule 32 = .ok (.if_icmp .ge 51, 3) := by decide +kernel
theorem dX9_lineRule_35 : decode cX9_lineRule 35 = .ok (.iload_n 2, 1) := by decide +kernel
theorem dX9_lineRule_36 : decode cX9_lineRule 36 = .ok (.aload_n 0, 1) := by decide +kernel
theorem dX9_lineRule_37 : decode cX9_lineRule 37 = .ok (.iload_n 3, 1) := by decide +kernel
theorem dX9_lineRule_38 : decode cX9_lineRule 38 = .ok (.iload 5, 2) := by decide +kernel
theorem dX9_lineRule_40 : decode cX9_lineRule 40 = .ok (.invokevirtual 206, 3) := by decide +kernel
theorem dX9_lineRule_43 : decode cX9_lineRule 43 = .ok (.iadd, 1) := by decide +kernel
theorem dX9_lineRule_44 : decode cX9_lineRule 44 = .ok (.istore 6, 2) := by decide +kernel
theorem dX9_lineRule_46 : decode cX9_lineRule 46 = .ok (.aload_n 1, 1) := by decide +kernel
theorem dX9_lineRule_47 : decode cX9_lineRule 47 = .ok (.iload 6, 2) := by decide +kernel
theorem dX9_lineRule_49 : decode cX9_lineRule 49 = .ok (.iaload, 1) := by decide +kernel
theorem dX9_lineRule_50 : decode cX9_lineRule 50 = .ok (.aload_n 0, 1) := by decide +kernel
theorem dX9_lineRule_51 : decode cX9_lineRule 51 = .ok (.getfield 59, 3) := by decide +kernel
theorem dX9_lineRule_54 : decode cX9_lineRule 54 = .ok (.iload 5, 2) := by decide +kernel
theorem dX9_lineRule_56 : decode cX9_lineRule 56 = .ok (.iaload, 1) := by decide +kernel
theorem dX9_lineRule_57 : decode cX9_lineRule 57 = .ok (.if_icmp .ne 6, 3) := by decide +kernel
theorem dX9_lineRule_60 : decode cX9_lineRule 60 = .ok (.goto 17, 3) := by decide +kernel
theorem dX9_lineRule_63 : decode cX9_lineRule 63 = .ok (.aload_n 1, 1) := by decide +kernel
theorem dX9_lineRule_64 : decode cX9_lineRule 64 = .ok (.iload 6, 2) := by decide +kernel
theorem dX9_lineRule_66 : decode cX9_lineRule 66 = .ok (.aload_n 0, 1) := by decide +kernel
theorem dX9_lineRule_67 : decode cX9_lineRule 67 = .ok (.getfield 59, 3) := by decide +kernel
theorem dX9_lineRule_70 : decode cX9_lineRule 70 = .ok (.iload 5, 2) := by decide +kernel
theorem dX9_lineRule_72 : decode cX9_lineRule 72 = .ok (.iaload, 1) := by decide +kernel
theorem dX9_lineRule_73 : decode cX9_lineRule 73 = .ok (.iastore, 1) := by decide +kernel
theorem dX9_lineRule_74 : decode cX9_lineRule 74 = .ok (.iinc 4 1, 3) := by decide +kernel
theorem dX9_lineRule_77 : decode cX9_lineRule 77 = .ok (.iinc 5 1, 3) := by decide +kernel
theorem dX9_lineRule_80 : decode cX9_lineRule 80 = .ok (.goto (-55), 3) := by decide +kernel
theorem dX9_lineRule_83 : decode cX9_lineRule 83 = .ok (.iload 4, 2) := by decide +kernel
theorem dX9_lineRule_85 : decode cX9_lineRule 85 = .ok (.ireturn, 1) := by decide +kernel
theorem dX9_toRest_0 : decode cX9_toRest 0 = .ok (.aload_n 0, 1) := by decide +kernel
theorem dX9_toRest_1 : decode cX9_toRest 1 = .ok (.iconst 0, 1) := by decide +kernel
theorem dX9_toRest_2 : decode cX9_toRest 2 = .ok (.putfield 226, 3) := by decide +kernel
theorem dX9_toRest_5 : decode cX9_toRest 5 = .ok (.iconst 1, 1) := by decide +kernel
theorem dX9_toRest_6 : decode cX9_toRest 6 = .ok (.istore_n 3, 1) := by decide +kernel
theorem dX9_toRest_7 : decode cX9_toRest 7 = .ok (.iload_n 3, 1) := by decide +kernel
theorem dX9_toRest_8 : decode cX9_toRest 8 = .ok (.ifCond .le 60, 3) := by decide +kernel
theorem dX9_toRest_11 : decode cX9_toRest 11 = .ok (.iconst 0, 1) := by decide +kernel
theorem dX9_toRest_12 : decode cX9_toRest 12 = .ok (.istore_n 3, 1) := by decide +kernel
theorem dX9_toRest_13 : decode cX9_toRest 13 = .ok (.iconst 0, 1) := by decide +kernel
theorem dX9_toRest_14 : decode cX9_toRest 14 = .ok (.istore 4, 2) := by decide +kernel
theorem dX9_toRest_16 : decode cX9_toRest 16 = .ok (.iload 4, 2) := by decide +kernel
theorem dX9_toRest_18 : decode cX9_toRest 18 = .ok (.aload_n 0, 1) := by decide +kernel
theorem dX9_toRest_19 : decode cX9_toRest 19 = .ok (.invokevirtual 93, 3) := by decide +kernel
theorem dX9_toRest_22 : decode cX9_toRest 22 = .ok (.if_icmp .ge 43, 3) := by decide +kernel
theorem dX9_toRest_25 : decode cX9_toRest 25 = .ok (.aload_n 0, 1) := by decide +kernel
theorem dX9_toRest_26 : decode cX9_toRest 26 = .ok (.dup, 1) := by decide +kernel
theorem dX9_toRest_27 : decode cX9_toRest 27 = .ok (.getfield 226, 3) := by decide +kernel
theorem dX9_toRest_30 : decode cX9_toRest 30 = .ok (.iconst 1, 1) := by decide +kernel
theorem dX9_toRest_31 : decode cX9_toRest 31 = .ok (.iadd, 1) := by decide +kernel
theorem dX9_toRest_32 : decode cX9_toRest 32 = .ok (.putfield 226, 3) := by decide +kernel
theorem dX9_toRest_35 : decode cX9_toRest 35 = .ok (.aload_n 0, 1) := by decide +kernel
theorem dX9_toRest_36 : decode cX9_toRest 36 = .ok (.aload_n 1, 1) := by decide +kernel
theorem dX9_toRest_37 : decode cX9_toRest 37 = .ok (.iload_n 2, 1) := by decide +kernel
theorem dX9_toRest_38 : decode cX9_toRest 38 = .ok (.iload 4, 2) := by decide +kernel
theorem dX9_toRest_40 : decode cX9_toRest 40 = .ok (.invokevirtual 229, 3) := by decide +kernel
theorem dX9_toRest_43 : decode cX9_toRest 43 = .ok (.istore 5, 2) := by decide +kernel
theorem dX9_toRest_45 : decode cX9_toRest 45 = .ok (.iload 5, 2) := by decide +kernel
theorem dX9_toRest_47 : decode cX9_toRest 47 = .ok (.bipush (-2), 2) := by decide +kernel
theorem dX9_toRest_49 : decode cX9_toRest 49 = .ok (.if_icmp .ne 5, 3) := by decide +kernel
theorem dX9_toRest_52 : decode cX9_toRest 52 = .ok (.iconst 0, 1) := by decide +kernel
theorem dX9_toRest_53 : decode cX9_toRest 53 = .ok (.ireturn, 1) := by decide +kernel
theorem dX9_toRest_54 : decode cX9_toRest 54 = .ok (.iload_n 3, 1) := by decide +kernel
theorem dX9_toRest_55 : decode cX9_toRest 55 = .ok (.iload 5, 2) := by decide +kernel
theorem dX9_toRest_57 : decode cX9_toRest 57 = .ok (.iadd, 1) := by decide +kernel
theorem dX9_toRest_58 : decode cX9_toRest 58 = .ok (.istore_n 3, 1) := by decide +kernel
theorem dX9_toRest_59 : decode cX9_toRest 59 = .ok (.iinc 4 1, 3) := by decide +kernel
theorem dX9_toRest_62 : decode cX9_toRest 62 = .ok (.goto (-46), 3) := by decide +kernel
theorem dX9_toRest_65 : decode cX9_toRest 65 = .ok (.goto (-58), 3) := by decide +kernel
theorem dX9_toRest_68 : decode cX9_toRest 68 = .ok (.iconst 1, 1) := by decide +kernel
theorem dX9_toRest_69 : decode cX9_toRest 69 = .ok (.ireturn, 1) := by decide +kernel
theorem dX9_trying_0 : decode cX9_trying 0 = .ok (.aload_n 0, 1) := by decide +kernel
theorem dX9_trying_1 : decode cX9_trying 1 = .ok (.iconst 0, 1) := by decide +kernel
theorem dX9_trying_2 : decode cX9_trying 2 = .ok (.putfield 233, 3) := by decide +kernel
theorem dX9_trying_5 : decode cX9_trying 5 = .ok (.iconst (-1), 1) := by decide +kernel
theorem dX9_trying_6 : decode cX9_trying 6 = .ok (.istore_n 2, 1) := by decide +kernel
theorem dX9_trying_7 : decode cX9_trying 7 = .ok (.aload_n 0, 1) := by decide +kernel
theorem dX9_trying_8 : decode cX9_trying 8 = .ok (.getfield 233, 3) := by decide +kernel
theorem dX9_trying_11 : decode cX9_trying 11 = .ok (.iload_n 2, 1) := by decide +kernel
theorem dX9_trying_12 : decode cX9_trying 12 = .ok (.if_icmp .le 171, 3) := by decide +kernel
theorem dX9_trying_15 : decode cX9_trying 15 = .ok (.aload_n 0, 1) := by decide +kernel
theorem dX9_trying_16 : decode cX9_trying 16 = .ok (.getfield 233, 3) := by decide +kernel
theorem dX9_trying_19 : decode cX9_trying 19 = .ok (.istore_n 2, 1) := by decide +kernel
theorem dX9_trying_20 : decode cX9_trying 20 = .ok (.iconst 0, 1) := by decide +kernel
theorem dX9_trying_21 : decode cX9_trying 21 = .ok (.istore_n 3, 1) := by decide +kernel
theorem dX9_trying_22 : decode cX9_trying 22 = .ok (.iload_n 3, 1) := by decide +kernel
theorem dX9_trying_23 : decode cX9_trying 23 = .ok (.aload_n 0, 1) := by decide +kernel
theorem dX9_trying_24 : decode cX9_trying 24 = .ok (.getfield 83, 3) := by decide +kernel
theorem dX9_trying_27 : decode cX9_trying 27 = .ok (.aload_n 0, 1) := by decide +kernel
theorem dX9_trying_28 : decode cX9_trying 28 = .ok (.getfield 86, 3) := by decide +kernel
theorem dX9_trying_31 : decode cX9_trying 31 = .ok (.imul, 1) := by decide +kernel
theorem dX9_trying_32 : decode cX9_trying 32 = .ok (.if_icmp .ge 148, 3) := by decide +kernel
theorem dX9_trying_35 : decode cX9_trying 35 = .ok (.aload_n 0, 1) := by decide +kernel
theorem dX9_trying_36 : decode cX9_trying 36 = .ok (.iload_n 3, 1) := by decide +kernel
theorem dX9_trying_37 : decode cX9_trying 37 = .ok (.invokevirtual 236, 3) := by decide +kernel
theorem dX9_trying_40 : decode cX9_trying 40 = .ok (.istore 4, 2) := by decide +kernel
theorem dX9_trying_42 : decode cX9_trying 42 = .ok (.iconst 0, 1) := by decide +kernel
theorem dX9_trying_43 : decode cX9_trying 43 = .ok (.istore 5, 2) := by decide +kernel
theorem dX9_trying_45 : decode cX9_trying 45 = .ok (.iload 5, 2) := by decide +kernel
theorem dX9_trying_47 : decode cX9_trying 47 = .ok (.aload_n 0, 1) := by decide +kernel
theorem dX9_trying_48 : decode cX9_trying 48 = .ok (.getfield 169, 3) := by decide +kernel
theorem dX9_trying_51 : decode cX9_trying 51 = .ok (.if_icmp .gt 123, 3) := by decide +kernel
theorem dX9_trying_54 : decode cX9_trying 54 = .ok (.aload_n 1, 1) := by decide +kernel
theorem dX9_trying_55 : decode cX9_trying 55 = .ok (.iload 4, 2) := by decide +kernel
theorem dX9_trying_57 : decode cX9_trying 57 = .ok (.iaload, 1) := by decide +kernel
theorem dX9_trying_58 : decode cX9_trying 58 = .ok (.invokestatic 185, 3) := by decide +kernel
theorem dX9_trying_61 : decode cX9_trying 61 = .ok (.iconst 2, 1) := by decide +kernel
theorem dX9_trying_62 : decode cX9_trying 62 = .ok (.if_icmp .lt 106, 3) := by decide +kernel
theorem dX9_trying_65 : decode cX9_trying 65 = .ok (.aload_n 1, 1) := by decide +kernel
theorem dX9_trying_66 : decode cX9_trying 66 = .ok (.iload 4, 2) := by decide +kernel
theorem dX9_trying_68 : decode cX9_trying 68 = .ok (.iaload, 1) := by decide +kernel
theorem dX9_trying_69 : decode cX9_trying 69 = .ok (.iload 5, 2) := by decide +kernel
theorem dX9_trying_71 : decode cX9_trying 71 = .ok (.ishr, 1) := by decide +kernel
theorem dX9_trying_72 : decode cX9_trying 72 = .ok (.iconst 1, 1) := by decide +kernel
theorem dX9_trying_73 : decode cX9_trying 73 = .ok (.iand, 1) := by decide +kernel
theorem dX9_trying_74 : decode cX9_trying 74 = .ok (.ifCond .ne 6, 3) := by decide +kernel
theorem dX9_trying_77 : decode cX9_trying 77 = .ok (.goto 91, 3) := by decide +kernel
theorem dX9_trying_80 : decode cX9_trying 80 = .ok (.iconst 0, 1) := by decide +kernel
theorem dX9_trying_81 : decode cX9_trying 81 = .ok (.istore 6, 2) := by decide +kernel
theorem dX9_trying_83 : decode cX9_trying 83 = .ok (.iload 6, 2) := by decide +kernel
theorem dX9_trying_85 : decode cX9_trying 85 = .ok (.sipush 144, 3) := by decide +kernel
theorem dX9_trying_88 : decode cX9_trying 88 = .ok (.if_icmp .ge 20, 3) := by decide +kernel
theorem dX9_trying_91 : decode cX9_trying 91 = .ok (.aload_n 0, 1) := by decide +kernel
theorem dX9_trying_92 : decode cX9_trying 92 = .ok (.getfield 62, 3) := by decide +kernel
theorem dX9_trying_95 : decode cX9_trying 95 = .ok (.iload 6, 2) := by decide +kernel
theorem dX9_trying_97 : decode cX9_trying 97 = .ok (.aload_n 1, 1) := by decide +kernel
theorem dX9_trying_98 : decode cX9_trying 98 = .ok (.iload 6, 2) := by decide +kernel
theorem dX9_trying_100 : decode cX9_trying 100 = .ok (.iaload, 1) := by decide +kernel
theorem dX9_trying_101 : decode cX9_trying 101 = .ok (.iastore, 1) := by decide +kernel
theorem dX9_trying_102 : decode cX9_trying 102 = .ok (.iinc 6 1, 3) := by decide +kernel
theorem dX9_trying_105 : decode cX9_trying 105 = .ok (.goto (-22), 3) := by decide +kernel
theorem dX9_trying_108 : decode cX9_trying 108 = .ok (.aload_n 0, 1) := by decide +kernel
theorem dX9_trying_109 : decode cX9_trying 109 = .ok (.getfield 62, 3) := by decide +kernel
theorem dX9_trying_112 : decode cX9_trying 112 = .ok (.iload 4, 2) := by decide +kernel
theorem dX9_trying_114 : decode cX9_trying 114 = .ok (.iconst 1, 1) := by decide +kernel
theorem dX9_trying_115 : decode cX9_trying 115 = .ok (.iload 5, 2) := by decide +kernel
theorem dX9_trying_117 : decode cX9_trying 117 = .ok (.ishl, 1) := by decide +kernel
theorem dX9_trying_118 : decode cX9_trying 118 = .ok (.iastore, 1) := by decide +kernel
theorem dX9_trying_119 : decode cX9_trying 119 = .ok (.aload_n 0, 1) := by decide +kernel
theorem dX9_trying_120 : decode cX9_trying 120 = .ok (.aload_n 0, 1) := by decide +kernel
theorem dX9_trying_121 : decode cX9_trying 121 = .ok (.getfield 62, 3) := by decide +kernel
theorem dX9_trying_124 : decode cX9_trying 124 = .ok (.iconst 0, 1) := by decide +kernel
theorem dX9_trying_125 : decode cX9_trying 125 = .ok (.invokevirtual 239, 3) := by decide +kernel
theorem dX9_trying_128 : decode cX9_trying 128 = .ok (.ifCond .eq 6, 3) := by decide +kernel
theorem dX9_trying_131 : decode cX9_trying 131 = .ok (.goto 37, 3) := by decide +kernel
theorem dX9_trying_134 : decode cX9_trying 134 = .ok (.aload_n 1, 1) := by decide +kernel
theorem dX9_trying_135 : decode cX9_trying 135 = .ok (.iload 4, 2) := by decide +kernel
theorem dX9_trying_137 : decode cX9_trying 137 = .ok (.dup2, 1) := by decide +kernel
theorem dX9_trying_138 : decode cX9_trying 138 = .ok (.iaload, 1) := by decide +kernel
theorem dX9_trying_139 : decode cX9_trying 139 = .ok (.iconst 1, 1) := by decide +kernel
theorem dX9_trying_140 : decode cX9_trying 140 = .ok (.iload 5, 2) := by decide +kernel
theorem dX9_trying_142 : decode cX9_trying 142 = .ok (.ishl, 1) := by decide +kernel
theorem dX9_trying_143 : decode cX9_trying 143 = .ok (.iconst (-1), 1) := by decide +kernel
theorem dX9_trying_144 : decode cX9_trying 144 = .ok (.ixor, 1) := by decide +kernel
theorem dX9_trying_145 : decode cX9_trying 145 = .ok (.iand, 1) := by decide +kernel
theorem dX9_trying_146 : decode cX9_trying 146 = .ok (.iastore, 1) := by decide +kernel
theorem dX9_trying_147 : decode cX9_trying 147 = .ok (.aload_n 0, 1) := by decide +kernel
theorem dX9_trying_148 : decode cX9_trying 148 = .ok (.dup, 1) := by decide +kernel
theorem dX9_trying_149 : decode cX9_trying 149 = .ok (.getfield 233, 3) := by decide +kernel
theorem dX9_trying_152 : decode cX9_trying 152 = .ok (.iconst 1, 1) := by decide +kernel
theorem dX9_trying_153 : decode cX9_trying 153 = .ok (.iadd, 1) := by decide +kernel
theorem dX9_trying_154 : decode cX9_trying 154 = .ok (.putfield 233, 3) := by decide +kernel
theorem dX9_trying_157 : decode cX9_trying 157 = .ok (.aload_n 0, 1) := by decide +kernel
theorem dX9_trying_158 : decode cX9_trying 158 = .ok (.aload_n 1, 1) := by decide +kernel
theorem dX9_trying_159 : decode cX9_trying 159 = .ok (.iconst 0, 1) := by decide +kernel
theorem dX9_trying_160 : decode cX9_trying 160 = .ok (.invokevirtual 239, 3) := by decide +kernel
theorem dX9_trying_163 : decode cX9_trying 163 = .ok (.ifCond .ne 5, 3) := by decide +kernel
theorem dX9_trying_166 : decode cX9_trying 166 = .ok (.iconst 0, 1) := by decide +kernel
theorem dX9_trying_167 : decode cX9_trying 167 = .ok (.ireturn, 1) := by decide +kernel
theorem dX9_trying_168 : decode cX9_trying 168 = .ok (.iinc 5 1, 3) := by decide +kernel
theorem dX9_trying_171 : decode cX9_trying 171 = .ok (.goto (-126), 3) := by decide +kernel
theorem dX9_trying_174 : decode cX9_trying 174 = .ok (.iinc 3 1, 3) := by decide +kernel
theorem dX9_trying_177 : decode cX9_trying 177 = .ok (.goto (-155), 3) := by decide +kernel
theorem dX9_trying_180 : decode cX9_trying 180 = .ok (.goto (-173), 3) := by decide +kernel
theorem dX9_trying_183 : decode cX9_trying 183 = .ok (.iconst 1, 1) := by decide +kernel
theorem dX9_trying_184 : decode cX9_trying 184 = .ok (.ireturn, 1) := by decide +kernel
def f_X9_fault  (s : St) : Option (Int32 × St) :=
  Option.bind (some (sF s 43 0 (0 : Int32))) fun s1 =>
  some (s1.1 43 19, s1)
set_option maxRecDepth 100000 in
set_option maxHeartbeats 4000000 in
theorem ok_X9_fault  {s : St} {r : Int32 × St} (h : f_X9_fault  s = some r) : Ct 0 m_X9_fault [.ref 43] s (some (.int r.1)) r.2 := by
  unfold f_X9_fault at h
  refine ct_of [some (.ref 43)] 0 (by decide) rfl (Nat.le_of_ble_eq_true rfl) ?_
  refine wp_aload_n (i := 0) dX9_fault_0 rfl rfl ?_
  refine wp_iconst (v := 0) dX9_fault_1 (by decide +kernel) ?_
  obtain ⟨s1, es1, h⟩ := ob h
  refine wp_putI2 dX9_fault_2 fl_X9_80 rfl rfl rfl rfl es1 ?_
  refine wp_aload_n (i := 0) dX9_fault_5 rfl rfl ?_
  refine wp_getI dX9_fault_6 fl_X9_166 rfl rfl ?_
  obtain rfl := Option.some.inj h
  exact wp_iret dX9_fault_9 rfl rfl
def f_X9_blank_54 : Nat → Int32 → St → Option (Int32 × St)
  | 0, _, _ => none
  | n + 1, v4, s =>
    if (24 : Int32) ≤ v4 then (
      Option.bind (f_X9_isNew s) fun s2 =>
      Option.bind (f_X9_noMarks s2) fun s3 =>
      some ((1 : Int32), s3))
    else (
      Option.bind (pI s 44 v4 (0 : Int32)) fun s4 =>
      f_X9_blank_54 n (v4 + 1) s4)
set_option maxRecDepth 100000 in
set_option maxHeartbeats 4000000 in
theorem w_X9_blank_54 {r : Int32 × St}   : ∀ (n : Nat) (v4 : Int32) (s : St), f_X9_blank_54  n v4 s = some r → Wp m_X9_blank 1 (PR (some (.int r.1)) r.2) 54 [some (.ref 43), none, none, none, some (.int v4)] [] s := by
  intro n
  induction n with
  | zero => intro v4 s h; cases h
  | succ n ih =>
    intro v4 s h
    unfold f_X9_blank_54 at h
    refine wp_iload dX9_blank_54 rfl ?_
    refine wp_bipush (v := 24) dX9_blank_56 (by decide +kernel) ?_
    refine wp_icmp_ge (tgt := 75) dX9_blank_58 (by decide) (fun c1 => ?_) (fun c1 => ?_)
    · rw [if_pos c1] at h
      refine wp_aload_n (i := 0) dX9_blank_75 rfl rfl ?_
      obtain ⟨s2, es2, h⟩ := ob h
      refine wp_cVv (N := m_X9_isNew) (As := []) (rest := []) dX9_blank_76 ml_X9_172 mo_X9_isNew vo_X9_isNew rfl rfl (ok_X9_isNew es2) (by decide) (Nat.le_of_ble_eq_true rfl) ?_
      refine wp_aload_n (i := 0) dX9_blank_79 rfl rfl ?_
      obtain ⟨s3, es3, h⟩ := ob h
      refine wp_cVv (N := m_X9_noMarks) (As := []) (rest := []) dX9_blank_80 ml_X9_175 mo_X9_noMarks vo_X9_noMarks rfl rfl (ok_X9_noMarks es3) (by decide) (Nat.le_of_ble_eq_true rfl) ?_
      refine wp_iconst (v := 1) dX9_blank_83 (by decide +kernel) ?_
      obtain rfl := Option.some.inj h
      exact wp_iret dX9_blank_84 rfl (narrow_z (Or.inr rfl)).1
    · rw [if_neg c1] at h
      refine wp_aload_n (i := 0) dX9_blank_61 rfl rfl ?_
      refine wp_getR (t := 44) dX9_blank_62 fl_X9_9 rfl rfl ?_
      refine wp_iload dX9_blank_65 rfl ?_
      refine wp_iconst (v := 0) dX9_blank_67 (by decide +kernel) ?_
      obtain ⟨s4, es4, h⟩ := ob h
      refine wp_pI dX9_blank_68 es4 ?_
      refine wp_inc (c := 1) (ls' := [some (.ref 43), none, none, none, some (.int (v4 + 1))]) dX9_blank_69 rfl (by decide +kernel) (by decide) rfl rfl ?_
      refine wp_goto (tgt := 54) dX9_blank_72 (by decide) ?_
      exact wp_sub (ls' := [some (.ref 43), none, none, none, some (.int (v4 + 1))]) ⟨rfl, rfl, trivial⟩ (ih _ _ h)
def f_X9_blank (a1 : Int32) (a2 : Int32) (a3 : Int32) (s : St) : Option (Int32 × St) :=
  Option.bind (some (sF s 43 0 (0 : Int32))) fun s1 =>
  Option.bind (f_X9_in a1 (1 : Int32) (12 : Int32) s1) fun r2 =>
  if r2.1 = 0 then (
    some ((0 : Int32), r2.2))
  else (
    Option.bind (f_X9_in a2 (1 : Int32) (12 : Int32) r2.2) fun r4 =>
    if r4.1 = 0 then (
      some ((0 : Int32), r4.2))
    else (
      Option.bind (f_X9_in a3 (1 : Int32) (3 : Int32) r4.2) fun r6 =>
      if r6.1 = 0 then (
        some ((0 : Int32), r6.2))
      else (
        Option.bind (some (sF r6.2 43 1 a1)) fun s8 =>
        Option.bind (some (sF s8 43 2 a2)) fun s9 =>
        Option.bind (some (sF s9 43 3 a3)) fun s10 =>
        f_X9_blank_54 FU (0 : Int32) s10)))
set_option maxRecDepth 100000 in
set_option maxHeartbeats 4000000 in
theorem ok_X9_blank {a1 : Int32} {a2 : Int32} {a3 : Int32} {s : St} {r : Int32 × St} (h : f_X9_blank a1 a2 a3 s = some r) : Ct 1 m_X9_blank [.ref 43, .int a1, .int a2, .int a3] s (some (.int r.1)) r.2 := by
  unfold f_X9_blank at h
  refine ct_of [some (.ref 43), some (.int a1), some (.int a2), some (.int a3), none] 1 (by decide) rfl (Nat.le_of_ble_eq_true rfl) ?_
  refine wp_aload_n (i := 0) dX9_blank_0 rfl rfl ?_
  refine wp_iconst (v := 0) dX9_blank_1 (by decide +kernel) ?_
  obtain ⟨s1, es1, h⟩ := ob h
  refine wp_putI2 dX9_blank_2 fl_X9_80 rfl rfl rfl rfl es1 ?_
  refine wp_iload_n (i := 1) dX9_blank_5 rfl rfl ?_
  refine wp_iconst (v := 1) dX9_blank_6 (by decide +kernel) ?_
  refine wp_bipush (v := 12) dX9_blank_7 (by decide +kernel) ?_
  obtain ⟨r2, er2, h⟩ := ob h
  refine wp_cSi (N := m_X9_in) (As := [.int a1, .int (1 : Int32), .int (12 : Int32)]) (rest := []) dX9_blank_9 ml_X9_97 mo_X9_in vo_X9_in rfl (ok_X9_in er2) (by decide) (Nat.le_of_ble_eq_true rfl) ?_
  refine wp_if_eq (tgt := 34) dX9_blank_12 (by decide) (fun c3 => ?_) (fun c3 => ?_)
  · rw [if_pos c3] at h
    refine wp_iconst (v := 0) dX9_blank_34 (by decide +kernel) ?_
    obtain rfl := Option.some.inj h
    exact wp_iret dX9_blank_35 rfl (narrow_z (Or.inl rfl)).1
  · rw [if_neg c3] at h
    refine wp_iload_n (i := 2) dX9_blank_15 rfl rfl ?_
    refine wp_iconst (v := 1) dX9_blank_16 (by decide +kernel) ?_
    refine wp_bipush (v := 12) dX9_blank_17 (by decide +kernel) ?_
    obtain ⟨r4, er4, h⟩ := ob h
    refine wp_cSi (N := m_X9_in) (As := [.int a2, .int (1 : Int32), .int (12 : Int32)]) (rest := []) dX9_blank_19 ml_X9_97 mo_X9_in vo_X9_in rfl (ok_X9_in er4) (by decide) (Nat.le_of_ble_eq_true rfl) ?_
    refine wp_if_eq (tgt := 34) dX9_blank_22 (by decide) (fun c5 => ?_) (fun c5 => ?_)
    · rw [if_pos c5] at h
      refine wp_iconst (v := 0) dX9_blank_34 (by decide +kernel) ?_
      obtain rfl := Option.some.inj h
      exact wp_iret dX9_blank_35 rfl (narrow_z (Or.inl rfl)).1
    · rw [if_neg c5] at h
      refine wp_iload_n (i := 3) dX9_blank_25 rfl rfl ?_
      refine wp_iconst (v := 1) dX9_blank_26 (by decide +kernel) ?_
      refine wp_iconst (v := 3) dX9_blank_27 (by decide +kernel) ?_
      obtain ⟨r6, er6, h⟩ := ob h
      refine wp_cSi (N := m_X9_in) (As := [.int a3, .int (1 : Int32), .int (3 : Int32)]) (rest := []) dX9_blank_28 ml_X9_97 mo_X9_in vo_X9_in rfl (ok_X9_in er6) (by decide) (Nat.le_of_ble_eq_true rfl) ?_
      refine wp_if_ne (tgt := 36) dX9_blank_31 (by decide) (fun c7 => ?_) (fun c7 => ?_)
      · rw [if_neg c7] at h
        refine wp_aload_n (i := 0) dX9_blank_36 rfl rfl ?_
        refine wp_iload_n (i := 1) dX9_blank_37 rfl rfl ?_
        obtain ⟨s8, es8, h⟩ := ob h
        refine wp_putI2 dX9_blank_38 fl_X9_83 rfl rfl rfl rfl es8 ?_
        refine wp_aload_n (i := 0) dX9_blank_41 rfl rfl ?_
        refine wp_iload_n (i := 2) dX9_blank_42 rfl rfl ?_
        obtain ⟨s9, es9, h⟩ := ob h
        refine wp_putI2 dX9_blank_43 fl_X9_86 rfl rfl rfl rfl es9 ?_
        refine wp_aload_n (i := 0) dX9_blank_46 rfl rfl ?_
        refine wp_iload_n (i := 3) dX9_blank_47 rfl rfl ?_
        obtain ⟨s10, es10, h⟩ := ob h
        refine wp_putI2 dX9_blank_48 fl_X9_169 rfl rfl rfl rfl es10 ?_
        refine wp_iconst (v := 0) dX9_blank_51 (by decide +kernel) ?_
        refine wp_istore (ls' := [some (.ref 43), some (.int a1), some (.int a2), some (.int a3), some (.int (0 : Int32))]) dX9_blank_52 (by decide) rfl rfl ?_
        exact wp_sub (ls' := [some (.ref 43), none, none, none, some (.int (0 : Int32))]) ⟨rfl, rfl, trivial⟩ (w_X9_blank_54 _ _ _ h)
      · rw [if_pos c7] at h
        refine wp_iconst (v := 0) dX9_blank_34 (by decide +kernel) ?_
        obtain rfl := Option.some.inj h
        exact wp_iret dX9_blank_35 rfl (narrow_z (Or.inl rfl)).1
def f_X9_many_4 : Nat → Int32 → Int32 → Int32 → St → Option (Int32 × St)
  | 0, _, _, _, _ => none
  | n + 1, v0, v1, v2, s =>
    if (4 : Int32) ≤ v2 then (
      some (v1, s))
    else (
      f_X9_many_4 n v0 (v1 + ((v0 >>> (v2 &&& 31)) &&& (1 : Int32))) (v2 + 1) s)
set_option maxRecDepth 100000 in
set_option maxHeartbeats 4000000 in
theorem w_X9_many_4 {r : Int32 × St}   : ∀ (n : Nat) (v0 : Int32) (v1 : Int32) (v2 : Int32) (s : St), f_X9_many_4  n v0 v1 v2 s = some r → Wp m_X9_many 0 (PR (some (.int r.1)) r.2) 4 [some (.int v0), some (.int v1), some (.int v2)] [] s := by
  intro n
  induction n with
  | zero => intro v0 v1 v2 s h; cases h
  | succ n ih =>
    intro v0 v1 v2 s h
    unfold f_X9_many_4 at h
    refine wp_iload_n (i := 2) dX9_many_4 rfl rfl ?_
    refine wp_iconst (v := 4) dX9_many_5 (by decide +kernel) ?_
    refine wp_icmp_ge (tgt := 23) dX9_many_6 (by decide) (fun c1 => ?_) (fun c1 => ?_)
    · rw [if_pos c1] at h
      refine wp_iload_n (i := 1) dX9_many_23 rfl rfl ?_
      obtain rfl := Option.some.inj h
      exact wp_iret dX9_many_24 rfl rfl
    · rw [if_neg c1] at h
      refine wp_iload_n (i := 1) dX9_many_9 rfl rfl ?_
      refine wp_iload_n (i := 0) dX9_many_10 rfl rfl ?_
      refine wp_iload_n (i := 2) dX9_many_11 rfl rfl ?_
      refine wp_ishr dX9_many_12 ?_
      refine wp_iconst (v := 1) dX9_many_13 (by decide +kernel) ?_
      refine wp_iand dX9_many_14 ?_
      refine wp_iadd dX9_many_15 ?_
      refine wp_istore_n (ls' := [some (.int v0), some (.int (v1 + ((v0 >>> (v2 &&& 31)) &&& (1 : Int32)))), some (.int v2)]) dX9_many_16 rfl (by decide) rfl rfl ?_
      refine wp_inc (c := 1) (ls' := [some (.int v0), some (.int (v1 + ((v0 >>> (v2 &&& 31)) &&& (1 : Int32)))), some (.int (v2 + 1))]) dX9_many_17 rfl (by decide +kernel) (by decide) rfl rfl ?_
      refine wp_goto (tgt := 4) dX9_many_20 (by decide) ?_
      exact wp_sub (ls' := [some (.int v0), some (.int (v1 + ((v0 >>> (v2 &&& 31)) &&& (1 : Int32)))), some (.int (v2 + 1))]) ⟨rfl, rfl, rfl, trivial⟩ (ih _ _ _ _ h)
def f_X9_many (a1 : Int32) (s : St) : Option (Int32 × St) :=
  f_X9_many_4 FU a1 (0 : Int32) (0 : Int32) s
set_option maxRecDepth 100000 in
set_option maxHeartbeats 4000000 in
theorem ok_X9_many {a1 : Int32} {s : St} {r : Int32 × St} (h : f_X9_many a1 s = some r) : Ct 0 m_X9_many [.int a1] s (some (.int r.1)) r.2 := by
  unfold f_X9_many at h
  refine ct_of [some (.int a1), none, none] 2 (by decide) rfl (Nat.le_of_ble_eq_true rfl) ?_
  refine wp_iconst (v := 0) dX9_many_0 (by decide +kernel) ?_
  refine wp_istore_n (ls' := [some (.int a1), some (.int (0 : Int32)), none]) dX9_many_1 rfl (by decide) rfl rfl ?_
  refine wp_iconst (v := 0) dX9_many_2 (by decide +kernel) ?_
  refine wp_istore_n (ls' := [some (.int a1), some (.int (0 : Int32)), some (.int (0 : Int32))]) dX9_many_3 rfl (by decide) rfl rfl ?_
  exact wp_sub (ls' := [some (.int a1), some (.int (0 : Int32)), some (.int (0 : Int32))]) ⟨rfl, rfl, rfl, trivial⟩ (w_X9_many_4 _ _ _ _ _ h)
def f_X9_about_124 (K18 : Int32 → Int32 → Int32 → St → Option (Int32 × St)) (v1 : Int32) (v2 : Int32) (v3 : Int32) (s : St) : Option (Int32 × St) :=
  K18 v1 v2 (v3 + 1) s
set_option maxRecDepth 100000 in
set_option maxHeartbeats 4000000 in
theorem w_X9_about_124 {r : Int32 × St} {K18 : Int32 → Int32 → Int32 → St → Option (Int32 × St)} (hK18 : ∀ (v1 : Int32) (v2 : Int32) (v3 : Int32) (s : St), K18 v1 v2 v3 s = some r → Wp m_X9_about 2 (PR (some (.int r.1)) r.2) 18 [some (.ref 43), some (.int v1), some (.int v2), some (.int v3)] [] s) {v1 : Int32} {v2 : Int32} {v3 : Int32}  {s : St} (h : f_X9_about_124 K18 v1 v2 v3 s = some r) : Wp m_X9_about 2 (PR (some (.int r.1)) r.2) 124 [some (.ref 43), some (.int v1), some (.int v2), some (.int v3)] [] s := by
  unfold f_X9_about_124 at h
  refine wp_inc (c := 1) (ls' := [some (.ref 43), some (.int v1), some (.int v2), some (.int (v3 + 1))]) dX9_about_124 rfl (by decide +kernel) (by decide) rfl rfl ?_
  refine wp_goto (tgt := 18) dX9_about_127 (by decide) ?_
  exact wp_sub (ls' := [some (.ref 43), some (.int v1), some (.int v2), some (.int (v3 + 1))]) ⟨rfl, rfl, rfl, rfl, trivial⟩ (hK18 _ _ _ _ h)
def f_X9_about_122 (K18 : Int32 → Int32 → Int32 → St → Option (Int32 × St)) (v1 : Int32) (v3 : Int32) (t0 : Int32) (t1 : Int32) (s : St) : Option (Int32 × St) :=
  f_X9_about_124 K18 v1 (t1 + t0) v3 s
set_option maxRecDepth 100000 in
set_option maxHeartbeats 4000000 in
theorem w_X9_about_122 {r : Int32 × St} {K18 : Int32 → Int32 → Int32 → St → Option (Int32 × St)} (hK18 : ∀ (v1 : Int32) (v2 : Int32) (v3 : Int32) (s : St), K18 v1 v2 v3 s = some r → Wp m_X9_about 2 (PR (some (.int r.1)) r.2) 18 [some (.ref 43), some (.int v1), some (.int v2), some (.int v3)] [] s) {v1 : Int32} {v3 : Int32} {t0 : Int32} {t1 : Int32}  {s : St} (h : f_X9_about_122 K18 v1 v3 t0 t1 s = some r) : Wp m_X9_about 2 (PR (some (.int r.1)) r.2) 122 [some (.ref 43), some (.int v1), none, some (.int v3)] [.int t0, .int t1] s := by
  unfold f_X9_about_122 at h
  refine wp_iadd dX9_about_122 ?_
  refine wp_istore_n (ls' := [some (.ref 43), some (.int v1), some (.int (t1 + t0)), some (.int v3)]) dX9_about_123 rfl (by decide) rfl rfl ?_
  exact wp_sub (ls' := [some (.ref 43), some (.int v1), some (.int (t1 + t0)), some (.int v3)]) ⟨rfl, rfl, rfl, rfl, trivial⟩ (w_X9_about_124 hK18 h)
def f_X9_about_121 (K18 : Int32 → Int32 → Int32 → St → Option (Int32 × St)) (v1 : Int32) (v3 : Int32) (t0 : Int32) (s : St) : Option (Int32 × St) :=
  f_X9_about_122 K18 v1 v3 (0 : Int32) t0 s
set_option maxRecDepth 100000 in
set_option maxHeartbeats 4000000 in
theorem w_X9_about_121 {r : Int32 × St} {K18 : Int32 → Int32 → Int32 → St → Option (Int32 × St)} (hK18 : ∀ (v1 : Int32) (v2 : Int32) (v3 : Int32) (s : St), K18 v1 v2 v3 s = some r → Wp m_X9_about 2 (PR (some (.int r.1)) r.2) 18 [some (.ref 43), some (.int v1), some (.int v2), some (.int v3)] [] s) {v1 : Int32} {v3 : Int32} {t0 : Int32}  {s : St} (h : f_X9_about_121 K18 v1 v3 t0 s = some r) : Wp m_X9_about 2 (PR (some (.int r.1)) r.2) 121 [some (.ref 43), some (.int v1), none, some (.int v3)] [.int t0] s := by
  unfold f_X9_about_121 at h
  refine wp_iconst (v := 0) dX9_about_121 (by decide +kernel) ?_
  exact wp_sub (ls' := [some (.ref 43), some (.int v1), none, some (.int v3)]) ⟨rfl, rfl, rfl, trivial⟩ (w_X9_about_122 hK18 h)
def f_X9_about_90 (K18 : Int32 → Int32 → Int32 → St → Option (Int32 × St)) (v1 : Int32) (v2 : Int32) (v3 : Int32) (s : St) : Option (Int32 × St) :=
  if v1 = (7 : Int32) then (
    if (s.1 43 10) = 0 then (
      f_X9_about_121 K18 v1 v3 v2 s)
    else (
      Option.bind (aI s 49 v3) fun x3 =>
      Option.bind (f_X9_many x3 s) fun r4 =>
      if r4.1 = (1 : Int32) then (
        f_X9_about_122 K18 v1 v3 (1 : Int32) v2 r4.2)
      else (
        f_X9_about_121 K18 v1 v3 v2 r4.2)))
  else (
    f_X9_about_124 K18 v1 v2 v3 s)
set_option maxRecDepth 100000 in
set_option maxHeartbeats 4000000 in
theorem w_X9_about_90 {r : Int32 × St} {K18 : Int32 → Int32 → Int32 → St → Option (Int32 × St)} (hK18 : ∀ (v1 : Int32) (v2 : Int32) (v3 : Int32) (s : St), K18 v1 v2 v3 s = some r → Wp m_X9_about 2 (PR (some (.int r.1)) r.2) 18 [some (.ref 43), some (.int v1), some (.int v2), some (.int v3)] [] s) {v1 : Int32} {v2 : Int32} {v3 : Int32}  {s : St} (h : f_X9_about_90 K18 v1 v2 v3 s = some r) : Wp m_X9_about 2 (PR (some (.int r.1)) r.2) 90 [some (.ref 43), some (.int v1), some (.int v2), some (.int v3)] [] s := by
  unfold f_X9_about_90 at h
  refine wp_iload_n (i := 1) dX9_about_90 rfl rfl ?_
  refine wp_bipush (v := 7) dX9_about_91 (by decide +kernel) ?_
  refine wp_icmp_ne (tgt := 124) dX9_about_93 (by decide) (fun c1 => ?_) (fun c1 => ?_)
  · rw [if_neg c1] at h
    exact wp_sub (ls' := [some (.ref 43), some (.int v1), some (.int v2), some (.int v3)]) ⟨rfl, rfl, rfl, rfl, trivial⟩ (w_X9_about_124 hK18 h)
  · rw [if_pos c1] at h
    refine wp_iload_n (i := 2) dX9_about_96 rfl rfl ?_
    refine wp_aload_n (i := 0) dX9_about_97 rfl rfl ?_
    refine wp_getI dX9_about_98 fl_X9_101 rfl rfl ?_
    refine wp_if_eq (tgt := 121) dX9_about_101 (by decide) (fun c2 => ?_) (fun c2 => ?_)
    · rw [if_pos c2] at h
      exact wp_sub (ls' := [some (.ref 43), some (.int v1), none, some (.int v3)]) ⟨rfl, rfl, rfl, trivial⟩ (w_X9_about_121 hK18 h)
    · rw [if_neg c2] at h
      refine wp_aload_n (i := 0) dX9_about_104 rfl rfl ?_
      refine wp_getR (t := 49) dX9_about_105 fl_X9_25 rfl rfl ?_
      refine wp_iload_n (i := 3) dX9_about_108 rfl rfl ?_
      obtain ⟨x3, ex3, h⟩ := ob h
      refine wp_aI dX9_about_109 ex3 ?_
      obtain ⟨r4, er4, h⟩ := ob h
      refine wp_cSi (N := m_X9_many) (As := [.int x3]) (rest := [.int v2]) dX9_about_110 ml_X9_185 mo_X9_many vo_X9_many rfl (ok_X9_many er4) (by decide) (Nat.le_of_ble_eq_true rfl) ?_
      refine wp_iconst (v := 1) dX9_about_113 (by decide +kernel) ?_
      refine wp_icmp_ne (tgt := 121) dX9_about_114 (by decide) (fun c5 => ?_) (fun c5 => ?_)
      · rw [if_neg c5] at h
        exact wp_sub (ls' := [some (.ref 43), some (.int v1), none, some (.int v3)]) ⟨rfl, rfl, rfl, trivial⟩ (w_X9_about_121 hK18 h)
      · rw [if_pos c5] at h
        refine wp_iconst (v := 1) dX9_about_117 (by decide +kernel) ?_
        refine wp_goto (tgt := 122) dX9_about_118 (by decide) ?_
        exact wp_sub (ls' := [some (.ref 43), some (.int v1), none, some (.int v3)]) ⟨rfl, rfl, rfl, trivial⟩ (w_X9_about_122 hK18 h)
def f_X9_about_88 (K18 : Int32 → Int32 → Int32 → St → Option (Int32 × St)) (v1 : Int32) (v3 : Int32) (t0 : Int32) (t1 : Int32) (s : St) : Option (Int32 × St) :=
  f_X9_about_90 K18 v1 (t1 + t0) v3 s
set_option maxRecDepth 100000 in
set_option maxHeartbeats 4000000 in
theorem w_X9_about_88 {r : Int32 × St} {K18 : Int32 → Int32 → Int32 → St → Option (Int32 × St)} (hK18 : ∀ (v1 : Int32) (v2 : Int32) (v3 : Int32) (s : St), K18 v1 v2 v3 s = some r → Wp m_X9_about 2 (PR (some (.int r.1)) r.2) 18 [some (.ref 43), some (.int v1), some (.int v2), some (.int v3)] [] s) {v1 : Int32} {v3 : Int32} {t0 : Int32} {t1 : Int32}  {s : St} (h : f_X9_about_88 K18 v1 v3 t0 t1 s = some r) : Wp m_X9_about 2 (PR (some (.int r.1)) r.2) 88 [some (.ref 43), some (.int v1), none, some (.int v3)] [.int t0, .int t1] s := by
  unfold f_X9_about_88 at h
  refine wp_iadd dX9_about_88 ?_
  refine wp_istore_n (ls' := [some (.ref 43), some (.int v1), some (.int (t1 + t0)), some (.int v3)]) dX9_about_89 rfl (by decide) rfl rfl ?_
  exact wp_sub (ls' := [some (.ref 43), some (.int v1), some (.int (t1 + t0)), some (.int v3)]) ⟨rfl, rfl, rfl, rfl, trivial⟩ (w_X9_about_90 hK18 h)
def f_X9_about_66 (K18 : Int32 → Int32 → Int32 → St → Option (Int32 × St)) (v1 : Int32) (v2 : Int32) (v3 : Int32) (s : St) : Option (Int32 × St) :=
  if v1 = (6 : Int32) then (
    Option.bind (aI s 48 v3) fun x2 =>
    if x2 = (-1 : Int32) then (
      f_X9_about_88 K18 v1 v3 (0 : Int32) v2 s)
    else (
      f_X9_about_88 K18 v1 v3 (1 : Int32) v2 s))
  else (
    f_X9_about_90 K18 v1 v2 v3 s)
set_option maxRecDepth 100000 in
set_option maxHeartbeats 4000000 in
theorem w_X9_about_66 {r : Int32 × St} {K18 : Int32 → Int32 → Int32 → St → Option (Int32 × St)} (hK18 : ∀ (v1 : Int32) (v2 : Int32) (v3 : Int32) (s : St), K18 v1 v2 v3 s = some r → Wp m_X9_about 2 (PR (some (.int r.1)) r.2) 18 [some (.ref 43), some (.int v1), some (.int v2), some (.int v3)] [] s) {v1 : Int32} {v2 : Int32} {v3 : Int32}  {s : St} (h : f_X9_about_66 K18 v1 v2 v3 s = some r) : Wp m_X9_about 2 (PR (some (.int r.1)) r.2) 66 [some (.ref 43), some (.int v1), some (.int v2), some (.int v3)] [] s := by
  unfold f_X9_about_66 at h
  refine wp_iload_n (i := 1) dX9_about_66 rfl rfl ?_
  refine wp_bipush (v := 6) dX9_about_67 (by decide +kernel) ?_
  refine wp_icmp_ne (tgt := 90) dX9_about_69 (by decide) (fun c1 => ?_) (fun c1 => ?_)
  · rw [if_neg c1] at h
    exact wp_sub (ls' := [some (.ref 43), some (.int v1), some (.int v2), some (.int v3)]) ⟨rfl, rfl, rfl, rfl, trivial⟩ (w_X9_about_90 hK18 h)
  · rw [if_pos c1] at h
    refine wp_iload_n (i := 2) dX9_about_72 rfl rfl ?_
    refine wp_aload_n (i := 0) dX9_about_73 rfl rfl ?_
    refine wp_getR (t := 48) dX9_about_74 fl_X9_22 rfl rfl ?_
    refine wp_iload_n (i := 3) dX9_about_77 rfl rfl ?_
    obtain ⟨x2, ex2, h⟩ := ob h
    refine wp_aI dX9_about_78 ex2 ?_
    refine wp_iconst (v := -1) dX9_about_79 (by decide +kernel) ?_
    refine wp_icmp_eq (tgt := 87) dX9_about_80 (by decide) (fun c3 => ?_) (fun c3 => ?_)
    · rw [if_pos c3] at h
      refine wp_iconst (v := 0) dX9_about_87 (by decide +kernel) ?_
      exact wp_sub (ls' := [some (.ref 43), some (.int v1), none, some (.int v3)]) ⟨rfl, rfl, rfl, trivial⟩ (w_X9_about_88 hK18 h)
    · rw [if_neg c3] at h
      refine wp_iconst (v := 1) dX9_about_83 (by decide +kernel) ?_
      refine wp_goto (tgt := 88) dX9_about_84 (by decide) ?_
      exact wp_sub (ls' := [some (.ref 43), some (.int v1), none, some (.int v3)]) ⟨rfl, rfl, rfl, trivial⟩ (w_X9_about_88 hK18 h)
def f_X9_about_64 (K18 : Int32 → Int32 → Int32 → St → Option (Int32 × St)) (v1 : Int32) (v3 : Int32) (t0 : Int32) (t1 : Int32) (s : St) : Option (Int32 × St) :=
  f_X9_about_66 K18 v1 (t1 + t0) v3 s
set_option maxRecDepth 100000 in
set_option maxHeartbeats 4000000 in
theorem w_X9_about_64 {r : Int32 × St} {K18 : Int32 → Int32 → Int32 → St → Option (Int32 × St)} (hK18 : ∀ (v1 : Int32) (v2 : Int32) (v3 : Int32) (s : St), K18 v1 v2 v3 s = some r → Wp m_X9_about 2 (PR (some (.int r.1)) r.2) 18 [some (.ref 43), some (.int v1), some (.int v2), some (.int v3)] [] s) {v1 : Int32} {v3 : Int32} {t0 : Int32} {t1 : Int32}  {s : St} (h : f_X9_about_64 K18 v1 v3 t0 t1 s = some r) : Wp m_X9_about 2 (PR (some (.int r.1)) r.2) 64 [some (.ref 43), some (.int v1), none, some (.int v3)] [.int t0, .int t1] s := by
  unfold f_X9_about_64 at h
  refine wp_iadd dX9_about_64 ?_
  refine wp_istore_n (ls' := [some (.ref 43), some (.int v1), some (.int (t1 + t0)), some (.int v3)]) dX9_about_65 rfl (by decide) rfl rfl ?_
  exact wp_sub (ls' := [some (.ref 43), some (.int v1), some (.int (t1 + t0)), some (.int v3)]) ⟨rfl, rfl, rfl, rfl, trivial⟩ (w_X9_about_66 hK18 h)
def f_X9_about_18 : Nat → Int32 → Int32 → Int32 → St → Option (Int32 × St)
  | 0, _, _, _, _ => none
  | n + 1, v1, v2, v3, s =>
    if (144 : Int32) ≤ v3 then (
      if v1 = 0 then (
        some (s.1 43 1, s))
      else
      if v1 = 1 then (
        some (s.1 43 2, s))
      else
      if v1 = 2 then (
        some (s.1 43 3, s))
      else
      if v1 = 3 then (
        Option.bind (f_X9_lines s) fun r6 =>
        some (r6.1, r6.2))
      else
      if v1 = 4 then (
        Option.bind (f_X9_runMany s) fun r8 =>
        some (r8.1, r8.2))
      else
      if v1 = 5 then (
        some (v2, s))
      else
      if v1 = 6 then (
        some (v2, s))
      else
      if v1 = 7 then (
        some (v2, s))
      else (
        some ((-1 : Int32), s)))
    else (
      Option.bind (f_X9_isCell (v3 - v3 / (12 : Int32) * (12 : Int32)) (v3 / (12 : Int32)) s) fun r12 =>
      if r12.1 = 0 then (
        f_X9_about_124 (f_X9_about_18 n) v1 v2 v3 r12.2)
      else (
        if v1 = (5 : Int32) then (
          Option.bind (aI r12.2 47 v3) fun x15 =>
          if x15 = (-1 : Int32) then (
            f_X9_about_64 (f_X9_about_18 n) v1 v3 (0 : Int32) v2 r12.2)
          else (
            f_X9_about_64 (f_X9_about_18 n) v1 v3 (1 : Int32) v2 r12.2))
        else (
          f_X9_about_66 (f_X9_about_18 n) v1 v2 v3 r12.2)))
set_option maxRecDepth 100000 in
set_option maxHeartbeats 4000000 in
theorem w_X9_about_18 {r : Int32 × St}   : ∀ (n : Nat) (v1 : Int32) (v2 : Int32) (v3 : Int32) (s : St), f_X9_about_18  n v1 v2 v3 s = some r → Wp m_X9_about 2 (PR (some (.int r.1)) r.2) 18 [some (.ref 43), some (.int v1), some (.int v2), some (.int v3)] [] s := by
  intro n
  induction n with
  | zero => intro v1 v2 v3 s h; cases h
  | succ n ih =>
    intro v1 v2 v3 s h
    unfold f_X9_about_18 at h
    refine wp_iload_n (i := 3) dX9_about_18 rfl rfl ?_
    refine wp_sipush (v := 144) dX9_about_19 (by decide +kernel) ?_
    refine wp_icmp_ge (tgt := 130) dX9_about_22 (by decide) (fun c1 => ?_) (fun c1 => ?_)
    · rw [if_pos c1] at h
      refine wp_iload_n (i := 1) dX9_about_130 rfl rfl ?_
      by_cases c2 : v1 = 0
      · rw [if_pos c2] at h
        refine wp_tIn (tgt := 176) (off := 45) dX9_about_131 (by rw [c2]; decide +kernel) (by rw [c2]; decide +kernel) (by rw [c2]; decide +kernel) (by decide) ?_
        refine wp_aload_n (i := 0) dX9_about_176 rfl rfl ?_
        refine wp_getI dX9_about_177 fl_X9_83 rfl rfl ?_
        obtain rfl := Option.some.inj h
        exact wp_iret dX9_about_180 rfl rfl
      rw [if_neg c2] at h
      by_cases c3 : v1 = 1
      · rw [if_pos c3] at h
        refine wp_tIn (tgt := 181) (off := 50) dX9_about_131 (by rw [c3]; decide +kernel) (by rw [c3]; decide +kernel) (by rw [c3]; decide +kernel) (by decide) ?_
        refine wp_aload_n (i := 0) dX9_about_181 rfl rfl ?_
        refine wp_getI dX9_about_182 fl_X9_86 rfl rfl ?_
        obtain rfl := Option.some.inj h
        exact wp_iret dX9_about_185 rfl rfl
      rw [if_neg c3] at h
      by_cases c4 : v1 = 2
      · rw [if_pos c4] at h
        refine wp_tIn (tgt := 186) (off := 55) dX9_about_131 (by rw [c4]; decide +kernel) (by rw [c4]; decide +kernel) (by rw [c4]; decide +kernel) (by decide) ?_
        refine wp_aload_n (i := 0) dX9_about_186 rfl rfl ?_
        refine wp_getI dX9_about_187 fl_X9_169 rfl rfl ?_
        obtain rfl := Option.some.inj h
        exact wp_iret dX9_about_190 rfl rfl
      rw [if_neg c4] at h
      by_cases c5 : v1 = 3
      · rw [if_pos c5] at h
        refine wp_tIn (tgt := 191) (off := 60) dX9_about_131 (by rw [c5]; decide +kernel) (by rw [c5]; decide +kernel) (by rw [c5]; decide +kernel) (by decide) ?_
        refine wp_aload_n (i := 0) dX9_about_191 rfl rfl ?_
        obtain ⟨r6, er6, h⟩ := ob h
        refine wp_cVi (N := m_X9_lines) (As := []) (rest := []) dX9_about_192 ml_X9_93 mo_X9_lines vo_X9_lines rfl rfl (ok_X9_lines er6) (by decide) (Nat.le_of_ble_eq_true rfl) ?_
        obtain rfl := Option.some.inj h
        exact wp_iret dX9_about_195 rfl rfl
      rw [if_neg c5] at h
      by_cases c7 : v1 = 4
      · rw [if_pos c7] at h
        refine wp_tIn (tgt := 196) (off := 65) dX9_about_131 (by rw [c7]; decide +kernel) (by rw [c7]; decide +kernel) (by rw [c7]; decide +kernel) (by decide) ?_
        refine wp_aload_n (i := 0) dX9_about_196 rfl rfl ?_
        obtain ⟨r8, er8, h⟩ := ob h
        refine wp_cVi (N := m_X9_runMany) (As := []) (rest := []) dX9_about_197 ml_X9_178 mo_X9_runMany vo_X9_runMany rfl rfl (ok_X9_runMany er8) (by decide) (Nat.le_of_ble_eq_true rfl) ?_
        obtain rfl := Option.some.inj h
        exact wp_iret dX9_about_200 rfl rfl
      rw [if_neg c7] at h
      by_cases c9 : v1 = 5
      · rw [if_pos c9] at h
        refine wp_tIn (tgt := 201) (off := 70) dX9_about_131 (by rw [c9]; decide +kernel) (by rw [c9]; decide +kernel) (by rw [c9]; decide +kernel) (by decide) ?_
        refine wp_iload_n (i := 2) dX9_about_201 rfl rfl ?_
        obtain rfl := Option.some.inj h
        exact wp_iret dX9_about_202 rfl rfl
      rw [if_neg c9] at h
      by_cases c10 : v1 = 6
      · rw [if_pos c10] at h
        refine wp_tIn (tgt := 201) (off := 70) dX9_about_131 (by rw [c10]; decide +kernel) (by rw [c10]; decide +kernel) (by rw [c10]; decide +kernel) (by decide) ?_
        refine wp_iload_n (i := 2) dX9_about_201 rfl rfl ?_
        obtain rfl := Option.some.inj h
        exact wp_iret dX9_about_202 rfl rfl
      rw [if_neg c10] at h
      by_cases c11 : v1 = 7
      · rw [if_pos c11] at h
        refine wp_tIn (tgt := 201) (off := 70) dX9_about_131 (by rw [c11]; decide +kernel) (by rw [c11]; decide +kernel) (by rw [c11]; decide +kernel) (by decide) ?_
        refine wp_iload_n (i := 2) dX9_about_201 rfl rfl ?_
        obtain rfl := Option.some.inj h
        exact wp_iret dX9_about_202 rfl rfl
      rw [if_neg c11] at h
      refine wp_tOut (tgt := 203) dX9_about_131 (tsw_out 8 (by decide) (by decide) (fun i hi => by match i, hi with | 0, _ => exact c2 | 1, _ => exact c3 | 2, _ => exact c4 | 3, _ => exact c5 | 4, _ => exact c7 | 5, _ => exact c9 | 6, _ => exact c10 | 7, _ => exact c11)) (by decide) ?_
      refine wp_iconst (v := -1) dX9_about_203 (by decide +kernel) ?_
      obtain rfl := Option.some.inj h
      exact wp_iret dX9_about_204 rfl rfl
    · rw [if_neg c1] at h
      refine wp_aload_n (i := 0) dX9_about_25 rfl rfl ?_
      refine wp_iload_n (i := 3) dX9_about_26 rfl rfl ?_
      refine wp_bipush (v := 12) dX9_about_27 (by decide +kernel) ?_
      refine wp_irem dX9_about_29 (by decide +kernel) ?_
      refine wp_iload_n (i := 3) dX9_about_30 rfl rfl ?_
      refine wp_bipush (v := 12) dX9_about_31 (by decide +kernel) ?_
      refine wp_idiv dX9_about_33 (by decide +kernel) ?_
      obtain ⟨r12, er12, h⟩ := ob h
      refine wp_cVi (N := m_X9_isCell) (As := [.int (v3 - v3 / (12 : Int32) * (12 : Int32)), .int (v3 / (12 : Int32))]) (rest := []) dX9_about_34 ml_X9_181 mo_X9_isCell vo_X9_isCell rfl rfl (ok_X9_isCell er12) (by decide) (Nat.le_of_ble_eq_true rfl) ?_
      refine wp_if_ne (tgt := 43) dX9_about_37 (by decide) (fun c13 => ?_) (fun c13 => ?_)
      · rw [if_neg c13] at h
        refine wp_iload_n (i := 1) dX9_about_43 rfl rfl ?_
        refine wp_iconst (v := 5) dX9_about_44 (by decide +kernel) ?_
        refine wp_icmp_ne (tgt := 66) dX9_about_45 (by decide) (fun c14 => ?_) (fun c14 => ?_)
        · rw [if_neg c14] at h
          exact wp_sub (ls' := [some (.ref 43), some (.int v1), some (.int v2), some (.int v3)]) ⟨rfl, rfl, rfl, rfl, trivial⟩ (w_X9_about_66 ih h)
        · rw [if_pos c14] at h
          refine wp_iload_n (i := 2) dX9_about_48 rfl rfl ?_
          refine wp_aload_n (i := 0) dX9_about_49 rfl rfl ?_
          refine wp_getR (t := 47) dX9_about_50 fl_X9_19 rfl rfl ?_
          refine wp_iload_n (i := 3) dX9_about_53 rfl rfl ?_
          obtain ⟨x15, ex15, h⟩ := ob h
          refine wp_aI dX9_about_54 ex15 ?_
          refine wp_iconst (v := -1) dX9_about_55 (by decide +kernel) ?_
          refine wp_icmp_eq (tgt := 63) dX9_about_56 (by decide) (fun c16 => ?_) (fun c16 => ?_)
          · rw [if_pos c16] at h
            refine wp_iconst (v := 0) dX9_about_63 (by decide +kernel) ?_
            exact wp_sub (ls' := [some (.ref 43), some (.int v1), none, some (.int v3)]) ⟨rfl, rfl, rfl, trivial⟩ (w_X9_about_64 ih h)
          · rw [if_neg c16] at h
            refine wp_iconst (v := 1) dX9_about_59 (by decide +kernel) ?_
            refine wp_goto (tgt := 64) dX9_about_60 (by decide) ?_
            exact wp_sub (ls' := [some (.ref 43), some (.int v1), none, some (.int v3)]) ⟨rfl, rfl, rfl, trivial⟩ (w_X9_about_64 ih h)
      · rw [if_pos c13] at h
        refine wp_goto (tgt := 124) dX9_about_40 (by decide) ?_
        exact wp_sub (ls' := [some (.ref 43), some (.int v1), some (.int v2), some (.int v3)]) ⟨rfl, rfl, rfl, rfl, trivial⟩ (w_X9_about_124 ih h)
def f_X9_about (a1 : Int32) (s : St) : Option (Int32 × St) :=
  Option.bind (some (sF s 43 0 (0 : Int32))) fun s1 =>
  Option.bind (f_X9_is s1) fun r2 =>
  if r2.1 = 0 then (
    some ((-1 : Int32), r2.2))
  else (
    f_X9_about_18 FU a1 (0 : Int32) (0 : Int32) r2.2)
set_option maxRecDepth 100000 in
set_option maxHeartbeats 4000000 in
theorem ok_X9_about {a1 : Int32} {s : St} {r : Int32 × St} (h : f_X9_about a1 s = some r) : Ct 2 m_X9_about [.ref 43, .int a1] s (some (.int r.1)) r.2 := by
  unfold f_X9_about at h
  refine ct_of [some (.ref 43), some (.int a1), none, none] 2 (by decide) rfl (Nat.le_of_ble_eq_true rfl) ?_
  refine wp_aload_n (i := 0) dX9_about_0 rfl rfl ?_
  refine wp_iconst (v := 0) dX9_about_1 (by decide +kernel) ?_
  obtain ⟨s1, es1, h⟩ := ob h
  refine wp_putI2 dX9_about_2 fl_X9_80 rfl rfl rfl rfl es1 ?_
  refine wp_aload_n (i := 0) dX9_about_5 rfl rfl ?_
  obtain ⟨r2, er2, h⟩ := ob h
  refine wp_cVi (N := m_X9_is) (As := []) (rest := []) dX9_about_6 ml_X9_89 mo_X9_is vo_X9_is rfl rfl (ok_X9_is er2) (by decide) (Nat.le_of_ble_eq_true rfl) ?_
  refine wp_if_ne (tgt := 14) dX9_about_9 (by decide) (fun c3 => ?_) (fun c3 => ?_)
  · rw [if_neg c3] at h
    refine wp_iconst (v := 0) dX9_about_14 (by decide +kernel) ?_
    refine wp_istore_n (ls' := [some (.ref 43), some (.int a1), some (.int (0 : Int32)), none]) dX9_about_15 rfl (by decide) rfl rfl ?_
    refine wp_iconst (v := 0) dX9_about_16 (by decide +kernel) ?_
    refine wp_istore_n (ls' := [some (.ref 43), some (.int a1), some (.int (0 : Int32)), some (.int (0 : Int32))]) dX9_about_17 rfl (by decide) rfl rfl ?_
    exact wp_sub (ls' := [some (.ref 43), some (.int a1), some (.int (0 : Int32)), some (.int (0 : Int32))]) ⟨rfl, rfl, rfl, rfl, trivial⟩ (w_X9_about_18 _ _ _ _ _ h)
  · rw [if_pos c3] at h
    refine wp_iconst (v := -1) dX9_about_12 (by decide +kernel) ?_
    obtain rfl := Option.some.inj h
    exact wp_iret dX9_about_13 rfl rfl
def f_X9_run (a1 : Int32) (a2 : Int32) (a3 : Int32) (s : St) : Option (Int32 × St) :=
  Option.bind (some (sF s 43 0 (0 : Int32))) fun s1 =>
  Option.bind (f_X9_isLine a1 s1) fun r2 =>
  if r2.1 = 0 then (
    some ((-1 : Int32), r2.2))
  else (
    if a2 = (-1 : Int32) then (
      Option.bind (aI r2.2 44 a1) fun x13 =>
      some (x13, r2.2))
    else (
      Option.bind (aI r2.2 44 a1) fun x5 =>
      Option.bind (f_X9_in a2 (0 : Int32) (x5 - (1 : Int32)) r2.2) fun r6 =>
      if r6.1 = 0 then (
        some ((-1 : Int32), r6.2))
      else (
        Option.bind (f_X9_in a3 (0 : Int32) (1 : Int32) r6.2) fun r8 =>
        if r8.1 = 0 then (
          some ((-1 : Int32), r8.2))
        else (
          if a3 = 0 then (
            Option.bind (aI r8.2 45 (((12 : Int32) * a1) + a2)) fun x12 =>
            some (x12, r8.2))
          else (
            Option.bind (aI r8.2 46 (((12 : Int32) * a1) + a2)) fun x11 =>
            some (x11, r8.2))))))
set_option maxRecDepth 100000 in
set_option maxHeartbeats 4000000 in
theorem ok_X9_run {a1 : Int32} {a2 : Int32} {a3 : Int32} {s : St} {r : Int32 × St} (h : f_X9_run a1 a2 a3 s = some r) : Ct 2 m_X9_run [.ref 43, .int a1, .int a2, .int a3] s (some (.int r.1)) r.2 := by
  unfold f_X9_run at h
  refine ct_of [some (.ref 43), some (.int a1), some (.int a2), some (.int a3)] 0 (by decide) rfl (Nat.le_of_ble_eq_true rfl) ?_
  refine wp_aload_n (i := 0) dX9_run_0 rfl rfl ?_
  refine wp_iconst (v := 0) dX9_run_1 (by decide +kernel) ?_
  obtain ⟨s1, es1, h⟩ := ob h
  refine wp_putI2 dX9_run_2 fl_X9_80 rfl rfl rfl rfl es1 ?_
  refine wp_aload_n (i := 0) dX9_run_5 rfl rfl ?_
  refine wp_iload_n (i := 1) dX9_run_6 rfl rfl ?_
  obtain ⟨r2, er2, h⟩ := ob h
  refine wp_cVi (N := m_X9_isLine) (As := [.int a1]) (rest := []) dX9_run_7 ml_X9_189 mo_X9_isLine vo_X9_isLine rfl rfl (ok_X9_isLine er2) (by decide) (Nat.le_of_ble_eq_true rfl) ?_
  refine wp_if_ne (tgt := 15) dX9_run_10 (by decide) (fun c3 => ?_) (fun c3 => ?_)
  · rw [if_neg c3] at h
    refine wp_iload_n (i := 2) dX9_run_15 rfl rfl ?_
    refine wp_iconst (v := -1) dX9_run_16 (by decide +kernel) ?_
    refine wp_icmp_ne (tgt := 27) dX9_run_17 (by decide) (fun c4 => ?_) (fun c4 => ?_)
    · rw [if_neg c4] at h
      refine wp_iload_n (i := 2) dX9_run_27 rfl rfl ?_
      refine wp_iconst (v := 0) dX9_run_28 (by decide +kernel) ?_
      refine wp_aload_n (i := 0) dX9_run_29 rfl rfl ?_
      refine wp_getR (t := 44) dX9_run_30 fl_X9_9 rfl rfl ?_
      refine wp_iload_n (i := 1) dX9_run_33 rfl rfl ?_
      obtain ⟨x5, ex5, h⟩ := ob h
      refine wp_aI dX9_run_34 ex5 ?_
      refine wp_iconst (v := 1) dX9_run_35 (by decide +kernel) ?_
      refine wp_isub dX9_run_36 ?_
      obtain ⟨r6, er6, h⟩ := ob h
      refine wp_cSi (N := m_X9_in) (As := [.int a2, .int (0 : Int32), .int (x5 - (1 : Int32))]) (rest := []) dX9_run_37 ml_X9_97 mo_X9_in vo_X9_in rfl (ok_X9_in er6) (by decide) (Nat.le_of_ble_eq_true rfl) ?_
      refine wp_if_eq (tgt := 52) dX9_run_40 (by decide) (fun c7 => ?_) (fun c7 => ?_)
      · rw [if_pos c7] at h
        refine wp_iconst (v := -1) dX9_run_52 (by decide +kernel) ?_
        obtain rfl := Option.some.inj h
        exact wp_iret dX9_run_53 rfl rfl
      · rw [if_neg c7] at h
        refine wp_iload_n (i := 3) dX9_run_43 rfl rfl ?_
        refine wp_iconst (v := 0) dX9_run_44 (by decide +kernel) ?_
        refine wp_iconst (v := 1) dX9_run_45 (by decide +kernel) ?_
        obtain ⟨r8, er8, h⟩ := ob h
        refine wp_cSi (N := m_X9_in) (As := [.int a3, .int (0 : Int32), .int (1 : Int32)]) (rest := []) dX9_run_46 ml_X9_97 mo_X9_in vo_X9_in rfl (ok_X9_in er8) (by decide) (Nat.le_of_ble_eq_true rfl) ?_
        refine wp_if_ne (tgt := 54) dX9_run_49 (by decide) (fun c9 => ?_) (fun c9 => ?_)
        · rw [if_neg c9] at h
          refine wp_iload_n (i := 3) dX9_run_54 rfl rfl ?_
          refine wp_if_ne (tgt := 72) dX9_run_55 (by decide) (fun c10 => ?_) (fun c10 => ?_)
          · rw [if_neg c10] at h
            refine wp_aload_n (i := 0) dX9_run_72 rfl rfl ?_
            refine wp_getR (t := 46) dX9_run_73 fl_X9_16 rfl rfl ?_
            refine wp_bipush (v := 12) dX9_run_76 (by decide +kernel) ?_
            refine wp_iload_n (i := 1) dX9_run_78 rfl rfl ?_
            refine wp_imul dX9_run_79 ?_
            refine wp_iload_n (i := 2) dX9_run_80 rfl rfl ?_
            refine wp_iadd dX9_run_81 ?_
            obtain ⟨x11, ex11, h⟩ := ob h
            refine wp_aI dX9_run_82 ex11 ?_
            obtain rfl := Option.some.inj h
            exact wp_iret dX9_run_83 rfl rfl
          · rw [if_pos c10] at h
            refine wp_aload_n (i := 0) dX9_run_58 rfl rfl ?_
            refine wp_getR (t := 45) dX9_run_59 fl_X9_13 rfl rfl ?_
            refine wp_bipush (v := 12) dX9_run_62 (by decide +kernel) ?_
            refine wp_iload_n (i := 1) dX9_run_64 rfl rfl ?_
            refine wp_imul dX9_run_65 ?_
            refine wp_iload_n (i := 2) dX9_run_66 rfl rfl ?_
            refine wp_iadd dX9_run_67 ?_
            obtain ⟨x12, ex12, h⟩ := ob h
            refine wp_aI dX9_run_68 ex12 ?_
            refine wp_goto (tgt := 83) dX9_run_69 (by decide) ?_
            obtain rfl := Option.some.inj h
            exact wp_iret dX9_run_83 rfl rfl
        · rw [if_pos c9] at h
          refine wp_iconst (v := -1) dX9_run_52 (by decide +kernel) ?_
          obtain rfl := Option.some.inj h
          exact wp_iret dX9_run_53 rfl rfl
    · rw [if_pos c4] at h
      refine wp_aload_n (i := 0) dX9_run_20 rfl rfl ?_
      refine wp_getR (t := 44) dX9_run_21 fl_X9_9 rfl rfl ?_
      refine wp_iload_n (i := 1) dX9_run_24 rfl rfl ?_
      obtain ⟨x13, ex13, h⟩ := ob h
      refine wp_aI dX9_run_25 ex13 ?_
      obtain rfl := Option.some.inj h
      exact wp_iret dX9_run_26 rfl rfl
  · rw [if_pos c3] at h
    refine wp_iconst (v := -1) dX9_run_13 (by decide +kernel) ?_
    obtain rfl := Option.some.inj h
    exact wp_iret dX9_run_14 rfl rfl
def f_X9_give (a1 : Int32) (a2 : Int32) (a3 : Int32) (s : St) : Option (Int32 × St) :=
  Option.bind (some (sF s 43 0 (0 : Int32))) fun s1 =>
  Option.bind (f_X9_isCell a1 a2 s1) fun r2 =>
  if r2.1 = 0 then (
    some ((0 : Int32), r2.2))
  else (
    Option.bind (f_X9_in a3 (-1 : Int32) (r2.2.1 43 3) r2.2) fun r4 =>
    if r4.1 = 0 then (
      some ((0 : Int32), r4.2))
    else (
      Option.bind (pI r4.2 47 (((12 : Int32) * a2) + a1) a3) fun s6 =>
      Option.bind (some (sF s6 43 11 (0 : Int32))) fun s7 =>
      some ((1 : Int32), s7)))
set_option maxRecDepth 100000 in
set_option maxHeartbeats 4000000 in
theorem ok_X9_give {a1 : Int32} {a2 : Int32} {a3 : Int32} {s : St} {r : Int32 × St} (h : f_X9_give a1 a2 a3 s = some r) : Ct 2 m_X9_give [.ref 43, .int a1, .int a2, .int a3] s (some (.int r.1)) r.2 := by
  unfold f_X9_give at h
  refine ct_of [some (.ref 43), some (.int a1), some (.int a2), some (.int a3)] 0 (by decide) rfl (Nat.le_of_ble_eq_true rfl) ?_
  refine wp_aload_n (i := 0) dX9_give_0 rfl rfl ?_
  refine wp_iconst (v := 0) dX9_give_1 (by decide +kernel) ?_
  obtain ⟨s1, es1, h⟩ := ob h
  refine wp_putI2 dX9_give_2 fl_X9_80 rfl rfl rfl rfl es1 ?_
  refine wp_aload_n (i := 0) dX9_give_5 rfl rfl ?_
  refine wp_iload_n (i := 1) dX9_give_6 rfl rfl ?_
  refine wp_iload_n (i := 2) dX9_give_7 rfl rfl ?_
  obtain ⟨r2, er2, h⟩ := ob h
  refine wp_cVi (N := m_X9_isCell) (As := [.int a1, .int a2]) (rest := []) dX9_give_8 ml_X9_181 mo_X9_isCell vo_X9_isCell rfl rfl (ok_X9_isCell er2) (by decide) (Nat.le_of_ble_eq_true rfl) ?_
  refine wp_if_eq (tgt := 26) dX9_give_11 (by decide) (fun c3 => ?_) (fun c3 => ?_)
  · rw [if_pos c3] at h
    refine wp_iconst (v := 0) dX9_give_26 (by decide +kernel) ?_
    obtain rfl := Option.some.inj h
    exact wp_iret dX9_give_27 rfl (narrow_z (Or.inl rfl)).1
  · rw [if_neg c3] at h
    refine wp_iload_n (i := 3) dX9_give_14 rfl rfl ?_
    refine wp_iconst (v := -1) dX9_give_15 (by decide +kernel) ?_
    refine wp_aload_n (i := 0) dX9_give_16 rfl rfl ?_
    refine wp_getI dX9_give_17 fl_X9_169 rfl rfl ?_
    obtain ⟨r4, er4, h⟩ := ob h
    refine wp_cSi (N := m_X9_in) (As := [.int a3, .int (-1 : Int32), .int (r2.2.1 43 3)]) (rest := []) dX9_give_20 ml_X9_97 mo_X9_in vo_X9_in rfl (ok_X9_in er4) (by decide) (Nat.le_of_ble_eq_true rfl) ?_
    refine wp_if_ne (tgt := 28) dX9_give_23 (by decide) (fun c5 => ?_) (fun c5 => ?_)
    · rw [if_neg c5] at h
      refine wp_aload_n (i := 0) dX9_give_28 rfl rfl ?_
      refine wp_getR (t := 47) dX9_give_29 fl_X9_19 rfl rfl ?_
      refine wp_bipush (v := 12) dX9_give_32 (by decide +kernel) ?_
      refine wp_iload_n (i := 2) dX9_give_34 rfl rfl ?_
      refine wp_imul dX9_give_35 ?_
      refine wp_iload_n (i := 1) dX9_give_36 rfl rfl ?_
      refine wp_iadd dX9_give_37 ?_
      refine wp_iload_n (i := 3) dX9_give_38 rfl rfl ?_
      obtain ⟨s6, es6, h⟩ := ob h
      refine wp_pI dX9_give_39 es6 ?_
      refine wp_aload_n (i := 0) dX9_give_40 rfl rfl ?_
      refine wp_iconst (v := 0) dX9_give_41 (by decide +kernel) ?_
      obtain ⟨s7, es7, h⟩ := ob h
      refine wp_putZ2 dX9_give_42 fl_X9_105 rfl rfl rfl rfl (Or.inl rfl) es7 ?_
      refine wp_iconst (v := 1) dX9_give_45 (by decide +kernel) ?_
      obtain rfl := Option.some.inj h
      exact wp_iret dX9_give_46 rfl (narrow_z (Or.inr rfl)).1
    · rw [if_pos c5] at h
      refine wp_iconst (v := 0) dX9_give_26 (by decide +kernel) ?_
      obtain rfl := Option.some.inj h
      exact wp_iret dX9_give_27 rfl (narrow_z (Or.inl rfl)).1
def f_X9_given (a1 : Int32) (a2 : Int32) (s : St) : Option (Int32 × St) :=
  Option.bind (some (sF s 43 0 (0 : Int32))) fun s1 =>
  Option.bind (f_X9_isCell a1 a2 s1) fun r2 =>
  if r2.1 = 0 then (
    some ((-1 : Int32), r2.2))
  else (
    Option.bind (aI r2.2 47 (((12 : Int32) * a2) + a1)) fun x4 =>
    some (x4, r2.2))
set_option maxRecDepth 100000 in
set_option maxHeartbeats 4000000 in
theorem ok_X9_given {a1 : Int32} {a2 : Int32} {s : St} {r : Int32 × St} (h : f_X9_given a1 a2 s = some r) : Ct 2 m_X9_given [.ref 43, .int a1, .int a2] s (some (.int r.1)) r.2 := by
  unfold f_X9_given at h
  refine ct_of [some (.ref 43), some (.int a1), some (.int a2)] 0 (by decide) rfl (Nat.le_of_ble_eq_true rfl) ?_
  refine wp_aload_n (i := 0) dX9_given_0 rfl rfl ?_
  refine wp_iconst (v := 0) dX9_given_1 (by decide +kernel) ?_
  obtain ⟨s1, es1, h⟩ := ob h
  refine wp_putI2 dX9_given_2 fl_X9_80 rfl rfl rfl rfl es1 ?_
  refine wp_aload_n (i := 0) dX9_given_5 rfl rfl ?_
  refine wp_iload_n (i := 1) dX9_given_6 rfl rfl ?_
  refine wp_iload_n (i := 2) dX9_given_7 rfl rfl ?_
  obtain ⟨r2, er2, h⟩ := ob h
  refine wp_cVi (N := m_X9_isCell) (As := [.int a1, .int a2]) (rest := []) dX9_given_8 ml_X9_181 mo_X9_isCell vo_X9_isCell rfl rfl (ok_X9_isCell er2) (by decide) (Nat.le_of_ble_eq_true rfl) ?_
  refine wp_if_eq (tgt := 28) dX9_given_11 (by decide) (fun c3 => ?_) (fun c3 => ?_)
  · rw [if_pos c3] at h
    refine wp_iconst (v := -1) dX9_given_28 (by decide +kernel) ?_
    obtain rfl := Option.some.inj h
    exact wp_iret dX9_given_29 rfl rfl
  · rw [if_neg c3] at h
    refine wp_aload_n (i := 0) dX9_given_14 rfl rfl ?_
    refine wp_getR (t := 47) dX9_given_15 fl_X9_19 rfl rfl ?_
    refine wp_bipush (v := 12) dX9_given_18 (by decide +kernel) ?_
    refine wp_iload_n (i := 2) dX9_given_20 rfl rfl ?_
    refine wp_imul dX9_given_21 ?_
    refine wp_iload_n (i := 1) dX9_given_22 rfl rfl ?_
    refine wp_iadd dX9_given_23 ?_
    obtain ⟨x4, ex4, h⟩ := ob h
    refine wp_aI dX9_given_24 ex4 ?_
    refine wp_goto (tgt := 29) dX9_given_25 (by decide) ?_
    obtain rfl := Option.some.inj h
    exact wp_iret dX9_given_29 rfl rfl
def f_X9_first_44 (a1 : Nat) (K2 : Int32 → Int32 → St → Option (St)) (v2 : Int32) (v3 : Int32) (t0 : Int32) (t1 : Int32) (t2 : Nat) (s : St) : Option (St) :=
  Option.bind (pI s t2 t1 t0) fun s1 =>
  K2 v2 (v3 + 1) s1
set_option maxRecDepth 100000 in
set_option maxHeartbeats 4000000 in
theorem w_X9_first_44 {r : St} {a1 : Nat} {K2 : Int32 → Int32 → St → Option (St)} (hK2 : ∀ (v2 : Int32) (v3 : Int32) (s : St), K2 v2 v3 s = some r → Wp m_X9_first 0 (PR none r) 2 [some (.ref 43), some (.ref a1), some (.int v2), some (.int v3)] [] s) {v2 : Int32} {v3 : Int32} {t0 : Int32} {t1 : Int32} {t2 : Nat}  {s : St} (h : f_X9_first_44 a1 K2 v2 v3 t0 t1 t2 s = some r) : Wp m_X9_first 0 (PR none r) 44 [some (.ref 43), some (.ref a1), some (.int v2), some (.int v3)] [.int t0, .int t1, .ref t2] s := by
  unfold f_X9_first_44 at h
  obtain ⟨s1, es1, h⟩ := ob h
  refine wp_pI dX9_first_44 es1 ?_
  refine wp_inc (c := 1) (ls' := [some (.ref 43), some (.ref a1), some (.int v2), some (.int (v3 + 1))]) dX9_first_45 rfl (by decide +kernel) (by decide) rfl rfl ?_
  refine wp_goto (tgt := 2) dX9_first_48 (by decide) ?_
  exact wp_sub (ls' := [some (.ref 43), some (.ref a1), some (.int v2), some (.int (v3 + 1))]) ⟨rfl, rfl, rfl, rfl, trivial⟩ (hK2 _ _ _ h)
def f_X9_first_2 (a1 : Nat) : Nat → Int32 → Int32 → St → Option (St)
  | 0, _, _, _ => none
  | n + 1, v2, v3, s =>
    if (144 : Int32) ≤ v3 then (
      some s)
    else (
      Option.bind (aI s 47 v3) fun x2 =>
      if x2 = (-1 : Int32) then (
        f_X9_first_44 a1 (f_X9_first_2 a1 n) v2 v3 (((1 : Int32) <<< (((s.1 43 3) + (1 : Int32)) &&& 31)) - (1 : Int32)) (v2 + v3) a1 s)
      else (
        Option.bind (aI s 47 v3) fun x4 =>
        f_X9_first_44 a1 (f_X9_first_2 a1 n) v2 v3 ((1 : Int32) <<< (x4 &&& 31)) (v2 + v3) a1 s))
set_option maxRecDepth 100000 in
set_option maxHeartbeats 4000000 in
theorem w_X9_first_2 {r : St} {a1 : Nat}   : ∀ (n : Nat) (v2 : Int32) (v3 : Int32) (s : St), f_X9_first_2 a1  n v2 v3 s = some r → Wp m_X9_first 0 (PR none r) 2 [some (.ref 43), some (.ref a1), some (.int v2), some (.int v3)] [] s := by
  intro n
  induction n with
  | zero => intro v2 v3 s h; cases h
  | succ n ih =>
    intro v2 v3 s h
    unfold f_X9_first_2 at h
    refine wp_iload_n (i := 3) dX9_first_2 rfl rfl ?_
    refine wp_sipush (v := 144) dX9_first_3 (by decide +kernel) ?_
    refine wp_icmp_ge (tgt := 51) dX9_first_6 (by decide) (fun c1 => ?_) (fun c1 => ?_)
    · rw [if_pos c1] at h
      obtain rfl := Option.some.inj h
      exact wp_vret dX9_first_51 rfl
    · rw [if_neg c1] at h
      refine wp_aload_n (i := 1) dX9_first_9 rfl rfl ?_
      refine wp_iload_n (i := 2) dX9_first_10 rfl rfl ?_
      refine wp_iload_n (i := 3) dX9_first_11 rfl rfl ?_
      refine wp_iadd dX9_first_12 ?_
      refine wp_aload_n (i := 0) dX9_first_13 rfl rfl ?_
      refine wp_getR (t := 47) dX9_first_14 fl_X9_19 rfl rfl ?_
      refine wp_iload_n (i := 3) dX9_first_17 rfl rfl ?_
      obtain ⟨x2, ex2, h⟩ := ob h
      refine wp_aI dX9_first_18 ex2 ?_
      refine wp_iconst (v := -1) dX9_first_19 (by decide +kernel) ?_
      refine wp_icmp_eq (tgt := 34) dX9_first_20 (by decide) (fun c3 => ?_) (fun c3 => ?_)
      · rw [if_pos c3] at h
        refine wp_iconst (v := 1) dX9_first_34 (by decide +kernel) ?_
        refine wp_aload_n (i := 0) dX9_first_35 rfl rfl ?_
        refine wp_getI dX9_first_36 fl_X9_169 rfl rfl ?_
        refine wp_iconst (v := 1) dX9_first_39 (by decide +kernel) ?_
        refine wp_iadd dX9_first_40 ?_
        refine wp_ishl dX9_first_41 ?_
        refine wp_iconst (v := 1) dX9_first_42 (by decide +kernel) ?_
        refine wp_isub dX9_first_43 ?_
        exact wp_sub (ls' := [some (.ref 43), some (.ref a1), some (.int v2), some (.int v3)]) ⟨rfl, rfl, rfl, rfl, trivial⟩ (w_X9_first_44 ih h)
      · rw [if_neg c3] at h
        refine wp_iconst (v := 1) dX9_first_23 (by decide +kernel) ?_
        refine wp_aload_n (i := 0) dX9_first_24 rfl rfl ?_
        refine wp_getR (t := 47) dX9_first_25 fl_X9_19 rfl rfl ?_
        refine wp_iload_n (i := 3) dX9_first_28 rfl rfl ?_
        obtain ⟨x4, ex4, h⟩ := ob h
        refine wp_aI dX9_first_29 ex4 ?_
        refine wp_ishl dX9_first_30 ?_
        refine wp_goto (tgt := 44) dX9_first_31 (by decide) ?_
        exact wp_sub (ls' := [some (.ref 43), some (.ref a1), some (.int v2), some (.int v3)]) ⟨rfl, rfl, rfl, rfl, trivial⟩ (w_X9_first_44 ih h)
def f_X9_first (a1 : Nat) (a2 : Int32) (s : St) : Option (St) :=
  f_X9_first_2 a1 FU a2 (0 : Int32) s
set_option maxRecDepth 100000 in
set_option maxHeartbeats 4000000 in
theorem ok_X9_first {a1 : Nat} {a2 : Int32} {s : St} {r : St} (h : f_X9_first a1 a2 s = some r) : Ct 0 m_X9_first [.ref 43, .ref a1, .int a2] s none r := by
  unfold f_X9_first at h
  refine ct_of [some (.ref 43), some (.ref a1), some (.int a2), none] 1 (by decide) rfl (Nat.le_of_ble_eq_true rfl) ?_
  refine wp_iconst (v := 0) dX9_first_0 (by decide +kernel) ?_
  refine wp_istore_n (ls' := [some (.ref 43), some (.ref a1), some (.int a2), some (.int (0 : Int32))]) dX9_first_1 rfl (by decide) rfl rfl ?_
  exact wp_sub (ls' := [some (.ref 43), some (.ref a1), some (.int a2), some (.int (0 : Int32))]) ⟨rfl, rfl, rfl, rfl, trivial⟩ (w_X9_first_2 _ _ _ _ h)
def f_X9_fresh  (s : St) : Option (Int32 × St) :=
  Option.bind (some (sF s 43 0 (0 : Int32))) fun s1 =>
  Option.bind (f_X9_is s1) fun r2 =>
  if r2.1 = 0 then (
    some ((0 : Int32), r2.2))
  else (
    Option.bind (f_X9_first 49 (0 : Int32) r2.2) fun s4 =>
    Option.bind (some (sF s4 43 10 (1 : Int32))) fun s5 =>
    some ((1 : Int32), s5))
set_option maxRecDepth 100000 in
set_option maxHeartbeats 4000000 in
theorem ok_X9_fresh  {s : St} {r : Int32 × St} (h : f_X9_fresh  s = some r) : Ct 1 m_X9_fresh [.ref 43] s (some (.int r.1)) r.2 := by
  unfold f_X9_fresh at h
  refine ct_of [some (.ref 43)] 0 (by decide) rfl (Nat.le_of_ble_eq_true rfl) ?_
  refine wp_aload_n (i := 0) dX9_fresh_0 rfl rfl ?_
  refine wp_iconst (v := 0) dX9_fresh_1 (by decide +kernel) ?_
  obtain ⟨s1, es1, h⟩ := ob h
  refine wp_putI2 dX9_fresh_2 fl_X9_80 rfl rfl rfl rfl es1 ?_
  refine wp_aload_n (i := 0) dX9_fresh_5 rfl rfl ?_
  obtain ⟨r2, er2, h⟩ := ob h
  refine wp_cVi (N := m_X9_is) (As := []) (rest := []) dX9_fresh_6 ml_X9_89 mo_X9_is vo_X9_is rfl rfl (ok_X9_is er2) (by decide) (Nat.le_of_ble_eq_true rfl) ?_
  refine wp_if_ne (tgt := 14) dX9_fresh_9 (by decide) (fun c3 => ?_) (fun c3 => ?_)
  · rw [if_neg c3] at h
    refine wp_aload_n (i := 0) dX9_fresh_14 rfl rfl ?_
    refine wp_aload_n (i := 0) dX9_fresh_15 rfl rfl ?_
    refine wp_getR (t := 49) dX9_fresh_16 fl_X9_25 rfl rfl ?_
    refine wp_iconst (v := 0) dX9_fresh_19 (by decide +kernel) ?_
    obtain ⟨s4, es4, h⟩ := ob h
    refine wp_cVv (N := m_X9_first) (As := [.ref 49, .int (0 : Int32)]) (rest := []) dX9_fresh_20 ml_X9_193 mo_X9_first vo_X9_first rfl rfl (ok_X9_first es4) (by decide) (Nat.le_of_ble_eq_true rfl) ?_
    refine wp_aload_n (i := 0) dX9_fresh_23 rfl rfl ?_
    refine wp_iconst (v := 1) dX9_fresh_24 (by decide +kernel) ?_
    obtain ⟨s5, es5, h⟩ := ob h
    refine wp_putZ2 dX9_fresh_25 fl_X9_101 rfl rfl rfl rfl (Or.inr rfl) es5 ?_
    refine wp_iconst (v := 1) dX9_fresh_28 (by decide +kernel) ?_
    obtain rfl := Option.some.inj h
    exact wp_iret dX9_fresh_29 rfl (narrow_z (Or.inr rfl)).1
  · rw [if_pos c3] at h
    refine wp_iconst (v := 0) dX9_fresh_12 (by decide +kernel) ?_
    obtain rfl := Option.some.inj h
    exact wp_iret dX9_fresh_13 rfl (narrow_z (Or.inl rfl)).1
def f_X9_can (a1 : Int32) (a2 : Int32) (s : St) : Option (Int32 × St) :=
  Option.bind s.2.2 fun q1 =>
  Option.bind (f_X9_cellOf (s.1 43 33) a1 s) fun r2 =>
  Option.bind (aI r2.2 q1 ((s.1 43 32) + r2.1)) fun x3 =>
  if ((x3 >>> (a2 &&& 31)) &&& (1 : Int32)) = (1 : Int32) then (
    some ((1 : Int32), r2.2))
  else (
    some ((0 : Int32), r2.2))
set_option maxRecDepth 100000 in
set_option maxHeartbeats 4000000 in
theorem ok_X9_can {a1 : Int32} {a2 : Int32} {s : St} {r : Int32 × St} (h : f_X9_can a1 a2 s = some r) : Ct 1 m_X9_can [.ref 43, .int a1, .int a2] s (some (.int r.1)) r.2 := by
  unfold f_X9_can at h
  refine ct_of [some (.ref 43), some (.int a1), some (.int a2)] 0 (by decide) rfl (Nat.le_of_ble_eq_true rfl) ?_
  refine wp_aload_n (i := 0) dX9_can_0 rfl rfl ?_
  obtain ⟨q1, eq1, h⟩ := ob h
  refine wp_getD dX9_can_1 fl_X9_197 rfl rfl eq1 ?_
  refine wp_aload_n (i := 0) dX9_can_4 rfl rfl ?_
  refine wp_getI dX9_can_5 fl_X9_200 rfl rfl ?_
  refine wp_aload_n (i := 0) dX9_can_8 rfl rfl ?_
  refine wp_aload_n (i := 0) dX9_can_9 rfl rfl ?_
  refine wp_getI dX9_can_10 fl_X9_203 rfl rfl ?_
  refine wp_iload_n (i := 1) dX9_can_13 rfl rfl ?_
  obtain ⟨r2, er2, h⟩ := ob h
  refine wp_cVi (N := m_X9_cellOf) (As := [.int (s.1 43 33), .int a1]) (rest := [.int (s.1 43 32), .ref q1]) dX9_can_14 ml_X9_206 mo_X9_cellOf vo_X9_cellOf rfl rfl (ok_X9_cellOf er2) (by decide) (Nat.le_of_ble_eq_true rfl) ?_
  refine wp_iadd dX9_can_17 ?_
  obtain ⟨x3, ex3, h⟩ := ob h
  refine wp_aI dX9_can_18 ex3 ?_
  refine wp_iload_n (i := 2) dX9_can_19 rfl rfl ?_
  refine wp_ishr dX9_can_20 ?_
  refine wp_iconst (v := 1) dX9_can_21 (by decide +kernel) ?_
  refine wp_iand dX9_can_22 ?_
  refine wp_iconst (v := 1) dX9_can_23 (by decide +kernel) ?_
  refine wp_icmp_ne (tgt := 31) dX9_can_24 (by decide) (fun c4 => ?_) (fun c4 => ?_)
  · rw [if_neg c4] at h
    refine wp_iconst (v := 0) dX9_can_31 (by decide +kernel) ?_
    obtain rfl := Option.some.inj h
    exact wp_iret dX9_can_32 rfl (narrow_z (Or.inl rfl)).1
  · rw [if_pos c4] at h
    refine wp_iconst (v := 1) dX9_can_27 (by decide +kernel) ?_
    refine wp_goto (tgt := 32) dX9_can_28 (by decide) ?_
    obtain rfl := Option.some.inj h
    exact wp_iret dX9_can_32 rfl (narrow_z (Or.inr rfl)).1
def f_X9_lay_276 (K168 : Int32 → Int32 → Int32 → Int32 → Int32 → Int32 → Int32 → St → Option (St)) (L : Int32 → Int32 → St → Option (St)) (v1 : Int32) (v2 : Int32) (v3 : Int32) (v4 : Int32) (v5 : Int32) (v6 : Int32) (v7 : Int32) (s : St) : Option (St) :=
  Option.bind (f_X9_can v7 (0 : Int32) s) fun r1 =>
  if r1.1 = 0 then (
    some r1.2)
  else (
    Option.bind (pI r1.2 58 v7 (0 : Int32)) fun s3 =>
    K168 v1 v2 v3 v4 v5 v6 (v7 + 1) s3)
set_option maxRecDepth 100000 in
set_option maxHeartbeats 4000000 in
theorem w_X9_lay_276 {r : St} {d dd : Nat} {K168 : Int32 → Int32 → Int32 → Int32 → Int32 → Int32 → Int32 → St → Option (St)} (hK168 : ∀ (v1 : Int32) (v2 : Int32) (v3 : Int32) (v4 : Int32) (v5 : Int32) (v6 : Int32) (v7 : Int32) (s : St), K168 v1 v2 v3 v4 v5 v6 v7 s = some r → Wp m_X9_lay d (PR none r) 168 [some (.ref 43), some (.int v1), some (.int v2), some (.int v3), some (.int v4), some (.int v5), some (.int v6), some (.int v7), none, none] [] s) {L : Int32 → Int32 → St → Option (St)} (hL : ∀ a1' a2' (s' : St) (r' : St), L a1' a2' s' = some r' → Ct dd m_X9_lay [.ref 43, .int a1', .int a2'] s' none r') (hdd : dd + 1 ≤ d) (hd0 : 2 ≤ d) {v1 : Int32} {v2 : Int32} {v3 : Int32} {v4 : Int32} {v5 : Int32} {v6 : Int32} {v7 : Int32}  {s : St} (h : f_X9_lay_276 K168 L v1 v2 v3 v4 v5 v6 v7 s = some r) : Wp m_X9_lay d (PR none r) 276 [some (.ref 43), some (.int v1), some (.int v2), some (.int v3), some (.int v4), some (.int v5), some (.int v6), some (.int v7), none, none] [] s := by
  unfold f_X9_lay_276 at h
  refine wp_aload_n (i := 0) dX9_lay_276 rfl rfl ?_
  refine wp_iload dX9_lay_277 rfl ?_
  refine wp_iconst (v := 0) dX9_lay_279 (by decide +kernel) ?_
  obtain ⟨r1, er1, h⟩ := ob h
  refine wp_cVi (N := m_X9_can) (As := [.int v7, .int (0 : Int32)]) (rest := []) dX9_lay_280 ml_X9_212 mo_X9_can vo_X9_can rfl rfl (ok_X9_can er1) (by omega) (Nat.le_of_ble_eq_true rfl) ?_
  refine wp_if_ne (tgt := 287) dX9_lay_283 (by decide) (fun c2 => ?_) (fun c2 => ?_)
  · rw [if_neg c2] at h
    refine wp_aload_n (i := 0) dX9_lay_287 rfl rfl ?_
    refine wp_getR (t := 58) dX9_lay_288 fl_X9_56 rfl rfl ?_
    refine wp_iload dX9_lay_291 rfl ?_
    refine wp_iconst (v := 0) dX9_lay_293 (by decide +kernel) ?_
    obtain ⟨s3, es3, h⟩ := ob h
    refine wp_pI dX9_lay_294 es3 ?_
    refine wp_inc (c := 1) (ls' := [some (.ref 43), some (.int v1), some (.int v2), some (.int v3), some (.int v4), some (.int v5), some (.int v6), some (.int (v7 + 1)), none, none]) dX9_lay_295 rfl (by decide +kernel) (by decide) rfl rfl ?_
    refine wp_goto (tgt := 168) dX9_lay_298 (by decide) ?_
    exact wp_sub (ls' := [some (.ref 43), some (.int v1), some (.int v2), some (.int v3), some (.int v4), some (.int v5), some (.int v6), some (.int (v7 + 1)), none, none]) ⟨rfl, rfl, rfl, rfl, rfl, rfl, rfl, rfl, trivial⟩ (hK168 _ _ _ _ _ _ _ _ h)
  · rw [if_pos c2] at h
    obtain rfl := Option.some.inj h
    exact wp_vret dX9_lay_286 rfl
def f_X9_lay_239 (K168 : Int32 → Int32 → Int32 → Int32 → Int32 → Int32 → Int32 → St → Option (St)) (L : Int32 → Int32 → St → Option (St)) : Nat → Int32 → Int32 → Int32 → Int32 → Int32 → Int32 → Int32 → Int32 → St → Option (St)
  | 0, _, _, _, _, _, _, _, _, _ => none
  | n + 1, v1, v2, v3, v4, v5, v6, v7, v9, s =>
    if (v7 + v4) ≤ v9 then (
      Option.bind (L (v1 + (1 : Int32)) (v7 + v4) s) fun s2 =>
      f_X9_lay_276 K168 L v1 v2 v3 v4 v5 v6 v7 s2)
    else (
      Option.bind (pI s 58 v9 v5) fun s3 =>
      f_X9_lay_239 K168 L n v1 v2 v3 v4 v5 v6 v7 (v9 + 1) s3)
set_option maxRecDepth 100000 in
set_option maxHeartbeats 4000000 in
theorem w_X9_lay_239 {r : St} {d dd : Nat} {K168 : Int32 → Int32 → Int32 → Int32 → Int32 → Int32 → Int32 → St → Option (St)} (hK168 : ∀ (v1 : Int32) (v2 : Int32) (v3 : Int32) (v4 : Int32) (v5 : Int32) (v6 : Int32) (v7 : Int32) (s : St), K168 v1 v2 v3 v4 v5 v6 v7 s = some r → Wp m_X9_lay d (PR none r) 168 [some (.ref 43), some (.int v1), some (.int v2), some (.int v3), some (.int v4), some (.int v5), some (.int v6), some (.int v7), none, none] [] s) {L : Int32 → Int32 → St → Option (St)} (hL : ∀ a1' a2' (s' : St) (r' : St), L a1' a2' s' = some r' → Ct dd m_X9_lay [.ref 43, .int a1', .int a2'] s' none r') (hdd : dd + 1 ≤ d) (hd0 : 2 ≤ d)   : ∀ (n : Nat) (v1 : Int32) (v2 : Int32) (v3 : Int32) (v4 : Int32) (v5 : Int32) (v6 : Int32) (v7 : Int32) (v9 : Int32) (s : St), f_X9_lay_239 K168 L n v1 v2 v3 v4 v5 v6 v7 v9 s = some r → Wp m_X9_lay d (PR none r) 239 [some (.ref 43), some (.int v1), some (.int v2), some (.int v3), some (.int v4), some (.int v5), some (.int v6), some (.int v7), none, some (.int v9)] [] s := by
  intro n
  induction n with
  | zero => intro v1 v2 v3 v4 v5 v6 v7 v9 s h; cases h
  | succ n ih =>
    intro v1 v2 v3 v4 v5 v6 v7 v9 s h
    unfold f_X9_lay_239 at h
    refine wp_iload dX9_lay_239 rfl ?_
    refine wp_iload dX9_lay_241 rfl ?_
    refine wp_iload dX9_lay_243 rfl ?_
    refine wp_iadd dX9_lay_245 ?_
    refine wp_icmp_ge (tgt := 264) dX9_lay_246 (by decide) (fun c1 => ?_) (fun c1 => ?_)
    · rw [if_pos c1] at h
      refine wp_aload_n (i := 0) dX9_lay_264 rfl rfl ?_
      refine wp_iload_n (i := 1) dX9_lay_265 rfl rfl ?_
      refine wp_iconst (v := 1) dX9_lay_266 (by decide +kernel) ?_
      refine wp_iadd dX9_lay_267 ?_
      refine wp_iload dX9_lay_268 rfl ?_
      refine wp_iload dX9_lay_270 rfl ?_
      refine wp_iadd dX9_lay_272 ?_
      obtain ⟨s2, es2, h⟩ := ob h
      refine wp_cVv (N := m_X9_lay) (As := [.int (v1 + (1 : Int32)), .int (v7 + v4)]) (rest := []) dX9_lay_273 ml_X9_219 mo_X9_lay vo_X9_lay rfl rfl (hL _ _ _ _ es2) hdd (Nat.le_of_ble_eq_true rfl) ?_
      exact wp_sub (ls' := [some (.ref 43), some (.int v1), some (.int v2), some (.int v3), some (.int v4), some (.int v5), some (.int v6), some (.int v7), none, none]) ⟨rfl, rfl, rfl, rfl, rfl, rfl, rfl, rfl, trivial⟩ (w_X9_lay_276 hK168 hL hdd hd0 h)
    · rw [if_neg c1] at h
      refine wp_aload_n (i := 0) dX9_lay_249 rfl rfl ?_
      refine wp_getR (t := 58) dX9_lay_250 fl_X9_56 rfl rfl ?_
      refine wp_iload dX9_lay_253 rfl ?_
      refine wp_iload dX9_lay_255 rfl ?_
      obtain ⟨s3, es3, h⟩ := ob h
      refine wp_pI dX9_lay_257 es3 ?_
      refine wp_inc (c := 1) (ls' := [some (.ref 43), some (.int v1), some (.int v2), some (.int v3), some (.int v4), some (.int v5), some (.int v6), some (.int v7), none, some (.int (v9 + 1))]) dX9_lay_258 rfl (by decide +kernel) (by decide) rfl rfl ?_
      refine wp_goto (tgt := 239) dX9_lay_261 (by decide) ?_
      exact wp_sub (ls' := [some (.ref 43), some (.int v1), some (.int v2), some (.int v3), some (.int v4), some (.int v5), some (.int v6), some (.int v7), none, some (.int (v9 + 1))]) ⟨rfl, rfl, rfl, rfl, rfl, rfl, rfl, rfl, rfl, trivial⟩ (ih _ _ _ _ _ _ _ _ _ h)
def f_X9_lay_230 (K168 : Int32 → Int32 → Int32 → Int32 → Int32 → Int32 → Int32 → St → Option (St)) (L : Int32 → Int32 → St → Option (St)) (v1 : Int32) (v2 : Int32) (v3 : Int32) (v4 : Int32) (v5 : Int32) (v6 : Int32) (v7 : Int32) (v8 : Int32) (s : St) : Option (St) :=
  if v8 = 0 then (
    f_X9_lay_276 K168 L v1 v2 v3 v4 v5 v6 v7 s)
  else (
    f_X9_lay_239 K168 L FU v1 v2 v3 v4 v5 v6 v7 v7 s)
set_option maxRecDepth 100000 in
set_option maxHeartbeats 4000000 in
theorem w_X9_lay_230 {r : St} {d dd : Nat} {K168 : Int32 → Int32 → Int32 → Int32 → Int32 → Int32 → Int32 → St → Option (St)} (hK168 : ∀ (v1 : Int32) (v2 : Int32) (v3 : Int32) (v4 : Int32) (v5 : Int32) (v6 : Int32) (v7 : Int32) (s : St), K168 v1 v2 v3 v4 v5 v6 v7 s = some r → Wp m_X9_lay d (PR none r) 168 [some (.ref 43), some (.int v1), some (.int v2), some (.int v3), some (.int v4), some (.int v5), some (.int v6), some (.int v7), none, none] [] s) {L : Int32 → Int32 → St → Option (St)} (hL : ∀ a1' a2' (s' : St) (r' : St), L a1' a2' s' = some r' → Ct dd m_X9_lay [.ref 43, .int a1', .int a2'] s' none r') (hdd : dd + 1 ≤ d) (hd0 : 2 ≤ d) {v1 : Int32} {v2 : Int32} {v3 : Int32} {v4 : Int32} {v5 : Int32} {v6 : Int32} {v7 : Int32} {v8 : Int32}  {s : St} (h : f_X9_lay_230 K168 L v1 v2 v3 v4 v5 v6 v7 v8 s = some r) : Wp m_X9_lay d (PR none r) 230 [some (.ref 43), some (.int v1), some (.int v2), some (.int v3), some (.int v4), some (.int v5), some (.int v6), some (.int v7), some (.int v8), none] [] s := by
  unfold f_X9_lay_230 at h
  refine wp_iload dX9_lay_230 rfl ?_
  refine wp_if_eq (tgt := 276) dX9_lay_232 (by decide) (fun c1 => ?_) (fun c1 => ?_)
  · rw [if_pos c1] at h
    exact wp_sub (ls' := [some (.ref 43), some (.int v1), some (.int v2), some (.int v3), some (.int v4), some (.int v5), some (.int v6), some (.int v7), none, none]) ⟨rfl, rfl, rfl, rfl, rfl, rfl, rfl, rfl, trivial⟩ (w_X9_lay_276 hK168 hL hdd hd0 h)
  · rw [if_neg c1] at h
    refine wp_iload dX9_lay_235 rfl ?_
    refine wp_istore (ls' := [some (.ref 43), some (.int v1), some (.int v2), some (.int v3), some (.int v4), some (.int v5), some (.int v6), some (.int v7), some (.int v8), some (.int v7)]) dX9_lay_237 (by decide) rfl rfl ?_
    exact wp_sub (ls' := [some (.ref 43), some (.int v1), some (.int v2), some (.int v3), some (.int v4), some (.int v5), some (.int v6), some (.int v7), none, some (.int v7)]) ⟨rfl, rfl, rfl, rfl, rfl, rfl, rfl, rfl, rfl, trivial⟩ (w_X9_lay_239 hK168 hL hdd hd0 _ _ _ _ _ _ _ _ _ _ h)
def f_X9_lay_199 (K168 : Int32 → Int32 → Int32 → Int32 → Int32 → Int32 → Int32 → St → Option (St)) (L : Int32 → Int32 → St → Option (St)) : Nat → Int32 → Int32 → Int32 → Int32 → Int32 → Int32 → Int32 → Int32 → Int32 → St → Option (St)
  | 0, _, _, _, _, _, _, _, _, _, _ => none
  | n + 1, v1, v2, v3, v4, v5, v6, v7, v8, v9, s =>
    if (v7 + v4) ≤ v9 then (
      f_X9_lay_230 K168 L v1 v2 v3 v4 v5 v6 v7 v8 s)
    else (
      if v8 = 0 then (
        f_X9_lay_230 K168 L v1 v2 v3 v4 v5 v6 v7 v8 s)
      else (
        Option.bind (f_X9_can v9 v5 s) fun r3 =>
        f_X9_lay_199 K168 L n v1 v2 v3 v4 v5 v6 v7 r3.1 (v9 + 1) r3.2))
set_option maxRecDepth 100000 in
set_option maxHeartbeats 4000000 in
theorem w_X9_lay_199 {r : St} {d dd : Nat} {K168 : Int32 → Int32 → Int32 → Int32 → Int32 → Int32 → Int32 → St → Option (St)} (hK168 : ∀ (v1 : Int32) (v2 : Int32) (v3 : Int32) (v4 : Int32) (v5 : Int32) (v6 : Int32) (v7 : Int32) (s : St), K168 v1 v2 v3 v4 v5 v6 v7 s = some r → Wp m_X9_lay d (PR none r) 168 [some (.ref 43), some (.int v1), some (.int v2), some (.int v3), some (.int v4), some (.int v5), some (.int v6), some (.int v7), none, none] [] s) {L : Int32 → Int32 → St → Option (St)} (hL : ∀ a1' a2' (s' : St) (r' : St), L a1' a2' s' = some r' → Ct dd m_X9_lay [.ref 43, .int a1', .int a2'] s' none r') (hdd : dd + 1 ≤ d) (hd0 : 2 ≤ d)   : ∀ (n : Nat) (v1 : Int32) (v2 : Int32) (v3 : Int32) (v4 : Int32) (v5 : Int32) (v6 : Int32) (v7 : Int32) (v8 : Int32) (v9 : Int32) (s : St), f_X9_lay_199 K168 L n v1 v2 v3 v4 v5 v6 v7 v8 v9 s = some r → Wp m_X9_lay d (PR none r) 199 [some (.ref 43), some (.int v1), some (.int v2), some (.int v3), some (.int v4), some (.int v5), some (.int v6), some (.int v7), some (.int v8), some (.int v9)] [] s := by
  intro n
  induction n with
  | zero => intro v1 v2 v3 v4 v5 v6 v7 v8 v9 s h; cases h
  | succ n ih =>
    intro v1 v2 v3 v4 v5 v6 v7 v8 v9 s h
    unfold f_X9_lay_199 at h
    refine wp_iload dX9_lay_199 rfl ?_
    refine wp_iload dX9_lay_201 rfl ?_
    refine wp_iload dX9_lay_203 rfl ?_
    refine wp_iadd dX9_lay_205 ?_
    refine wp_icmp_ge (tgt := 230) dX9_lay_206 (by decide) (fun c1 => ?_) (fun c1 => ?_)
    · rw [if_pos c1] at h
      exact wp_sub (ls' := [some (.ref 43), some (.int v1), some (.int v2), some (.int v3), some (.int v4), some (.int v5), some (.int v6), some (.int v7), some (.int v8), none]) ⟨rfl, rfl, rfl, rfl, rfl, rfl, rfl, rfl, rfl, trivial⟩ (w_X9_lay_230 hK168 hL hdd hd0 h)
    · rw [if_neg c1] at h
      refine wp_iload dX9_lay_209 rfl ?_
      refine wp_if_eq (tgt := 230) dX9_lay_211 (by decide) (fun c2 => ?_) (fun c2 => ?_)
      · rw [if_pos c2] at h
        exact wp_sub (ls' := [some (.ref 43), some (.int v1), some (.int v2), some (.int v3), some (.int v4), some (.int v5), some (.int v6), some (.int v7), some (.int v8), none]) ⟨rfl, rfl, rfl, rfl, rfl, rfl, rfl, rfl, rfl, trivial⟩ (w_X9_lay_230 hK168 hL hdd hd0 h)
      · rw [if_neg c2] at h
        refine wp_aload_n (i := 0) dX9_lay_214 rfl rfl ?_
        refine wp_iload dX9_lay_215 rfl ?_
        refine wp_iload dX9_lay_217 rfl ?_
        obtain ⟨r3, er3, h⟩ := ob h
        refine wp_cVi (N := m_X9_can) (As := [.int v9, .int v5]) (rest := []) dX9_lay_219 ml_X9_212 mo_X9_can vo_X9_can rfl rfl (ok_X9_can er3) (by omega) (Nat.le_of_ble_eq_true rfl) ?_
        refine wp_istore (ls' := [some (.ref 43), some (.int v1), some (.int v2), some (.int v3), some (.int v4), some (.int v5), some (.int v6), some (.int v7), some (.int r3.1), some (.int v9)]) dX9_lay_222 (by decide) rfl rfl ?_
        refine wp_inc (c := 1) (ls' := [some (.ref 43), some (.int v1), some (.int v2), some (.int v3), some (.int v4), some (.int v5), some (.int v6), some (.int v7), some (.int r3.1), some (.int (v9 + 1))]) dX9_lay_224 rfl (by decide +kernel) (by decide) rfl rfl ?_
        refine wp_goto (tgt := 199) dX9_lay_227 (by decide) ?_
        exact wp_sub (ls' := [some (.ref 43), some (.int v1), some (.int v2), some (.int v3), some (.int v4), some (.int v5), some (.int v6), some (.int v7), some (.int r3.1), some (.int (v9 + 1))]) ⟨rfl, rfl, rfl, rfl, rfl, rfl, rfl, rfl, rfl, rfl, trivial⟩ (ih _ _ _ _ _ _ _ _ _ _ h)
def f_X9_lay_193 (K168 : Int32 → Int32 → Int32 → Int32 → Int32 → Int32 → Int32 → St → Option (St)) (L : Int32 → Int32 → St → Option (St)) (v1 : Int32) (v2 : Int32) (v3 : Int32) (v4 : Int32) (v5 : Int32) (v6 : Int32) (v7 : Int32) (t0 : Int32) (s : St) : Option (St) :=
  f_X9_lay_199 K168 L FU v1 v2 v3 v4 v5 v6 v7 t0 v7 s
set_option maxRecDepth 100000 in
set_option maxHeartbeats 4000000 in
theorem w_X9_lay_193 {r : St} {d dd : Nat} {K168 : Int32 → Int32 → Int32 → Int32 → Int32 → Int32 → Int32 → St → Option (St)} (hK168 : ∀ (v1 : Int32) (v2 : Int32) (v3 : Int32) (v4 : Int32) (v5 : Int32) (v6 : Int32) (v7 : Int32) (s : St), K168 v1 v2 v3 v4 v5 v6 v7 s = some r → Wp m_X9_lay d (PR none r) 168 [some (.ref 43), some (.int v1), some (.int v2), some (.int v3), some (.int v4), some (.int v5), some (.int v6), some (.int v7), none, none] [] s) {L : Int32 → Int32 → St → Option (St)} (hL : ∀ a1' a2' (s' : St) (r' : St), L a1' a2' s' = some r' → Ct dd m_X9_lay [.ref 43, .int a1', .int a2'] s' none r') (hdd : dd + 1 ≤ d) (hd0 : 2 ≤ d) {v1 : Int32} {v2 : Int32} {v3 : Int32} {v4 : Int32} {v5 : Int32} {v6 : Int32} {v7 : Int32} {t0 : Int32}  {s : St} (h : f_X9_lay_193 K168 L v1 v2 v3 v4 v5 v6 v7 t0 s = some r) : Wp m_X9_lay d (PR none r) 193 [some (.ref 43), some (.int v1), some (.int v2), some (.int v3), some (.int v4), some (.int v5), some (.int v6), some (.int v7), none, none] [.int t0] s := by
  unfold f_X9_lay_193 at h
  refine wp_istore (ls' := [some (.ref 43), some (.int v1), some (.int v2), some (.int v3), some (.int v4), some (.int v5), some (.int v6), some (.int v7), some (.int t0), none]) dX9_lay_193 (by decide) rfl rfl ?_
  refine wp_iload dX9_lay_195 rfl ?_
  refine wp_istore (ls' := [some (.ref 43), some (.int v1), some (.int v2), some (.int v3), some (.int v4), some (.int v5), some (.int v6), some (.int v7), some (.int t0), some (.int v7)]) dX9_lay_197 (by decide) rfl rfl ?_
  exact wp_sub (ls' := [some (.ref 43), some (.int v1), some (.int v2), some (.int v3), some (.int v4), some (.int v5), some (.int v6), some (.int v7), some (.int t0), some (.int v7)]) ⟨rfl, rfl, rfl, rfl, rfl, rfl, rfl, rfl, rfl, rfl, trivial⟩ (w_X9_lay_199 hK168 hL hdd hd0 _ _ _ _ _ _ _ _ _ _ _ h)
def f_X9_lay_188 (K168 : Int32 → Int32 → Int32 → Int32 → Int32 → Int32 → Int32 → St → Option (St)) (L : Int32 → Int32 → St → Option (St)) (v1 : Int32) (v2 : Int32) (v3 : Int32) (v4 : Int32) (v5 : Int32) (v6 : Int32) (v7 : Int32) (s : St) : Option (St) :=
  f_X9_lay_193 K168 L v1 v2 v3 v4 v5 v6 v7 (1 : Int32) s
set_option maxRecDepth 100000 in
set_option maxHeartbeats 4000000 in
theorem w_X9_lay_188 {r : St} {d dd : Nat} {K168 : Int32 → Int32 → Int32 → Int32 → Int32 → Int32 → Int32 → St → Option (St)} (hK168 : ∀ (v1 : Int32) (v2 : Int32) (v3 : Int32) (v4 : Int32) (v5 : Int32) (v6 : Int32) (v7 : Int32) (s : St), K168 v1 v2 v3 v4 v5 v6 v7 s = some r → Wp m_X9_lay d (PR none r) 168 [some (.ref 43), some (.int v1), some (.int v2), some (.int v3), some (.int v4), some (.int v5), some (.int v6), some (.int v7), none, none] [] s) {L : Int32 → Int32 → St → Option (St)} (hL : ∀ a1' a2' (s' : St) (r' : St), L a1' a2' s' = some r' → Ct dd m_X9_lay [.ref 43, .int a1', .int a2'] s' none r') (hdd : dd + 1 ≤ d) (hd0 : 2 ≤ d) {v1 : Int32} {v2 : Int32} {v3 : Int32} {v4 : Int32} {v5 : Int32} {v6 : Int32} {v7 : Int32}  {s : St} (h : f_X9_lay_188 K168 L v1 v2 v3 v4 v5 v6 v7 s = some r) : Wp m_X9_lay d (PR none r) 188 [some (.ref 43), some (.int v1), some (.int v2), some (.int v3), some (.int v4), some (.int v5), some (.int v6), some (.int v7), none, none] [] s := by
  unfold f_X9_lay_188 at h
  refine wp_iconst (v := 1) dX9_lay_188 (by decide +kernel) ?_
  refine wp_goto (tgt := 193) dX9_lay_189 (by decide) ?_
  exact wp_sub (ls' := [some (.ref 43), some (.int v1), some (.int v2), some (.int v3), some (.int v4), some (.int v5), some (.int v6), some (.int v7), none, none]) ⟨rfl, rfl, rfl, rfl, rfl, rfl, rfl, rfl, trivial⟩ (w_X9_lay_193 hK168 hL hdd hd0 h)
def f_X9_lay_168 (L : Int32 → Int32 → St → Option (St)) : Nat → Int32 → Int32 → Int32 → Int32 → Int32 → Int32 → Int32 → St → Option (St)
  | 0, _, _, _, _, _, _, _, _ => none
  | n + 1, v1, v2, v3, v4, v5, v6, v7, s =>
    if v3 < (v7 + v4) then (
      some s)
    else (
      if v6 = 0 then (
        f_X9_lay_188 (f_X9_lay_168 L n) L v1 v2 v3 v4 v5 v6 v7 s)
      else (
        if v7 ≤ v2 then (
          f_X9_lay_193 (f_X9_lay_168 L n) L v1 v2 v3 v4 v5 v6 v7 (0 : Int32) s)
        else (
          f_X9_lay_188 (f_X9_lay_168 L n) L v1 v2 v3 v4 v5 v6 v7 s)))
set_option maxRecDepth 100000 in
set_option maxHeartbeats 4000000 in
theorem w_X9_lay_168 {r : St} {d dd : Nat} {L : Int32 → Int32 → St → Option (St)} (hL : ∀ a1' a2' (s' : St) (r' : St), L a1' a2' s' = some r' → Ct dd m_X9_lay [.ref 43, .int a1', .int a2'] s' none r') (hdd : dd + 1 ≤ d) (hd0 : 2 ≤ d)   : ∀ (n : Nat) (v1 : Int32) (v2 : Int32) (v3 : Int32) (v4 : Int32) (v5 : Int32) (v6 : Int32) (v7 : Int32) (s : St), f_X9_lay_168  L n v1 v2 v3 v4 v5 v6 v7 s = some r → Wp m_X9_lay d (PR none r) 168 [some (.ref 43), some (.int v1), some (.int v2), some (.int v3), some (.int v4), some (.int v5), some (.int v6), some (.int v7), none, none] [] s := by
  intro n
  induction n with
  | zero => intro v1 v2 v3 v4 v5 v6 v7 s h; cases h
  | succ n ih =>
    intro v1 v2 v3 v4 v5 v6 v7 s h
    unfold f_X9_lay_168 at h
    refine wp_iload dX9_lay_168 rfl ?_
    refine wp_iload dX9_lay_170 rfl ?_
    refine wp_iadd dX9_lay_172 ?_
    refine wp_iload_n (i := 3) dX9_lay_173 rfl rfl ?_
    refine wp_icmp_gt (tgt := 301) dX9_lay_174 (by decide) (fun c1 => ?_) (fun c1 => ?_)
    · rw [if_pos c1] at h
      obtain rfl := Option.some.inj h
      exact wp_vret dX9_lay_301 rfl
    · rw [if_neg c1] at h
      refine wp_iload dX9_lay_177 rfl ?_
      refine wp_if_eq (tgt := 188) dX9_lay_179 (by decide) (fun c2 => ?_) (fun c2 => ?_)
      · rw [if_pos c2] at h
        exact wp_sub (ls' := [some (.ref 43), some (.int v1), some (.int v2), some (.int v3), some (.int v4), some (.int v5), some (.int v6), some (.int v7), none, none]) ⟨rfl, rfl, rfl, rfl, rfl, rfl, rfl, rfl, trivial⟩ (w_X9_lay_188 ih hL hdd hd0 h)
      · rw [if_neg c2] at h
        refine wp_iload dX9_lay_182 rfl ?_
        refine wp_iload_n (i := 2) dX9_lay_184 rfl rfl ?_
        refine wp_icmp_le (tgt := 192) dX9_lay_185 (by decide) (fun c3 => ?_) (fun c3 => ?_)
        · rw [if_pos c3] at h
          refine wp_iconst (v := 0) dX9_lay_192 (by decide +kernel) ?_
          exact wp_sub (ls' := [some (.ref 43), some (.int v1), some (.int v2), some (.int v3), some (.int v4), some (.int v5), some (.int v6), some (.int v7), none, none]) ⟨rfl, rfl, rfl, rfl, rfl, rfl, rfl, rfl, trivial⟩ (w_X9_lay_193 ih hL hdd hd0 h)
        · rw [if_neg c3] at h
          exact wp_sub (ls' := [some (.ref 43), some (.int v1), some (.int v2), some (.int v3), some (.int v4), some (.int v5), some (.int v6), some (.int v7), none, none]) ⟨rfl, rfl, rfl, rfl, rfl, rfl, rfl, rfl, trivial⟩ (w_X9_lay_188 ih hL hdd hd0 h)
def f_X9_lay_163 (L : Int32 → Int32 → St → Option (St)) (v1 : Int32) (v2 : Int32) (v3 : Int32) (v4 : Int32) (v5 : Int32) (t0 : Int32) (s : St) : Option (St) :=
  f_X9_lay_168 L FU v1 v2 v3 v4 v5 t0 v2 s
set_option maxRecDepth 100000 in
set_option maxHeartbeats 4000000 in
theorem w_X9_lay_163 {r : St} {d dd : Nat} {L : Int32 → Int32 → St → Option (St)} (hL : ∀ a1' a2' (s' : St) (r' : St), L a1' a2' s' = some r' → Ct dd m_X9_lay [.ref 43, .int a1', .int a2'] s' none r') (hdd : dd + 1 ≤ d) (hd0 : 2 ≤ d) {v1 : Int32} {v2 : Int32} {v3 : Int32} {v4 : Int32} {v5 : Int32} {t0 : Int32}  {s : St} (h : f_X9_lay_163  L v1 v2 v3 v4 v5 t0 s = some r) : Wp m_X9_lay d (PR none r) 163 [some (.ref 43), some (.int v1), some (.int v2), some (.int v3), some (.int v4), some (.int v5), none, none, none, none] [.int t0] s := by
  unfold f_X9_lay_163 at h
  refine wp_istore (ls' := [some (.ref 43), some (.int v1), some (.int v2), some (.int v3), some (.int v4), some (.int v5), some (.int t0), none, none, none]) dX9_lay_163 (by decide) rfl rfl ?_
  refine wp_iload_n (i := 2) dX9_lay_165 rfl rfl ?_
  refine wp_istore (ls' := [some (.ref 43), some (.int v1), some (.int v2), some (.int v3), some (.int v4), some (.int v5), some (.int t0), some (.int v2), none, none]) dX9_lay_166 (by decide) rfl rfl ?_
  exact wp_sub (ls' := [some (.ref 43), some (.int v1), some (.int v2), some (.int v3), some (.int v4), some (.int v5), some (.int t0), some (.int v2), none, none]) ⟨rfl, rfl, rfl, rfl, rfl, rfl, rfl, rfl, trivial⟩ (w_X9_lay_168 hL hdd hd0 _ _ _ _ _ _ _ _ _ h)
def f_X9_lay_162 (L : Int32 → Int32 → St → Option (St)) (v1 : Int32) (v2 : Int32) (v3 : Int32) (v4 : Int32) (v5 : Int32) (s : St) : Option (St) :=
  f_X9_lay_163 L v1 v2 v3 v4 v5 (0 : Int32) s
set_option maxRecDepth 100000 in
set_option maxHeartbeats 4000000 in
theorem w_X9_lay_162 {r : St} {d dd : Nat} {L : Int32 → Int32 → St → Option (St)} (hL : ∀ a1' a2' (s' : St) (r' : St), L a1' a2' s' = some r' → Ct dd m_X9_lay [.ref 43, .int a1', .int a2'] s' none r') (hdd : dd + 1 ≤ d) (hd0 : 2 ≤ d) {v1 : Int32} {v2 : Int32} {v3 : Int32} {v4 : Int32} {v5 : Int32}  {s : St} (h : f_X9_lay_162  L v1 v2 v3 v4 v5 s = some r) : Wp m_X9_lay d (PR none r) 162 [some (.ref 43), some (.int v1), some (.int v2), some (.int v3), some (.int v4), some (.int v5), none, none, none, none] [] s := by
  unfold f_X9_lay_162 at h
  refine wp_iconst (v := 0) dX9_lay_162 (by decide +kernel) ?_
  exact wp_sub (ls' := [some (.ref 43), some (.int v1), some (.int v2), some (.int v3), some (.int v4), some (.int v5), none, none, none, none]) ⟨rfl, rfl, rfl, rfl, rfl, rfl, trivial⟩ (w_X9_lay_163 hL hdd hd0 h)
def f_X9_lay_69 (L : Int32 → Int32 → St → Option (St)) : Nat → Int32 → Int32 → St → Option (St)
  | 0, _, _, _ => none
  | n + 1, v3, v4, s =>
    if v3 ≤ v4 then (
      some s)
    else (
      Option.bind (aI s 59 v4) fun x2 =>
      Option.bind (aI s 58 v4) fun x3 =>
      Option.bind (pI s 59 v4 (x2 ||| ((1 : Int32) <<< (x3 &&& 31)))) fun s4 =>
      f_X9_lay_69 L n v3 (v4 + 1) s4)
set_option maxRecDepth 100000 in
set_option maxHeartbeats 4000000 in
theorem w_X9_lay_69 {r : St} {d dd : Nat} {L : Int32 → Int32 → St → Option (St)} (hL : ∀ a1' a2' (s' : St) (r' : St), L a1' a2' s' = some r' → Ct dd m_X9_lay [.ref 43, .int a1', .int a2'] s' none r') (hdd : dd + 1 ≤ d) (hd0 : 2 ≤ d)   : ∀ (n : Nat) (v3 : Int32) (v4 : Int32) (s : St), f_X9_lay_69  L n v3 v4 s = some r → Wp m_X9_lay d (PR none r) 69 [some (.ref 43), none, none, some (.int v3), some (.int v4), none, none, none, none, none] [] s := by
  intro n
  induction n with
  | zero => intro v3 v4 s h; cases h
  | succ n ih =>
    intro v3 v4 s h
    unfold f_X9_lay_69 at h
    refine wp_iload dX9_lay_69 rfl ?_
    refine wp_iload_n (i := 3) dX9_lay_71 rfl rfl ?_
    refine wp_icmp_ge (tgt := 100) dX9_lay_72 (by decide) (fun c1 => ?_) (fun c1 => ?_)
    · rw [if_pos c1] at h
      obtain rfl := Option.some.inj h
      exact wp_vret dX9_lay_100 rfl
    · rw [if_neg c1] at h
      refine wp_aload_n (i := 0) dX9_lay_75 rfl rfl ?_
      refine wp_getR (t := 59) dX9_lay_76 fl_X9_59 rfl rfl ?_
      refine wp_iload dX9_lay_79 rfl ?_
      refine wp_dup2_ir dX9_lay_81 ?_
      obtain ⟨x2, ex2, h⟩ := ob h
      refine wp_aI dX9_lay_82 ex2 ?_
      refine wp_iconst (v := 1) dX9_lay_83 (by decide +kernel) ?_
      refine wp_aload_n (i := 0) dX9_lay_84 rfl rfl ?_
      refine wp_getR (t := 58) dX9_lay_85 fl_X9_56 rfl rfl ?_
      refine wp_iload dX9_lay_88 rfl ?_
      obtain ⟨x3, ex3, h⟩ := ob h
      refine wp_aI dX9_lay_90 ex3 ?_
      refine wp_ishl dX9_lay_91 ?_
      refine wp_ior dX9_lay_92 ?_
      obtain ⟨s4, es4, h⟩ := ob h
      refine wp_pI dX9_lay_93 es4 ?_
      refine wp_inc (c := 1) (ls' := [some (.ref 43), none, none, some (.int v3), some (.int (v4 + 1)), none, none, none, none, none]) dX9_lay_94 rfl (by decide +kernel) (by decide) rfl rfl ?_
      refine wp_goto (tgt := 69) dX9_lay_97 (by decide) ?_
      exact wp_sub (ls' := [some (.ref 43), none, none, some (.int v3), some (.int (v4 + 1)), none, none, none, none, none]) ⟨rfl, rfl, rfl, trivial⟩ (ih _ _ _ h)
def f_X9_lay_25 (L : Int32 → Int32 → St → Option (St)) : Nat → Int32 → Int32 → St → Option (St)
  | 0, _, _, _ => none
  | n + 1, v3, v4, s =>
    if v3 ≤ v4 then (
      Option.bind (some (sL s 43 36 ((s.2.1 43 36) + (1 : Int64)))) fun s2 =>
      f_X9_lay_69 L FU v3 (0 : Int32) s2)
    else (
      Option.bind (f_X9_can v4 (0 : Int32) s) fun r3 =>
      if r3.1 = 0 then (
        some r3.2)
      else (
        Option.bind (pI r3.2 58 v4 (0 : Int32)) fun s5 =>
        f_X9_lay_25 L n v3 (v4 + 1) s5))
set_option maxRecDepth 100000 in
set_option maxHeartbeats 4000000 in
theorem w_X9_lay_25 {r : St} {d dd : Nat} {L : Int32 → Int32 → St → Option (St)} (hL : ∀ a1' a2' (s' : St) (r' : St), L a1' a2' s' = some r' → Ct dd m_X9_lay [.ref 43, .int a1', .int a2'] s' none r') (hdd : dd + 1 ≤ d) (hd0 : 2 ≤ d)   : ∀ (n : Nat) (v3 : Int32) (v4 : Int32) (s : St), f_X9_lay_25  L n v3 v4 s = some r → Wp m_X9_lay d (PR none r) 25 [some (.ref 43), none, none, some (.int v3), some (.int v4), none, none, none, none, none] [] s := by
  intro n
  induction n with
  | zero => intro v3 v4 s h; cases h
  | succ n ih =>
    intro v3 v4 s h
    unfold f_X9_lay_25 at h
    refine wp_iload dX9_lay_25 rfl ?_
    refine wp_iload_n (i := 3) dX9_lay_27 rfl rfl ?_
    refine wp_icmp_ge (tgt := 56) dX9_lay_28 (by decide) (fun c1 => ?_) (fun c1 => ?_)
    · rw [if_pos c1] at h
      refine wp_aload_n (i := 0) dX9_lay_56 rfl rfl ?_
      refine wp_dup_r dX9_lay_57 ?_
      refine wp_getJ dX9_lay_58 fl_X9_215 rfl rfl ?_
      refine wp_lconst (v := 1) dX9_lay_61 (by decide +kernel) ?_
      refine wp_ladd dX9_lay_62 ?_
      obtain ⟨s2, es2, h⟩ := ob h
      refine wp_putJ2 dX9_lay_63 fl_X9_215 rfl rfl rfl rfl es2 ?_
      refine wp_iconst (v := 0) dX9_lay_66 (by decide +kernel) ?_
      refine wp_istore (ls' := [some (.ref 43), none, none, some (.int v3), some (.int (0 : Int32)), none, none, none, none, none]) dX9_lay_67 (by decide) rfl rfl ?_
      exact wp_sub (ls' := [some (.ref 43), none, none, some (.int v3), some (.int (0 : Int32)), none, none, none, none, none]) ⟨rfl, rfl, rfl, trivial⟩ (w_X9_lay_69 hL hdd hd0 _ _ _ _ h)
    · rw [if_neg c1] at h
      refine wp_aload_n (i := 0) dX9_lay_31 rfl rfl ?_
      refine wp_iload dX9_lay_32 rfl ?_
      refine wp_iconst (v := 0) dX9_lay_34 (by decide +kernel) ?_
      obtain ⟨r3, er3, h⟩ := ob h
      refine wp_cVi (N := m_X9_can) (As := [.int v4, .int (0 : Int32)]) (rest := []) dX9_lay_35 ml_X9_212 mo_X9_can vo_X9_can rfl rfl (ok_X9_can er3) (by omega) (Nat.le_of_ble_eq_true rfl) ?_
      refine wp_if_ne (tgt := 42) dX9_lay_38 (by decide) (fun c4 => ?_) (fun c4 => ?_)
      · rw [if_neg c4] at h
        refine wp_aload_n (i := 0) dX9_lay_42 rfl rfl ?_
        refine wp_getR (t := 58) dX9_lay_43 fl_X9_56 rfl rfl ?_
        refine wp_iload dX9_lay_46 rfl ?_
        refine wp_iconst (v := 0) dX9_lay_48 (by decide +kernel) ?_
        obtain ⟨s5, es5, h⟩ := ob h
        refine wp_pI dX9_lay_49 es5 ?_
        refine wp_inc (c := 1) (ls' := [some (.ref 43), none, none, some (.int v3), some (.int (v4 + 1)), none, none, none, none, none]) dX9_lay_50 rfl (by decide +kernel) (by decide) rfl rfl ?_
        refine wp_goto (tgt := 25) dX9_lay_53 (by decide) ?_
        exact wp_sub (ls' := [some (.ref 43), none, none, some (.int v3), some (.int (v4 + 1)), none, none, none, none, none]) ⟨rfl, rfl, rfl, trivial⟩ (ih _ _ _ h)
      · rw [if_pos c4] at h
        obtain rfl := Option.some.inj h
        exact wp_vret dX9_lay_41 rfl
def f_X9_lay : Nat → Int32 → Int32 → St → Option (St)
  | 0, _, _, _ => none
  | n + 1, a1, a2, s =>
    Option.bind (f_X9_sizeOf (s.1 43 33) s) fun r1 =>
    Option.bind (aI r1.2 44 (r1.2.1 43 33)) fun x2 =>
    if a1 = x2 then (
      f_X9_lay_25 (f_X9_lay n) FU r1.1 a2 r1.2)
    else (
      Option.bind (aI r1.2 45 (((12 : Int32) * (r1.2.1 43 33)) + a1)) fun x4 =>
      Option.bind (aI r1.2 46 (((12 : Int32) * (r1.2.1 43 33)) + a1)) fun x5 =>
      if a1 ≤ 0 then (
        f_X9_lay_162 (f_X9_lay n) a1 a2 r1.1 x4 x5 r1.2)
      else (
        Option.bind (aI r1.2 46 ((((12 : Int32) * (r1.2.1 43 33)) + a1) - (1 : Int32))) fun x7 =>
        if x7 = x5 then (
          f_X9_lay_163 (f_X9_lay n) a1 a2 r1.1 x4 x5 (1 : Int32) r1.2)
        else (
          f_X9_lay_162 (f_X9_lay n) a1 a2 r1.1 x4 x5 r1.2)))
set_option maxRecDepth 100000 in
set_option maxHeartbeats 4000000 in
theorem okr_X9_lay : ∀ (n : Nat) (a1 : Int32) (a2 : Int32) (s : St) (r : St), f_X9_lay n a1 a2 s = some r → Ct (n + 2) m_X9_lay [.ref 43, .int a1, .int a2] s none r := by
  intro n
  induction n with
  | zero => intro a1 a2 s r h; cases h
  | succ n ih =>
    intro a1 a2 s r h
    unfold f_X9_lay at h
    have hL := ih
    have hdd : n + 2 + 1 ≤ n + 1 + 2 := by omega
    have hd0 : 2 ≤ n + 1 + 2 := by omega
    refine ct_of [some (.ref 43), some (.int a1), some (.int a2), none, none, none, none, none, none, none] 7 (by decide) rfl (Nat.le_of_ble_eq_true rfl) ?_
    refine wp_aload_n (i := 0) dX9_lay_0 rfl rfl ?_
    refine wp_aload_n (i := 0) dX9_lay_1 rfl rfl ?_
    refine wp_getI dX9_lay_2 fl_X9_203 rfl rfl ?_
    obtain ⟨r1, er1, h⟩ := ob h
    refine wp_cVi (N := m_X9_sizeOf) (As := [.int (s.1 43 33)]) (rest := []) dX9_lay_5 ml_X9_209 mo_X9_sizeOf vo_X9_sizeOf rfl rfl (ok_X9_sizeOf er1) (by omega) (Nat.le_of_ble_eq_true rfl) ?_
    refine wp_istore_n (ls' := [some (.ref 43), some (.int a1), some (.int a2), some (.int r1.1), none, none, none, none, none, none]) dX9_lay_8 rfl (by decide) rfl rfl ?_
    refine wp_iload_n (i := 1) dX9_lay_9 rfl rfl ?_
    refine wp_aload_n (i := 0) dX9_lay_10 rfl rfl ?_
    refine wp_getR (t := 44) dX9_lay_11 fl_X9_9 rfl rfl ?_
    refine wp_aload_n (i := 0) dX9_lay_14 rfl rfl ?_
    refine wp_getI dX9_lay_15 fl_X9_203 rfl rfl ?_
    obtain ⟨x2, ex2, h⟩ := ob h
    refine wp_aI dX9_lay_18 ex2 ?_
    refine wp_icmp_ne (tgt := 101) dX9_lay_19 (by decide) (fun c3 => ?_) (fun c3 => ?_)
    · rw [if_neg c3] at h
      refine wp_aload_n (i := 0) dX9_lay_101 rfl rfl ?_
      refine wp_getR (t := 45) dX9_lay_102 fl_X9_13 rfl rfl ?_
      refine wp_bipush (v := 12) dX9_lay_105 (by decide +kernel) ?_
      refine wp_aload_n (i := 0) dX9_lay_107 rfl rfl ?_
      refine wp_getI dX9_lay_108 fl_X9_203 rfl rfl ?_
      refine wp_imul dX9_lay_111 ?_
      refine wp_iload_n (i := 1) dX9_lay_112 rfl rfl ?_
      refine wp_iadd dX9_lay_113 ?_
      obtain ⟨x4, ex4, h⟩ := ob h
      refine wp_aI dX9_lay_114 ex4 ?_
      refine wp_istore (ls' := [some (.ref 43), some (.int a1), some (.int a2), some (.int r1.1), some (.int x4), none, none, none, none, none]) dX9_lay_115 (by decide) rfl rfl ?_
      refine wp_aload_n (i := 0) dX9_lay_117 rfl rfl ?_
      refine wp_getR (t := 46) dX9_lay_118 fl_X9_16 rfl rfl ?_
      refine wp_bipush (v := 12) dX9_lay_121 (by decide +kernel) ?_
      refine wp_aload_n (i := 0) dX9_lay_123 rfl rfl ?_
      refine wp_getI dX9_lay_124 fl_X9_203 rfl rfl ?_
      refine wp_imul dX9_lay_127 ?_
      refine wp_iload_n (i := 1) dX9_lay_128 rfl rfl ?_
      refine wp_iadd dX9_lay_129 ?_
      obtain ⟨x5, ex5, h⟩ := ob h
      refine wp_aI dX9_lay_130 ex5 ?_
      refine wp_istore (ls' := [some (.ref 43), some (.int a1), some (.int a2), some (.int r1.1), some (.int x4), some (.int x5), none, none, none, none]) dX9_lay_131 (by decide) rfl rfl ?_
      refine wp_iload_n (i := 1) dX9_lay_133 rfl rfl ?_
      refine wp_if_le (tgt := 162) dX9_lay_134 (by decide) (fun c6 => ?_) (fun c6 => ?_)
      · rw [if_pos c6] at h
        exact wp_sub (ls' := [some (.ref 43), some (.int a1), some (.int a2), some (.int r1.1), some (.int x4), some (.int x5), none, none, none, none]) ⟨rfl, rfl, rfl, rfl, rfl, rfl, trivial⟩ (w_X9_lay_162 hL hdd hd0 h)
      · rw [if_neg c6] at h
        refine wp_aload_n (i := 0) dX9_lay_137 rfl rfl ?_
        refine wp_getR (t := 46) dX9_lay_138 fl_X9_16 rfl rfl ?_
        refine wp_bipush (v := 12) dX9_lay_141 (by decide +kernel) ?_
        refine wp_aload_n (i := 0) dX9_lay_143 rfl rfl ?_
        refine wp_getI dX9_lay_144 fl_X9_203 rfl rfl ?_
        refine wp_imul dX9_lay_147 ?_
        refine wp_iload_n (i := 1) dX9_lay_148 rfl rfl ?_
        refine wp_iadd dX9_lay_149 ?_
        refine wp_iconst (v := 1) dX9_lay_150 (by decide +kernel) ?_
        refine wp_isub dX9_lay_151 ?_
        obtain ⟨x7, ex7, h⟩ := ob h
        refine wp_aI dX9_lay_152 ex7 ?_
        refine wp_iload dX9_lay_153 rfl ?_
        refine wp_icmp_ne (tgt := 162) dX9_lay_155 (by decide) (fun c8 => ?_) (fun c8 => ?_)
        · rw [if_neg c8] at h
          exact wp_sub (ls' := [some (.ref 43), some (.int a1), some (.int a2), some (.int r1.1), some (.int x4), some (.int x5), none, none, none, none]) ⟨rfl, rfl, rfl, rfl, rfl, rfl, trivial⟩ (w_X9_lay_162 hL hdd hd0 h)
        · rw [if_pos c8] at h
          refine wp_iconst (v := 1) dX9_lay_158 (by decide +kernel) ?_
          refine wp_goto (tgt := 163) dX9_lay_159 (by decide) ?_
          exact wp_sub (ls' := [some (.ref 43), some (.int a1), some (.int a2), some (.int r1.1), some (.int x4), some (.int x5), none, none, none, none]) ⟨rfl, rfl, rfl, rfl, rfl, rfl, trivial⟩ (w_X9_lay_163 hL hdd hd0 h)
    · rw [if_pos c3] at h
      refine wp_iload_n (i := 2) dX9_lay_22 rfl rfl ?_
      refine wp_istore (ls' := [some (.ref 43), some (.int a1), some (.int a2), some (.int r1.1), some (.int a2), none, none, none, none, none]) dX9_lay_23 (by decide) rfl rfl ?_
      exact wp_sub (ls' := [some (.ref 43), none, none, some (.int r1.1), some (.int a2), none, none, none, none, none]) ⟨rfl, rfl, rfl, trivial⟩ (w_X9_lay_25 hL hdd hd0 _ _ _ _ h)
theorem ok_X9_lay {a1 a2 : Int32} {s : St} {r : St} (n : Nat) (h : f_X9_lay n a1 a2 s = some r) : Ct (n + 2) m_X9_lay [.ref 43, .int a1, .int a2] s none r := okr_X9_lay n _ _ _ _ h
def f_X9_allWays_23 (a1 : Nat) : Nat → Int32 → St → Option (St)
  | 0, _, _ => none
  | n + 1, v4, s =>
    if (12 : Int32) ≤ v4 then (
      Option.bind (f_X9_lay LAYN (0 : Int32) (0 : Int32) s) fun s2 =>
      some s2)
    else (
      Option.bind (pI s 59 v4 (0 : Int32)) fun s3 =>
      f_X9_allWays_23 a1 n (v4 + 1) s3)
set_option maxRecDepth 100000 in
set_option maxHeartbeats 4000000 in
theorem w_X9_allWays_23 {r : St} {a1 : Nat}   : ∀ (n : Nat) (v4 : Int32) (s : St), f_X9_allWays_23 a1  n v4 s = some r → Wp m_X9_allWays 17 (PR none r) 23 [some (.ref 43), none, none, none, some (.int v4)] [] s := by
  intro n
  induction n with
  | zero => intro v4 s h; cases h
  | succ n ih =>
    intro v4 s h
    unfold f_X9_allWays_23 at h
    refine wp_iload dX9_allWays_23 rfl ?_
    refine wp_bipush (v := 12) dX9_allWays_25 (by decide +kernel) ?_
    refine wp_icmp_ge (tgt := 44) dX9_allWays_27 (by decide) (fun c1 => ?_) (fun c1 => ?_)
    · rw [if_pos c1] at h
      refine wp_aload_n (i := 0) dX9_allWays_44 rfl rfl ?_
      refine wp_iconst (v := 0) dX9_allWays_45 (by decide +kernel) ?_
      refine wp_iconst (v := 0) dX9_allWays_46 (by decide +kernel) ?_
      obtain ⟨s2, es2, h⟩ := ob h
      refine wp_cVv (N := m_X9_lay) (As := [.int (0 : Int32), .int (0 : Int32)]) (rest := []) dX9_allWays_47 ml_X9_219 mo_X9_lay vo_X9_lay rfl rfl (ok_X9_lay _ es2) (by decide) (Nat.le_of_ble_eq_true rfl) ?_
      obtain rfl := Option.some.inj h
      exact wp_vret dX9_allWays_50 rfl
    · rw [if_neg c1] at h
      refine wp_aload_n (i := 0) dX9_allWays_30 rfl rfl ?_
      refine wp_getR (t := 59) dX9_allWays_31 fl_X9_59 rfl rfl ?_
      refine wp_iload dX9_allWays_34 rfl ?_
      refine wp_iconst (v := 0) dX9_allWays_36 (by decide +kernel) ?_
      obtain ⟨s3, es3, h⟩ := ob h
      refine wp_pI dX9_allWays_37 es3 ?_
      refine wp_inc (c := 1) (ls' := [some (.ref 43), none, none, none, some (.int (v4 + 1))]) dX9_allWays_38 rfl (by decide +kernel) (by decide) rfl rfl ?_
      refine wp_goto (tgt := 23) dX9_allWays_41 (by decide) ?_
      exact wp_sub (ls' := [some (.ref 43), none, none, none, some (.int (v4 + 1))]) ⟨rfl, rfl, trivial⟩ (ih _ _ h)
def f_X9_allWays (a1 : Nat) (a2 : Int32) (a3 : Int32) (s : St) : Option (St) :=
  Option.bind (some (sD s a1)) fun s1 =>
  Option.bind (some (sF s1 43 32 a2)) fun s2 =>
  Option.bind (some (sF s2 43 33 a3)) fun s3 =>
  Option.bind (some (sL s3 43 36 (0 : Int64))) fun s4 =>
  f_X9_allWays_23 a1 FU (0 : Int32) s4
set_option maxRecDepth 100000 in
set_option maxHeartbeats 4000000 in
theorem ok_X9_allWays {a1 : Nat} {a2 : Int32} {a3 : Int32} {s : St} {r : St} (h : f_X9_allWays a1 a2 a3 s = some r) : Ct 17 m_X9_allWays [.ref 43, .ref a1, .int a2, .int a3] s none r := by
  unfold f_X9_allWays at h
  refine ct_of [some (.ref 43), some (.ref a1), some (.int a2), some (.int a3), none] 1 (by decide) rfl (Nat.le_of_ble_eq_true rfl) ?_
  refine wp_aload_n (i := 0) dX9_allWays_0 rfl rfl ?_
  refine wp_aload_n (i := 1) dX9_allWays_1 rfl rfl ?_
  obtain ⟨s1, es1, h⟩ := ob h
  refine wp_putD2 dX9_allWays_2 fl_X9_197 rfl rfl rfl rfl es1 ?_
  refine wp_aload_n (i := 0) dX9_allWays_5 rfl rfl ?_
  refine wp_iload_n (i := 2) dX9_allWays_6 rfl rfl ?_
  obtain ⟨s2, es2, h⟩ := ob h
  refine wp_putI2 dX9_allWays_7 fl_X9_200 rfl rfl rfl rfl es2 ?_
  refine wp_aload_n (i := 0) dX9_allWays_10 rfl rfl ?_
  refine wp_iload_n (i := 3) dX9_allWays_11 rfl rfl ?_
  obtain ⟨s3, es3, h⟩ := ob h
  refine wp_putI2 dX9_allWays_12 fl_X9_203 rfl rfl rfl rfl es3 ?_
  refine wp_aload_n (i := 0) dX9_allWays_15 rfl rfl ?_
  refine wp_lconst (v := 0) dX9_allWays_16 (by decide +kernel) ?_
  obtain ⟨s4, es4, h⟩ := ob h
  refine wp_putJ2 dX9_allWays_17 fl_X9_215 rfl rfl rfl rfl es4 ?_
  refine wp_iconst (v := 0) dX9_allWays_20 (by decide +kernel) ?_
  refine wp_istore (ls' := [some (.ref 43), some (.ref a1), some (.int a2), some (.int a3), some (.int (0 : Int32))]) dX9_allWays_21 (by decide) rfl rfl ?_
  exact wp_sub (ls' := [some (.ref 43), none, none, none, some (.int (0 : Int32))]) ⟨rfl, rfl, trivial⟩ (w_X9_allWays_23 _ _ _ h)
def f_X9_lineRule_77 (a1 : Nat) (K25 : Int32 → Int32 → Int32 → Int32 → St → Option (Int32 × St)) (v2 : Int32) (v3 : Int32) (v4 : Int32) (v5 : Int32) (s : St) : Option (Int32 × St) :=
  K25 v2 v3 v4 (v5 + 1) s
set_option maxRecDepth 100000 in
set_option maxHeartbeats 4000000 in
theorem w_X9_lineRule_77 {r : Int32 × St} {a1 : Nat} {K25 : Int32 → Int32 → Int32 → Int32 → St → Option (Int32 × St)} (hK25 : ∀ (v2 : Int32) (v3 : Int32) (v4 : Int32) (v5 : Int32) (s : St), K25 v2 v3 v4 v5 s = some r → Wp m_X9_lineRule 18 (PR (some (.int r.1)) r.2) 25 [some (.ref 43), some (.ref a1), some (.int v2), some (.int v3), some (.int v4), some (.int v5), none] [] s) {v2 : Int32} {v3 : Int32} {v4 : Int32} {v5 : Int32}  {s : St} (h : f_X9_lineRule_77 a1 K25 v2 v3 v4 v5 s = some r) : Wp m_X9_lineRule 18 (PR (some (.int r.1)) r.2) 77 [some (.ref 43), some (.ref a1), some (.int v2), some (.int v3), some (.int v4), some (.int v5), none] [] s := by
  unfold f_X9_lineRule_77 at h
  refine wp_inc (c := 1) (ls' := [some (.ref 43), some (.ref a1), some (.int v2), some (.int v3), some (.int v4), some (.int (v5 + 1)), none]) dX9_lineRule_77 rfl (by decide +kernel) (by decide) rfl rfl ?_
  refine wp_goto (tgt := 25) dX9_lineRule_80 (by decide) ?_
  exact wp_sub (ls' := [some (.ref 43), some (.ref a1), some (.int v2), some (.int v3), some (.int v4), some (.int (v5 + 1)), none]) ⟨rfl, rfl, rfl, rfl, rfl, rfl, trivial⟩ (hK25 _ _ _ _ _ h)
def f_X9_lineRule_25 (a1 : Nat) : Nat → Int32 → Int32 → Int32 → Int32 → St → Option (Int32 × St)
  | 0, _, _, _, _, _ => none
  | n + 1, v2, v3, v4, v5, s =>
    Option.bind (f_X9_sizeOf v3 s) fun r1 =>
    if r1.1 ≤ v5 then (
      some (v4, r1.2))
    else (
      Option.bind (f_X9_cellOf v3 v5 r1.2) fun r3 =>
      Option.bind (aI r3.2 a1 (v2 + r3.1)) fun x4 =>
      Option.bind (aI r3.2 59 v5) fun x5 =>
      if x4 = x5 then (
        f_X9_lineRule_77 a1 (f_X9_lineRule_25 a1 n) v2 v3 v4 v5 r3.2)
      else (
        Option.bind (aI r3.2 59 v5) fun x7 =>
        Option.bind (pI r3.2 a1 (v2 + r3.1) x7) fun s8 =>
        f_X9_lineRule_77 a1 (f_X9_lineRule_25 a1 n) v2 v3 (v4 + 1) v5 s8))
set_option maxRecDepth 100000 in
set_option maxHeartbeats 4000000 in
theorem w_X9_lineRule_25 {r : Int32 × St} {a1 : Nat}   : ∀ (n : Nat) (v2 : Int32) (v3 : Int32) (v4 : Int32) (v5 : Int32) (s : St), f_X9_lineRule_25 a1  n v2 v3 v4 v5 s = some r → Wp m_X9_lineRule 18 (PR (some (.int r.1)) r.2) 25 [some (.ref 43), some (.ref a1), some (.int v2), some (.int v3), some (.int v4), some (.int v5), none] [] s := by
  intro n
  induction n with
  | zero => intro v2 v3 v4 v5 s h; cases h
  | succ n ih =>
    intro v2 v3 v4 v5 s h
    unfold f_X9_lineRule_25 at h
    refine wp_iload dX9_lineRule_25 rfl ?_
    refine wp_aload_n (i := 0) dX9_lineRule_27 rfl rfl ?_
    refine wp_iload_n (i := 3) dX9_lineRule_28 rfl rfl ?_
    obtain ⟨r1, er1, h⟩ := ob h
    refine wp_cVi (N := m_X9_sizeOf) (As := [.int v3]) (rest := [.int v5]) dX9_lineRule_29 ml_X9_209 mo_X9_sizeOf vo_X9_sizeOf rfl rfl (ok_X9_sizeOf er1) (by decide) (Nat.le_of_ble_eq_true rfl) ?_
    refine wp_icmp_ge (tgt := 83) dX9_lineRule_32 (by decide) (fun c2 => ?_) (fun c2 => ?_)
    · rw [if_pos c2] at h
      refine wp_iload dX9_lineRule_83 rfl ?_
      obtain rfl := Option.some.inj h
      exact wp_iret dX9_lineRule_85 rfl rfl
    · rw [if_neg c2] at h
      refine wp_iload_n (i := 2) dX9_lineRule_35 rfl rfl ?_
      refine wp_aload_n (i := 0) dX9_lineRule_36 rfl rfl ?_
      refine wp_iload_n (i := 3) dX9_lineRule_37 rfl rfl ?_
      refine wp_iload dX9_lineRule_38 rfl ?_
      obtain ⟨r3, er3, h⟩ := ob h
      refine wp_cVi (N := m_X9_cellOf) (As := [.int v3, .int v5]) (rest := [.int v2]) dX9_lineRule_40 ml_X9_206 mo_X9_cellOf vo_X9_cellOf rfl rfl (ok_X9_cellOf er3) (by decide) (Nat.le_of_ble_eq_true rfl) ?_
      refine wp_iadd dX9_lineRule_43 ?_
      refine wp_istore (ls' := [some (.ref 43), some (.ref a1), some (.int v2), some (.int v3), some (.int v4), some (.int v5), some (.int (v2 + r3.1))]) dX9_lineRule_44 (by decide) rfl rfl ?_
      refine wp_aload_n (i := 1) dX9_lineRule_46 rfl rfl ?_
      refine wp_iload dX9_lineRule_47 rfl ?_
      obtain ⟨x4, ex4, h⟩ := ob h
      refine wp_aI dX9_lineRule_49 ex4 ?_
      refine wp_aload_n (i := 0) dX9_lineRule_50 rfl rfl ?_
      refine wp_getR (t := 59) dX9_lineRule_51 fl_X9_59 rfl rfl ?_
      refine wp_iload dX9_lineRule_54 rfl ?_
      obtain ⟨x5, ex5, h⟩ := ob h
      refine wp_aI dX9_lineRule_56 ex5 ?_
      refine wp_icmp_ne (tgt := 63) dX9_lineRule_57 (by decide) (fun c6 => ?_) (fun c6 => ?_)
      · rw [if_neg c6] at h
        refine wp_aload_n (i := 1) dX9_lineRule_63 rfl rfl ?_
        refine wp_iload dX9_lineRule_64 rfl ?_
        refine wp_aload_n (i := 0) dX9_lineRule_66 rfl rfl ?_
        refine wp_getR (t := 59) dX9_lineRule_67 fl_X9_59 rfl rfl ?_
        refine wp_iload dX9_lineRule_70 rfl ?_
        obtain ⟨x7, ex7, h⟩ := ob h
        refine wp_aI dX9_lineRule_72 ex7 ?_
        obtain ⟨s8, es8, h⟩ := ob h
        refine wp_pI dX9_lineRule_73 es8 ?_
        refine wp_inc (c := 1) (ls' := [some (.ref 43), some (.ref a1), some (.int v2), some (.int v3), some (.int (v4 + 1)), some (.int v5), some (.int (v2 + r3.1))]) dX9_lineRule_74 rfl (by decide +kernel) (by decide) rfl rfl ?_
        exact wp_sub (ls' := [some (.ref 43), some (.ref a1), some (.int v2), some (.int v3), some (.int (v4 + 1)), some (.int v5), none]) ⟨rfl, rfl, rfl, rfl, rfl, rfl, trivial⟩ (w_X9_lineRule_77 ih h)
      · rw [if_pos c6] at h
        refine wp_goto (tgt := 77) dX9_lineRule_60 (by decide) ?_
        exact wp_sub (ls' := [some (.ref 43), some (.ref a1), some (.int v2), some (.int v3), some (.int v4), some (.int v5), none]) ⟨rfl, rfl, rfl, rfl, rfl, rfl, trivial⟩ (w_X9_lineRule_77 ih h)
def f_X9_lineRule (a1 : Nat) (a2 : Int32) (a3 : Int32) (s : St) : Option (Int32 × St) :=
  Option.bind (f_X9_allWays a1 a2 a3 s) fun s1 =>
  if (lg_cmp (s1.2.1 43 36) (0 : Int64)) = 0 then (
    some ((-2 : Int32), s1))
  else (
    f_X9_lineRule_25 a1 FU a2 a3 (0 : Int32) (0 : Int32) s1)
set_option maxRecDepth 100000 in
set_option maxHeartbeats 4000000 in
theorem ok_X9_lineRule {a1 : Nat} {a2 : Int32} {a3 : Int32} {s : St} {r : Int32 × St} (h : f_X9_lineRule a1 a2 a3 s = some r) : Ct 18 m_X9_lineRule [.ref 43, .ref a1, .int a2, .int a3] s (some (.int r.1)) r.2 := by
  unfold f_X9_lineRule at h
  refine ct_of [some (.ref 43), some (.ref a1), some (.int a2), some (.int a3), none, none, none] 3 (by decide) rfl (Nat.le_of_ble_eq_true rfl) ?_
  refine wp_aload_n (i := 0) dX9_lineRule_0 rfl rfl ?_
  refine wp_aload_n (i := 1) dX9_lineRule_1 rfl rfl ?_
  refine wp_iload_n (i := 2) dX9_lineRule_2 rfl rfl ?_
  refine wp_iload_n (i := 3) dX9_lineRule_3 rfl rfl ?_
  obtain ⟨s1, es1, h⟩ := ob h
  refine wp_cVv (N := m_X9_allWays) (As := [.ref a1, .int a2, .int a3]) (rest := []) dX9_lineRule_4 ml_X9_222 mo_X9_allWays vo_X9_allWays rfl rfl (ok_X9_allWays es1) (by decide) (Nat.le_of_ble_eq_true rfl) ?_
  refine wp_aload_n (i := 0) dX9_lineRule_7 rfl rfl ?_
  refine wp_getJ dX9_lineRule_8 fl_X9_215 rfl rfl ?_
  refine wp_lconst (v := 0) dX9_lineRule_11 (by decide +kernel) ?_
  refine wp_lcmp dX9_lineRule_12 ?_
  refine wp_if_ne (tgt := 19) dX9_lineRule_13 (by decide) (fun c2 => ?_) (fun c2 => ?_)
  · rw [if_neg c2] at h
    refine wp_iconst (v := 0) dX9_lineRule_19 (by decide +kernel) ?_
    refine wp_istore (ls' := [some (.ref 43), some (.ref a1), some (.int a2), some (.int a3), some (.int (0 : Int32)), none, none]) dX9_lineRule_20 (by decide) rfl rfl ?_
    refine wp_iconst (v := 0) dX9_lineRule_22 (by decide +kernel) ?_
    refine wp_istore (ls' := [some (.ref 43), some (.ref a1), some (.int a2), some (.int a3), some (.int (0 : Int32)), some (.int (0 : Int32)), none]) dX9_lineRule_23 (by decide) rfl rfl ?_
    exact wp_sub (ls' := [some (.ref 43), some (.ref a1), some (.int a2), some (.int a3), some (.int (0 : Int32)), some (.int (0 : Int32)), none]) ⟨rfl, rfl, rfl, rfl, rfl, rfl, trivial⟩ (w_X9_lineRule_25 _ _ _ _ _ _ h)
  · rw [if_pos c2] at h
    refine wp_bipush (v := -2) dX9_lineRule_16 (by decide +kernel) ?_
    obtain rfl := Option.some.inj h
    exact wp_iret dX9_lineRule_18 rfl rfl
def f_X9_toRest_16 (a1 : Nat) (K7 : Int32 → Int32 → St → Option (Int32 × St)) : Nat → Int32 → Int32 → Int32 → St → Option (Int32 × St)
  | 0, _, _, _, _ => none
  | n + 1, v2, v3, v4, s =>
    Option.bind (f_X9_lines s) fun r1 =>
    if r1.1 ≤ v4 then (
      K7 v2 v3 r1.2)
    else (
      Option.bind (some (sF r1.2 43 37 ((r1.2.1 43 37) + (1 : Int32)))) fun s3 =>
      Option.bind (f_X9_lineRule a1 v2 v4 s3) fun r4 =>
      if r4.1 = (-2 : Int32) then (
        some ((0 : Int32), r4.2))
      else (
        f_X9_toRest_16 a1 K7 n v2 (v3 + r4.1) (v4 + 1) r4.2))
set_option maxRecDepth 100000 in
set_option maxHeartbeats 4000000 in
theorem w_X9_toRest_16 {r : Int32 × St} {a1 : Nat} {K7 : Int32 → Int32 → St → Option (Int32 × St)} (hK7 : ∀ (v2 : Int32) (v3 : Int32) (s : St), K7 v2 v3 s = some r → Wp m_X9_toRest 19 (PR (some (.int r.1)) r.2) 7 [some (.ref 43), some (.ref a1), some (.int v2), some (.int v3), none, none] [] s)   : ∀ (n : Nat) (v2 : Int32) (v3 : Int32) (v4 : Int32) (s : St), f_X9_toRest_16 a1 K7 n v2 v3 v4 s = some r → Wp m_X9_toRest 19 (PR (some (.int r.1)) r.2) 16 [some (.ref 43), some (.ref a1), some (.int v2), some (.int v3), some (.int v4), none] [] s := by
  intro n
  induction n with
  | zero => intro v2 v3 v4 s h; cases h
  | succ n ih =>
    intro v2 v3 v4 s h
    unfold f_X9_toRest_16 at h
    refine wp_iload dX9_toRest_16 rfl ?_
    refine wp_aload_n (i := 0) dX9_toRest_18 rfl rfl ?_
    obtain ⟨r1, er1, h⟩ := ob h
    refine wp_cVi (N := m_X9_lines) (As := []) (rest := [.int v4]) dX9_toRest_19 ml_X9_93 mo_X9_lines vo_X9_lines rfl rfl (ok_X9_lines er1) (by decide) (Nat.le_of_ble_eq_true rfl) ?_
    refine wp_icmp_ge (tgt := 65) dX9_toRest_22 (by decide) (fun c2 => ?_) (fun c2 => ?_)
    · rw [if_pos c2] at h
      refine wp_goto (tgt := 7) dX9_toRest_65 (by decide) ?_
      exact wp_sub (ls' := [some (.ref 43), some (.ref a1), some (.int v2), some (.int v3), none, none]) ⟨rfl, rfl, rfl, rfl, trivial⟩ (hK7 _ _ _ h)
    · rw [if_neg c2] at h
      refine wp_aload_n (i := 0) dX9_toRest_25 rfl rfl ?_
      refine wp_dup_r dX9_toRest_26 ?_
      refine wp_getI dX9_toRest_27 fl_X9_226 rfl rfl ?_
      refine wp_iconst (v := 1) dX9_toRest_30 (by decide +kernel) ?_
      refine wp_iadd dX9_toRest_31 ?_
      obtain ⟨s3, es3, h⟩ := ob h
      refine wp_putI2 dX9_toRest_32 fl_X9_226 rfl rfl rfl rfl es3 ?_
      refine wp_aload_n (i := 0) dX9_toRest_35 rfl rfl ?_
      refine wp_aload_n (i := 1) dX9_toRest_36 rfl rfl ?_
      refine wp_iload_n (i := 2) dX9_toRest_37 rfl rfl ?_
      refine wp_iload dX9_toRest_38 rfl ?_
      obtain ⟨r4, er4, h⟩ := ob h
      refine wp_cVi (N := m_X9_lineRule) (As := [.ref a1, .int v2, .int v4]) (rest := []) dX9_toRest_40 ml_X9_229 mo_X9_lineRule vo_X9_lineRule rfl rfl (ok_X9_lineRule er4) (by decide) (Nat.le_of_ble_eq_true rfl) ?_
      refine wp_istore (ls' := [some (.ref 43), some (.ref a1), some (.int v2), some (.int v3), some (.int v4), some (.int r4.1)]) dX9_toRest_43 (by decide) rfl rfl ?_
      refine wp_iload dX9_toRest_45 rfl ?_
      refine wp_bipush (v := -2) dX9_toRest_47 (by decide +kernel) ?_
      refine wp_icmp_ne (tgt := 54) dX9_toRest_49 (by decide) (fun c5 => ?_) (fun c5 => ?_)
      · rw [if_neg c5] at h
        refine wp_iload_n (i := 3) dX9_toRest_54 rfl rfl ?_
        refine wp_iload dX9_toRest_55 rfl ?_
        refine wp_iadd dX9_toRest_57 ?_
        refine wp_istore_n (ls' := [some (.ref 43), some (.ref a1), some (.int v2), some (.int (v3 + r4.1)), some (.int v4), some (.int r4.1)]) dX9_toRest_58 rfl (by decide) rfl rfl ?_
        refine wp_inc (c := 1) (ls' := [some (.ref 43), some (.ref a1), some (.int v2), some (.int (v3 + r4.1)), some (.int (v4 + 1)), some (.int r4.1)]) dX9_toRest_59 rfl (by decide +kernel) (by decide) rfl rfl ?_
        refine wp_goto (tgt := 16) dX9_toRest_62 (by decide) ?_
        exact wp_sub (ls' := [some (.ref 43), some (.ref a1), some (.int v2), some (.int (v3 + r4.1)), some (.int (v4 + 1)), none]) ⟨rfl, rfl, rfl, rfl, rfl, trivial⟩ (ih _ _ _ _ h)
      · rw [if_pos c5] at h
        refine wp_iconst (v := 0) dX9_toRest_52 (by decide +kernel) ?_
        obtain rfl := Option.some.inj h
        exact wp_iret dX9_toRest_53 rfl (narrow_z (Or.inl rfl)).1
def f_X9_toRest_7 (a1 : Nat) : Nat → Int32 → Int32 → St → Option (Int32 × St)
  | 0, _, _, _ => none
  | n + 1, v2, v3, s =>
    if v3 ≤ 0 then (
      some ((1 : Int32), s))
    else (
      f_X9_toRest_16 a1 (f_X9_toRest_7 a1 n) FU v2 (0 : Int32) (0 : Int32) s)
set_option maxRecDepth 100000 in
set_option maxHeartbeats 4000000 in
theorem w_X9_toRest_7 {r : Int32 × St} {a1 : Nat}   : ∀ (n : Nat) (v2 : Int32) (v3 : Int32) (s : St), f_X9_toRest_7 a1  n v2 v3 s = some r → Wp m_X9_toRest 19 (PR (some (.int r.1)) r.2) 7 [some (.ref 43), some (.ref a1), some (.int v2), some (.int v3), none, none] [] s := by
  intro n
  induction n with
  | zero => intro v2 v3 s h; cases h
  | succ n ih =>
    intro v2 v3 s h
    unfold f_X9_toRest_7 at h
    refine wp_iload_n (i := 3) dX9_toRest_7 rfl rfl ?_
    refine wp_if_le (tgt := 68) dX9_toRest_8 (by decide) (fun c1 => ?_) (fun c1 => ?_)
    · rw [if_pos c1] at h
      refine wp_iconst (v := 1) dX9_toRest_68 (by decide +kernel) ?_
      obtain rfl := Option.some.inj h
      exact wp_iret dX9_toRest_69 rfl (narrow_z (Or.inr rfl)).1
    · rw [if_neg c1] at h
      refine wp_iconst (v := 0) dX9_toRest_11 (by decide +kernel) ?_
      refine wp_istore_n (ls' := [some (.ref 43), some (.ref a1), some (.int v2), some (.int (0 : Int32)), none, none]) dX9_toRest_12 rfl (by decide) rfl rfl ?_
      refine wp_iconst (v := 0) dX9_toRest_13 (by decide +kernel) ?_
      refine wp_istore (ls' := [some (.ref 43), some (.ref a1), some (.int v2), some (.int (0 : Int32)), some (.int (0 : Int32)), none]) dX9_toRest_14 (by decide) rfl rfl ?_
      exact wp_sub (ls' := [some (.ref 43), some (.ref a1), some (.int v2), some (.int (0 : Int32)), some (.int (0 : Int32)), none]) ⟨rfl, rfl, rfl, rfl, rfl, trivial⟩ (w_X9_toRest_16 ih _ _ _ _ _ h)
def f_X9_toRest (a1 : Nat) (a2 : Int32) (s : St) : Option (Int32 × St) :=
  Option.bind (some (sF s 43 37 (0 : Int32))) fun s1 =>
  f_X9_toRest_7 a1 FU a2 (1 : Int32) s1
set_option maxRecDepth 100000 in
set_option maxHeartbeats 4000000 in
theorem ok_X9_toRest {a1 : Nat} {a2 : Int32} {s : St} {r : Int32 × St} (h : f_X9_toRest a1 a2 s = some r) : Ct 19 m_X9_toRest [.ref 43, .ref a1, .int a2] s (some (.int r.1)) r.2 := by
  unfold f_X9_toRest at h
  refine ct_of [some (.ref 43), some (.ref a1), some (.int a2), none, none, none] 3 (by decide) rfl (Nat.le_of_ble_eq_true rfl) ?_
  refine wp_aload_n (i := 0) dX9_toRest_0 rfl rfl ?_
  refine wp_iconst (v := 0) dX9_toRest_1 (by decide +kernel) ?_
  obtain ⟨s1, es1, h⟩ := ob h
  refine wp_putI2 dX9_toRest_2 fl_X9_226 rfl rfl rfl rfl es1 ?_
  refine wp_iconst (v := 1) dX9_toRest_5 (by decide +kernel) ?_
  refine wp_istore_n (ls' := [some (.ref 43), some (.ref a1), some (.int a2), some (.int (1 : Int32)), none, none]) dX9_toRest_6 rfl (by decide) rfl rfl ?_
  exact wp_sub (ls' := [some (.ref 43), some (.ref a1), some (.int a2), some (.int (1 : Int32)), none, none]) ⟨rfl, rfl, rfl, rfl, trivial⟩ (w_X9_toRest_7 _ _ _ _ h)
def f_X9_trying_168 (a1 : Nat) (K7 : Int32 → St → Option (Int32 × St)) (K22 : Int32 → Int32 → St → Option (Int32 × St)) (K45 : Int32 → Int32 → Int32 → Int32 → St → Option (Int32 × St)) (v2 : Int32) (v3 : Int32) (v4 : Int32) (v5 : Int32) (s : St) : Option (Int32 × St) :=
  K45 v2 v3 v4 (v5 + 1) s
set_option maxRecDepth 100000 in
set_option maxHeartbeats 4000000 in
theorem w_X9_trying_168 {r : Int32 × St} {a1 : Nat} {K7 : Int32 → St → Option (Int32 × St)} (hK7 : ∀ (v2 : Int32) (s : St), K7 v2 s = some r → Wp m_X9_trying 20 (PR (some (.int r.1)) r.2) 7 [some (.ref 43), some (.ref a1), some (.int v2), none, none, none, none] [] s) {K22 : Int32 → Int32 → St → Option (Int32 × St)} (hK22 : ∀ (v2 : Int32) (v3 : Int32) (s : St), K22 v2 v3 s = some r → Wp m_X9_trying 20 (PR (some (.int r.1)) r.2) 22 [some (.ref 43), some (.ref a1), some (.int v2), some (.int v3), none, none, none] [] s) {K45 : Int32 → Int32 → Int32 → Int32 → St → Option (Int32 × St)} (hK45 : ∀ (v2 : Int32) (v3 : Int32) (v4 : Int32) (v5 : Int32) (s : St), K45 v2 v3 v4 v5 s = some r → Wp m_X9_trying 20 (PR (some (.int r.1)) r.2) 45 [some (.ref 43), some (.ref a1), some (.int v2), some (.int v3), some (.int v4), some (.int v5), none] [] s) {v2 : Int32} {v3 : Int32} {v4 : Int32} {v5 : Int32}  {s : St} (h : f_X9_trying_168 a1 K7 K22 K45 v2 v3 v4 v5 s = some r) : Wp m_X9_trying 20 (PR (some (.int r.1)) r.2) 168 [some (.ref 43), some (.ref a1), some (.int v2), some (.int v3), some (.int v4), some (.int v5), none] [] s := by
  unfold f_X9_trying_168 at h
  refine wp_inc (c := 1) (ls' := [some (.ref 43), some (.ref a1), some (.int v2), some (.int v3), some (.int v4), some (.int (v5 + 1)), none]) dX9_trying_168 rfl (by decide +kernel) (by decide) rfl rfl ?_
  refine wp_goto (tgt := 45) dX9_trying_171 (by decide) ?_
  exact wp_sub (ls' := [some (.ref 43), some (.ref a1), some (.int v2), some (.int v3), some (.int v4), some (.int (v5 + 1)), none]) ⟨rfl, rfl, rfl, rfl, rfl, rfl, trivial⟩ (hK45 _ _ _ _ _ h)
def f_X9_trying_83 (a1 : Nat) (K7 : Int32 → St → Option (Int32 × St)) (K22 : Int32 → Int32 → St → Option (Int32 × St)) (K45 : Int32 → Int32 → Int32 → Int32 → St → Option (Int32 × St)) : Nat → Int32 → Int32 → Int32 → Int32 → Int32 → St → Option (Int32 × St)
  | 0, _, _, _, _, _, _ => none
  | n + 1, v2, v3, v4, v5, v6, s =>
    if (144 : Int32) ≤ v6 then (
      Option.bind (pI s 60 v4 ((1 : Int32) <<< (v5 &&& 31))) fun s2 =>
      Option.bind (f_X9_toRest 60 (0 : Int32) s2) fun r3 =>
      if r3.1 = 0 then (
        Option.bind (aI r3.2 a1 v4) fun x5 =>
        Option.bind (pI r3.2 a1 v4 (x5 &&& (((1 : Int32) <<< (v5 &&& 31)) ^^^ (-1 : Int32)))) fun s6 =>
        Option.bind (some (sF s6 43 39 ((s6.1 43 39) + (1 : Int32)))) fun s7 =>
        Option.bind (f_X9_toRest a1 (0 : Int32) s7) fun r8 =>
        if r8.1 = 0 then (
          some ((0 : Int32), r8.2))
        else (
          f_X9_trying_168 a1 K7 K22 K45 v2 v3 v4 v5 r8.2))
      else (
        f_X9_trying_168 a1 K7 K22 K45 v2 v3 v4 v5 r3.2))
    else (
      Option.bind (aI s a1 v6) fun x10 =>
      Option.bind (pI s 60 v6 x10) fun s11 =>
      f_X9_trying_83 a1 K7 K22 K45 n v2 v3 v4 v5 (v6 + 1) s11)
set_option maxRecDepth 100000 in
set_option maxHeartbeats 4000000 in
theorem w_X9_trying_83 {r : Int32 × St} {a1 : Nat} {K7 : Int32 → St → Option (Int32 × St)} (hK7 : ∀ (v2 : Int32) (s : St), K7 v2 s = some r → Wp m_X9_trying 20 (PR (some (.int r.1)) r.2) 7 [some (.ref 43), some (.ref a1), some (.int v2), none, none, none, none] [] s) {K22 : Int32 → Int32 → St → Option (Int32 × St)} (hK22 : ∀ (v2 : Int32) (v3 : Int32) (s : St), K22 v2 v3 s = some r → Wp m_X9_trying 20 (PR (some (.int r.1)) r.2) 22 [some (.ref 43), some (.ref a1), some (.int v2), some (.int v3), none, none, none] [] s) {K45 : Int32 → Int32 → Int32 → Int32 → St → Option (Int32 × St)} (hK45 : ∀ (v2 : Int32) (v3 : Int32) (v4 : Int32) (v5 : Int32) (s : St), K45 v2 v3 v4 v5 s = some r → Wp m_X9_trying 20 (PR (some (.int r.1)) r.2) 45 [some (.ref 43), some (.ref a1), some (.int v2), some (.int v3), some (.int v4), some (.int v5), none] [] s)   : ∀ (n : Nat) (v2 : Int32) (v3 : Int32) (v4 : Int32) (v5 : Int32) (v6 : Int32) (s : St), f_X9_trying_83 a1 K7 K22 K45 n v2 v3 v4 v5 v6 s = some r → Wp m_X9_trying 20 (PR (some (.int r.1)) r.2) 83 [some (.ref 43), some (.ref a1), some (.int v2), some (.int v3), some (.int v4), some (.int v5), some (.int v6)] [] s := by
  intro n
  induction n with
  | zero => intro v2 v3 v4 v5 v6 s h; cases h
  | succ n ih =>
    intro v2 v3 v4 v5 v6 s h
    unfold f_X9_trying_83 at h
    refine wp_iload dX9_trying_83 rfl ?_
    refine wp_sipush (v := 144) dX9_trying_85 (by decide +kernel) ?_
    refine wp_icmp_ge (tgt := 108) dX9_trying_88 (by decide) (fun c1 => ?_) (fun c1 => ?_)
    · rw [if_pos c1] at h
      refine wp_aload_n (i := 0) dX9_trying_108 rfl rfl ?_
      refine wp_getR (t := 60) dX9_trying_109 fl_X9_62 rfl rfl ?_
      refine wp_iload dX9_trying_112 rfl ?_
      refine wp_iconst (v := 1) dX9_trying_114 (by decide +kernel) ?_
      refine wp_iload dX9_trying_115 rfl ?_
      refine wp_ishl dX9_trying_117 ?_
      obtain ⟨s2, es2, h⟩ := ob h
      refine wp_pI dX9_trying_118 es2 ?_
      refine wp_aload_n (i := 0) dX9_trying_119 rfl rfl ?_
      refine wp_aload_n (i := 0) dX9_trying_120 rfl rfl ?_
      refine wp_getR (t := 60) dX9_trying_121 fl_X9_62 rfl rfl ?_
      refine wp_iconst (v := 0) dX9_trying_124 (by decide +kernel) ?_
      obtain ⟨r3, er3, h⟩ := ob h
      refine wp_cVi (N := m_X9_toRest) (As := [.ref 60, .int (0 : Int32)]) (rest := []) dX9_trying_125 ml_X9_239 mo_X9_toRest vo_X9_toRest rfl rfl (ok_X9_toRest er3) (by decide) (Nat.le_of_ble_eq_true rfl) ?_
      refine wp_if_eq (tgt := 134) dX9_trying_128 (by decide) (fun c4 => ?_) (fun c4 => ?_)
      · rw [if_pos c4] at h
        refine wp_aload_n (i := 1) dX9_trying_134 rfl rfl ?_
        refine wp_iload dX9_trying_135 rfl ?_
        refine wp_dup2_ir dX9_trying_137 ?_
        obtain ⟨x5, ex5, h⟩ := ob h
        refine wp_aI dX9_trying_138 ex5 ?_
        refine wp_iconst (v := 1) dX9_trying_139 (by decide +kernel) ?_
        refine wp_iload dX9_trying_140 rfl ?_
        refine wp_ishl dX9_trying_142 ?_
        refine wp_iconst (v := -1) dX9_trying_143 (by decide +kernel) ?_
        refine wp_ixor dX9_trying_144 ?_
        refine wp_iand dX9_trying_145 ?_
        obtain ⟨s6, es6, h⟩ := ob h
        refine wp_pI dX9_trying_146 es6 ?_
        refine wp_aload_n (i := 0) dX9_trying_147 rfl rfl ?_
        refine wp_dup_r dX9_trying_148 ?_
        refine wp_getI dX9_trying_149 fl_X9_233 rfl rfl ?_
        refine wp_iconst (v := 1) dX9_trying_152 (by decide +kernel) ?_
        refine wp_iadd dX9_trying_153 ?_
        obtain ⟨s7, es7, h⟩ := ob h
        refine wp_putI2 dX9_trying_154 fl_X9_233 rfl rfl rfl rfl es7 ?_
        refine wp_aload_n (i := 0) dX9_trying_157 rfl rfl ?_
        refine wp_aload_n (i := 1) dX9_trying_158 rfl rfl ?_
        refine wp_iconst (v := 0) dX9_trying_159 (by decide +kernel) ?_
        obtain ⟨r8, er8, h⟩ := ob h
        refine wp_cVi (N := m_X9_toRest) (As := [.ref a1, .int (0 : Int32)]) (rest := []) dX9_trying_160 ml_X9_239 mo_X9_toRest vo_X9_toRest rfl rfl (ok_X9_toRest er8) (by decide) (Nat.le_of_ble_eq_true rfl) ?_
        refine wp_if_ne (tgt := 168) dX9_trying_163 (by decide) (fun c9 => ?_) (fun c9 => ?_)
        · rw [if_neg c9] at h
          exact wp_sub (ls' := [some (.ref 43), some (.ref a1), some (.int v2), some (.int v3), some (.int v4), some (.int v5), none]) ⟨rfl, rfl, rfl, rfl, rfl, rfl, trivial⟩ (w_X9_trying_168 hK7 hK22 hK45 h)
        · rw [if_pos c9] at h
          refine wp_iconst (v := 0) dX9_trying_166 (by decide +kernel) ?_
          obtain rfl := Option.some.inj h
          exact wp_iret dX9_trying_167 rfl (narrow_z (Or.inl rfl)).1
      · rw [if_neg c4] at h
        refine wp_goto (tgt := 168) dX9_trying_131 (by decide) ?_
        exact wp_sub (ls' := [some (.ref 43), some (.ref a1), some (.int v2), some (.int v3), some (.int v4), some (.int v5), none]) ⟨rfl, rfl, rfl, rfl, rfl, rfl, trivial⟩ (w_X9_trying_168 hK7 hK22 hK45 h)
    · rw [if_neg c1] at h
      refine wp_aload_n (i := 0) dX9_trying_91 rfl rfl ?_
      refine wp_getR (t := 60) dX9_trying_92 fl_X9_62 rfl rfl ?_
      refine wp_iload dX9_trying_95 rfl ?_
      refine wp_aload_n (i := 1) dX9_trying_97 rfl rfl ?_
      refine wp_iload dX9_trying_98 rfl ?_
      obtain ⟨x10, ex10, h⟩ := ob h
      refine wp_aI dX9_trying_100 ex10 ?_
      obtain ⟨s11, es11, h⟩ := ob h
      refine wp_pI dX9_trying_101 es11 ?_
      refine wp_inc (c := 1) (ls' := [some (.ref 43), some (.ref a1), some (.int v2), some (.int v3), some (.int v4), some (.int v5), some (.int (v6 + 1))]) dX9_trying_102 rfl (by decide +kernel) (by decide) rfl rfl ?_
      refine wp_goto (tgt := 83) dX9_trying_105 (by decide) ?_
      exact wp_sub (ls' := [some (.ref 43), some (.ref a1), some (.int v2), some (.int v3), some (.int v4), some (.int v5), some (.int (v6 + 1))]) ⟨rfl, rfl, rfl, rfl, rfl, rfl, rfl, trivial⟩ (ih _ _ _ _ _ _ h)
def f_X9_trying_45 (a1 : Nat) (K7 : Int32 → St → Option (Int32 × St)) (K22 : Int32 → Int32 → St → Option (Int32 × St)) : Nat → Int32 → Int32 → Int32 → Int32 → St → Option (Int32 × St)
  | 0, _, _, _, _, _ => none
  | n + 1, v2, v3, v4, v5, s =>
    if (s.1 43 3) < v5 then (
      K22 v2 (v3 + 1) s)
    else (
      Option.bind (aI s a1 v4) fun x2 =>
      Option.bind (f_X9_many x2 s) fun r3 =>
      if r3.1 < (2 : Int32) then (
        f_X9_trying_168 a1 K7 K22 (f_X9_trying_45 a1 K7 K22 n) v2 v3 v4 v5 r3.2)
      else (
        Option.bind (aI r3.2 a1 v4) fun x5 =>
        if ((x5 >>> (v5 &&& 31)) &&& (1 : Int32)) = 0 then (
          f_X9_trying_168 a1 K7 K22 (f_X9_trying_45 a1 K7 K22 n) v2 v3 v4 v5 r3.2)
        else (
          f_X9_trying_83 a1 K7 K22 (f_X9_trying_45 a1 K7 K22 n) FU v2 v3 v4 v5 (0 : Int32) r3.2)))
set_option maxRecDepth 100000 in
set_option maxHeartbeats 4000000 in
theorem w_X9_trying_45 {r : Int32 × St} {a1 : Nat} {K7 : Int32 → St → Option (Int32 × St)} (hK7 : ∀ (v2 : Int32) (s : St), K7 v2 s = some r → Wp m_X9_trying 20 (PR (some (.int r.1)) r.2) 7 [some (.ref 43), some (.ref a1), some (.int v2), none, none, none, none] [] s) {K22 : Int32 → Int32 → St → Option (Int32 × St)} (hK22 : ∀ (v2 : Int32) (v3 : Int32) (s : St), K22 v2 v3 s = some r → Wp m_X9_trying 20 (PR (some (.int r.1)) r.2) 22 [some (.ref 43), some (.ref a1), some (.int v2), some (.int v3), none, none, none] [] s)   : ∀ (n : Nat) (v2 : Int32) (v3 : Int32) (v4 : Int32) (v5 : Int32) (s : St), f_X9_trying_45 a1 K7 K22 n v2 v3 v4 v5 s = some r → Wp m_X9_trying 20 (PR (some (.int r.1)) r.2) 45 [some (.ref 43), some (.ref a1), some (.int v2), some (.int v3), some (.int v4), some (.int v5), none] [] s := by
  intro n
  induction n with
  | zero => intro v2 v3 v4 v5 s h; cases h
  | succ n ih =>
    intro v2 v3 v4 v5 s h
    unfold f_X9_trying_45 at h
    refine wp_iload dX9_trying_45 rfl ?_
    refine wp_aload_n (i := 0) dX9_trying_47 rfl rfl ?_
    refine wp_getI dX9_trying_48 fl_X9_169 rfl rfl ?_
    refine wp_icmp_gt (tgt := 174) dX9_trying_51 (by decide) (fun c1 => ?_) (fun c1 => ?_)
    · rw [if_pos c1] at h
      refine wp_inc (c := 1) (ls' := [some (.ref 43), some (.ref a1), some (.int v2), some (.int (v3 + 1)), some (.int v4), some (.int v5), none]) dX9_trying_174 rfl (by decide +kernel) (by decide) rfl rfl ?_
      refine wp_goto (tgt := 22) dX9_trying_177 (by decide) ?_
      exact wp_sub (ls' := [some (.ref 43), some (.ref a1), some (.int v2), some (.int (v3 + 1)), none, none, none]) ⟨rfl, rfl, rfl, rfl, trivial⟩ (hK22 _ _ _ h)
    · rw [if_neg c1] at h
      refine wp_aload_n (i := 1) dX9_trying_54 rfl rfl ?_
      refine wp_iload dX9_trying_55 rfl ?_
      obtain ⟨x2, ex2, h⟩ := ob h
      refine wp_aI dX9_trying_57 ex2 ?_
      obtain ⟨r3, er3, h⟩ := ob h
      refine wp_cSi (N := m_X9_many) (As := [.int x2]) (rest := []) dX9_trying_58 ml_X9_185 mo_X9_many vo_X9_many rfl (ok_X9_many er3) (by decide) (Nat.le_of_ble_eq_true rfl) ?_
      refine wp_iconst (v := 2) dX9_trying_61 (by decide +kernel) ?_
      refine wp_icmp_lt (tgt := 168) dX9_trying_62 (by decide) (fun c4 => ?_) (fun c4 => ?_)
      · rw [if_pos c4] at h
        exact wp_sub (ls' := [some (.ref 43), some (.ref a1), some (.int v2), some (.int v3), some (.int v4), some (.int v5), none]) ⟨rfl, rfl, rfl, rfl, rfl, rfl, trivial⟩ (w_X9_trying_168 hK7 hK22 ih h)
      · rw [if_neg c4] at h
        refine wp_aload_n (i := 1) dX9_trying_65 rfl rfl ?_
        refine wp_iload dX9_trying_66 rfl ?_
        obtain ⟨x5, ex5, h⟩ := ob h
        refine wp_aI dX9_trying_68 ex5 ?_
        refine wp_iload dX9_trying_69 rfl ?_
        refine wp_ishr dX9_trying_71 ?_
        refine wp_iconst (v := 1) dX9_trying_72 (by decide +kernel) ?_
        refine wp_iand dX9_trying_73 ?_
        refine wp_if_ne (tgt := 80) dX9_trying_74 (by decide) (fun c6 => ?_) (fun c6 => ?_)
        · rw [if_neg c6] at h
          refine wp_iconst (v := 0) dX9_trying_80 (by decide +kernel) ?_
          refine wp_istore (ls' := [some (.ref 43), some (.ref a1), some (.int v2), some (.int v3), some (.int v4), some (.int v5), some (.int (0 : Int32))]) dX9_trying_81 (by decide) rfl rfl ?_
          exact wp_sub (ls' := [some (.ref 43), some (.ref a1), some (.int v2), some (.int v3), some (.int v4), some (.int v5), some (.int (0 : Int32))]) ⟨rfl, rfl, rfl, rfl, rfl, rfl, rfl, trivial⟩ (w_X9_trying_83 hK7 hK22 ih _ _ _ _ _ _ _ h)
        · rw [if_pos c6] at h
          refine wp_goto (tgt := 168) dX9_trying_77 (by decide) ?_
          exact wp_sub (ls' := [some (.ref 43), some (.ref a1), some (.int v2), some (.int v3), some (.int v4), some (.int v5), none]) ⟨rfl, rfl, rfl, rfl, rfl, rfl, trivial⟩ (w_X9_trying_168 hK7 hK22 ih h)
def f_X9_trying_22 (a1 : Nat) (K7 : Int32 → St → Option (Int32 × St)) : Nat → Int32 → Int32 → St → Option (Int32 × St)
  | 0, _, _, _ => none
  | n + 1, v2, v3, s =>
    if ((s.1 43 1) * (s.1 43 2)) ≤ v3 then (
      K7 v2 s)
    else (
      Option.bind (f_X9_inOrder v3 s) fun r2 =>
      f_X9_trying_45 a1 K7 (f_X9_trying_22 a1 K7 n) FU v2 v3 r2.1 (0 : Int32) r2.2)
set_option maxRecDepth 100000 in
set_option maxHeartbeats 4000000 in
theorem w_X9_trying_22 {r : Int32 × St} {a1 : Nat} {K7 : Int32 → St → Option (Int32 × St)} (hK7 : ∀ (v2 : Int32) (s : St), K7 v2 s = some r → Wp m_X9_trying 20 (PR (some (.int r.1)) r.2) 7 [some (.ref 43), some (.ref a1), some (.int v2), none, none, none, none] [] s)   : ∀ (n : Nat) (v2 : Int32) (v3 : Int32) (s : St), f_X9_trying_22 a1 K7 n v2 v3 s = some r → Wp m_X9_trying 20 (PR (some (.int r.1)) r.2) 22 [some (.ref 43), some (.ref a1), some (.int v2), some (.int v3), none, none, none] [] s := by
  intro n
  induction n with
  | zero => intro v2 v3 s h; cases h
  | succ n ih =>
    intro v2 v3 s h
    unfold f_X9_trying_22 at h
    refine wp_iload_n (i := 3) dX9_trying_22 rfl rfl ?_
    refine wp_aload_n (i := 0) dX9_trying_23 rfl rfl ?_
    refine wp_getI dX9_trying_24 fl_X9_83 rfl rfl ?_
    refine wp_aload_n (i := 0) dX9_trying_27 rfl rfl ?_
    refine wp_getI dX9_trying_28 fl_X9_86 rfl rfl ?_
    refine wp_imul dX9_trying_31 ?_
    refine wp_icmp_ge (tgt := 180) dX9_trying_32 (by decide) (fun c1 => ?_) (fun c1 => ?_)
    · rw [if_pos c1] at h
      refine wp_goto (tgt := 7) dX9_trying_180 (by decide) ?_
      exact wp_sub (ls' := [some (.ref 43), some (.ref a1), some (.int v2), none, none, none, none]) ⟨rfl, rfl, rfl, trivial⟩ (hK7 _ _ h)
    · rw [if_neg c1] at h
      refine wp_aload_n (i := 0) dX9_trying_35 rfl rfl ?_
      refine wp_iload_n (i := 3) dX9_trying_36 rfl rfl ?_
      obtain ⟨r2, er2, h⟩ := ob h
      refine wp_cVi (N := m_X9_inOrder) (As := [.int v3]) (rest := []) dX9_trying_37 ml_X9_236 mo_X9_inOrder vo_X9_inOrder rfl rfl (ok_X9_inOrder er2) (by decide) (Nat.le_of_ble_eq_true rfl) ?_
      refine wp_istore (ls' := [some (.ref 43), some (.ref a1), some (.int v2), some (.int v3), some (.int r2.1), none, none]) dX9_trying_40 (by decide) rfl rfl ?_
      refine wp_iconst (v := 0) dX9_trying_42 (by decide +kernel) ?_
      refine wp_istore (ls' := [some (.ref 43), some (.ref a1), some (.int v2), some (.int v3), some (.int r2.1), some (.int (0 : Int32)), none]) dX9_trying_43 (by decide) rfl rfl ?_
      exact wp_sub (ls' := [some (.ref 43), some (.ref a1), some (.int v2), some (.int v3), some (.int r2.1), some (.int (0 : Int32)), none]) ⟨rfl, rfl, rfl, rfl, rfl, rfl, trivial⟩ (w_X9_trying_45 hK7 ih _ _ _ _ _ _ h)
def f_X9_trying_7 (a1 : Nat) : Nat → Int32 → St → Option (Int32 × St)
  | 0, _, _ => none
  | n + 1, v2, s =>
    if (s.1 43 39) ≤ v2 then (
      some ((1 : Int32), s))
    else (
      f_X9_trying_22 a1 (f_X9_trying_7 a1 n) FU (s.1 43 39) (0 : Int32) s)
set_option maxRecDepth 100000 in
set_option maxHeartbeats 4000000 in
theorem w_X9_trying_7 {r : Int32 × St} {a1 : Nat}   : ∀ (n : Nat) (v2 : Int32) (s : St), f_X9_trying_7 a1  n v2 s = some r → Wp m_X9_trying 20 (PR (some (.int r.1)) r.2) 7 [some (.ref 43), some (.ref a1), some (.int v2), none, none, none, none] [] s := by
  intro n
  induction n with
  | zero => intro v2 s h; cases h
  | succ n ih =>
    intro v2 s h
    unfold f_X9_trying_7 at h
    refine wp_aload_n (i := 0) dX9_trying_7 rfl rfl ?_
    refine wp_getI dX9_trying_8 fl_X9_233 rfl rfl ?_
    refine wp_iload_n (i := 2) dX9_trying_11 rfl rfl ?_
    refine wp_icmp_le (tgt := 183) dX9_trying_12 (by decide) (fun c1 => ?_) (fun c1 => ?_)
    · rw [if_pos c1] at h
      refine wp_iconst (v := 1) dX9_trying_183 (by decide +kernel) ?_
      obtain rfl := Option.some.inj h
      exact wp_iret dX9_trying_184 rfl (narrow_z (Or.inr rfl)).1
    · rw [if_neg c1] at h
      refine wp_aload_n (i := 0) dX9_trying_15 rfl rfl ?_
      refine wp_getI dX9_trying_16 fl_X9_233 rfl rfl ?_
      refine wp_istore_n (ls' := [some (.ref 43), some (.ref a1), some (.int (s.1 43 39)), none, none, none, none]) dX9_trying_19 rfl (by decide) rfl rfl ?_
      refine wp_iconst (v := 0) dX9_trying_20 (by decide +kernel) ?_
      refine wp_istore_n (ls' := [some (.ref 43), some (.ref a1), some (.int (s.1 43 39)), some (.int (0 : Int32)), none, none, none]) dX9_trying_21 rfl (by decide) rfl rfl ?_
      exact wp_sub (ls' := [some (.ref 43), some (.ref a1), some (.int (s.1 43 39)), some (.int (0 : Int32)), none, none, none]) ⟨rfl, rfl, rfl, rfl, trivial⟩ (w_X9_trying_22 ih _ _ _ _ h)
def f_X9_trying (a1 : Nat) (s : St) : Option (Int32 × St) :=
  Option.bind (some (sF s 43 39 (0 : Int32))) fun s1 =>
  f_X9_trying_7 a1 FU (-1 : Int32) s1
set_option maxRecDepth 100000 in
set_option maxHeartbeats 4000000 in
theorem ok_X9_trying {a1 : Nat} {s : St} {r : Int32 × St} (h : f_X9_trying a1 s = some r) : Ct 20 m_X9_trying [.ref 43, .ref a1] s (some (.int r.1)) r.2 := by
  unfold f_X9_trying at h
  refine ct_of [some (.ref 43), some (.ref a1), none, none, none, none, none] 5 (by decide) rfl (Nat.le_of_ble_eq_true rfl) ?_
  refine wp_aload_n (i := 0) dX9_trying_0 rfl rfl ?_
  refine wp_iconst (v := 0) dX9_trying_1 (by decide +kernel) ?_
  obtain ⟨s1, es1, h⟩ := ob h
  refine wp_putI2 dX9_trying_2 fl_X9_233 rfl rfl rfl rfl es1 ?_
  refine wp_iconst (v := -1) dX9_trying_5 (by decide +kernel) ?_
  refine wp_istore_n (ls' := [some (.ref 43), some (.ref a1), some (.int (-1 : Int32)), none, none, none, none]) dX9_trying_6 rfl (by decide) rfl rfl ?_
  exact wp_sub (ls' := [some (.ref 43), some (.ref a1), some (.int (-1 : Int32)), none, none, none, none]) ⟨rfl, rfl, rfl, trivial⟩ (w_X9_trying_7 _ _ _ h)
