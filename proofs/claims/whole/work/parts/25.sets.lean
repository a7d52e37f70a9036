/-! decompiled by wip/gen/gen.py -/
theorem dX4_leastOf_0 : decode cX4_leastOf 0 = .ok (.iconst 0, 1) := by decide +kernel
theorem dX4_leastOf_1 : decode cX4_leastOf 1 = .ok (.istore_n 1, 1) := by decide +kernel
theorem dX4_leastOf_2 : decode cX4_leastOf 2 = .ok (.iload_n 1, 1) := by decide +kernel
theorem dX4_leastOf_3 : decode cX4_leastOf 3 = .ok (.iconst 3, 1) := by decide +kernel
theorem dX4_leastOf_4 : decode cX4_leastOf 4 = .ok (.if_icmp .ge 17, 3) := by decide +kernel
theorem dX4_leastOf_7 : decode cX4_leastOf 7 = .ok (.iload_n 0, 1) := by decide +kernel
theorem dX4_leastOf_8 : decode cX4_leastOf 8 = .ok (.iload_n 1, 1) := by decide +kernel
theorem dX4_leastOf_9 : decode cX4_leastOf 9 = .ok (.iushr, 1) := by decide +kernel
theorem dX4_leastOf_10 : decode cX4_leastOf 10 = .ok (.iconst 1, 1) := by decide +kernel
theorem dX4_leastOf_11 : decode cX4_leastOf 11 = .ok (.iand, 1) := by decide +kernel
theorem dX4_leastOf_12 : decode cX4_leastOf 12 = .ok (.ifCond .ne 9, 3) := by decide +kernel
theorem dX4_leastOf_15 : decode cX4_leastOf 15 = .ok (.iinc 1 1, 3) := by decide +kernel
theorem dX4_leastOf_18 : decode cX4_leastOf 18 = .ok (.goto (-16), 3) := by decide +kernel
theorem dX4_leastOf_21 : decode cX4_leastOf 21 = .ok (.iload_n 1, 1) := by decide +kernel
theorem dX4_leastOf_22 : decode cX4_leastOf 22 = .ok (.ireturn, 1) := by decide +kernel
theorem dX4_valuesIn_0 : decode cX4_valuesIn 0 = .ok (.lload_n 0, 1) := by decide +kernel
theorem dX4_valuesIn_1 : decode cX4_valuesIn 1 = .ok (.iload_n 2, 1) := by decide +kernel
theorem dX4_valuesIn_2 : decode cX4_valuesIn 2 = .ok (.lushr, 1) := by decide +kernel
theorem dX4_valuesIn_3 : decode cX4_valuesIn 3 = .ok (.ldc2_w 61, 3) := by decide +kernel
theorem dX4_valuesIn_6 : decode cX4_valuesIn 6 = .ok (.land, 1) := by decide +kernel
theorem dX4_valuesIn_7 : decode cX4_valuesIn 7 = .ok (.lstore_n 3, 1) := by decide +kernel
theorem dX4_valuesIn_8 : decode cX4_valuesIn 8 = .ok (.lload_n 3, 1) := by decide +kernel
theorem dX4_valuesIn_9 : decode cX4_valuesIn 9 = .ok (.lload_n 3, 1) := by decide +kernel
theorem dX4_valuesIn_10 : decode cX4_valuesIn 10 = .ok (.bipush 11, 2) := by decide +kernel
theorem dX4_valuesIn_12 : decode cX4_valuesIn 12 = .ok (.lushr, 1) := by decide +kernel
theorem dX4_valuesIn_13 : decode cX4_valuesIn 13 = .ok (.lor, 1) := by decide +kernel
theorem dX4_valuesIn_14 : decode cX4_valuesIn 14 = .ok (.lload_n 3, 1) := by decide +kernel
theorem dX4_valuesIn_15 : decode cX4_valuesIn 15 = .ok (.bipush 22, 2) := by decide +kernel
theorem dX4_valuesIn_17 : decode cX4_valuesIn 17 = .ok (.lushr, 1) := by decide +kernel
theorem dX4_valuesIn_18 : decode cX4_valuesIn 18 = .ok (.lor, 1) := by decide +kernel
theorem dX4_valuesIn_19 : decode cX4_valuesIn 19 = .ok (.lload_n 3, 1) := by decide +kernel
theorem dX4_valuesIn_20 : decode cX4_valuesIn 20 = .ok (.bipush 33, 2) := by decide +kernel
theorem dX4_valuesIn_22 : decode cX4_valuesIn 22 = .ok (.lushr, 1) := by decide +kernel
theorem dX4_valuesIn_23 : decode cX4_valuesIn 23 = .ok (.lor, 1) := by decide +kernel
theorem dX4_valuesIn_24 : decode cX4_valuesIn 24 = .ok (.l2i, 1) := by decide +kernel
theorem dX4_valuesIn_25 : decode cX4_valuesIn 25 = .ok (.bipush 15, 2) := by decide +kernel
theorem dX4_valuesIn_27 : decode cX4_valuesIn 27 = .ok (.iand, 1) := by decide +kernel
theorem dX4_valuesIn_28 : decode cX4_valuesIn 28 = .ok (.ireturn, 1) := by decide +kernel
theorem dX4_valuesAt_0 : decode cX4_valuesAt 0 = .ok (.aload_n 0, 1) := by decide +kernel
theorem dX4_valuesAt_1 : decode cX4_valuesAt 1 = .ok (.getfield 9, 3) := by decide +kernel
theorem dX4_valuesAt_4 : decode cX4_valuesAt 4 = .ok (.iload_n 2, 1) := by decide +kernel
theorem dX4_valuesAt_5 : decode cX4_valuesAt 5 = .ok (.laload, 1) := by decide +kernel
theorem dX4_valuesAt_6 : decode cX4_valuesAt 6 = .ok (.iload_n 1, 1) := by decide +kernel
theorem dX4_valuesAt_7 : decode cX4_valuesAt 7 = .ok (.invokestatic 65, 3) := by decide +kernel
theorem dX4_valuesAt_10 : decode cX4_valuesAt 10 = .ok (.ireturn, 1) := by decide +kernel
theorem dX4_fill_0 : decode cX4_fill 0 = .ok (.iconst 0, 1) := by decide +kernel
theorem dX4_fill_1 : decode cX4_fill 1 = .ok (.istore_n 1, 1) := by decide +kernel
theorem dX4_fill_2 : decode cX4_fill 2 = .ok (.iload_n 1, 1) := by decide +kernel
theorem dX4_fill_3 : decode cX4_fill 3 = .ok (.aload_n 0, 1) := by decide +kernel
theorem dX4_fill_4 : decode cX4_fill 4 = .ok (.getfield 15, 3) := by decide +kernel
theorem dX4_fill_7 : decode cX4_fill 7 = .ok (.invokevirtual 26, 3) := by decide +kernel
theorem dX4_fill_10 : decode cX4_fill 10 = .ok (.if_icmp .ge 66, 3) := by decide +kernel
theorem dX4_fill_13 : decode cX4_fill 13 = .ok (.lconst 1, 1) := by decide +kernel
theorem dX4_fill_14 : decode cX4_fill 14 = .ok (.aload_n 0, 1) := by decide +kernel
theorem dX4_fill_15 : decode cX4_fill 15 = .ok (.getfield 15, 3) := by decide +kernel
theorem dX4_fill_18 : decode cX4_fill 18 = .ok (.iload_n 1, 1) := by decide +kernel
theorem dX4_fill_19 : decode cX4_fill 19 = .ok (.invokevirtual 31, 3) := by decide +kernel
theorem dX4_fill_22 : decode cX4_fill 22 = .ok (.lshl, 1) := by decide +kernel
theorem dX4_fill_23 : decode cX4_fill 23 = .ok (.lconst 1, 1) := by decide +kernel
theorem dX4_fill_24 : decode cX4_fill 24 = .ok (.lsub, 1) := by decide +kernel
theorem dX4_fill_25 : decode cX4_fill 25 = .ok (.lstore_n 2, 1) := by decide +kernel
theorem dX4_fill_26 : decode cX4_fill 26 = .ok (.lconst 0, 1) := by decide +kernel
theorem dX4_fill_27 : decode cX4_fill 27 = .ok (.lstore 4, 2) := by decide +kernel
theorem dX4_fill_29 : decode cX4_fill 29 = .ok (.iconst 0, 1) := by decide +kernel
theorem dX4_fill_30 : decode cX4_fill 30 = .ok (.istore 6, 2) := by decide +kernel
theorem dX4_fill_32 : decode cX4_fill 32 = .ok (.iload 6, 2) := by decide +kernel
theorem dX4_fill_34 : decode cX4_fill 34 = .ok (.aload_n 0, 1) := by decide +kernel
theorem dX4_fill_35 : decode cX4_fill 35 = .ok (.getfield 15, 3) := by decide +kernel
theorem dX4_fill_38 : decode cX4_fill 38 = .ok (.getfield 35, 3) := by decide +kernel
theorem dX4_fill_41 : decode cX4_fill 41 = .ok (.if_icmp .gt 21, 3) := by decide +kernel
theorem dX4_fill_44 : decode cX4_fill 44 = .ok (.lload 4, 2) := by decide +kernel
theorem dX4_fill_46 : decode cX4_fill 46 = .ok (.lload_n 2, 1) := by decide +kernel
theorem dX4_fill_47 : decode cX4_fill 47 = .ok (.bipush 12, 2) := by decide +kernel
theorem dX4_fill_49 : decode cX4_fill 49 = .ok (.iload 6, 2) := by decide +kernel
theorem dX4_fill_51 : decode cX4_fill 51 = .ok (.imul, 1) := by decide +kernel
theorem dX4_fill_52 : decode cX4_fill 52 = .ok (.lshl, 1) := by decide +kernel
theorem dX4_fill_53 : decode cX4_fill 53 = .ok (.lor, 1) := by decide +kernel
theorem dX4_fill_54 : decode cX4_fill 54 = .ok (.lstore 4, 2) := by decide +kernel
theorem dX4_fill_56 : decode cX4_fill 56 = .ok (.iinc 6 1, 3) := by decide +kernel
theorem dX4_fill_59 : decode cX4_fill 59 = .ok (.goto (-27), 3) := by decide +kernel
theorem dX4_fill_62 : decode cX4_fill 62 = .ok (.aload_n 0, 1) := by decide +kernel
theorem dX4_fill_63 : decode cX4_fill 63 = .ok (.getfield 9, 3) := by decide +kernel
theorem dX4_fill_66 : decode cX4_fill 66 = .ok (.iload_n 1, 1) := by decide +kernel
theorem dX4_fill_67 : decode cX4_fill 67 = .ok (.lload 4, 2) := by decide +kernel
theorem dX4_fill_69 : decode cX4_fill 69 = .ok (.lastore, 1) := by decide +kernel
theorem dX4_fill_70 : decode cX4_fill 70 = .ok (.iinc 1 1, 3) := by decide +kernel
theorem dX4_fill_73 : decode cX4_fill 73 = .ok (.goto (-71), 3) := by decide +kernel
theorem dX4_fill_76 : decode cX4_fill 76 = .ok (.return_, 1) := by decide +kernel
theorem dX4_fix_0 : decode cX4_fix 0 = .ok (.aload_n 0, 1) := by decide +kernel
theorem dX4_fix_1 : decode cX4_fix 1 = .ok (.getfield 15, 3) := by decide +kernel
theorem dX4_fix_4 : decode cX4_fix 4 = .ok (.getfield 39, 3) := by decide +kernel
theorem dX4_fix_7 : decode cX4_fix 7 = .ok (.iload_n 1, 1) := by decide +kernel
theorem dX4_fix_8 : decode cX4_fix 8 = .ok (.iadd, 1) := by decide +kernel
theorem dX4_fix_9 : decode cX4_fix 9 = .ok (.istore 4, 2) := by decide +kernel
theorem dX4_fix_11 : decode cX4_fix 11 = .ok (.aload_n 0, 1) := by decide +kernel
theorem dX4_fix_12 : decode cX4_fix 12 = .ok (.getfield 9, 3) := by decide +kernel
theorem dX4_fix_15 : decode cX4_fix 15 = .ok (.iload_n 2, 1) := by decide +kernel
theorem dX4_fix_16 : decode cX4_fix 16 = .ok (.aload_n 0, 1) := by decide +kernel
theorem dX4_fix_17 : decode cX4_fix 17 = .ok (.getfield 9, 3) := by decide +kernel
theorem dX4_fix_20 : decode cX4_fix 20 = .ok (.iload_n 2, 1) := by decide +kernel
theorem dX4_fix_21 : decode cX4_fix 21 = .ok (.laload, 1) := by decide +kernel
theorem dX4_fix_22 : decode cX4_fix 22 = .ok (.ldc2_w 61, 3) := by decide +kernel
theorem dX4_fix_25 : decode cX4_fix 25 = .ok (.iload_n 1, 1) := by decide +kernel
theorem dX4_fix_26 : decode cX4_fix 26 = .ok (.lshl, 1) := by decide +kernel
theorem dX4_fix_27 : decode cX4_fix 27 = .ok (.ldc2_w 63, 3) := by decide +kernel
theorem dX4_fix_30 : decode cX4_fix 30 = .ok (.lxor, 1) := by decide +kernel
theorem dX4_fix_31 : decode cX4_fix 31 = .ok (.land, 1) := by decide +kernel
theorem dX4_fix_32 : decode cX4_fix 32 = .ok (.lconst 1, 1) := by decide +kernel
theorem dX4_fix_33 : decode cX4_fix 33 = .ok (.bipush 12, 2) := by decide +kernel
theorem dX4_fix_35 : decode cX4_fix 35 = .ok (.iload_n 3, 1) := by decide +kernel
theorem dX4_fix_36 : decode cX4_fix 36 = .ok (.imul, 1) := by decide +kernel
theorem dX4_fix_37 : decode cX4_fix 37 = .ok (.iload_n 1, 1) := by decide +kernel
theorem dX4_fix_38 : decode cX4_fix 38 = .ok (.iadd, 1) := by decide +kernel
theorem dX4_fix_39 : decode cX4_fix 39 = .ok (.lshl, 1) := by decide +kernel
theorem dX4_fix_40 : decode cX4_fix 40 = .ok (.lor, 1) := by decide +kernel
theorem dX4_fix_41 : decode cX4_fix 41 = .ok (.lastore, 1) := by decide +kernel
theorem dX4_fix_42 : decode cX4_fix 42 = .ok (.aload_n 0, 1) := by decide +kernel
theorem dX4_fix_43 : decode cX4_fix 43 = .ok (.getfield 9, 3) := by decide +kernel
theorem dX4_fix_46 : decode cX4_fix 46 = .ok (.iload 4, 2) := by decide +kernel
theorem dX4_fix_48 : decode cX4_fix 48 = .ok (.aload_n 0, 1) := by decide +kernel
theorem dX4_fix_49 : decode cX4_fix 49 = .ok (.getfield 9, 3) := by decide +kernel
theorem dX4_fix_52 : decode cX4_fix 52 = .ok (.iload 4, 2) := by decide +kernel
theorem dX4_fix_54 : decode cX4_fix 54 = .ok (.laload, 1) := by decide +kernel
theorem dX4_fix_55 : decode cX4_fix 55 = .ok (.ldc2_w 61, 3) := by decide +kernel
theorem dX4_fix_58 : decode cX4_fix 58 = .ok (.iload_n 2, 1) := by decide +kernel
theorem dX4_fix_59 : decode cX4_fix 59 = .ok (.lshl, 1) := by decide +kernel
theorem dX4_fix_60 : decode cX4_fix 60 = .ok (.ldc2_w 63, 3) := by decide +kernel
theorem dX4_fix_63 : decode cX4_fix 63 = .ok (.lxor, 1) := by decide +kernel
theorem dX4_fix_64 : decode cX4_fix 64 = .ok (.land, 1) := by decide +kernel
theorem dX4_fix_65 : decode cX4_fix 65 = .ok (.lconst 1, 1) := by decide +kernel
theorem dX4_fix_66 : decode cX4_fix 66 = .ok (.bipush 12, 2) := by decide +kernel
theorem dX4_fix_68 : decode cX4_fix 68 = .ok (.iload_n 3, 1) := by decide +kernel
theorem dX4_fix_69 : decode cX4_fix 69 = .ok (.imul, 1) := by decide +kernel
theorem dX4_fix_70 : decode cX4_fix 70 = .ok (.iload_n 2, 1) := by decide +kernel
theorem dX4_fix_71 : decode cX4_fix 71 = .ok (.iadd, 1) := by decide +kernel
theorem dX4_fix_72 : decode cX4_fix 72 = .ok (.lshl, 1) := by decide +kernel
theorem dX4_fix_73 : decode cX4_fix 73 = .ok (.lor, 1) := by decide +kernel
theorem dX4_fix_74 : decode cX4_fix 74 = .ok (.lastore, 1) := by decide +kernel
theorem dX4_fix_75 : decode cX4_fix 75 = .ok (.return_, 1) := by decide +kernel
theorem dX4_tell_0 : decode cX4_tell 0 = .ok (.iconst 0, 1) := by decide +kernel
theorem dX4_tell_1 : decode cX4_tell 1 = .ok (.istore_n 2, 1) := by decide +kernel
theorem dX4_tell_2 : decode cX4_tell 2 = .ok (.iload_n 2, 1) := by decide +kernel
theorem dX4_tell_3 : decode cX4_tell 3 = .ok (.aload_n 0, 1) := by decide +kernel
theorem dX4_tell_4 : decode cX4_tell 4 = .ok (.getfield 15, 3) := by decide +kernel
theorem dX4_tell_7 : decode cX4_tell 7 = .ok (.getfield 39, 3) := by decide +kernel
theorem dX4_tell_10 : decode cX4_tell 10 = .ok (.if_icmp .ge 50, 3) := by decide +kernel
theorem dX4_tell_13 : decode cX4_tell 13 = .ok (.iconst 0, 1) := by decide +kernel
theorem dX4_tell_14 : decode cX4_tell 14 = .ok (.istore_n 3, 1) := by decide +kernel
theorem dX4_tell_15 : decode cX4_tell 15 = .ok (.iload_n 3, 1) := by decide +kernel
theorem dX4_tell_16 : decode cX4_tell 16 = .ok (.aload_n 0, 1) := by decide +kernel
theorem dX4_tell_17 : decode cX4_tell 17 = .ok (.getfield 15, 3) := by decide +kernel
theorem dX4_tell_20 : decode cX4_tell 20 = .ok (.getfield 42, 3) := by decide +kernel
theorem dX4_tell_23 : decode cX4_tell 23 = .ok (.if_icmp .ge 31, 3) := by decide +kernel
theorem dX4_tell_26 : decode cX4_tell 26 = .ok (.aload_n 1, 1) := by decide +kernel
theorem dX4_tell_27 : decode cX4_tell 27 = .ok (.iload_n 3, 1) := by decide +kernel
theorem dX4_tell_28 : decode cX4_tell 28 = .ok (.iload_n 2, 1) := by decide +kernel
theorem dX4_tell_29 : decode cX4_tell 29 = .ok (.invokevirtual 45, 3) := by decide +kernel
theorem dX4_tell_32 : decode cX4_tell 32 = .ok (.istore 4, 2) := by decide +kernel
theorem dX4_tell_34 : decode cX4_tell 34 = .ok (.iload 4, 2) := by decide +kernel
theorem dX4_tell_36 : decode cX4_tell 36 = .ok (.iconst (-1), 1) := by decide +kernel
theorem dX4_tell_37 : decode cX4_tell 37 = .ok (.if_icmp .eq 11, 3) := by decide +kernel
theorem dX4_tell_40 : decode cX4_tell 40 = .ok (.aload_n 0, 1) := by decide +kernel
theorem dX4_tell_41 : decode cX4_tell 41 = .ok (.iload_n 3, 1) := by decide +kernel
theorem dX4_tell_42 : decode cX4_tell 42 = .ok (.iload_n 2, 1) := by decide +kernel
theorem dX4_tell_43 : decode cX4_tell 43 = .ok (.iload 4, 2) := by decide +kernel
theorem dX4_tell_45 : decode cX4_tell 45 = .ok (.invokevirtual 51, 3) := by decide +kernel
theorem dX4_tell_48 : decode cX4_tell 48 = .ok (.iinc 3 1, 3) := by decide +kernel
theorem dX4_tell_51 : decode cX4_tell 51 = .ok (.goto (-36), 3) := by decide +kernel
theorem dX4_tell_54 : decode cX4_tell 54 = .ok (.iinc 2 1, 3) := by decide +kernel
theorem dX4_tell_57 : decode cX4_tell 57 = .ok (.goto (-55), 3) := by decide +kernel
theorem dX4_tell_60 : decode cX4_tell 60 = .ok (.return_, 1) := by decide +kernel
theorem dX4_become_0 : decode cX4_become 0 = .ok (.aload_n 0, 1) := by decide +kernel
theorem dX4_become_1 : decode cX4_become 1 = .ok (.invokevirtual 19, 3) := by decide +kernel
theorem dX4_become_4 : decode cX4_become 4 = .ok (.aload_n 0, 1) := by decide +kernel
theorem dX4_become_5 : decode cX4_become 5 = .ok (.aload_n 1, 1) := by decide +kernel
theorem dX4_become_6 : decode cX4_become 6 = .ok (.invokevirtual 22, 3) := by decide +kernel
theorem dX4_become_9 : decode cX4_become 9 = .ok (.return_, 1) := by decide +kernel
theorem dX4_copy_0 : decode cX4_copy 0 = .ok (.aload_n 1, 1) := by decide +kernel
theorem dX4_copy_1 : decode cX4_copy 1 = .ok (.getfield 9, 3) := by decide +kernel
theorem dX4_copy_4 : decode cX4_copy 4 = .ok (.iconst 0, 1) := by decide +kernel
theorem dX4_copy_5 : decode cX4_copy 5 = .ok (.aload_n 0, 1) := by decide +kernel
theorem dX4_copy_6 : decode cX4_copy 6 = .ok (.getfield 9, 3) := by decide +kernel
theorem dX4_copy_9 : decode cX4_copy 9 = .ok (.iconst 0, 1) := by decide +kernel
theorem dX4_copy_10 : decode cX4_copy 10 = .ok (.bipush 24, 2) := by decide +kernel
theorem dX4_copy_12 : decode cX4_copy 12 = .ok (.invokestatic 55, 3) := by decide +kernel
theorem dX4_copy_15 : decode cX4_copy 15 = .ok (.return_, 1) := by decide +kernel
theorem dX4_saveTo_0 : decode cX4_saveTo 0 = .ok (.aload_n 0, 1) := by decide +kernel
theorem dX4_saveTo_1 : decode cX4_saveTo 1 = .ok (.getfield 9, 3) := by decide +kernel
theorem dX4_saveTo_4 : decode cX4_saveTo 4 = .ok (.iconst 0, 1) := by decide +kernel
theorem dX4_saveTo_5 : decode cX4_saveTo 5 = .ok (.aload_n 1, 1) := by decide +kernel
theorem dX4_saveTo_6 : decode cX4_saveTo 6 = .ok (.iload_n 2, 1) := by decide +kernel
theorem dX4_saveTo_7 : decode cX4_saveTo 7 = .ok (.bipush 24, 2) := by decide +kernel
theorem dX4_saveTo_9 : decode cX4_saveTo 9 = .ok (.imul, 1) := by decide +kernel
theorem dX4_saveTo_10 : decode cX4_saveTo 10 = .ok (.bipush 24, 2) := by decide +kernel
theorem dX4_saveTo_12 : decode cX4_saveTo 12 = .ok (.invokestatic 55, 3) := by decide +kernel
theorem dX4_saveTo_15 : decode cX4_saveTo 15 = .ok (.return_, 1) := by decide +kernel
theorem dX4_restoreFrom_0 : decode cX4_restoreFrom 0 = .ok (.aload_n 1, 1) := by decide +kernel
theorem dX4_restoreFrom_1 : decode cX4_restoreFrom 1 = .ok (.iload_n 2, 1) := by decide +kernel
theorem dX4_restoreFrom_2 : decode cX4_restoreFrom 2 = .ok (.bipush 24, 2) := by decide +kernel
theorem dX4_restoreFrom_4 : decode cX4_restoreFrom 4 = .ok (.imul, 1) := by decide +kernel
theorem dX4_restoreFrom_5 : decode cX4_restoreFrom 5 = .ok (.aload_n 0, 1) := by decide +kernel
theorem dX4_restoreFrom_6 : decode cX4_restoreFrom 6 = .ok (.getfield 9, 3) := by decide +kernel
theorem dX4_restoreFrom_9 : decode cX4_restoreFrom 9 = .ok (.iconst 0, 1) := by decide +kernel
theorem dX4_restoreFrom_10 : decode cX4_restoreFrom 10 = .ok (.bipush 24, 2) := by decide +kernel
theorem dX4_restoreFrom_12 : decode cX4_restoreFrom 12 = .ok (.invokestatic 55, 3) := by decide +kernel
theorem dX4_restoreFrom_15 : decode cX4_restoreFrom 15 = .ok (.return_, 1) := by decide +kernel
theorem dX4_drop_0 : decode cX4_drop 0 = .ok (.aload_n 0, 1) := by decide +kernel
theorem dX4_drop_1 : decode cX4_drop 1 = .ok (.getfield 9, 3) := by decide +kernel
theorem dX4_drop_4 : decode cX4_drop 4 = .ok (.iload_n 2, 1) := by decide +kernel
theorem dX4_drop_5 : decode cX4_drop 5 = .ok (.dup2, 1) := by decide +kernel
theorem dX4_drop_6 : decode cX4_drop 6 = .ok (.laload, 1) := by decide +kernel
theorem dX4_drop_7 : decode cX4_drop 7 = .ok (.lconst 1, 1) := by decide +kernel
theorem dX4_drop_8 : decode cX4_drop 8 = .ok (.bipush 12, 2) := by decide +kernel
theorem dX4_drop_10 : decode cX4_drop 10 = .ok (.iload_n 3, 1) := by decide +kernel
theorem dX4_drop_11 : decode cX4_drop 11 = .ok (.imul, 1) := by decide +kernel
theorem dX4_drop_12 : decode cX4_drop 12 = .ok (.iload_n 1, 1) := by decide +kernel
theorem dX4_drop_13 : decode cX4_drop 13 = .ok (.iadd, 1) := by decide +kernel
theorem dX4_drop_14 : decode cX4_drop 14 = .ok (.lshl, 1) := by decide +kernel
theorem dX4_drop_15 : decode cX4_drop 15 = .ok (.ldc2_w 63, 3) := by decide +kernel
theorem dX4_drop_18 : decode cX4_drop 18 = .ok (.lxor, 1) := by decide +kernel
theorem dX4_drop_19 : decode cX4_drop 19 = .ok (.land, 1) := by decide +kernel
theorem dX4_drop_20 : decode cX4_drop 20 = .ok (.lastore, 1) := by decide +kernel
theorem dX4_drop_21 : decode cX4_drop 21 = .ok (.aload_n 0, 1) := by decide +kernel
theorem dX4_drop_22 : decode cX4_drop 22 = .ok (.getfield 9, 3) := by decide +kernel
theorem dX4_drop_25 : decode cX4_drop 25 = .ok (.aload_n 0, 1) := by decide +kernel
theorem dX4_drop_26 : decode cX4_drop 26 = .ok (.getfield 15, 3) := by decide +kernel
theorem dX4_drop_29 : decode cX4_drop 29 = .ok (.getfield 39, 3) := by decide +kernel
theorem dX4_drop_32 : decode cX4_drop 32 = .ok (.iload_n 1, 1) := by decide +kernel
theorem dX4_drop_33 : decode cX4_drop 33 = .ok (.iadd, 1) := by decide +kernel
theorem dX4_drop_34 : decode cX4_drop 34 = .ok (.dup2, 1) := by decide +kernel
theorem dX4_drop_35 : decode cX4_drop 35 = .ok (.laload, 1) := by decide +kernel
theorem dX4_drop_36 : decode cX4_drop 36 = .ok (.lconst 1, 1) := by decide +kernel
theorem dX4_drop_37 : decode cX4_drop 37 = .ok (.bipush 12, 2) := by decide +kernel
theorem dX4_drop_39 : decode cX4_drop 39 = .ok (.iload_n 3, 1) := by decide +kernel
theorem dX4_drop_40 : decode cX4_drop 40 = .ok (.imul, 1) := by decide +kernel
theorem dX4_drop_41 : decode cX4_drop 41 = .ok (.iload_n 2, 1) := by decide +kernel
theorem dX4_drop_42 : decode cX4_drop 42 = .ok (.iadd, 1) := by decide +kernel
theorem dX4_drop_43 : decode cX4_drop 43 = .ok (.lshl, 1) := by decide +kernel
theorem dX4_drop_44 : decode cX4_drop 44 = .ok (.ldc2_w 63, 3) := by decide +kernel
theorem dX4_drop_47 : decode cX4_drop 47 = .ok (.lxor, 1) := by decide +kernel
theorem dX4_drop_48 : decode cX4_drop 48 = .ok (.land, 1) := by decide +kernel
theorem dX4_drop_49 : decode cX4_drop 49 = .ok (.lastore, 1) := by decide +kernel
theorem dX4_drop_50 : decode cX4_drop 50 = .ok (.return_, 1) := by decide +kernel
theorem dX4_linesThrough_0 : decode cX4_linesThrough 0 = .ok (.iconst 1, 1) := by decide +kernel
theorem dX4_linesThrough_1 : decode cX4_linesThrough 1 = .ok (.iload_n 2, 1) := by decide +kernel
theorem dX4_linesThrough_2 : decode cX4_linesThrough 2 = .ok (.ishl, 1) := by decide +kernel
theorem dX4_linesThrough_3 : decode cX4_linesThrough 3 = .ok (.iconst 1, 1) := by decide +kernel
theorem dX4_linesThrough_4 : decode cX4_linesThrough 4 = .ok (.aload_n 0, 1) := by decide +kernel
theorem dX4_linesThrough_5 : decode cX4_linesThrough 5 = .ok (.getfield 15, 3) := by decide +kernel
theorem dX4_linesThrough_8 : decode cX4_linesThrough 8 = .ok (.getfield 39, 3) := by decide +kernel
theorem dX4_linesThrough_11 : decode cX4_linesThrough 11 = .ok (.iload_n 1, 1) := by decide +kernel
theorem dX4_linesThrough_12 : decode cX4_linesThrough 12 = .ok (.iadd, 1) := by decide +kernel
theorem dX4_linesThrough_13 : decode cX4_linesThrough 13 = .ok (.ishl, 1) := by decide +kernel
theorem dX4_linesThrough_14 : decode cX4_linesThrough 14 = .ok (.ior, 1) := by decide +kernel
theorem dX4_linesThrough_15 : decode cX4_linesThrough 15 = .ok (.ireturn, 1) := by decide +kernel
theorem dX4_narrow_0 : decode cX4_narrow 0 = .ok (.aload_n 0, 1) := by decide +kernel
theorem dX4_narrow_1 : decode cX4_narrow 1 = .ok (.getfield 9, 3) := by decide +kernel
theorem dX4_narrow_4 : decode cX4_narrow 4 = .ok (.iload_n 1, 1) := by decide +kernel
theorem dX4_narrow_5 : decode cX4_narrow 5 = .ok (.laload, 1) := by decide +kernel
theorem dX4_narrow_6 : decode cX4_narrow 6 = .ok (.lload_n 2, 1) := by decide +kernel
theorem dX4_narrow_7 : decode cX4_narrow 7 = .ok (.ldc2_w 63, 3) := by decide +kernel
theorem dX4_narrow_10 : decode cX4_narrow 10 = .ok (.lxor, 1) := by decide +kernel
theorem dX4_narrow_11 : decode cX4_narrow 11 = .ok (.land, 1) := by decide +kernel
theorem dX4_narrow_12 : decode cX4_narrow 12 = .ok (.lstore 4, 2) := by decide +kernel
theorem dX4_narrow_14 : decode cX4_narrow 14 = .ok (.lload 4, 2) := by decide +kernel
theorem dX4_narrow_16 : decode cX4_narrow 16 = .ok (.lconst 0, 1) := by decide +kernel
theorem dX4_narrow_17 : decode cX4_narrow 17 = .ok (.lcmp, 1) := by decide +kernel
theorem dX4_narrow_18 : decode cX4_narrow 18 = .ok (.ifCond .ne 5, 3) := by decide +kernel
theorem dX4_narrow_21 : decode cX4_narrow 21 = .ok (.iconst 0, 1) := by decide +kernel
theorem dX4_narrow_22 : decode cX4_narrow 22 = .ok (.ireturn, 1) := by decide +kernel
theorem dX4_narrow_23 : decode cX4_narrow 23 = .ok (.aload_n 0, 1) := by decide +kernel
theorem dX4_narrow_24 : decode cX4_narrow 24 = .ok (.getfield 9, 3) := by decide +kernel
theorem dX4_narrow_27 : decode cX4_narrow 27 = .ok (.iload_n 1, 1) := by decide +kernel
theorem dX4_narrow_28 : decode cX4_narrow 28 = .ok (.dup2, 1) := by decide +kernel
theorem dX4_narrow_29 : decode cX4_narrow 29 = .ok (.laload, 1) := by decide +kernel
theorem dX4_narrow_30 : decode cX4_narrow 30 = .ok (.lload_n 2, 1) := by decide +kernel
theorem dX4_narrow_31 : decode cX4_narrow 31 = .ok (.land, 1) := by decide +kernel
theorem dX4_narrow_32 : decode cX4_narrow 32 = .ok (.lastore, 1) := by decide +kernel
theorem dX4_narrow_33 : decode cX4_narrow 33 = .ok (.iload_n 1, 1) := by decide +kernel
theorem dX4_narrow_34 : decode cX4_narrow 34 = .ok (.aload_n 0, 1) := by decide +kernel
theorem dX4_narrow_35 : decode cX4_narrow 35 = .ok (.getfield 15, 3) := by decide +kernel
theorem dX4_narrow_38 : decode cX4_narrow 38 = .ok (.getfield 39, 3) := by decide +kernel
theorem dX4_narrow_41 : decode cX4_narrow 41 = .ok (.if_icmp .ge 7, 3) := by decide +kernel
theorem dX4_narrow_44 : decode cX4_narrow 44 = .ok (.iconst 1, 1) := by decide +kernel
theorem dX4_narrow_45 : decode cX4_narrow 45 = .ok (.goto 4, 3) := by decide +kernel
theorem dX4_narrow_48 : decode cX4_narrow 48 = .ok (.iconst 0, 1) := by decide +kernel
theorem dX4_narrow_49 : decode cX4_narrow 49 = .ok (.istore 6, 2) := by decide +kernel
theorem dX4_narrow_51 : decode cX4_narrow 51 = .ok (.iload 6, 2) := by decide +kernel
theorem dX4_narrow_53 : decode cX4_narrow 53 = .ok (.ifCond .eq 7, 3) := by decide +kernel
theorem dX4_narrow_56 : decode cX4_narrow 56 = .ok (.iload_n 1, 1) := by decide +kernel
theorem dX4_narrow_57 : decode cX4_narrow 57 = .ok (.goto 12, 3) := by decide +kernel
theorem dX4_narrow_60 : decode cX4_narrow 60 = .ok (.iload_n 1, 1) := by decide +kernel
theorem dX4_narrow_61 : decode cX4_narrow 61 = .ok (.aload_n 0, 1) := by decide +kernel
theorem dX4_narrow_62 : decode cX4_narrow 62 = .ok (.getfield 15, 3) := by decide +kernel
theorem dX4_narrow_65 : decode cX4_narrow 65 = .ok (.getfield 39, 3) := by decide +kernel
theorem dX4_narrow_68 : decode cX4_narrow 68 = .ok (.isub, 1) := by decide +kernel
theorem dX4_narrow_69 : decode cX4_narrow 69 = .ok (.istore 7, 2) := by decide +kernel
theorem dX4_narrow_71 : decode cX4_narrow 71 = .ok (.iload 6, 2) := by decide +kernel
theorem dX4_narrow_73 : decode cX4_narrow 73 = .ok (.ifCond .eq 13, 3) := by decide +kernel
theorem dX4_narrow_76 : decode cX4_narrow 76 = .ok (.aload_n 0, 1) := by decide +kernel
theorem dX4_narrow_77 : decode cX4_narrow 77 = .ok (.getfield 15, 3) := by decide +kernel
theorem dX4_narrow_80 : decode cX4_narrow 80 = .ok (.getfield 39, 3) := by decide +kernel
theorem dX4_narrow_83 : decode cX4_narrow 83 = .ok (.goto 4, 3) := by decide +kernel
theorem dX4_narrow_86 : decode cX4_narrow 86 = .ok (.iconst 0, 1) := by decide +kernel
theorem dX4_narrow_87 : decode cX4_narrow 87 = .ok (.istore 8, 2) := by decide +kernel
theorem dX4_narrow_89 : decode cX4_narrow 89 = .ok (.iconst 0, 1) := by decide +kernel
theorem dX4_narrow_90 : decode cX4_narrow 90 = .ok (.istore 9, 2) := by decide +kernel
theorem dX4_narrow_92 : decode cX4_narrow 92 = .ok (.iconst 0, 1) := by decide +kernel
theorem dX4_narrow_93 : decode cX4_narrow 93 = .ok (.istore 10, 2) := by decide +kernel
theorem dX4_narrow_95 : decode cX4_narrow 95 = .ok (.iload 10, 2) := by decide +kernel
theorem dX4_narrow_97 : decode cX4_narrow 97 = .ok (.aload_n 0, 1) := by decide +kernel
theorem dX4_narrow_98 : decode cX4_narrow 98 = .ok (.getfield 15, 3) := by decide +kernel
theorem dX4_narrow_101 : decode cX4_narrow 101 = .ok (.iload_n 1, 1) := by decide +kernel
theorem dX4_narrow_102 : decode cX4_narrow 102 = .ok (.invokevirtual 31, 3) := by decide +kernel
theorem dX4_narrow_105 : decode cX4_narrow 105 = .ok (.if_icmp .ge 61, 3) := by decide +kernel
theorem dX4_narrow_108 : decode cX4_narrow 108 = .ok (.lload 4, 2) := by decide +kernel
theorem dX4_narrow_110 : decode cX4_narrow 110 = .ok (.iload 10, 2) := by decide +kernel
theorem dX4_narrow_112 : decode cX4_narrow 112 = .ok (.lushr, 1) := by decide +kernel
theorem dX4_narrow_113 : decode cX4_narrow 113 = .ok (.ldc2_w 61, 3) := by decide +kernel
theorem dX4_narrow_116 : decode cX4_narrow 116 = .ok (.land, 1) := by decide +kernel
theorem dX4_narrow_117 : decode cX4_narrow 117 = .ok (.lstore 11, 2) := by decide +kernel
theorem dX4_narrow_119 : decode cX4_narrow 119 = .ok (.lload 11, 2) := by decide +kernel
theorem dX4_narrow_121 : decode cX4_narrow 121 = .ok (.lconst 0, 1) := by decide +kernel
theorem dX4_narrow_122 : decode cX4_narrow 122 = .ok (.lcmp, 1) := by decide +kernel
theorem dX4_narrow_123 : decode cX4_narrow 123 = .ok (.ifCond .eq 37, 3) := by decide +kernel
theorem dX4_narrow_126 : decode cX4_narrow 126 = .ok (.aload_n 0, 1) := by decide +kernel
theorem dX4_narrow_127 : decode cX4_narrow 127 = .ok (.getfield 9, 3) := by decide +kernel
theorem dX4_narrow_130 : decode cX4_narrow 130 = .ok (.iload 8, 2) := by decide +kernel
theorem dX4_narrow_132 : decode cX4_narrow 132 = .ok (.iload 10, 2) := by decide +kernel
theorem dX4_narrow_134 : decode cX4_narrow 134 = .ok (.iadd, 1) := by decide +kernel
theorem dX4_narrow_135 : decode cX4_narrow 135 = .ok (.dup2, 1) := by decide +kernel
theorem dX4_narrow_136 : decode cX4_narrow 136 = .ok (.laload, 1) := by decide +kernel
theorem dX4_narrow_137 : decode cX4_narrow 137 = .ok (.lload 11, 2) := by decide +kernel
theorem dX4_narrow_139 : decode cX4_narrow 139 = .ok (.iload 7, 2) := by decide +kernel
theorem dX4_narrow_141 : decode cX4_narrow 141 = .ok (.lshl, 1) := by decide +kernel
theorem dX4_narrow_142 : decode cX4_narrow 142 = .ok (.ldc2_w 63, 3) := by decide +kernel
theorem dX4_narrow_145 : decode cX4_narrow 145 = .ok (.lxor, 1) := by decide +kernel
theorem dX4_narrow_146 : decode cX4_narrow 146 = .ok (.land, 1) := by decide +kernel
theorem dX4_narrow_147 : decode cX4_narrow 147 = .ok (.lastore, 1) := by decide +kernel
theorem dX4_narrow_148 : decode cX4_narrow 148 = .ok (.iload 9, 2) := by decide +kernel
theorem dX4_narrow_150 : decode cX4_narrow 150 = .ok (.iconst 1, 1) := by decide +kernel
theorem dX4_narrow_151 : decode cX4_narrow 151 = .ok (.iload 8, 2) := by decide +kernel
theorem dX4_narrow_153 : decode cX4_narrow 153 = .ok (.iload 10, 2) := by decide +kernel
theorem dX4_narrow_155 : decode cX4_narrow 155 = .ok (.iadd, 1) := by decide +kernel
theorem dX4_narrow_156 : decode cX4_narrow 156 = .ok (.ishl, 1) := by decide +kernel
theorem dX4_narrow_157 : decode cX4_narrow 157 = .ok (.ior, 1) := by decide +kernel
theorem dX4_narrow_158 : decode cX4_narrow 158 = .ok (.istore 9, 2) := by decide +kernel
theorem dX4_narrow_160 : decode cX4_narrow 160 = .ok (.iinc 10 1, 3) := by decide +kernel
theorem dX4_narrow_163 : decode cX4_narrow 163 = .ok (.goto (-68), 3) := by decide +kernel
theorem dX4_narrow_166 : decode cX4_narrow 166 = .ok (.iload 9, 2) := by decide +kernel
theorem dX4_narrow_168 : decode cX4_narrow 168 = .ok (.ireturn, 1) := by decide +kernel
theorem dX4_countSingles_0 : decode cX4_countSingles 0 = .ok (.iconst 0, 1) := by decide +kernel
theorem dX4_countSingles_1 : decode cX4_countSingles 1 = .ok (.istore_n 1, 1) := by decide +kernel
theorem dX4_countSingles_2 : decode cX4_countSingles 2 = .ok (.iconst 0, 1) := by decide +kernel
theorem dX4_countSingles_3 : decode cX4_countSingles 3 = .ok (.istore_n 2, 1) := by decide +kernel
theorem dX4_countSingles_4 : decode cX4_countSingles 4 = .ok (.iload_n 2, 1) := by decide +kernel
theorem dX4_countSingles_5 : decode cX4_countSingles 5 = .ok (.aload_n 0, 1) := by decide +kernel
theorem dX4_countSingles_6 : decode cX4_countSingles 6 = .ok (.getfield 15, 3) := by decide +kernel
theorem dX4_countSingles_9 : decode cX4_countSingles 9 = .ok (.getfield 39, 3) := by decide +kernel
theorem dX4_countSingles_12 : decode cX4_countSingles 12 = .ok (.if_icmp .ge 49, 3) := by decide +kernel
theorem dX4_countSingles_15 : decode cX4_countSingles 15 = .ok (.iconst 0, 1) := by decide +kernel
theorem dX4_countSingles_16 : decode cX4_countSingles 16 = .ok (.istore_n 3, 1) := by decide +kernel
theorem dX4_countSingles_17 : decode cX4_countSingles 17 = .ok (.iload_n 3, 1) := by decide +kernel
theorem dX4_countSingles_18 : decode cX4_countSingles 18 = .ok (.aload_n 0, 1) := by decide +kernel
theorem dX4_countSingles_19 : decode cX4_countSingles 19 = .ok (.getfield 15, 3) := by decide +kernel
theorem dX4_countSingles_22 : decode cX4_countSingles 22 = .ok (.getfield 42, 3) := by decide +kernel
theorem dX4_countSingles_25 : decode cX4_countSingles 25 = .ok (.if_icmp .ge 30, 3) := by decide +kernel
theorem dX4_countSingles_28 : decode cX4_countSingles 28 = .ok (.iload_n 1, 1) := by decide +kernel
theorem dX4_countSingles_29 : decode cX4_countSingles 29 = .ok (.aload_n 0, 1) := by decide +kernel
theorem dX4_countSingles_30 : decode cX4_countSingles 30 = .ok (.iload_n 3, 1) := by decide +kernel
theorem dX4_countSingles_31 : decode cX4_countSingles 31 = .ok (.iload_n 2, 1) := by decide +kernel
theorem dX4_countSingles_32 : decode cX4_countSingles 32 = .ok (.invokevirtual 69, 3) := by decide +kernel
theorem dX4_countSingles_35 : decode cX4_countSingles 35 = .ok (.invokestatic 72, 3) := by decide +kernel
theorem dX4_countSingles_38 : decode cX4_countSingles 38 = .ok (.iconst 1, 1) := by decide +kernel
theorem dX4_countSingles_39 : decode cX4_countSingles 39 = .ok (.if_icmp .ne 7, 3) := by decide +kernel
theorem dX4_countSingles_42 : decode cX4_countSingles 42 = .ok (.iconst 1, 1) := by decide +kernel
theorem dX4_countSingles_43 : decode cX4_countSingles 43 = .ok (.goto 4, 3) := by decide +kernel
theorem dX4_countSingles_46 : decode cX4_countSingles 46 = .ok (.iconst 0, 1) := by decide +kernel
theorem dX4_countSingles_47 : decode cX4_countSingles 47 = .ok (.iadd, 1) := by decide +kernel
theorem dX4_countSingles_48 : decode cX4_countSingles 48 = .ok (.istore_n 1, 1) := by decide +kernel
theorem dX4_countSingles_49 : decode cX4_countSingles 49 = .ok (.iinc 3 1, 3) := by decide +kernel
theorem dX4_countSingles_52 : decode cX4_countSingles 52 = .ok (.goto (-35), 3) := by decide +kernel
theorem dX4_countSingles_55 : decode cX4_countSingles 55 = .ok (.iinc 2 1, 3) := by decide +kernel
theorem dX4_countSingles_58 : decode cX4_countSingles 58 = .ok (.goto (-54), 3) := by decide +kernel
theorem dX4_countSingles_61 : decode cX4_countSingles 61 = .ok (.iload_n 1, 1) := by decide +kernel
theorem dX4_countSingles_62 : decode cX4_countSingles 62 = .ok (.ireturn, 1) := by decide +kernel
theorem dX4_firstOfFewest_0 : decode cX4_firstOfFewest 0 = .ok (.iconst (-1), 1) := by decide +kernel
theorem dX4_firstOfFewest_1 : decode cX4_firstOfFewest 1 = .ok (.istore_n 1, 1) := by decide +kernel
theorem dX4_firstOfFewest_2 : decode cX4_firstOfFewest 2 = .ok (.iconst 5, 1) := by decide +kernel
theorem dX4_firstOfFewest_3 : decode cX4_firstOfFewest 3 = .ok (.istore_n 2, 1) := by decide +kernel
theorem dX4_firstOfFewest_4 : decode cX4_firstOfFewest 4 = .ok (.iconst 0, 1) := by decide +kernel
theorem dX4_firstOfFewest_5 : decode cX4_firstOfFewest 5 = .ok (.istore_n 3, 1) := by decide +kernel
theorem dX4_firstOfFewest_6 : decode cX4_firstOfFewest 6 = .ok (.iload_n 3, 1) := by decide +kernel
theorem dX4_firstOfFewest_7 : decode cX4_firstOfFewest 7 = .ok (.aload_n 0, 1) := by decide +kernel
theorem dX4_firstOfFewest_8 : decode cX4_firstOfFewest 8 = .ok (.getfield 15, 3) := by decide +kernel
theorem dX4_firstOfFewest_11 : decode cX4_firstOfFewest 11 = .ok (.getfield 39, 3) := by decide +kernel
theorem dX4_firstOfFewest_14 : decode cX4_firstOfFewest 14 = .ok (.if_icmp .ge 65, 3) := by decide +kernel
theorem dX4_firstOfFewest_17 : decode cX4_firstOfFewest 17 = .ok (.iconst 0, 1) := by decide +kernel
theorem dX4_firstOfFewest_18 : decode cX4_firstOfFewest 18 = .ok (.istore 4, 2) := by decide +kernel
theorem dX4_firstOfFewest_20 : decode cX4_firstOfFewest 20 = .ok (.iload 4, 2) := by decide +kernel
theorem dX4_firstOfFewest_22 : decode cX4_firstOfFewest 22 = .ok (.aload_n 0, 1) := by decide +kernel
theorem dX4_firstOfFewest_23 : decode cX4_firstOfFewest 23 = .ok (.getfield 15, 3) := by decide +kernel
theorem dX4_firstOfFewest_26 : decode cX4_firstOfFewest 26 = .ok (.getfield 42, 3) := by decide +kernel
theorem dX4_firstOfFewest_29 : decode cX4_firstOfFewest 29 = .ok (.if_icmp .ge 44, 3) := by decide +kernel
theorem dX4_firstOfFewest_32 : decode cX4_firstOfFewest 32 = .ok (.aload_n 0, 1) := by decide +kernel
theorem dX4_firstOfFewest_33 : decode cX4_firstOfFewest 33 = .ok (.iload 4, 2) := by decide +kernel
theorem dX4_firstOfFewest_35 : decode cX4_firstOfFewest 35 = .ok (.iload_n 3, 1) := by decide +kernel
theorem dX4_firstOfFewest_36 : decode cX4_firstOfFewest 36 = .ok (.invokevirtual 69, 3) := by decide +kernel
theorem dX4_firstOfFewest_39 : decode cX4_firstOfFewest 39 = .ok (.invokestatic 72, 3) := by decide +kernel
theorem dX4_firstOfFewest_42 : decode cX4_firstOfFewest 42 = .ok (.istore 5, 2) := by decide +kernel
theorem dX4_firstOfFewest_44 : decode cX4_firstOfFewest 44 = .ok (.iload 5, 2) := by decide +kernel
theorem dX4_firstOfFewest_46 : decode cX4_firstOfFewest 46 = .ok (.iconst 2, 1) := by decide +kernel
theorem dX4_firstOfFewest_47 : decode cX4_firstOfFewest 47 = .ok (.if_icmp .lt 20, 3) := by decide +kernel
theorem dX4_firstOfFewest_50 : decode cX4_firstOfFewest 50 = .ok (.iload 5, 2) := by decide +kernel
theorem dX4_firstOfFewest_52 : decode cX4_firstOfFewest 52 = .ok (.iload_n 2, 1) := by decide +kernel
theorem dX4_firstOfFewest_53 : decode cX4_firstOfFewest 53 = .ok (.if_icmp .ge 14, 3) := by decide +kernel
theorem dX4_firstOfFewest_56 : decode cX4_firstOfFewest 56 = .ok (.bipush 12, 2) := by decide +kernel
theorem dX4_firstOfFewest_58 : decode cX4_firstOfFewest 58 = .ok (.iload_n 3, 1) := by decide +kernel
theorem dX4_firstOfFewest_59 : decode cX4_firstOfFewest 59 = .ok (.imul, 1) := by decide +kernel
theorem dX4_firstOfFewest_60 : decode cX4_firstOfFewest 60 = .ok (.iload 4, 2) := by decide +kernel
theorem dX4_firstOfFewest_62 : decode cX4_firstOfFewest 62 = .ok (.iadd, 1) := by decide +kernel
theorem dX4_firstOfFewest_63 : decode cX4_firstOfFewest 63 = .ok (.istore_n 1, 1) := by decide +kernel
theorem dX4_firstOfFewest_64 : decode cX4_firstOfFewest 64 = .ok (.iload 5, 2) := by decide +kernel
theorem dX4_firstOfFewest_66 : decode cX4_firstOfFewest 66 = .ok (.istore_n 2, 1) := by decide +kernel
theorem dX4_firstOfFewest_67 : decode cX4_firstOfFewest 67 = .ok (.iinc 4 1, 3) := by decide +kernel
theorem dX4_firstOfFewest_70 : decode cX4_firstOfFewest 70 = .ok (.goto (-50), 3) := by decide +kernel
theorem dX4_firstOfFewest_73 : decode cX4_firstOfFewest 73 = .ok (.iinc 3 1, 3) := by decide +kernel
theorem dX4_firstOfFewest_76 : decode cX4_firstOfFewest 76 = .ok (.goto (-70), 3) := by decide +kernel
theorem dX4_firstOfFewest_79 : decode cX4_firstOfFewest 79 = .ok (.iload_n 1, 1) := by decide +kernel
theorem dX4_firstOfFewest_80 : decode cX4_firstOfFewest 80 = .ok (.ireturn, 1) := by decide +kernel
def f_X4_leastOf_2 : Nat → Int32 → Int32 → St → Option (Int32 × St)
  | 0, _, _, _ => none
  | n + 1, v0, v1, s =>
    if (3 : Int32) ≤ v1 then (
      some (v1, s))
    else (
      if (((v0.toUInt32 >>> (v1.toUInt32 &&& Int32.toUInt32 31)).toInt32) &&& (1 : Int32)) = 0 then (
        f_X4_leastOf_2 n v0 (v1 + 1) s)
      else (
        some (v1, s)))
set_option maxRecDepth 100000 in
set_option maxHeartbeats 4000000 in
theorem w_X4_leastOf_2 {r : Int32 × St}   : ∀ (n : Nat) (v0 : Int32) (v1 : Int32) (s : St), f_X4_leastOf_2  n v0 v1 s = some r → Wp m_X4_leastOf 0 (PR (some (.int r.1)) r.2) 2 [some (.int v0), some (.int v1)] [] s := by
  intro n
  induction n with
  | zero => intro v0 v1 s h; cases h
  | succ n ih =>
    intro v0 v1 s h
    unfold f_X4_leastOf_2 at h
    refine wp_iload_n (i := 1) dX4_leastOf_2 rfl rfl ?_
    refine wp_iconst (v := 3) dX4_leastOf_3 (by decide +kernel) ?_
    refine wp_icmp_ge (tgt := 21) dX4_leastOf_4 (by decide) (fun c1 => ?_) (fun c1 => ?_)
    · rw [if_pos c1] at h
      refine wp_iload_n (i := 1) dX4_leastOf_21 rfl rfl ?_
      obtain rfl := Option.some.inj h
      exact wp_iret dX4_leastOf_22 rfl rfl
    · rw [if_neg c1] at h
      refine wp_iload_n (i := 0) dX4_leastOf_7 rfl rfl ?_
      refine wp_iload_n (i := 1) dX4_leastOf_8 rfl rfl ?_
      refine wp_iushr dX4_leastOf_9 ?_
      refine wp_iconst (v := 1) dX4_leastOf_10 (by decide +kernel) ?_
      refine wp_iand dX4_leastOf_11 ?_
      refine wp_if_ne (tgt := 21) dX4_leastOf_12 (by decide) (fun c2 => ?_) (fun c2 => ?_)
      · rw [if_neg c2] at h
        refine wp_iload_n (i := 1) dX4_leastOf_21 rfl rfl ?_
        obtain rfl := Option.some.inj h
        exact wp_iret dX4_leastOf_22 rfl rfl
      · rw [if_pos c2] at h
        refine wp_inc (c := 1) (ls' := [some (.int v0), some (.int (v1 + 1))]) dX4_leastOf_15 rfl (by decide +kernel) (by decide) rfl rfl ?_
        refine wp_goto (tgt := 2) dX4_leastOf_18 (by decide) ?_
        exact wp_sub (ls' := [some (.int v0), some (.int (v1 + 1))]) ⟨rfl, rfl, trivial⟩ (ih _ _ _ h)
def f_X4_leastOf (a1 : Int32) (s : St) : Option (Int32 × St) :=
  f_X4_leastOf_2 FU a1 (0 : Int32) s
set_option maxRecDepth 100000 in
set_option maxHeartbeats 4000000 in
theorem ok_X4_leastOf {a1 : Int32} {s : St} {r : Int32 × St} (h : f_X4_leastOf a1 s = some r) : Ct 0 m_X4_leastOf [.int a1] s (some (.int r.1)) r.2 := by
  unfold f_X4_leastOf at h
  refine ct_of [some (.int a1), none] 1 (by decide) rfl (Nat.le_of_ble_eq_true rfl) ?_
  refine wp_iconst (v := 0) dX4_leastOf_0 (by decide +kernel) ?_
  refine wp_istore_n (ls' := [some (.int a1), some (.int (0 : Int32))]) dX4_leastOf_1 rfl (by decide) rfl rfl ?_
  exact wp_sub (ls' := [some (.int a1), some (.int (0 : Int32))]) ⟨rfl, rfl, trivial⟩ (w_X4_leastOf_2 _ _ _ _ h)
def f_X4_valuesIn (a1 : Int64) (a2 : Int32) (s : St) : Option (Int32 × St) :=
  Option.bind (some (((a1.toUInt64 >>> (a2.toInt64.toUInt64 &&& Int64.toUInt64 63)).toInt64) &&& (68736258049 : Int64) : Int64)) fun x1 =>
  some (((((x1 ||| ((x1.toUInt64 >>> ((11 : Int32).toInt64.toUInt64 &&& Int64.toUInt64 63)).toInt64)) ||| ((x1.toUInt64 >>> ((22 : Int32).toInt64.toUInt64 &&& Int64.toUInt64 63)).toInt64)) ||| ((x1.toUInt64 >>> ((33 : Int32).toInt64.toUInt64 &&& Int64.toUInt64 63)).toInt64)).toInt32) &&& (15 : Int32), s)
set_option maxRecDepth 100000 in
set_option maxHeartbeats 4000000 in
theorem ok_X4_valuesIn {a1 : Int64} {a2 : Int32} {s : St} {r : Int32 × St} (h : f_X4_valuesIn a1 a2 s = some r) : Ct 0 m_X4_valuesIn [.long a1, .int a2] s (some (.int r.1)) r.2 := by
  unfold f_X4_valuesIn at h
  refine ct_of [some (.long a1), none, some (.int a2), none, none] 2 (by decide) rfl (Nat.le_of_ble_eq_true rfl) ?_
  refine wp_lload_n (i := 0) dX4_valuesIn_0 rfl rfl ?_
  refine wp_iload_n (i := 2) dX4_valuesIn_1 rfl rfl ?_
  refine wp_lushr dX4_valuesIn_2 ?_
  refine wp_ldc2 dX4_valuesIn_3 kc_X4_61 ?_
  refine wp_land dX4_valuesIn_6 ?_
  obtain ⟨x1, ex1, h⟩ := ob h
  refine wp_topl (Option.some.inj ex1) ?_
  refine wp_lstore_n (ls' := [some (.long a1), none, some (.int a2), some (.long x1), none]) dX4_valuesIn_7 rfl (by decide) rfl rfl ?_
  refine wp_lload_n (i := 3) dX4_valuesIn_8 rfl rfl ?_
  refine wp_lload_n (i := 3) dX4_valuesIn_9 rfl rfl ?_
  refine wp_bipush (v := 11) dX4_valuesIn_10 (by decide +kernel) ?_
  refine wp_lushr dX4_valuesIn_12 ?_
  refine wp_lor dX4_valuesIn_13 ?_
  refine wp_lload_n (i := 3) dX4_valuesIn_14 rfl rfl ?_
  refine wp_bipush (v := 22) dX4_valuesIn_15 (by decide +kernel) ?_
  refine wp_lushr dX4_valuesIn_17 ?_
  refine wp_lor dX4_valuesIn_18 ?_
  refine wp_lload_n (i := 3) dX4_valuesIn_19 rfl rfl ?_
  refine wp_bipush (v := 33) dX4_valuesIn_20 (by decide +kernel) ?_
  refine wp_lushr dX4_valuesIn_22 ?_
  refine wp_lor dX4_valuesIn_23 ?_
  refine wp_l2i dX4_valuesIn_24 ?_
  refine wp_bipush (v := 15) dX4_valuesIn_25 (by decide +kernel) ?_
  refine wp_iand dX4_valuesIn_27 ?_
  obtain rfl := Option.some.inj h
  exact wp_iret dX4_valuesIn_28 rfl rfl
def f_X4_valuesAt (g : Nat) (a1 : Int32) (a2 : Int32) (s : St) : Option (Int32 × St) :=
  if ¬ clO g = 4 then none else
  Option.bind (aJ s (rf g 1) a2) fun x1 =>
  Option.bind (f_X4_valuesIn x1 a1 s) fun r2 =>
  some (r2.1, r2.2)
theorem ck_X4_valuesAt {g : Nat} {a1 : Int32} {a2 : Int32} {s : St} {r : Int32 × St} (h : f_X4_valuesAt g a1 a2 s = some r) : clO g = 4 := by
  unfold f_X4_valuesAt at h
  exact (ifc h).1
set_option maxRecDepth 100000 in
set_option maxHeartbeats 4000000 in
theorem ok_X4_valuesAt {g : Nat} {a1 : Int32} {a2 : Int32} {s : St} {r : Int32 × St} (h : f_X4_valuesAt g a1 a2 s = some r) : Ct 1 m_X4_valuesAt [.ref g, .int a1, .int a2] s (some (.int r.1)) r.2 := by
  unfold f_X4_valuesAt at h
  obtain ⟨hg, h⟩ := ifc h
  refine ct_of [some (.ref g), some (.int a1), some (.int a2)] 0 (by decide) rfl (Nat.le_of_ble_eq_true rfl) ?_
  refine wp_aload_n (i := 0) dX4_valuesAt_0 rfl rfl ?_
  refine wp_getR (t := rf g 1) dX4_valuesAt_1 fl_X4_9 hg (kr_4_1 _ hg) ?_
  refine wp_iload_n (i := 2) dX4_valuesAt_4 rfl rfl ?_
  obtain ⟨x1, ex1, h⟩ := ob h
  refine wp_aJ dX4_valuesAt_5 ex1 ?_
  refine wp_iload_n (i := 1) dX4_valuesAt_6 rfl rfl ?_
  obtain ⟨r2, er2, h⟩ := ob h
  refine wp_cSi (N := m_X4_valuesIn) (As := [.long x1, .int a1]) (rest := []) dX4_valuesAt_7 ml_X4_65 mo_X4_valuesIn vo_X4_valuesIn rfl (ok_X4_valuesIn er2) (by decide) (Nat.le_of_ble_eq_true rfl) ?_
  obtain rfl := Option.some.inj h
  exact wp_iret dX4_valuesAt_10 rfl rfl
def f_X4_fill_32 (g : Nat) (K2 : Int32 → St → Option (St)) : Nat → Int32 → Int64 → Int64 → Int32 → St → Option (St)
  | 0, _, _, _, _, _ => none
  | n + 1, v1, v2, v4, v6, s =>
    if (s.1 3 5) < v6 then (
      Option.bind (pJ s (rf g 1) v1 v4) fun s2 =>
      K2 (v1 + 1) s2)
    else (
      f_X4_fill_32 g K2 n v1 v2 (v4 ||| (v2 <<< (((12 : Int32) * v6).toInt64 &&& 63))) (v6 + 1) s)
set_option maxRecDepth 100000 in
set_option maxHeartbeats 4000000 in
theorem w_X4_fill_32 {r : St} {g : Nat} {K2 : Int32 → St → Option (St)} (hK2 : ∀ (v1 : Int32) (s : St), K2 v1 s = some r → Wp m_X4_fill 1 (PR none r) 2 [some (.ref g), some (.int v1), none, none, none, none, none] [] s)  (hg : clO g = 4) : ∀ (n : Nat) (v1 : Int32) (v2 : Int64) (v4 : Int64) (v6 : Int32) (s : St), f_X4_fill_32 g K2 n v1 v2 v4 v6 s = some r → Wp m_X4_fill 1 (PR none r) 32 [some (.ref g), some (.int v1), some (.long v2), none, some (.long v4), none, some (.int v6)] [] s := by
  intro n
  induction n with
  | zero => intro v1 v2 v4 v6 s h; cases h
  | succ n ih =>
    intro v1 v2 v4 v6 s h
    unfold f_X4_fill_32 at h
    refine wp_iload dX4_fill_32 rfl ?_
    refine wp_aload_n (i := 0) dX4_fill_34 rfl rfl ?_
    refine wp_getR (t := 3) dX4_fill_35 fl_X4_15 hg (kr_4_0 _ hg) ?_
    refine wp_getI dX4_fill_38 fl_X4_35 rfl rfl ?_
    refine wp_icmp_gt (tgt := 62) dX4_fill_41 (by decide) (fun c1 => ?_) (fun c1 => ?_)
    · rw [if_pos c1] at h
      refine wp_aload_n (i := 0) dX4_fill_62 rfl rfl ?_
      refine wp_getR (t := rf g 1) dX4_fill_63 fl_X4_9 hg (kr_4_1 _ hg) ?_
      refine wp_iload_n (i := 1) dX4_fill_66 rfl rfl ?_
      refine wp_lload dX4_fill_67 rfl ?_
      obtain ⟨s2, es2, h⟩ := ob h
      refine wp_pJ dX4_fill_69 es2 ?_
      refine wp_inc (c := 1) (ls' := [some (.ref g), some (.int (v1 + 1)), some (.long v2), none, some (.long v4), none, some (.int v6)]) dX4_fill_70 rfl (by decide +kernel) (by decide) rfl rfl ?_
      refine wp_goto (tgt := 2) dX4_fill_73 (by decide) ?_
      exact wp_sub (ls' := [some (.ref g), some (.int (v1 + 1)), none, none, none, none, none]) ⟨rfl, rfl, trivial⟩ (hK2 _ _ h)
    · rw [if_neg c1] at h
      refine wp_lload dX4_fill_44 rfl ?_
      refine wp_lload_n (i := 2) dX4_fill_46 rfl rfl ?_
      refine wp_bipush (v := 12) dX4_fill_47 (by decide +kernel) ?_
      refine wp_iload dX4_fill_49 rfl ?_
      refine wp_imul dX4_fill_51 ?_
      refine wp_lshl dX4_fill_52 ?_
      refine wp_lor dX4_fill_53 ?_
      refine wp_lstore (ls' := [some (.ref g), some (.int v1), some (.long v2), none, some (.long (v4 ||| (v2 <<< (((12 : Int32) * v6).toInt64 &&& 63)))), none, some (.int v6)]) dX4_fill_54 (by decide) rfl rfl ?_
      refine wp_inc (c := 1) (ls' := [some (.ref g), some (.int v1), some (.long v2), none, some (.long (v4 ||| (v2 <<< (((12 : Int32) * v6).toInt64 &&& 63)))), none, some (.int (v6 + 1))]) dX4_fill_56 rfl (by decide +kernel) (by decide) rfl rfl ?_
      refine wp_goto (tgt := 32) dX4_fill_59 (by decide) ?_
      exact wp_sub (ls' := [some (.ref g), some (.int v1), some (.long v2), none, some (.long (v4 ||| (v2 <<< (((12 : Int32) * v6).toInt64 &&& 63)))), none, some (.int (v6 + 1))]) ⟨rfl, rfl, rfl, rfl, rfl, trivial⟩ (ih _ _ _ _ _ h)
def f_X4_fill_2 (g : Nat) : Nat → Int32 → St → Option (St)
  | 0, _, _ => none
  | n + 1, v1, s =>
    Option.bind (f_X0_lines 3 s) fun r1 =>
    if r1.1 ≤ v1 then (
      some r1.2)
    else (
      Option.bind (f_X0_cellsOf 3 v1 r1.2) fun r3 =>
      f_X4_fill_32 g (f_X4_fill_2 g n) FU v1 (((1 : Int64) <<< (r3.1.toInt64 &&& 63)) - (1 : Int64)) (0 : Int64) (0 : Int32) r3.2)
set_option maxRecDepth 100000 in
set_option maxHeartbeats 4000000 in
theorem w_X4_fill_2 {r : St} {g : Nat}  (hg : clO g = 4) : ∀ (n : Nat) (v1 : Int32) (s : St), f_X4_fill_2 g  n v1 s = some r → Wp m_X4_fill 1 (PR none r) 2 [some (.ref g), some (.int v1), none, none, none, none, none] [] s := by
  intro n
  induction n with
  | zero => intro v1 s h; cases h
  | succ n ih =>
    intro v1 s h
    unfold f_X4_fill_2 at h
    refine wp_iload_n (i := 1) dX4_fill_2 rfl rfl ?_
    refine wp_aload_n (i := 0) dX4_fill_3 rfl rfl ?_
    refine wp_getR (t := 3) dX4_fill_4 fl_X4_15 hg (kr_4_0 _ hg) ?_
    obtain ⟨r1, er1, h⟩ := ob h
    refine wp_cVi (N := m_X0_lines) (As := []) (rest := [.int v1]) dX4_fill_7 ml_X4_26 mo_X0_lines vo_X0_lines rfl rfl (ok_X0_lines er1) (by decide) (Nat.le_of_ble_eq_true rfl) ?_
    refine wp_icmp_ge (tgt := 76) dX4_fill_10 (by decide) (fun c2 => ?_) (fun c2 => ?_)
    · rw [if_pos c2] at h
      obtain rfl := Option.some.inj h
      exact wp_vret dX4_fill_76 rfl
    · rw [if_neg c2] at h
      refine wp_lconst (v := 1) dX4_fill_13 (by decide +kernel) ?_
      refine wp_aload_n (i := 0) dX4_fill_14 rfl rfl ?_
      refine wp_getR (t := 3) dX4_fill_15 fl_X4_15 hg (kr_4_0 _ hg) ?_
      refine wp_iload_n (i := 1) dX4_fill_18 rfl rfl ?_
      obtain ⟨r3, er3, h⟩ := ob h
      refine wp_cVi (N := m_X0_cellsOf) (As := [.int v1]) (rest := [.long (1 : Int64)]) dX4_fill_19 ml_X4_31 mo_X0_cellsOf vo_X0_cellsOf rfl rfl (ok_X0_cellsOf er3) (by decide) (Nat.le_of_ble_eq_true rfl) ?_
      refine wp_lshl dX4_fill_22 ?_
      refine wp_lconst (v := 1) dX4_fill_23 (by decide +kernel) ?_
      refine wp_lsub dX4_fill_24 ?_
      refine wp_lstore_n (ls' := [some (.ref g), some (.int v1), some (.long (((1 : Int64) <<< (r3.1.toInt64 &&& 63)) - (1 : Int64))), none, none, none, none]) dX4_fill_25 rfl (by decide) rfl rfl ?_
      refine wp_lconst (v := 0) dX4_fill_26 (by decide +kernel) ?_
      refine wp_lstore (ls' := [some (.ref g), some (.int v1), some (.long (((1 : Int64) <<< (r3.1.toInt64 &&& 63)) - (1 : Int64))), none, some (.long (0 : Int64)), none, none]) dX4_fill_27 (by decide) rfl rfl ?_
      refine wp_iconst (v := 0) dX4_fill_29 (by decide +kernel) ?_
      refine wp_istore (ls' := [some (.ref g), some (.int v1), some (.long (((1 : Int64) <<< (r3.1.toInt64 &&& 63)) - (1 : Int64))), none, some (.long (0 : Int64)), none, some (.int (0 : Int32))]) dX4_fill_30 (by decide) rfl rfl ?_
      exact wp_sub (ls' := [some (.ref g), some (.int v1), some (.long (((1 : Int64) <<< (r3.1.toInt64 &&& 63)) - (1 : Int64))), none, some (.long (0 : Int64)), none, some (.int (0 : Int32))]) ⟨rfl, rfl, rfl, rfl, rfl, trivial⟩ (w_X4_fill_32 ih hg _ _ _ _ _ _ h)
def f_X4_fill (g : Nat) (s : St) : Option (St) :=
  if ¬ clO g = 4 then none else
  f_X4_fill_2 g FU (0 : Int32) s
theorem ck_X4_fill {g : Nat} {s : St} {r : St} (h : f_X4_fill g s = some r) : clO g = 4 := by
  unfold f_X4_fill at h
  exact (ifc h).1
set_option maxRecDepth 100000 in
set_option maxHeartbeats 4000000 in
theorem ok_X4_fill {g : Nat} {s : St} {r : St} (h : f_X4_fill g s = some r) : Ct 1 m_X4_fill [.ref g] s none r := by
  unfold f_X4_fill at h
  obtain ⟨hg, h⟩ := ifc h
  refine ct_of [some (.ref g), none, none, none, none, none, none] 6 (by decide) rfl (Nat.le_of_ble_eq_true rfl) ?_
  refine wp_iconst (v := 0) dX4_fill_0 (by decide +kernel) ?_
  refine wp_istore_n (ls' := [some (.ref g), some (.int (0 : Int32)), none, none, none, none, none]) dX4_fill_1 rfl (by decide) rfl rfl ?_
  exact wp_sub (ls' := [some (.ref g), some (.int (0 : Int32)), none, none, none, none, none]) ⟨rfl, rfl, trivial⟩ (w_X4_fill_2 hg _ _ _ h)
def f_X4_fix (g : Nat) (a1 : Int32) (a2 : Int32) (a3 : Int32) (s : St) : Option (St) :=
  if ¬ clO g = 4 then none else
  Option.bind (aJ s (rf g 1) a2) fun x1 =>
  Option.bind (pJ s (rf g 1) a2 ((x1 &&& (((68736258049 : Int64) <<< (a1.toInt64 &&& 63)) ^^^ (-1 : Int64))) ||| ((1 : Int64) <<< ((((12 : Int32) * a3) + a1).toInt64 &&& 63)))) fun s2 =>
  Option.bind (aJ s2 (rf g 1) ((s.1 3 4) + a1)) fun x3 =>
  Option.bind (pJ s2 (rf g 1) ((s.1 3 4) + a1) ((x3 &&& (((68736258049 : Int64) <<< (a2.toInt64 &&& 63)) ^^^ (-1 : Int64))) ||| ((1 : Int64) <<< ((((12 : Int32) * a3) + a2).toInt64 &&& 63)))) fun s4 =>
  some s4
theorem ck_X4_fix {g : Nat} {a1 : Int32} {a2 : Int32} {a3 : Int32} {s : St} {r : St} (h : f_X4_fix g a1 a2 a3 s = some r) : clO g = 4 := by
  unfold f_X4_fix at h
  exact (ifc h).1
set_option maxRecDepth 100000 in
set_option maxHeartbeats 4000000 in
theorem ok_X4_fix {g : Nat} {a1 : Int32} {a2 : Int32} {a3 : Int32} {s : St} {r : St} (h : f_X4_fix g a1 a2 a3 s = some r) : Ct 0 m_X4_fix [.ref g, .int a1, .int a2, .int a3] s none r := by
  unfold f_X4_fix at h
  obtain ⟨hg, h⟩ := ifc h
  refine ct_of [some (.ref g), some (.int a1), some (.int a2), some (.int a3), none] 1 (by decide) rfl (Nat.le_of_ble_eq_true rfl) ?_
  refine wp_aload_n (i := 0) dX4_fix_0 rfl rfl ?_
  refine wp_getR (t := 3) dX4_fix_1 fl_X4_15 hg (kr_4_0 _ hg) ?_
  refine wp_getI dX4_fix_4 fl_X4_39 rfl rfl ?_
  refine wp_iload_n (i := 1) dX4_fix_7 rfl rfl ?_
  refine wp_iadd dX4_fix_8 ?_
  refine wp_istore (ls' := [some (.ref g), some (.int a1), some (.int a2), some (.int a3), some (.int ((s.1 3 4) + a1))]) dX4_fix_9 (by decide) rfl rfl ?_
  refine wp_aload_n (i := 0) dX4_fix_11 rfl rfl ?_
  refine wp_getR (t := rf g 1) dX4_fix_12 fl_X4_9 hg (kr_4_1 _ hg) ?_
  refine wp_iload_n (i := 2) dX4_fix_15 rfl rfl ?_
  refine wp_aload_n (i := 0) dX4_fix_16 rfl rfl ?_
  refine wp_getR (t := rf g 1) dX4_fix_17 fl_X4_9 hg (kr_4_1 _ hg) ?_
  refine wp_iload_n (i := 2) dX4_fix_20 rfl rfl ?_
  obtain ⟨x1, ex1, h⟩ := ob h
  refine wp_aJ dX4_fix_21 ex1 ?_
  refine wp_ldc2 dX4_fix_22 kc_X4_61 ?_
  refine wp_iload_n (i := 1) dX4_fix_25 rfl rfl ?_
  refine wp_lshl dX4_fix_26 ?_
  refine wp_ldc2 dX4_fix_27 kc_X4_63 ?_
  refine wp_lxor dX4_fix_30 ?_
  refine wp_land dX4_fix_31 ?_
  refine wp_lconst (v := 1) dX4_fix_32 (by decide +kernel) ?_
  refine wp_bipush (v := 12) dX4_fix_33 (by decide +kernel) ?_
  refine wp_iload_n (i := 3) dX4_fix_35 rfl rfl ?_
  refine wp_imul dX4_fix_36 ?_
  refine wp_iload_n (i := 1) dX4_fix_37 rfl rfl ?_
  refine wp_iadd dX4_fix_38 ?_
  refine wp_lshl dX4_fix_39 ?_
  refine wp_lor dX4_fix_40 ?_
  obtain ⟨s2, es2, h⟩ := ob h
  refine wp_pJ dX4_fix_41 es2 ?_
  refine wp_aload_n (i := 0) dX4_fix_42 rfl rfl ?_
  refine wp_getR (t := rf g 1) dX4_fix_43 fl_X4_9 hg (kr_4_1 _ hg) ?_
  refine wp_iload dX4_fix_46 rfl ?_
  refine wp_aload_n (i := 0) dX4_fix_48 rfl rfl ?_
  refine wp_getR (t := rf g 1) dX4_fix_49 fl_X4_9 hg (kr_4_1 _ hg) ?_
  refine wp_iload dX4_fix_52 rfl ?_
  obtain ⟨x3, ex3, h⟩ := ob h
  refine wp_aJ dX4_fix_54 ex3 ?_
  refine wp_ldc2 dX4_fix_55 kc_X4_61 ?_
  refine wp_iload_n (i := 2) dX4_fix_58 rfl rfl ?_
  refine wp_lshl dX4_fix_59 ?_
  refine wp_ldc2 dX4_fix_60 kc_X4_63 ?_
  refine wp_lxor dX4_fix_63 ?_
  refine wp_land dX4_fix_64 ?_
  refine wp_lconst (v := 1) dX4_fix_65 (by decide +kernel) ?_
  refine wp_bipush (v := 12) dX4_fix_66 (by decide +kernel) ?_
  refine wp_iload_n (i := 3) dX4_fix_68 rfl rfl ?_
  refine wp_imul dX4_fix_69 ?_
  refine wp_iload_n (i := 2) dX4_fix_70 rfl rfl ?_
  refine wp_iadd dX4_fix_71 ?_
  refine wp_lshl dX4_fix_72 ?_
  refine wp_lor dX4_fix_73 ?_
  obtain ⟨s4, es4, h⟩ := ob h
  refine wp_pJ dX4_fix_74 es4 ?_
  obtain rfl := Option.some.inj h
  exact wp_vret dX4_fix_75 rfl
def f_X4_tell_48 (g : Nat) (a1 : Nat) (K2 : Int32 → St → Option (St)) (K15 : Int32 → Int32 → St → Option (St)) (v2 : Int32) (v3 : Int32) (s : St) : Option (St) :=
  K15 v2 (v3 + 1) s
set_option maxRecDepth 100000 in
set_option maxHeartbeats 4000000 in
theorem w_X4_tell_48 {r : St} {g : Nat} {a1 : Nat} {K2 : Int32 → St → Option (St)} (hK2 : ∀ (v2 : Int32) (s : St), K2 v2 s = some r → Wp m_X4_tell 1 (PR none r) 2 [some (.ref g), some (.ref a1), some (.int v2), none, none] [] s) {K15 : Int32 → Int32 → St → Option (St)} (hK15 : ∀ (v2 : Int32) (v3 : Int32) (s : St), K15 v2 v3 s = some r → Wp m_X4_tell 1 (PR none r) 15 [some (.ref g), some (.ref a1), some (.int v2), some (.int v3), none] [] s) {v2 : Int32} {v3 : Int32} (hg : clO g = 4) (ha1 : clO a1 = 2) {s : St} (h : f_X4_tell_48 g a1 K2 K15 v2 v3 s = some r) : Wp m_X4_tell 1 (PR none r) 48 [some (.ref g), some (.ref a1), some (.int v2), some (.int v3), none] [] s := by
  unfold f_X4_tell_48 at h
  refine wp_inc (c := 1) (ls' := [some (.ref g), some (.ref a1), some (.int v2), some (.int (v3 + 1)), none]) dX4_tell_48 rfl (by decide +kernel) (by decide) rfl rfl ?_
  refine wp_goto (tgt := 15) dX4_tell_51 (by decide) ?_
  exact wp_sub (ls' := [some (.ref g), some (.ref a1), some (.int v2), some (.int (v3 + 1)), none]) ⟨rfl, rfl, rfl, rfl, trivial⟩ (hK15 _ _ _ h)
def f_X4_tell_15 (g : Nat) (a1 : Nat) (K2 : Int32 → St → Option (St)) : Nat → Int32 → Int32 → St → Option (St)
  | 0, _, _, _ => none
  | n + 1, v2, v3, s =>
    if (s.1 3 3) ≤ v3 then (
      K2 (v2 + 1) s)
    else (
      Option.bind (f_X2_at a1 v3 v2 s) fun r2 =>
      if r2.1 = (-1 : Int32) then (
        f_X4_tell_48 g a1 K2 (f_X4_tell_15 g a1 K2 n) v2 v3 r2.2)
      else (
        Option.bind (f_X4_fix g v3 v2 r2.1 r2.2) fun s4 =>
        f_X4_tell_48 g a1 K2 (f_X4_tell_15 g a1 K2 n) v2 v3 s4))
set_option maxRecDepth 100000 in
set_option maxHeartbeats 4000000 in
theorem w_X4_tell_15 {r : St} {g : Nat} {a1 : Nat} {K2 : Int32 → St → Option (St)} (hK2 : ∀ (v2 : Int32) (s : St), K2 v2 s = some r → Wp m_X4_tell 1 (PR none r) 2 [some (.ref g), some (.ref a1), some (.int v2), none, none] [] s)  (hg : clO g = 4) (ha1 : clO a1 = 2) : ∀ (n : Nat) (v2 : Int32) (v3 : Int32) (s : St), f_X4_tell_15 g a1 K2 n v2 v3 s = some r → Wp m_X4_tell 1 (PR none r) 15 [some (.ref g), some (.ref a1), some (.int v2), some (.int v3), none] [] s := by
  intro n
  induction n with
  | zero => intro v2 v3 s h; cases h
  | succ n ih =>
    intro v2 v3 s h
    unfold f_X4_tell_15 at h
    refine wp_iload_n (i := 3) dX4_tell_15 rfl rfl ?_
    refine wp_aload_n (i := 0) dX4_tell_16 rfl rfl ?_
    refine wp_getR (t := 3) dX4_tell_17 fl_X4_15 hg (kr_4_0 _ hg) ?_
    refine wp_getI dX4_tell_20 fl_X4_42 rfl rfl ?_
    refine wp_icmp_ge (tgt := 54) dX4_tell_23 (by decide) (fun c1 => ?_) (fun c1 => ?_)
    · rw [if_pos c1] at h
      refine wp_inc (c := 1) (ls' := [some (.ref g), some (.ref a1), some (.int (v2 + 1)), some (.int v3), none]) dX4_tell_54 rfl (by decide +kernel) (by decide) rfl rfl ?_
      refine wp_goto (tgt := 2) dX4_tell_57 (by decide) ?_
      exact wp_sub (ls' := [some (.ref g), some (.ref a1), some (.int (v2 + 1)), none, none]) ⟨rfl, rfl, rfl, trivial⟩ (hK2 _ _ h)
    · rw [if_neg c1] at h
      refine wp_aload_n (i := 1) dX4_tell_26 rfl rfl ?_
      refine wp_iload_n (i := 3) dX4_tell_27 rfl rfl ?_
      refine wp_iload_n (i := 2) dX4_tell_28 rfl rfl ?_
      obtain ⟨r2, er2, h⟩ := ob h
      refine wp_cVi (N := m_X2_at) (As := [.int v3, .int v2]) (rest := []) dX4_tell_29 ml_X4_45 mo_X2_at vo_X2_at ha1 rfl (ok_X2_at er2) (by decide) (Nat.le_of_ble_eq_true rfl) ?_
      refine wp_istore (ls' := [some (.ref g), some (.ref a1), some (.int v2), some (.int v3), some (.int r2.1)]) dX4_tell_32 (by decide) rfl rfl ?_
      refine wp_iload dX4_tell_34 rfl ?_
      refine wp_iconst (v := -1) dX4_tell_36 (by decide +kernel) ?_
      refine wp_icmp_eq (tgt := 48) dX4_tell_37 (by decide) (fun c3 => ?_) (fun c3 => ?_)
      · rw [if_pos c3] at h
        exact wp_sub (ls' := [some (.ref g), some (.ref a1), some (.int v2), some (.int v3), none]) ⟨rfl, rfl, rfl, rfl, trivial⟩ (w_X4_tell_48 hK2 ih hg ha1 h)
      · rw [if_neg c3] at h
        refine wp_aload_n (i := 0) dX4_tell_40 rfl rfl ?_
        refine wp_iload_n (i := 3) dX4_tell_41 rfl rfl ?_
        refine wp_iload_n (i := 2) dX4_tell_42 rfl rfl ?_
        refine wp_iload dX4_tell_43 rfl ?_
        obtain ⟨s4, es4, h⟩ := ob h
        refine wp_cVv (N := m_X4_fix) (As := [.int v3, .int v2, .int r2.1]) (rest := []) dX4_tell_45 ml_X4_51 mo_X4_fix vo_X4_fix hg rfl (ok_X4_fix es4) (by decide) (Nat.le_of_ble_eq_true rfl) ?_
        exact wp_sub (ls' := [some (.ref g), some (.ref a1), some (.int v2), some (.int v3), none]) ⟨rfl, rfl, rfl, rfl, trivial⟩ (w_X4_tell_48 hK2 ih hg ha1 h)
def f_X4_tell_2 (g : Nat) (a1 : Nat) : Nat → Int32 → St → Option (St)
  | 0, _, _ => none
  | n + 1, v2, s =>
    if (s.1 3 4) ≤ v2 then (
      some s)
    else (
      f_X4_tell_15 g a1 (f_X4_tell_2 g a1 n) FU v2 (0 : Int32) s)
set_option maxRecDepth 100000 in
set_option maxHeartbeats 4000000 in
theorem w_X4_tell_2 {r : St} {g : Nat} {a1 : Nat}  (hg : clO g = 4) (ha1 : clO a1 = 2) : ∀ (n : Nat) (v2 : Int32) (s : St), f_X4_tell_2 g a1  n v2 s = some r → Wp m_X4_tell 1 (PR none r) 2 [some (.ref g), some (.ref a1), some (.int v2), none, none] [] s := by
  intro n
  induction n with
  | zero => intro v2 s h; cases h
  | succ n ih =>
    intro v2 s h
    unfold f_X4_tell_2 at h
    refine wp_iload_n (i := 2) dX4_tell_2 rfl rfl ?_
    refine wp_aload_n (i := 0) dX4_tell_3 rfl rfl ?_
    refine wp_getR (t := 3) dX4_tell_4 fl_X4_15 hg (kr_4_0 _ hg) ?_
    refine wp_getI dX4_tell_7 fl_X4_39 rfl rfl ?_
    refine wp_icmp_ge (tgt := 60) dX4_tell_10 (by decide) (fun c1 => ?_) (fun c1 => ?_)
    · rw [if_pos c1] at h
      obtain rfl := Option.some.inj h
      exact wp_vret dX4_tell_60 rfl
    · rw [if_neg c1] at h
      refine wp_iconst (v := 0) dX4_tell_13 (by decide +kernel) ?_
      refine wp_istore_n (ls' := [some (.ref g), some (.ref a1), some (.int v2), some (.int (0 : Int32)), none]) dX4_tell_14 rfl (by decide) rfl rfl ?_
      exact wp_sub (ls' := [some (.ref g), some (.ref a1), some (.int v2), some (.int (0 : Int32)), none]) ⟨rfl, rfl, rfl, rfl, trivial⟩ (w_X4_tell_15 ih hg ha1 _ _ _ _ h)
def f_X4_tell (g : Nat) (a1 : Nat) (s : St) : Option (St) :=
  if ¬ clO g = 4 then none else
  if ¬ clO a1 = 2 then none else
  f_X4_tell_2 g a1 FU (0 : Int32) s
theorem ck_X4_tell {g : Nat} {a1 : Nat} {s : St} {r : St} (h : f_X4_tell g a1 s = some r) : clO g = 4 := by
  unfold f_X4_tell at h
  exact (ifc h).1
set_option maxRecDepth 100000 in
set_option maxHeartbeats 4000000 in
theorem ok_X4_tell {g : Nat} {a1 : Nat} {s : St} {r : St} (h : f_X4_tell g a1 s = some r) : Ct 1 m_X4_tell [.ref g, .ref a1] s none r := by
  unfold f_X4_tell at h
  obtain ⟨hg, h⟩ := ifc h
  obtain ⟨ha1, h⟩ := ifc h
  refine ct_of [some (.ref g), some (.ref a1), none, none, none] 3 (by decide) rfl (Nat.le_of_ble_eq_true rfl) ?_
  refine wp_iconst (v := 0) dX4_tell_0 (by decide +kernel) ?_
  refine wp_istore_n (ls' := [some (.ref g), some (.ref a1), some (.int (0 : Int32)), none, none]) dX4_tell_1 rfl (by decide) rfl rfl ?_
  exact wp_sub (ls' := [some (.ref g), some (.ref a1), some (.int (0 : Int32)), none, none]) ⟨rfl, rfl, rfl, trivial⟩ (w_X4_tell_2 hg ha1 _ _ _ h)
def f_X4_become (g : Nat) (a1 : Nat) (s : St) : Option (St) :=
  if ¬ clO g = 4 then none else
  if ¬ clO a1 = 2 then none else
  Option.bind (f_X4_fill g s) fun s1 =>
  Option.bind (f_X4_tell g a1 s1) fun s2 =>
  some s2
theorem ck_X4_become {g : Nat} {a1 : Nat} {s : St} {r : St} (h : f_X4_become g a1 s = some r) : clO g = 4 := by
  unfold f_X4_become at h
  exact (ifc h).1
set_option maxRecDepth 100000 in
set_option maxHeartbeats 4000000 in
theorem ok_X4_become {g : Nat} {a1 : Nat} {s : St} {r : St} (h : f_X4_become g a1 s = some r) : Ct 2 m_X4_become [.ref g, .ref a1] s none r := by
  unfold f_X4_become at h
  obtain ⟨hg, h⟩ := ifc h
  obtain ⟨ha1, h⟩ := ifc h
  refine ct_of [some (.ref g), some (.ref a1)] 0 (by decide) rfl (Nat.le_of_ble_eq_true rfl) ?_
  refine wp_aload_n (i := 0) dX4_become_0 rfl rfl ?_
  obtain ⟨s1, es1, h⟩ := ob h
  refine wp_cVv (N := m_X4_fill) (As := []) (rest := []) dX4_become_1 ml_X4_19 mo_X4_fill vo_X4_fill hg rfl (ok_X4_fill es1) (by decide) (Nat.le_of_ble_eq_true rfl) ?_
  refine wp_aload_n (i := 0) dX4_become_4 rfl rfl ?_
  refine wp_aload_n (i := 1) dX4_become_5 rfl rfl ?_
  obtain ⟨s2, es2, h⟩ := ob h
  refine wp_cVv (N := m_X4_tell) (As := [.ref a1]) (rest := []) dX4_become_6 ml_X4_22 mo_X4_tell vo_X4_tell hg rfl (ok_X4_tell es2) (by decide) (Nat.le_of_ble_eq_true rfl) ?_
  obtain rfl := Option.some.inj h
  exact wp_vret dX4_become_9 rfl
def f_X4_copy (g : Nat) (a1 : Nat) (s : St) : Option (St) :=
  if ¬ clO g = 4 then none else
  if ¬ clO a1 = 4 then none else
  Option.bind (cpJ s (rf a1 1) (0 : Int32) (rf g 1) (0 : Int32) (24 : Int32)) fun s1 =>
  some s1
theorem ck_X4_copy {g : Nat} {a1 : Nat} {s : St} {r : St} (h : f_X4_copy g a1 s = some r) : clO g = 4 := by
  unfold f_X4_copy at h
  exact (ifc h).1
set_option maxRecDepth 100000 in
set_option maxHeartbeats 4000000 in
theorem ok_X4_copy {g : Nat} {a1 : Nat} {s : St} {r : St} (h : f_X4_copy g a1 s = some r) : Ct 1 m_X4_copy [.ref g, .ref a1] s none r := by
  unfold f_X4_copy at h
  obtain ⟨hg, h⟩ := ifc h
  obtain ⟨ha1, h⟩ := ifc h
  refine ct_of [some (.ref g), some (.ref a1)] 0 (by decide) rfl (Nat.le_of_ble_eq_true rfl) ?_
  refine wp_aload_n (i := 1) dX4_copy_0 rfl rfl ?_
  refine wp_getR (t := rf a1 1) dX4_copy_1 fl_X4_9 ha1 (kr_4_1 _ ha1) ?_
  refine wp_iconst (v := 0) dX4_copy_4 (by decide +kernel) ?_
  refine wp_aload_n (i := 0) dX4_copy_5 rfl rfl ?_
  refine wp_getR (t := rf g 1) dX4_copy_6 fl_X4_9 hg (kr_4_1 _ hg) ?_
  refine wp_iconst (v := 0) dX4_copy_9 (by decide +kernel) ?_
  refine wp_bipush (v := 24) dX4_copy_10 (by decide +kernel) ?_
  obtain ⟨s1, es1, h⟩ := ob h
  refine wp_cpJ dX4_copy_12 ml_X4_55 es1 (by decide) (Nat.le_of_ble_eq_true rfl) ?_
  obtain rfl := Option.some.inj h
  exact wp_vret dX4_copy_15 rfl
def f_X4_saveTo (g : Nat) (a1 : Nat) (a2 : Int32) (s : St) : Option (St) :=
  if ¬ clO g = 4 then none else
  Option.bind (cpJ s (rf g 1) (0 : Int32) a1 (a2 * (24 : Int32)) (24 : Int32)) fun s1 =>
  some s1
theorem ck_X4_saveTo {g : Nat} {a1 : Nat} {a2 : Int32} {s : St} {r : St} (h : f_X4_saveTo g a1 a2 s = some r) : clO g = 4 := by
  unfold f_X4_saveTo at h
  exact (ifc h).1
set_option maxRecDepth 100000 in
set_option maxHeartbeats 4000000 in
theorem ok_X4_saveTo {g : Nat} {a1 : Nat} {a2 : Int32} {s : St} {r : St} (h : f_X4_saveTo g a1 a2 s = some r) : Ct 1 m_X4_saveTo [.ref g, .ref a1, .int a2] s none r := by
  unfold f_X4_saveTo at h
  obtain ⟨hg, h⟩ := ifc h
  refine ct_of [some (.ref g), some (.ref a1), some (.int a2)] 0 (by decide) rfl (Nat.le_of_ble_eq_true rfl) ?_
  refine wp_aload_n (i := 0) dX4_saveTo_0 rfl rfl ?_
  refine wp_getR (t := rf g 1) dX4_saveTo_1 fl_X4_9 hg (kr_4_1 _ hg) ?_
  refine wp_iconst (v := 0) dX4_saveTo_4 (by decide +kernel) ?_
  refine wp_aload_n (i := 1) dX4_saveTo_5 rfl rfl ?_
  refine wp_iload_n (i := 2) dX4_saveTo_6 rfl rfl ?_
  refine wp_bipush (v := 24) dX4_saveTo_7 (by decide +kernel) ?_
  refine wp_imul dX4_saveTo_9 ?_
  refine wp_bipush (v := 24) dX4_saveTo_10 (by decide +kernel) ?_
  obtain ⟨s1, es1, h⟩ := ob h
  refine wp_cpJ dX4_saveTo_12 ml_X4_55 es1 (by decide) (Nat.le_of_ble_eq_true rfl) ?_
  obtain rfl := Option.some.inj h
  exact wp_vret dX4_saveTo_15 rfl
def f_X4_restoreFrom (g : Nat) (a1 : Nat) (a2 : Int32) (s : St) : Option (St) :=
  if ¬ clO g = 4 then none else
  Option.bind (cpJ s a1 (a2 * (24 : Int32)) (rf g 1) (0 : Int32) (24 : Int32)) fun s1 =>
  some s1
theorem ck_X4_restoreFrom {g : Nat} {a1 : Nat} {a2 : Int32} {s : St} {r : St} (h : f_X4_restoreFrom g a1 a2 s = some r) : clO g = 4 := by
  unfold f_X4_restoreFrom at h
  exact (ifc h).1
set_option maxRecDepth 100000 in
set_option maxHeartbeats 4000000 in
theorem ok_X4_restoreFrom {g : Nat} {a1 : Nat} {a2 : Int32} {s : St} {r : St} (h : f_X4_restoreFrom g a1 a2 s = some r) : Ct 1 m_X4_restoreFrom [.ref g, .ref a1, .int a2] s none r := by
  unfold f_X4_restoreFrom at h
  obtain ⟨hg, h⟩ := ifc h
  refine ct_of [some (.ref g), some (.ref a1), some (.int a2)] 0 (by decide) rfl (Nat.le_of_ble_eq_true rfl) ?_
  refine wp_aload_n (i := 1) dX4_restoreFrom_0 rfl rfl ?_
  refine wp_iload_n (i := 2) dX4_restoreFrom_1 rfl rfl ?_
  refine wp_bipush (v := 24) dX4_restoreFrom_2 (by decide +kernel) ?_
  refine wp_imul dX4_restoreFrom_4 ?_
  refine wp_aload_n (i := 0) dX4_restoreFrom_5 rfl rfl ?_
  refine wp_getR (t := rf g 1) dX4_restoreFrom_6 fl_X4_9 hg (kr_4_1 _ hg) ?_
  refine wp_iconst (v := 0) dX4_restoreFrom_9 (by decide +kernel) ?_
  refine wp_bipush (v := 24) dX4_restoreFrom_10 (by decide +kernel) ?_
  obtain ⟨s1, es1, h⟩ := ob h
  refine wp_cpJ dX4_restoreFrom_12 ml_X4_55 es1 (by decide) (Nat.le_of_ble_eq_true rfl) ?_
  obtain rfl := Option.some.inj h
  exact wp_vret dX4_restoreFrom_15 rfl
def f_X4_drop (g : Nat) (a1 : Int32) (a2 : Int32) (a3 : Int32) (s : St) : Option (St) :=
  if ¬ clO g = 4 then none else
  Option.bind (aJ s (rf g 1) a2) fun x1 =>
  Option.bind (pJ s (rf g 1) a2 (x1 &&& (((1 : Int64) <<< ((((12 : Int32) * a3) + a1).toInt64 &&& 63)) ^^^ (-1 : Int64)))) fun s2 =>
  Option.bind (aJ s2 (rf g 1) ((s2.1 3 4) + a1)) fun x3 =>
  Option.bind (pJ s2 (rf g 1) ((s2.1 3 4) + a1) (x3 &&& (((1 : Int64) <<< ((((12 : Int32) * a3) + a2).toInt64 &&& 63)) ^^^ (-1 : Int64)))) fun s4 =>
  some s4
theorem ck_X4_drop {g : Nat} {a1 : Int32} {a2 : Int32} {a3 : Int32} {s : St} {r : St} (h : f_X4_drop g a1 a2 a3 s = some r) : clO g = 4 := by
  unfold f_X4_drop at h
  exact (ifc h).1
set_option maxRecDepth 100000 in
set_option maxHeartbeats 4000000 in
theorem ok_X4_drop {g : Nat} {a1 : Int32} {a2 : Int32} {a3 : Int32} {s : St} {r : St} (h : f_X4_drop g a1 a2 a3 s = some r) : Ct 0 m_X4_drop [.ref g, .int a1, .int a2, .int a3] s none r := by
  unfold f_X4_drop at h
  obtain ⟨hg, h⟩ := ifc h
  refine ct_of [some (.ref g), some (.int a1), some (.int a2), some (.int a3)] 0 (by decide) rfl (Nat.le_of_ble_eq_true rfl) ?_
  refine wp_aload_n (i := 0) dX4_drop_0 rfl rfl ?_
  refine wp_getR (t := rf g 1) dX4_drop_1 fl_X4_9 hg (kr_4_1 _ hg) ?_
  refine wp_iload_n (i := 2) dX4_drop_4 rfl rfl ?_
  refine wp_dup2_ir dX4_drop_5 ?_
  obtain ⟨x1, ex1, h⟩ := ob h
  refine wp_aJ dX4_drop_6 ex1 ?_
  refine wp_lconst (v := 1) dX4_drop_7 (by decide +kernel) ?_
  refine wp_bipush (v := 12) dX4_drop_8 (by decide +kernel) ?_
  refine wp_iload_n (i := 3) dX4_drop_10 rfl rfl ?_
  refine wp_imul dX4_drop_11 ?_
  refine wp_iload_n (i := 1) dX4_drop_12 rfl rfl ?_
  refine wp_iadd dX4_drop_13 ?_
  refine wp_lshl dX4_drop_14 ?_
  refine wp_ldc2 dX4_drop_15 kc_X4_63 ?_
  refine wp_lxor dX4_drop_18 ?_
  refine wp_land dX4_drop_19 ?_
  obtain ⟨s2, es2, h⟩ := ob h
  refine wp_pJ dX4_drop_20 es2 ?_
  refine wp_aload_n (i := 0) dX4_drop_21 rfl rfl ?_
  refine wp_getR (t := rf g 1) dX4_drop_22 fl_X4_9 hg (kr_4_1 _ hg) ?_
  refine wp_aload_n (i := 0) dX4_drop_25 rfl rfl ?_
  refine wp_getR (t := 3) dX4_drop_26 fl_X4_15 hg (kr_4_0 _ hg) ?_
  refine wp_getI dX4_drop_29 fl_X4_39 rfl rfl ?_
  refine wp_iload_n (i := 1) dX4_drop_32 rfl rfl ?_
  refine wp_iadd dX4_drop_33 ?_
  refine wp_dup2_ir dX4_drop_34 ?_
  obtain ⟨x3, ex3, h⟩ := ob h
  refine wp_aJ dX4_drop_35 ex3 ?_
  refine wp_lconst (v := 1) dX4_drop_36 (by decide +kernel) ?_
  refine wp_bipush (v := 12) dX4_drop_37 (by decide +kernel) ?_
  refine wp_iload_n (i := 3) dX4_drop_39 rfl rfl ?_
  refine wp_imul dX4_drop_40 ?_
  refine wp_iload_n (i := 2) dX4_drop_41 rfl rfl ?_
  refine wp_iadd dX4_drop_42 ?_
  refine wp_lshl dX4_drop_43 ?_
  refine wp_ldc2 dX4_drop_44 kc_X4_63 ?_
  refine wp_lxor dX4_drop_47 ?_
  refine wp_land dX4_drop_48 ?_
  obtain ⟨s4, es4, h⟩ := ob h
  refine wp_pJ dX4_drop_49 es4 ?_
  obtain rfl := Option.some.inj h
  exact wp_vret dX4_drop_50 rfl
def f_X4_linesThrough (g : Nat) (a1 : Int32) (a2 : Int32) (s : St) : Option (Int32 × St) :=
  if ¬ clO g = 4 then none else
  some (((1 : Int32) <<< (a2 &&& 31)) ||| ((1 : Int32) <<< (((s.1 3 4) + a1) &&& 31)), s)
theorem ck_X4_linesThrough {g : Nat} {a1 : Int32} {a2 : Int32} {s : St} {r : Int32 × St} (h : f_X4_linesThrough g a1 a2 s = some r) : clO g = 4 := by
  unfold f_X4_linesThrough at h
  exact (ifc h).1
set_option maxRecDepth 100000 in
set_option maxHeartbeats 4000000 in
theorem ok_X4_linesThrough {g : Nat} {a1 : Int32} {a2 : Int32} {s : St} {r : Int32 × St} (h : f_X4_linesThrough g a1 a2 s = some r) : Ct 0 m_X4_linesThrough [.ref g, .int a1, .int a2] s (some (.int r.1)) r.2 := by
  unfold f_X4_linesThrough at h
  obtain ⟨hg, h⟩ := ifc h
  refine ct_of [some (.ref g), some (.int a1), some (.int a2)] 0 (by decide) rfl (Nat.le_of_ble_eq_true rfl) ?_
  refine wp_iconst (v := 1) dX4_linesThrough_0 (by decide +kernel) ?_
  refine wp_iload_n (i := 2) dX4_linesThrough_1 rfl rfl ?_
  refine wp_ishl dX4_linesThrough_2 ?_
  refine wp_iconst (v := 1) dX4_linesThrough_3 (by decide +kernel) ?_
  refine wp_aload_n (i := 0) dX4_linesThrough_4 rfl rfl ?_
  refine wp_getR (t := 3) dX4_linesThrough_5 fl_X4_15 hg (kr_4_0 _ hg) ?_
  refine wp_getI dX4_linesThrough_8 fl_X4_39 rfl rfl ?_
  refine wp_iload_n (i := 1) dX4_linesThrough_11 rfl rfl ?_
  refine wp_iadd dX4_linesThrough_12 ?_
  refine wp_ishl dX4_linesThrough_13 ?_
  refine wp_ior dX4_linesThrough_14 ?_
  obtain rfl := Option.some.inj h
  exact wp_iret dX4_linesThrough_15 rfl rfl
def f_X4_narrow_160 (g : Nat) (K95 : Int32 → Int64 → Int32 → Int32 → Int32 → Int32 → St → Option (Int32 × St)) (v1 : Int32) (v4 : Int64) (v7 : Int32) (v8 : Int32) (v9 : Int32) (v10 : Int32) (s : St) : Option (Int32 × St) :=
  K95 v1 v4 v7 v8 v9 (v10 + 1) s
set_option maxRecDepth 100000 in
set_option maxHeartbeats 4000000 in
theorem w_X4_narrow_160 {r : Int32 × St} {g : Nat} {K95 : Int32 → Int64 → Int32 → Int32 → Int32 → Int32 → St → Option (Int32 × St)} (hK95 : ∀ (v1 : Int32) (v4 : Int64) (v7 : Int32) (v8 : Int32) (v9 : Int32) (v10 : Int32) (s : St), K95 v1 v4 v7 v8 v9 v10 s = some r → Wp m_X4_narrow 1 (PR (some (.int r.1)) r.2) 95 [some (.ref g), some (.int v1), none, none, some (.long v4), none, none, some (.int v7), some (.int v8), some (.int v9), some (.int v10), none, none] [] s) {v1 : Int32} {v4 : Int64} {v7 : Int32} {v8 : Int32} {v9 : Int32} {v10 : Int32} (hg : clO g = 4) {s : St} (h : f_X4_narrow_160 g K95 v1 v4 v7 v8 v9 v10 s = some r) : Wp m_X4_narrow 1 (PR (some (.int r.1)) r.2) 160 [some (.ref g), some (.int v1), none, none, some (.long v4), none, none, some (.int v7), some (.int v8), some (.int v9), some (.int v10), none, none] [] s := by
  unfold f_X4_narrow_160 at h
  refine wp_inc (c := 1) (ls' := [some (.ref g), some (.int v1), none, none, some (.long v4), none, none, some (.int v7), some (.int v8), some (.int v9), some (.int (v10 + 1)), none, none]) dX4_narrow_160 rfl (by decide +kernel) (by decide) rfl rfl ?_
  refine wp_goto (tgt := 95) dX4_narrow_163 (by decide) ?_
  exact wp_sub (ls' := [some (.ref g), some (.int v1), none, none, some (.long v4), none, none, some (.int v7), some (.int v8), some (.int v9), some (.int (v10 + 1)), none, none]) ⟨rfl, rfl, rfl, rfl, rfl, rfl, rfl, trivial⟩ (hK95 _ _ _ _ _ _ _ h)
def f_X4_narrow_95 (g : Nat) : Nat → Int32 → Int64 → Int32 → Int32 → Int32 → Int32 → St → Option (Int32 × St)
  | 0, _, _, _, _, _, _, _ => none
  | n + 1, v1, v4, v7, v8, v9, v10, s =>
    Option.bind (f_X0_cellsOf 3 v1 s) fun r1 =>
    if r1.1 ≤ v10 then (
      some (v9, r1.2))
    else (
      Option.bind (some (((v4.toUInt64 >>> (v10.toInt64.toUInt64 &&& Int64.toUInt64 63)).toInt64) &&& (68736258049 : Int64) : Int64)) fun x3 =>
      if (lg_cmp x3 (0 : Int64)) = 0 then (
        f_X4_narrow_160 g (f_X4_narrow_95 g n) v1 v4 v7 v8 v9 v10 r1.2)
      else (
        Option.bind (aJ r1.2 (rf g 1) (v8 + v10)) fun x5 =>
        Option.bind (pJ r1.2 (rf g 1) (v8 + v10) (x5 &&& ((x3 <<< (v7.toInt64 &&& 63)) ^^^ (-1 : Int64)))) fun s6 =>
        f_X4_narrow_160 g (f_X4_narrow_95 g n) v1 v4 v7 v8 (v9 ||| ((1 : Int32) <<< ((v8 + v10) &&& 31))) v10 s6))
set_option maxRecDepth 100000 in
set_option maxHeartbeats 4000000 in
theorem w_X4_narrow_95 {r : Int32 × St} {g : Nat}  (hg : clO g = 4) : ∀ (n : Nat) (v1 : Int32) (v4 : Int64) (v7 : Int32) (v8 : Int32) (v9 : Int32) (v10 : Int32) (s : St), f_X4_narrow_95 g  n v1 v4 v7 v8 v9 v10 s = some r → Wp m_X4_narrow 1 (PR (some (.int r.1)) r.2) 95 [some (.ref g), some (.int v1), none, none, some (.long v4), none, none, some (.int v7), some (.int v8), some (.int v9), some (.int v10), none, none] [] s := by
  intro n
  induction n with
  | zero => intro v1 v4 v7 v8 v9 v10 s h; cases h
  | succ n ih =>
    intro v1 v4 v7 v8 v9 v10 s h
    unfold f_X4_narrow_95 at h
    refine wp_iload dX4_narrow_95 rfl ?_
    refine wp_aload_n (i := 0) dX4_narrow_97 rfl rfl ?_
    refine wp_getR (t := 3) dX4_narrow_98 fl_X4_15 hg (kr_4_0 _ hg) ?_
    refine wp_iload_n (i := 1) dX4_narrow_101 rfl rfl ?_
    obtain ⟨r1, er1, h⟩ := ob h
    refine wp_cVi (N := m_X0_cellsOf) (As := [.int v1]) (rest := [.int v10]) dX4_narrow_102 ml_X4_31 mo_X0_cellsOf vo_X0_cellsOf rfl rfl (ok_X0_cellsOf er1) (by decide) (Nat.le_of_ble_eq_true rfl) ?_
    refine wp_icmp_ge (tgt := 166) dX4_narrow_105 (by decide) (fun c2 => ?_) (fun c2 => ?_)
    · rw [if_pos c2] at h
      refine wp_iload dX4_narrow_166 rfl ?_
      obtain rfl := Option.some.inj h
      exact wp_iret dX4_narrow_168 rfl rfl
    · rw [if_neg c2] at h
      refine wp_lload dX4_narrow_108 rfl ?_
      refine wp_iload dX4_narrow_110 rfl ?_
      refine wp_lushr dX4_narrow_112 ?_
      refine wp_ldc2 dX4_narrow_113 kc_X4_61 ?_
      refine wp_land dX4_narrow_116 ?_
      obtain ⟨x3, ex3, h⟩ := ob h
      refine wp_topl (Option.some.inj ex3) ?_
      refine wp_lstore (ls' := [some (.ref g), some (.int v1), none, none, some (.long v4), none, none, some (.int v7), some (.int v8), some (.int v9), some (.int v10), some (.long x3), none]) dX4_narrow_117 (by decide) rfl rfl ?_
      refine wp_lload dX4_narrow_119 rfl ?_
      refine wp_lconst (v := 0) dX4_narrow_121 (by decide +kernel) ?_
      refine wp_lcmp dX4_narrow_122 ?_
      refine wp_if_eq (tgt := 160) dX4_narrow_123 (by decide) (fun c4 => ?_) (fun c4 => ?_)
      · rw [if_pos c4] at h
        exact wp_sub (ls' := [some (.ref g), some (.int v1), none, none, some (.long v4), none, none, some (.int v7), some (.int v8), some (.int v9), some (.int v10), none, none]) ⟨rfl, rfl, rfl, rfl, rfl, rfl, rfl, trivial⟩ (w_X4_narrow_160 ih hg h)
      · rw [if_neg c4] at h
        refine wp_aload_n (i := 0) dX4_narrow_126 rfl rfl ?_
        refine wp_getR (t := rf g 1) dX4_narrow_127 fl_X4_9 hg (kr_4_1 _ hg) ?_
        refine wp_iload dX4_narrow_130 rfl ?_
        refine wp_iload dX4_narrow_132 rfl ?_
        refine wp_iadd dX4_narrow_134 ?_
        refine wp_dup2_ir dX4_narrow_135 ?_
        obtain ⟨x5, ex5, h⟩ := ob h
        refine wp_aJ dX4_narrow_136 ex5 ?_
        refine wp_lload dX4_narrow_137 rfl ?_
        refine wp_iload dX4_narrow_139 rfl ?_
        refine wp_lshl dX4_narrow_141 ?_
        refine wp_ldc2 dX4_narrow_142 kc_X4_63 ?_
        refine wp_lxor dX4_narrow_145 ?_
        refine wp_land dX4_narrow_146 ?_
        obtain ⟨s6, es6, h⟩ := ob h
        refine wp_pJ dX4_narrow_147 es6 ?_
        refine wp_iload dX4_narrow_148 rfl ?_
        refine wp_iconst (v := 1) dX4_narrow_150 (by decide +kernel) ?_
        refine wp_iload dX4_narrow_151 rfl ?_
        refine wp_iload dX4_narrow_153 rfl ?_
        refine wp_iadd dX4_narrow_155 ?_
        refine wp_ishl dX4_narrow_156 ?_
        refine wp_ior dX4_narrow_157 ?_
        refine wp_istore (ls' := [some (.ref g), some (.int v1), none, none, some (.long v4), none, none, some (.int v7), some (.int v8), some (.int (v9 ||| ((1 : Int32) <<< ((v8 + v10) &&& 31)))), some (.int v10), some (.long x3), none]) dX4_narrow_158 (by decide) rfl rfl ?_
        exact wp_sub (ls' := [some (.ref g), some (.int v1), none, none, some (.long v4), none, none, some (.int v7), some (.int v8), some (.int (v9 ||| ((1 : Int32) <<< ((v8 + v10) &&& 31)))), some (.int v10), none, none]) ⟨rfl, rfl, rfl, rfl, rfl, rfl, rfl, trivial⟩ (w_X4_narrow_160 ih hg h)
def f_X4_narrow_87 (g : Nat) (v1 : Int32) (v4 : Int64) (v7 : Int32) (t0 : Int32) (s : St) : Option (Int32 × St) :=
  f_X4_narrow_95 g FU v1 v4 v7 t0 (0 : Int32) (0 : Int32) s
set_option maxRecDepth 100000 in
set_option maxHeartbeats 4000000 in
theorem w_X4_narrow_87 {r : Int32 × St} {g : Nat} {v1 : Int32} {v4 : Int64} {v7 : Int32} {t0 : Int32} (hg : clO g = 4) {s : St} (h : f_X4_narrow_87 g  v1 v4 v7 t0 s = some r) : Wp m_X4_narrow 1 (PR (some (.int r.1)) r.2) 87 [some (.ref g), some (.int v1), none, none, some (.long v4), none, none, some (.int v7), none, none, none, none, none] [.int t0] s := by
  unfold f_X4_narrow_87 at h
  refine wp_istore (ls' := [some (.ref g), some (.int v1), none, none, some (.long v4), none, none, some (.int v7), some (.int t0), none, none, none, none]) dX4_narrow_87 (by decide) rfl rfl ?_
  refine wp_iconst (v := 0) dX4_narrow_89 (by decide +kernel) ?_
  refine wp_istore (ls' := [some (.ref g), some (.int v1), none, none, some (.long v4), none, none, some (.int v7), some (.int t0), some (.int (0 : Int32)), none, none, none]) dX4_narrow_90 (by decide) rfl rfl ?_
  refine wp_iconst (v := 0) dX4_narrow_92 (by decide +kernel) ?_
  refine wp_istore (ls' := [some (.ref g), some (.int v1), none, none, some (.long v4), none, none, some (.int v7), some (.int t0), some (.int (0 : Int32)), some (.int (0 : Int32)), none, none]) dX4_narrow_93 (by decide) rfl rfl ?_
  exact wp_sub (ls' := [some (.ref g), some (.int v1), none, none, some (.long v4), none, none, some (.int v7), some (.int t0), some (.int (0 : Int32)), some (.int (0 : Int32)), none, none]) ⟨rfl, rfl, rfl, rfl, rfl, rfl, rfl, trivial⟩ (w_X4_narrow_95 hg _ _ _ _ _ _ _ _ h)
def f_X4_narrow_69 (g : Nat) (v1 : Int32) (v4 : Int64) (v6 : Int32) (t0 : Int32) (s : St) : Option (Int32 × St) :=
  if v6 = 0 then (
    f_X4_narrow_87 g v1 v4 t0 (0 : Int32) s)
  else (
    f_X4_narrow_87 g v1 v4 t0 (s.1 3 4) s)
set_option maxRecDepth 100000 in
set_option maxHeartbeats 4000000 in
theorem w_X4_narrow_69 {r : Int32 × St} {g : Nat} {v1 : Int32} {v4 : Int64} {v6 : Int32} {t0 : Int32} (hg : clO g = 4) {s : St} (h : f_X4_narrow_69 g  v1 v4 v6 t0 s = some r) : Wp m_X4_narrow 1 (PR (some (.int r.1)) r.2) 69 [some (.ref g), some (.int v1), none, none, some (.long v4), none, some (.int v6), none, none, none, none, none, none] [.int t0] s := by
  unfold f_X4_narrow_69 at h
  refine wp_istore (ls' := [some (.ref g), some (.int v1), none, none, some (.long v4), none, some (.int v6), some (.int t0), none, none, none, none, none]) dX4_narrow_69 (by decide) rfl rfl ?_
  refine wp_iload dX4_narrow_71 rfl ?_
  refine wp_if_eq (tgt := 86) dX4_narrow_73 (by decide) (fun c1 => ?_) (fun c1 => ?_)
  · rw [if_pos c1] at h
    refine wp_iconst (v := 0) dX4_narrow_86 (by decide +kernel) ?_
    exact wp_sub (ls' := [some (.ref g), some (.int v1), none, none, some (.long v4), none, none, some (.int t0), none, none, none, none, none]) ⟨rfl, rfl, rfl, rfl, trivial⟩ (w_X4_narrow_87 hg h)
  · rw [if_neg c1] at h
    refine wp_aload_n (i := 0) dX4_narrow_76 rfl rfl ?_
    refine wp_getR (t := 3) dX4_narrow_77 fl_X4_15 hg (kr_4_0 _ hg) ?_
    refine wp_getI dX4_narrow_80 fl_X4_39 rfl rfl ?_
    refine wp_goto (tgt := 87) dX4_narrow_83 (by decide) ?_
    exact wp_sub (ls' := [some (.ref g), some (.int v1), none, none, some (.long v4), none, none, some (.int t0), none, none, none, none, none]) ⟨rfl, rfl, rfl, rfl, trivial⟩ (w_X4_narrow_87 hg h)
def f_X4_narrow_49 (g : Nat) (v1 : Int32) (v4 : Int64) (t0 : Int32) (s : St) : Option (Int32 × St) :=
  if t0 = 0 then (
    f_X4_narrow_69 g v1 v4 t0 (v1 - (s.1 3 4)) s)
  else (
    f_X4_narrow_69 g v1 v4 t0 v1 s)
set_option maxRecDepth 100000 in
set_option maxHeartbeats 4000000 in
theorem w_X4_narrow_49 {r : Int32 × St} {g : Nat} {v1 : Int32} {v4 : Int64} {t0 : Int32} (hg : clO g = 4) {s : St} (h : f_X4_narrow_49 g  v1 v4 t0 s = some r) : Wp m_X4_narrow 1 (PR (some (.int r.1)) r.2) 49 [some (.ref g), some (.int v1), none, none, some (.long v4), none, none, none, none, none, none, none, none] [.int t0] s := by
  unfold f_X4_narrow_49 at h
  refine wp_istore (ls' := [some (.ref g), some (.int v1), none, none, some (.long v4), none, some (.int t0), none, none, none, none, none, none]) dX4_narrow_49 (by decide) rfl rfl ?_
  refine wp_iload dX4_narrow_51 rfl ?_
  refine wp_if_eq (tgt := 60) dX4_narrow_53 (by decide) (fun c1 => ?_) (fun c1 => ?_)
  · rw [if_pos c1] at h
    refine wp_iload_n (i := 1) dX4_narrow_60 rfl rfl ?_
    refine wp_aload_n (i := 0) dX4_narrow_61 rfl rfl ?_
    refine wp_getR (t := 3) dX4_narrow_62 fl_X4_15 hg (kr_4_0 _ hg) ?_
    refine wp_getI dX4_narrow_65 fl_X4_39 rfl rfl ?_
    refine wp_isub dX4_narrow_68 ?_
    exact wp_sub (ls' := [some (.ref g), some (.int v1), none, none, some (.long v4), none, some (.int t0), none, none, none, none, none, none]) ⟨rfl, rfl, rfl, rfl, trivial⟩ (w_X4_narrow_69 hg h)
  · rw [if_neg c1] at h
    refine wp_iload_n (i := 1) dX4_narrow_56 rfl rfl ?_
    refine wp_goto (tgt := 69) dX4_narrow_57 (by decide) ?_
    exact wp_sub (ls' := [some (.ref g), some (.int v1), none, none, some (.long v4), none, some (.int t0), none, none, none, none, none, none]) ⟨rfl, rfl, rfl, rfl, trivial⟩ (w_X4_narrow_69 hg h)
def f_X4_narrow (g : Nat) (a1 : Int32) (a2 : Int64) (s : St) : Option (Int32 × St) :=
  if ¬ clO g = 4 then none else
  Option.bind (aJ s (rf g 1) a1) fun x1 =>
  if (lg_cmp (x1 &&& (a2 ^^^ (-1 : Int64))) (0 : Int64)) = 0 then (
    some ((0 : Int32), s))
  else (
    Option.bind (aJ s (rf g 1) a1) fun x3 =>
    Option.bind (pJ s (rf g 1) a1 (x3 &&& a2)) fun s4 =>
    if (s4.1 3 4) ≤ a1 then (
      f_X4_narrow_49 g a1 (x1 &&& (a2 ^^^ (-1 : Int64))) (0 : Int32) s4)
    else (
      f_X4_narrow_49 g a1 (x1 &&& (a2 ^^^ (-1 : Int64))) (1 : Int32) s4))
theorem ck_X4_narrow {g : Nat} {a1 : Int32} {a2 : Int64} {s : St} {r : Int32 × St} (h : f_X4_narrow g a1 a2 s = some r) : clO g = 4 := by
  unfold f_X4_narrow at h
  exact (ifc h).1
set_option maxRecDepth 100000 in
set_option maxHeartbeats 4000000 in
theorem ok_X4_narrow {g : Nat} {a1 : Int32} {a2 : Int64} {s : St} {r : Int32 × St} (h : f_X4_narrow g a1 a2 s = some r) : Ct 1 m_X4_narrow [.ref g, .int a1, .long a2] s (some (.int r.1)) r.2 := by
  unfold f_X4_narrow at h
  obtain ⟨hg, h⟩ := ifc h
  refine ct_of [some (.ref g), some (.int a1), some (.long a2), none, none, none, none, none, none, none, none, none, none] 9 (by decide) rfl (Nat.le_of_ble_eq_true rfl) ?_
  refine wp_aload_n (i := 0) dX4_narrow_0 rfl rfl ?_
  refine wp_getR (t := rf g 1) dX4_narrow_1 fl_X4_9 hg (kr_4_1 _ hg) ?_
  refine wp_iload_n (i := 1) dX4_narrow_4 rfl rfl ?_
  obtain ⟨x1, ex1, h⟩ := ob h
  refine wp_aJ dX4_narrow_5 ex1 ?_
  refine wp_lload_n (i := 2) dX4_narrow_6 rfl rfl ?_
  refine wp_ldc2 dX4_narrow_7 kc_X4_63 ?_
  refine wp_lxor dX4_narrow_10 ?_
  refine wp_land dX4_narrow_11 ?_
  refine wp_lstore (ls' := [some (.ref g), some (.int a1), some (.long a2), none, some (.long (x1 &&& (a2 ^^^ (-1 : Int64)))), none, none, none, none, none, none, none, none]) dX4_narrow_12 (by decide) rfl rfl ?_
  refine wp_lload dX4_narrow_14 rfl ?_
  refine wp_lconst (v := 0) dX4_narrow_16 (by decide +kernel) ?_
  refine wp_lcmp dX4_narrow_17 ?_
  refine wp_if_ne (tgt := 23) dX4_narrow_18 (by decide) (fun c2 => ?_) (fun c2 => ?_)
  · rw [if_neg c2] at h
    refine wp_aload_n (i := 0) dX4_narrow_23 rfl rfl ?_
    refine wp_getR (t := rf g 1) dX4_narrow_24 fl_X4_9 hg (kr_4_1 _ hg) ?_
    refine wp_iload_n (i := 1) dX4_narrow_27 rfl rfl ?_
    refine wp_dup2_ir dX4_narrow_28 ?_
    obtain ⟨x3, ex3, h⟩ := ob h
    refine wp_aJ dX4_narrow_29 ex3 ?_
    refine wp_lload_n (i := 2) dX4_narrow_30 rfl rfl ?_
    refine wp_land dX4_narrow_31 ?_
    obtain ⟨s4, es4, h⟩ := ob h
    refine wp_pJ dX4_narrow_32 es4 ?_
    refine wp_iload_n (i := 1) dX4_narrow_33 rfl rfl ?_
    refine wp_aload_n (i := 0) dX4_narrow_34 rfl rfl ?_
    refine wp_getR (t := 3) dX4_narrow_35 fl_X4_15 hg (kr_4_0 _ hg) ?_
    refine wp_getI dX4_narrow_38 fl_X4_39 rfl rfl ?_
    refine wp_icmp_ge (tgt := 48) dX4_narrow_41 (by decide) (fun c5 => ?_) (fun c5 => ?_)
    · rw [if_pos c5] at h
      refine wp_iconst (v := 0) dX4_narrow_48 (by decide +kernel) ?_
      exact wp_sub (ls' := [some (.ref g), some (.int a1), none, none, some (.long (x1 &&& (a2 ^^^ (-1 : Int64)))), none, none, none, none, none, none, none, none]) ⟨rfl, rfl, rfl, trivial⟩ (w_X4_narrow_49 hg h)
    · rw [if_neg c5] at h
      refine wp_iconst (v := 1) dX4_narrow_44 (by decide +kernel) ?_
      refine wp_goto (tgt := 49) dX4_narrow_45 (by decide) ?_
      exact wp_sub (ls' := [some (.ref g), some (.int a1), none, none, some (.long (x1 &&& (a2 ^^^ (-1 : Int64)))), none, none, none, none, none, none, none, none]) ⟨rfl, rfl, rfl, trivial⟩ (w_X4_narrow_49 hg h)
  · rw [if_pos c2] at h
    refine wp_iconst (v := 0) dX4_narrow_21 (by decide +kernel) ?_
    obtain rfl := Option.some.inj h
    exact wp_iret dX4_narrow_22 rfl rfl
def f_X4_countSingles_47 (g : Nat) (K4 : Int32 → Int32 → St → Option (Int32 × St)) (K17 : Int32 → Int32 → Int32 → St → Option (Int32 × St)) (v2 : Int32) (v3 : Int32) (t0 : Int32) (t1 : Int32) (s : St) : Option (Int32 × St) :=
  K17 (t1 + t0) v2 (v3 + 1) s
set_option maxRecDepth 100000 in
set_option maxHeartbeats 4000000 in
theorem w_X4_countSingles_47 {r : Int32 × St} {g : Nat} {K4 : Int32 → Int32 → St → Option (Int32 × St)} (hK4 : ∀ (v1 : Int32) (v2 : Int32) (s : St), K4 v1 v2 s = some r → Wp m_X4_countSingles 2 (PR (some (.int r.1)) r.2) 4 [some (.ref g), some (.int v1), some (.int v2), none] [] s) {K17 : Int32 → Int32 → Int32 → St → Option (Int32 × St)} (hK17 : ∀ (v1 : Int32) (v2 : Int32) (v3 : Int32) (s : St), K17 v1 v2 v3 s = some r → Wp m_X4_countSingles 2 (PR (some (.int r.1)) r.2) 17 [some (.ref g), some (.int v1), some (.int v2), some (.int v3)] [] s) {v2 : Int32} {v3 : Int32} {t0 : Int32} {t1 : Int32} (hg : clO g = 4) {s : St} (h : f_X4_countSingles_47 g K4 K17 v2 v3 t0 t1 s = some r) : Wp m_X4_countSingles 2 (PR (some (.int r.1)) r.2) 47 [some (.ref g), none, some (.int v2), some (.int v3)] [.int t0, .int t1] s := by
  unfold f_X4_countSingles_47 at h
  refine wp_iadd dX4_countSingles_47 ?_
  refine wp_istore_n (ls' := [some (.ref g), some (.int (t1 + t0)), some (.int v2), some (.int v3)]) dX4_countSingles_48 rfl (by decide) rfl rfl ?_
  refine wp_inc (c := 1) (ls' := [some (.ref g), some (.int (t1 + t0)), some (.int v2), some (.int (v3 + 1))]) dX4_countSingles_49 rfl (by decide +kernel) (by decide) rfl rfl ?_
  refine wp_goto (tgt := 17) dX4_countSingles_52 (by decide) ?_
  exact wp_sub (ls' := [some (.ref g), some (.int (t1 + t0)), some (.int v2), some (.int (v3 + 1))]) ⟨rfl, rfl, rfl, rfl, trivial⟩ (hK17 _ _ _ _ h)
def f_X4_countSingles_17 (g : Nat) (K4 : Int32 → Int32 → St → Option (Int32 × St)) : Nat → Int32 → Int32 → Int32 → St → Option (Int32 × St)
  | 0, _, _, _, _ => none
  | n + 1, v1, v2, v3, s =>
    if (s.1 3 3) ≤ v3 then (
      K4 v1 (v2 + 1) s)
    else (
      Option.bind (f_X4_valuesAt g v3 v2 s) fun r2 =>
      Option.bind (f_J6_bitCount_0f7a4 r2.1 r2.2) fun r3 =>
      if r3.1 = (1 : Int32) then (
        f_X4_countSingles_47 g K4 (f_X4_countSingles_17 g K4 n) v2 v3 (1 : Int32) v1 r3.2)
      else (
        f_X4_countSingles_47 g K4 (f_X4_countSingles_17 g K4 n) v2 v3 (0 : Int32) v1 r3.2))
set_option maxRecDepth 100000 in
set_option maxHeartbeats 4000000 in
theorem w_X4_countSingles_17 {r : Int32 × St} {g : Nat} {K4 : Int32 → Int32 → St → Option (Int32 × St)} (hK4 : ∀ (v1 : Int32) (v2 : Int32) (s : St), K4 v1 v2 s = some r → Wp m_X4_countSingles 2 (PR (some (.int r.1)) r.2) 4 [some (.ref g), some (.int v1), some (.int v2), none] [] s)  (hg : clO g = 4) : ∀ (n : Nat) (v1 : Int32) (v2 : Int32) (v3 : Int32) (s : St), f_X4_countSingles_17 g K4 n v1 v2 v3 s = some r → Wp m_X4_countSingles 2 (PR (some (.int r.1)) r.2) 17 [some (.ref g), some (.int v1), some (.int v2), some (.int v3)] [] s := by
  intro n
  induction n with
  | zero => intro v1 v2 v3 s h; cases h
  | succ n ih =>
    intro v1 v2 v3 s h
    unfold f_X4_countSingles_17 at h
    refine wp_iload_n (i := 3) dX4_countSingles_17 rfl rfl ?_
    refine wp_aload_n (i := 0) dX4_countSingles_18 rfl rfl ?_
    refine wp_getR (t := 3) dX4_countSingles_19 fl_X4_15 hg (kr_4_0 _ hg) ?_
    refine wp_getI dX4_countSingles_22 fl_X4_42 rfl rfl ?_
    refine wp_icmp_ge (tgt := 55) dX4_countSingles_25 (by decide) (fun c1 => ?_) (fun c1 => ?_)
    · rw [if_pos c1] at h
      refine wp_inc (c := 1) (ls' := [some (.ref g), some (.int v1), some (.int (v2 + 1)), some (.int v3)]) dX4_countSingles_55 rfl (by decide +kernel) (by decide) rfl rfl ?_
      refine wp_goto (tgt := 4) dX4_countSingles_58 (by decide) ?_
      exact wp_sub (ls' := [some (.ref g), some (.int v1), some (.int (v2 + 1)), none]) ⟨rfl, rfl, rfl, trivial⟩ (hK4 _ _ _ h)
    · rw [if_neg c1] at h
      refine wp_iload_n (i := 1) dX4_countSingles_28 rfl rfl ?_
      refine wp_aload_n (i := 0) dX4_countSingles_29 rfl rfl ?_
      refine wp_iload_n (i := 3) dX4_countSingles_30 rfl rfl ?_
      refine wp_iload_n (i := 2) dX4_countSingles_31 rfl rfl ?_
      obtain ⟨r2, er2, h⟩ := ob h
      refine wp_cVi (N := m_X4_valuesAt) (As := [.int v3, .int v2]) (rest := [.int v1]) dX4_countSingles_32 ml_X4_69 mo_X4_valuesAt vo_X4_valuesAt hg rfl (ok_X4_valuesAt er2) (by decide) (Nat.le_of_ble_eq_true rfl) ?_
      obtain ⟨r3, er3, h⟩ := ob h
      refine wp_cSi (N := m_J6_bitCount_0f7a4) (As := [.int r2.1]) (rest := [.int v1]) dX4_countSingles_35 ml_X4_72 mo_J6_bitCount_0f7a4 vo_J6_bitCount_0f7a4 rfl (ok_J6_bitCount_0f7a4 er3) (by decide) (Nat.le_of_ble_eq_true rfl) ?_
      refine wp_iconst (v := 1) dX4_countSingles_38 (by decide +kernel) ?_
      refine wp_icmp_ne (tgt := 46) dX4_countSingles_39 (by decide) (fun c4 => ?_) (fun c4 => ?_)
      · rw [if_neg c4] at h
        refine wp_iconst (v := 0) dX4_countSingles_46 (by decide +kernel) ?_
        exact wp_sub (ls' := [some (.ref g), none, some (.int v2), some (.int v3)]) ⟨rfl, rfl, rfl, trivial⟩ (w_X4_countSingles_47 hK4 ih hg h)
      · rw [if_pos c4] at h
        refine wp_iconst (v := 1) dX4_countSingles_42 (by decide +kernel) ?_
        refine wp_goto (tgt := 47) dX4_countSingles_43 (by decide) ?_
        exact wp_sub (ls' := [some (.ref g), none, some (.int v2), some (.int v3)]) ⟨rfl, rfl, rfl, trivial⟩ (w_X4_countSingles_47 hK4 ih hg h)
def f_X4_countSingles_4 (g : Nat) : Nat → Int32 → Int32 → St → Option (Int32 × St)
  | 0, _, _, _ => none
  | n + 1, v1, v2, s =>
    if (s.1 3 4) ≤ v2 then (
      some (v1, s))
    else (
      f_X4_countSingles_17 g (f_X4_countSingles_4 g n) FU v1 v2 (0 : Int32) s)
set_option maxRecDepth 100000 in
set_option maxHeartbeats 4000000 in
theorem w_X4_countSingles_4 {r : Int32 × St} {g : Nat}  (hg : clO g = 4) : ∀ (n : Nat) (v1 : Int32) (v2 : Int32) (s : St), f_X4_countSingles_4 g  n v1 v2 s = some r → Wp m_X4_countSingles 2 (PR (some (.int r.1)) r.2) 4 [some (.ref g), some (.int v1), some (.int v2), none] [] s := by
  intro n
  induction n with
  | zero => intro v1 v2 s h; cases h
  | succ n ih =>
    intro v1 v2 s h
    unfold f_X4_countSingles_4 at h
    refine wp_iload_n (i := 2) dX4_countSingles_4 rfl rfl ?_
    refine wp_aload_n (i := 0) dX4_countSingles_5 rfl rfl ?_
    refine wp_getR (t := 3) dX4_countSingles_6 fl_X4_15 hg (kr_4_0 _ hg) ?_
    refine wp_getI dX4_countSingles_9 fl_X4_39 rfl rfl ?_
    refine wp_icmp_ge (tgt := 61) dX4_countSingles_12 (by decide) (fun c1 => ?_) (fun c1 => ?_)
    · rw [if_pos c1] at h
      refine wp_iload_n (i := 1) dX4_countSingles_61 rfl rfl ?_
      obtain rfl := Option.some.inj h
      exact wp_iret dX4_countSingles_62 rfl rfl
    · rw [if_neg c1] at h
      refine wp_iconst (v := 0) dX4_countSingles_15 (by decide +kernel) ?_
      refine wp_istore_n (ls' := [some (.ref g), some (.int v1), some (.int v2), some (.int (0 : Int32))]) dX4_countSingles_16 rfl (by decide) rfl rfl ?_
      exact wp_sub (ls' := [some (.ref g), some (.int v1), some (.int v2), some (.int (0 : Int32))]) ⟨rfl, rfl, rfl, rfl, trivial⟩ (w_X4_countSingles_17 ih hg _ _ _ _ _ h)
def f_X4_countSingles (g : Nat) (s : St) : Option (Int32 × St) :=
  if ¬ clO g = 4 then none else
  f_X4_countSingles_4 g FU (0 : Int32) (0 : Int32) s
theorem ck_X4_countSingles {g : Nat} {s : St} {r : Int32 × St} (h : f_X4_countSingles g s = some r) : clO g = 4 := by
  unfold f_X4_countSingles at h
  exact (ifc h).1
set_option maxRecDepth 100000 in
set_option maxHeartbeats 4000000 in
theorem ok_X4_countSingles {g : Nat} {s : St} {r : Int32 × St} (h : f_X4_countSingles g s = some r) : Ct 2 m_X4_countSingles [.ref g] s (some (.int r.1)) r.2 := by
  unfold f_X4_countSingles at h
  obtain ⟨hg, h⟩ := ifc h
  refine ct_of [some (.ref g), none, none, none] 3 (by decide) rfl (Nat.le_of_ble_eq_true rfl) ?_
  refine wp_iconst (v := 0) dX4_countSingles_0 (by decide +kernel) ?_
  refine wp_istore_n (ls' := [some (.ref g), some (.int (0 : Int32)), none, none]) dX4_countSingles_1 rfl (by decide) rfl rfl ?_
  refine wp_iconst (v := 0) dX4_countSingles_2 (by decide +kernel) ?_
  refine wp_istore_n (ls' := [some (.ref g), some (.int (0 : Int32)), some (.int (0 : Int32)), none]) dX4_countSingles_3 rfl (by decide) rfl rfl ?_
  exact wp_sub (ls' := [some (.ref g), some (.int (0 : Int32)), some (.int (0 : Int32)), none]) ⟨rfl, rfl, rfl, trivial⟩ (w_X4_countSingles_4 hg _ _ _ _ h)
def f_X4_firstOfFewest_67 (g : Nat) (K6 : Int32 → Int32 → Int32 → St → Option (Int32 × St)) (K20 : Int32 → Int32 → Int32 → Int32 → St → Option (Int32 × St)) (v1 : Int32) (v2 : Int32) (v3 : Int32) (v4 : Int32) (s : St) : Option (Int32 × St) :=
  K20 v1 v2 v3 (v4 + 1) s
set_option maxRecDepth 100000 in
set_option maxHeartbeats 4000000 in
theorem w_X4_firstOfFewest_67 {r : Int32 × St} {g : Nat} {K6 : Int32 → Int32 → Int32 → St → Option (Int32 × St)} (hK6 : ∀ (v1 : Int32) (v2 : Int32) (v3 : Int32) (s : St), K6 v1 v2 v3 s = some r → Wp m_X4_firstOfFewest 2 (PR (some (.int r.1)) r.2) 6 [some (.ref g), some (.int v1), some (.int v2), some (.int v3), none, none] [] s) {K20 : Int32 → Int32 → Int32 → Int32 → St → Option (Int32 × St)} (hK20 : ∀ (v1 : Int32) (v2 : Int32) (v3 : Int32) (v4 : Int32) (s : St), K20 v1 v2 v3 v4 s = some r → Wp m_X4_firstOfFewest 2 (PR (some (.int r.1)) r.2) 20 [some (.ref g), some (.int v1), some (.int v2), some (.int v3), some (.int v4), none] [] s) {v1 : Int32} {v2 : Int32} {v3 : Int32} {v4 : Int32} (hg : clO g = 4) {s : St} (h : f_X4_firstOfFewest_67 g K6 K20 v1 v2 v3 v4 s = some r) : Wp m_X4_firstOfFewest 2 (PR (some (.int r.1)) r.2) 67 [some (.ref g), some (.int v1), some (.int v2), some (.int v3), some (.int v4), none] [] s := by
  unfold f_X4_firstOfFewest_67 at h
  refine wp_inc (c := 1) (ls' := [some (.ref g), some (.int v1), some (.int v2), some (.int v3), some (.int (v4 + 1)), none]) dX4_firstOfFewest_67 rfl (by decide +kernel) (by decide) rfl rfl ?_
  refine wp_goto (tgt := 20) dX4_firstOfFewest_70 (by decide) ?_
  exact wp_sub (ls' := [some (.ref g), some (.int v1), some (.int v2), some (.int v3), some (.int (v4 + 1)), none]) ⟨rfl, rfl, rfl, rfl, rfl, trivial⟩ (hK20 _ _ _ _ _ h)
def f_X4_firstOfFewest_20 (g : Nat) (K6 : Int32 → Int32 → Int32 → St → Option (Int32 × St)) : Nat → Int32 → Int32 → Int32 → Int32 → St → Option (Int32 × St)
  | 0, _, _, _, _, _ => none
  | n + 1, v1, v2, v3, v4, s =>
    if (s.1 3 3) ≤ v4 then (
      K6 v1 v2 (v3 + 1) s)
    else (
      Option.bind (f_X4_valuesAt g v4 v3 s) fun r2 =>
      Option.bind (f_J6_bitCount_0f7a4 r2.1 r2.2) fun r3 =>
      if r3.1 < (2 : Int32) then (
        f_X4_firstOfFewest_67 g K6 (f_X4_firstOfFewest_20 g K6 n) v1 v2 v3 v4 r3.2)
      else (
        if v2 ≤ r3.1 then (
          f_X4_firstOfFewest_67 g K6 (f_X4_firstOfFewest_20 g K6 n) v1 v2 v3 v4 r3.2)
        else (
          f_X4_firstOfFewest_67 g K6 (f_X4_firstOfFewest_20 g K6 n) (((12 : Int32) * v3) + v4) r3.1 v3 v4 r3.2)))
set_option maxRecDepth 100000 in
set_option maxHeartbeats 4000000 in
theorem w_X4_firstOfFewest_20 {r : Int32 × St} {g : Nat} {K6 : Int32 → Int32 → Int32 → St → Option (Int32 × St)} (hK6 : ∀ (v1 : Int32) (v2 : Int32) (v3 : Int32) (s : St), K6 v1 v2 v3 s = some r → Wp m_X4_firstOfFewest 2 (PR (some (.int r.1)) r.2) 6 [some (.ref g), some (.int v1), some (.int v2), some (.int v3), none, none] [] s)  (hg : clO g = 4) : ∀ (n : Nat) (v1 : Int32) (v2 : Int32) (v3 : Int32) (v4 : Int32) (s : St), f_X4_firstOfFewest_20 g K6 n v1 v2 v3 v4 s = some r → Wp m_X4_firstOfFewest 2 (PR (some (.int r.1)) r.2) 20 [some (.ref g), some (.int v1), some (.int v2), some (.int v3), some (.int v4), none] [] s := by
  intro n
  induction n with
  | zero => intro v1 v2 v3 v4 s h; cases h
  | succ n ih =>
    intro v1 v2 v3 v4 s h
    unfold f_X4_firstOfFewest_20 at h
    refine wp_iload dX4_firstOfFewest_20 rfl ?_
    refine wp_aload_n (i := 0) dX4_firstOfFewest_22 rfl rfl ?_
    refine wp_getR (t := 3) dX4_firstOfFewest_23 fl_X4_15 hg (kr_4_0 _ hg) ?_
    refine wp_getI dX4_firstOfFewest_26 fl_X4_42 rfl rfl ?_
    refine wp_icmp_ge (tgt := 73) dX4_firstOfFewest_29 (by decide) (fun c1 => ?_) (fun c1 => ?_)
    · rw [if_pos c1] at h
      refine wp_inc (c := 1) (ls' := [some (.ref g), some (.int v1), some (.int v2), some (.int (v3 + 1)), some (.int v4), none]) dX4_firstOfFewest_73 rfl (by decide +kernel) (by decide) rfl rfl ?_
      refine wp_goto (tgt := 6) dX4_firstOfFewest_76 (by decide) ?_
      exact wp_sub (ls' := [some (.ref g), some (.int v1), some (.int v2), some (.int (v3 + 1)), none, none]) ⟨rfl, rfl, rfl, rfl, trivial⟩ (hK6 _ _ _ _ h)
    · rw [if_neg c1] at h
      refine wp_aload_n (i := 0) dX4_firstOfFewest_32 rfl rfl ?_
      refine wp_iload dX4_firstOfFewest_33 rfl ?_
      refine wp_iload_n (i := 3) dX4_firstOfFewest_35 rfl rfl ?_
      obtain ⟨r2, er2, h⟩ := ob h
      refine wp_cVi (N := m_X4_valuesAt) (As := [.int v4, .int v3]) (rest := []) dX4_firstOfFewest_36 ml_X4_69 mo_X4_valuesAt vo_X4_valuesAt hg rfl (ok_X4_valuesAt er2) (by decide) (Nat.le_of_ble_eq_true rfl) ?_
      obtain ⟨r3, er3, h⟩ := ob h
      refine wp_cSi (N := m_J6_bitCount_0f7a4) (As := [.int r2.1]) (rest := []) dX4_firstOfFewest_39 ml_X4_72 mo_J6_bitCount_0f7a4 vo_J6_bitCount_0f7a4 rfl (ok_J6_bitCount_0f7a4 er3) (by decide) (Nat.le_of_ble_eq_true rfl) ?_
      refine wp_istore (ls' := [some (.ref g), some (.int v1), some (.int v2), some (.int v3), some (.int v4), some (.int r3.1)]) dX4_firstOfFewest_42 (by decide) rfl rfl ?_
      refine wp_iload dX4_firstOfFewest_44 rfl ?_
      refine wp_iconst (v := 2) dX4_firstOfFewest_46 (by decide +kernel) ?_
      refine wp_icmp_lt (tgt := 67) dX4_firstOfFewest_47 (by decide) (fun c4 => ?_) (fun c4 => ?_)
      · rw [if_pos c4] at h
        exact wp_sub (ls' := [some (.ref g), some (.int v1), some (.int v2), some (.int v3), some (.int v4), none]) ⟨rfl, rfl, rfl, rfl, rfl, trivial⟩ (w_X4_firstOfFewest_67 hK6 ih hg h)
      · rw [if_neg c4] at h
        refine wp_iload dX4_firstOfFewest_50 rfl ?_
        refine wp_iload_n (i := 2) dX4_firstOfFewest_52 rfl rfl ?_
        refine wp_icmp_ge (tgt := 67) dX4_firstOfFewest_53 (by decide) (fun c5 => ?_) (fun c5 => ?_)
        · rw [if_pos c5] at h
          exact wp_sub (ls' := [some (.ref g), some (.int v1), some (.int v2), some (.int v3), some (.int v4), none]) ⟨rfl, rfl, rfl, rfl, rfl, trivial⟩ (w_X4_firstOfFewest_67 hK6 ih hg h)
        · rw [if_neg c5] at h
          refine wp_bipush (v := 12) dX4_firstOfFewest_56 (by decide +kernel) ?_
          refine wp_iload_n (i := 3) dX4_firstOfFewest_58 rfl rfl ?_
          refine wp_imul dX4_firstOfFewest_59 ?_
          refine wp_iload dX4_firstOfFewest_60 rfl ?_
          refine wp_iadd dX4_firstOfFewest_62 ?_
          refine wp_istore_n (ls' := [some (.ref g), some (.int (((12 : Int32) * v3) + v4)), some (.int v2), some (.int v3), some (.int v4), some (.int r3.1)]) dX4_firstOfFewest_63 rfl (by decide) rfl rfl ?_
          refine wp_iload dX4_firstOfFewest_64 rfl ?_
          refine wp_istore_n (ls' := [some (.ref g), some (.int (((12 : Int32) * v3) + v4)), some (.int r3.1), some (.int v3), some (.int v4), some (.int r3.1)]) dX4_firstOfFewest_66 rfl (by decide) rfl rfl ?_
          exact wp_sub (ls' := [some (.ref g), some (.int (((12 : Int32) * v3) + v4)), some (.int r3.1), some (.int v3), some (.int v4), none]) ⟨rfl, rfl, rfl, rfl, rfl, trivial⟩ (w_X4_firstOfFewest_67 hK6 ih hg h)
def f_X4_firstOfFewest_6 (g : Nat) : Nat → Int32 → Int32 → Int32 → St → Option (Int32 × St)
  | 0, _, _, _, _ => none
  | n + 1, v1, v2, v3, s =>
    if (s.1 3 4) ≤ v3 then (
      some (v1, s))
    else (
      f_X4_firstOfFewest_20 g (f_X4_firstOfFewest_6 g n) FU v1 v2 v3 (0 : Int32) s)
set_option maxRecDepth 100000 in
set_option maxHeartbeats 4000000 in
theorem w_X4_firstOfFewest_6 {r : Int32 × St} {g : Nat}  (hg : clO g = 4) : ∀ (n : Nat) (v1 : Int32) (v2 : Int32) (v3 : Int32) (s : St), f_X4_firstOfFewest_6 g  n v1 v2 v3 s = some r → Wp m_X4_firstOfFewest 2 (PR (some (.int r.1)) r.2) 6 [some (.ref g), some (.int v1), some (.int v2), some (.int v3), none, none] [] s := by
  intro n
  induction n with
  | zero => intro v1 v2 v3 s h; cases h
  | succ n ih =>
    intro v1 v2 v3 s h
    unfold f_X4_firstOfFewest_6 at h
    refine wp_iload_n (i := 3) dX4_firstOfFewest_6 rfl rfl ?_
    refine wp_aload_n (i := 0) dX4_firstOfFewest_7 rfl rfl ?_
    refine wp_getR (t := 3) dX4_firstOfFewest_8 fl_X4_15 hg (kr_4_0 _ hg) ?_
    refine wp_getI dX4_firstOfFewest_11 fl_X4_39 rfl rfl ?_
    refine wp_icmp_ge (tgt := 79) dX4_firstOfFewest_14 (by decide) (fun c1 => ?_) (fun c1 => ?_)
    · rw [if_pos c1] at h
      refine wp_iload_n (i := 1) dX4_firstOfFewest_79 rfl rfl ?_
      obtain rfl := Option.some.inj h
      exact wp_iret dX4_firstOfFewest_80 rfl rfl
    · rw [if_neg c1] at h
      refine wp_iconst (v := 0) dX4_firstOfFewest_17 (by decide +kernel) ?_
      refine wp_istore (ls' := [some (.ref g), some (.int v1), some (.int v2), some (.int v3), some (.int (0 : Int32)), none]) dX4_firstOfFewest_18 (by decide) rfl rfl ?_
      exact wp_sub (ls' := [some (.ref g), some (.int v1), some (.int v2), some (.int v3), some (.int (0 : Int32)), none]) ⟨rfl, rfl, rfl, rfl, rfl, trivial⟩ (w_X4_firstOfFewest_20 ih hg _ _ _ _ _ _ h)
def f_X4_firstOfFewest (g : Nat) (s : St) : Option (Int32 × St) :=
  if ¬ clO g = 4 then none else
  f_X4_firstOfFewest_6 g FU (-1 : Int32) (5 : Int32) (0 : Int32) s
theorem ck_X4_firstOfFewest {g : Nat} {s : St} {r : Int32 × St} (h : f_X4_firstOfFewest g s = some r) : clO g = 4 := by
  unfold f_X4_firstOfFewest at h
  exact (ifc h).1
set_option maxRecDepth 100000 in
set_option maxHeartbeats 4000000 in
theorem ok_X4_firstOfFewest {g : Nat} {s : St} {r : Int32 × St} (h : f_X4_firstOfFewest g s = some r) : Ct 2 m_X4_firstOfFewest [.ref g] s (some (.int r.1)) r.2 := by
  unfold f_X4_firstOfFewest at h
  obtain ⟨hg, h⟩ := ifc h
  refine ct_of [some (.ref g), none, none, none, none, none] 5 (by decide) rfl (Nat.le_of_ble_eq_true rfl) ?_
  refine wp_iconst (v := -1) dX4_firstOfFewest_0 (by decide +kernel) ?_
  refine wp_istore_n (ls' := [some (.ref g), some (.int (-1 : Int32)), none, none, none, none]) dX4_firstOfFewest_1 rfl (by decide) rfl rfl ?_
  refine wp_iconst (v := 5) dX4_firstOfFewest_2 (by decide +kernel) ?_
  refine wp_istore_n (ls' := [some (.ref g), some (.int (-1 : Int32)), some (.int (5 : Int32)), none, none, none]) dX4_firstOfFewest_3 rfl (by decide) rfl rfl ?_
  refine wp_iconst (v := 0) dX4_firstOfFewest_4 (by decide +kernel) ?_
  refine wp_istore_n (ls' := [some (.ref g), some (.int (-1 : Int32)), some (.int (5 : Int32)), some (.int (0 : Int32)), none, none]) dX4_firstOfFewest_5 rfl (by decide) rfl rfl ?_
  exact wp_sub (ls' := [some (.ref g), some (.int (-1 : Int32)), some (.int (5 : Int32)), some (.int (0 : Int32)), none, none]) ⟨rfl, rfl, rfl, rfl, trivial⟩ (w_X4_firstOfFewest_6 hg _ _ _ _ _ h)
