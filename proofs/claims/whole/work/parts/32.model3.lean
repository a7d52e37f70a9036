/-! decompiled by wip/gen/gen.py -/
theorem dX9_rule_0 : decode cX9_rule 0 = .ok (.aload_n 0, 1) := by decide +kernel
theorem dX9_rule_1 : decode cX9_rule 1 = .ok (.iconst 0, 1) := by decide +kernel
theorem dX9_rule_2 : decode cX9_rule 2 = .ok (.putfield 80, 3) := by decide +kernel
theorem dX9_rule_5 : decode cX9_rule 5 = .ok (.aload_n 0, 1) := by decide +kernel
theorem dX9_rule_6 : decode cX9_rule 6 = .ok (.iload_n 1, 1) := by decide +kernel
theorem dX9_rule_7 : decode cX9_rule 7 = .ok (.invokevirtual 189, 3) := by decide +kernel
theorem dX9_rule_10 : decode cX9_rule 10 = .ok (.ifCond .eq 23, 3) := by decide +kernel
theorem dX9_rule_13 : decode cX9_rule 13 = .ok (.aload_n 0, 1) := by decide +kernel
theorem dX9_rule_14 : decode cX9_rule 14 = .ok (.getfield 101, 3) := by decide +kernel
theorem dX9_rule_17 : decode cX9_rule 17 = .ok (.ifCond .eq 16, 3) := by decide +kernel
theorem dX9_rule_20 : decode cX9_rule 20 = .ok (.aload_n 0, 1) := by decide +kernel
theorem dX9_rule_21 : decode cX9_rule 21 = .ok (.aload_n 0, 1) := by decide +kernel
theorem dX9_rule_22 : decode cX9_rule 22 = .ok (.getfield 25, 3) := by decide +kernel
theorem dX9_rule_25 : decode cX9_rule 25 = .ok (.iconst 0, 1) := by decide +kernel
theorem dX9_rule_26 : decode cX9_rule 26 = .ok (.iload_n 1, 1) := by decide +kernel
theorem dX9_rule_27 : decode cX9_rule 27 = .ok (.invokevirtual 229, 3) := by decide +kernel
theorem dX9_rule_30 : decode cX9_rule 30 = .ok (.goto 4, 3) := by decide +kernel
theorem dX9_rule_33 : decode cX9_rule 33 = .ok (.iconst (-1), 1) := by decide +kernel
theorem dX9_rule_34 : decode cX9_rule 34 = .ok (.ireturn, 1) := by decide +kernel
theorem dX9_ways_0 : decode cX9_ways 0 = .ok (.aload_n 0, 1) := by decide +kernel
theorem dX9_ways_1 : decode cX9_ways 1 = .ok (.iconst 0, 1) := by decide +kernel
theorem dX9_ways_2 : decode cX9_ways 2 = .ok (.putfield 80, 3) := by decide +kernel
theorem dX9_ways_5 : decode cX9_ways 5 = .ok (.aload_n 0, 1) := by decide +kernel
theorem dX9_ways_6 : decode cX9_ways 6 = .ok (.iload_n 1, 1) := by decide +kernel
theorem dX9_ways_7 : decode cX9_ways 7 = .ok (.invokevirtual 189, 3) := by decide +kernel
theorem dX9_ways_10 : decode cX9_ways 10 = .ok (.ifCond .eq 10, 3) := by decide +kernel
theorem dX9_ways_13 : decode cX9_ways 13 = .ok (.aload_n 0, 1) := by decide +kernel
theorem dX9_ways_14 : decode cX9_ways 14 = .ok (.getfield 101, 3) := by decide +kernel
theorem dX9_ways_17 : decode cX9_ways 17 = .ok (.ifCond .ne 7, 3) := by decide +kernel
theorem dX9_ways_20 : decode cX9_ways 20 = .ok (.ldc2_w 243, 3) := by decide +kernel
theorem dX9_ways_23 : decode cX9_ways 23 = .ok (.lreturn, 1) := by decide +kernel
theorem dX9_ways_24 : decode cX9_ways 24 = .ok (.aload_n 0, 1) := by decide +kernel
theorem dX9_ways_25 : decode cX9_ways 25 = .ok (.aload_n 0, 1) := by decide +kernel
theorem dX9_ways_26 : decode cX9_ways 26 = .ok (.getfield 25, 3) := by decide +kernel
theorem dX9_ways_29 : decode cX9_ways 29 = .ok (.iconst 0, 1) := by decide +kernel
theorem dX9_ways_30 : decode cX9_ways 30 = .ok (.iload_n 1, 1) := by decide +kernel
theorem dX9_ways_31 : decode cX9_ways 31 = .ok (.invokevirtual 222, 3) := by decide +kernel
theorem dX9_ways_34 : decode cX9_ways 34 = .ok (.aload_n 0, 1) := by decide +kernel
theorem dX9_ways_35 : decode cX9_ways 35 = .ok (.getfield 215, 3) := by decide +kernel
theorem dX9_ways_38 : decode cX9_ways 38 = .ok (.lreturn, 1) := by decide +kernel
theorem dX9_needSets_0 : decode cX9_needSets 0 = .ok (.aload_n 0, 1) := by decide +kernel
theorem dX9_needSets_1 : decode cX9_needSets 1 = .ok (.getfield 101, 3) := by decide +kernel
theorem dX9_needSets_4 : decode cX9_needSets 4 = .ok (.ifCond .ne 12, 3) := by decide +kernel
theorem dX9_needSets_7 : decode cX9_needSets 7 = .ok (.aload_n 0, 1) := by decide +kernel
theorem dX9_needSets_8 : decode cX9_needSets 8 = .ok (.aload_n 0, 1) := by decide +kernel
theorem dX9_needSets_9 : decode cX9_needSets 9 = .ok (.getfield 25, 3) := by decide +kernel
theorem dX9_needSets_12 : decode cX9_needSets 12 = .ok (.iconst 0, 1) := by decide +kernel
theorem dX9_needSets_13 : decode cX9_needSets 13 = .ok (.invokevirtual 193, 3) := by decide +kernel
theorem dX9_needSets_16 : decode cX9_needSets 16 = .ok (.aload_n 0, 1) := by decide +kernel
theorem dX9_needSets_17 : decode cX9_needSets 17 = .ok (.iconst 1, 1) := by decide +kernel
theorem dX9_needSets_18 : decode cX9_needSets 18 = .ok (.putfield 101, 3) := by decide +kernel
theorem dX9_needSets_21 : decode cX9_needSets 21 = .ok (.return_, 1) := by decide +kernel
theorem dX9_rest_0 : decode cX9_rest 0 = .ok (.aload_n 0, 1) := by decide +kernel
theorem dX9_rest_1 : decode cX9_rest 1 = .ok (.iconst 0, 1) := by decide +kernel
theorem dX9_rest_2 : decode cX9_rest 2 = .ok (.putfield 80, 3) := by decide +kernel
theorem dX9_rest_5 : decode cX9_rest 5 = .ok (.aload_n 0, 1) := by decide +kernel
theorem dX9_rest_6 : decode cX9_rest 6 = .ok (.invokevirtual 89, 3) := by decide +kernel
theorem dX9_rest_9 : decode cX9_rest 9 = .ok (.ifCond .ne 5, 3) := by decide +kernel
theorem dX9_rest_12 : decode cX9_rest 12 = .ok (.iconst (-1), 1) := by decide +kernel
theorem dX9_rest_13 : decode cX9_rest 13 = .ok (.ireturn, 1) := by decide +kernel
theorem dX9_rest_14 : decode cX9_rest 14 = .ok (.aload_n 0, 1) := by decide +kernel
theorem dX9_rest_15 : decode cX9_rest 15 = .ok (.invokevirtual 245, 3) := by decide +kernel
theorem dX9_rest_18 : decode cX9_rest 18 = .ok (.aload_n 0, 1) := by decide +kernel
theorem dX9_rest_19 : decode cX9_rest 19 = .ok (.aload_n 0, 1) := by decide +kernel
theorem dX9_rest_20 : decode cX9_rest 20 = .ok (.getfield 25, 3) := by decide +kernel
theorem dX9_rest_23 : decode cX9_rest 23 = .ok (.iconst 0, 1) := by decide +kernel
theorem dX9_rest_24 : decode cX9_rest 24 = .ok (.invokevirtual 239, 3) := by decide +kernel
theorem dX9_rest_27 : decode cX9_rest 27 = .ok (.ifCond .eq 10, 3) := by decide +kernel
theorem dX9_rest_30 : decode cX9_rest 30 = .ok (.aload_n 0, 1) := by decide +kernel
theorem dX9_rest_31 : decode cX9_rest 31 = .ok (.getfield 226, 3) := by decide +kernel
theorem dX9_rest_34 : decode cX9_rest 34 = .ok (.goto 5, 3) := by decide +kernel
theorem dX9_rest_37 : decode cX9_rest 37 = .ok (.bipush (-2), 2) := by decide +kernel
theorem dX9_rest_39 : decode cX9_rest 39 = .ok (.ireturn, 1) := by decide +kernel
theorem dX9_tries_0 : decode cX9_tries 0 = .ok (.aload_n 0, 1) := by decide +kernel
theorem dX9_tries_1 : decode cX9_tries 1 = .ok (.iconst 0, 1) := by decide +kernel
theorem dX9_tries_2 : decode cX9_tries 2 = .ok (.putfield 80, 3) := by decide +kernel
theorem dX9_tries_5 : decode cX9_tries 5 = .ok (.aload_n 0, 1) := by decide +kernel
theorem dX9_tries_6 : decode cX9_tries 6 = .ok (.invokevirtual 89, 3) := by decide +kernel
theorem dX9_tries_9 : decode cX9_tries 9 = .ok (.ifCond .ne 5, 3) := by decide +kernel
theorem dX9_tries_12 : decode cX9_tries 12 = .ok (.iconst (-1), 1) := by decide +kernel
theorem dX9_tries_13 : decode cX9_tries 13 = .ok (.ireturn, 1) := by decide +kernel
theorem dX9_tries_14 : decode cX9_tries 14 = .ok (.aload_n 0, 1) := by decide +kernel
theorem dX9_tries_15 : decode cX9_tries 15 = .ok (.invokevirtual 245, 3) := by decide +kernel
theorem dX9_tries_18 : decode cX9_tries 18 = .ok (.aload_n 0, 1) := by decide +kernel
theorem dX9_tries_19 : decode cX9_tries 19 = .ok (.aload_n 0, 1) := by decide +kernel
theorem dX9_tries_20 : decode cX9_tries 20 = .ok (.getfield 25, 3) := by decide +kernel
theorem dX9_tries_23 : decode cX9_tries 23 = .ok (.iconst 0, 1) := by decide +kernel
theorem dX9_tries_24 : decode cX9_tries 24 = .ok (.invokevirtual 239, 3) := by decide +kernel
theorem dX9_tries_27 : decode cX9_tries 27 = .ok (.ifCond .eq 21, 3) := by decide +kernel
theorem dX9_tries_30 : decode cX9_tries 30 = .ok (.aload_n 0, 1) := by decide +kernel
theorem dX9_tries_31 : decode cX9_tries 31 = .ok (.aload_n 0, 1) := by decide +kernel
theorem dX9_tries_32 : decode cX9_tries 32 = .ok (.getfield 25, 3) := by decide +kernel
theorem dX9_tries_35 : decode cX9_tries 35 = .ok (.invokevirtual 248, 3) := by decide +kernel
theorem dX9_tries_38 : decode cX9_tries 38 = .ok (.ifCond .eq 10, 3) := by decide +kernel
theorem dX9_tries_41 : decode cX9_tries 41 = .ok (.aload_n 0, 1) := by decide +kernel
theorem dX9_tries_42 : decode cX9_tries 42 = .ok (.getfield 233, 3) := by decide +kernel
theorem dX9_tries_45 : decode cX9_tries 45 = .ok (.goto 5, 3) := by decide +kernel
theorem dX9_tries_48 : decode cX9_tries 48 = .ok (.bipush (-2), 2) := by decide +kernel
theorem dX9_tries_50 : decode cX9_tries 50 = .ok (.ireturn, 1) := by decide +kernel
theorem dX9_set_0 : decode cX9_set 0 = .ok (.aload_n 0, 1) := by decide +kernel
theorem dX9_set_1 : decode cX9_set 1 = .ok (.iconst 0, 1) := by decide +kernel
theorem dX9_set_2 : decode cX9_set 2 = .ok (.putfield 80, 3) := by decide +kernel
theorem dX9_set_5 : decode cX9_set 5 = .ok (.aload_n 0, 1) := by decide +kernel
theorem dX9_set_6 : decode cX9_set 6 = .ok (.iload_n 1, 1) := by decide +kernel
theorem dX9_set_7 : decode cX9_set 7 = .ok (.iload_n 2, 1) := by decide +kernel
theorem dX9_set_8 : decode cX9_set 8 = .ok (.invokevirtual 181, 3) := by decide +kernel
theorem dX9_set_11 : decode cX9_set 11 = .ok (.ifCond .eq 24, 3) := by decide +kernel
theorem dX9_set_14 : decode cX9_set 14 = .ok (.aload_n 0, 1) := by decide +kernel
theorem dX9_set_15 : decode cX9_set 15 = .ok (.getfield 101, 3) := by decide +kernel
theorem dX9_set_18 : decode cX9_set 18 = .ok (.ifCond .eq 17, 3) := by decide +kernel
theorem dX9_set_21 : decode cX9_set 21 = .ok (.aload_n 0, 1) := by decide +kernel
theorem dX9_set_22 : decode cX9_set 22 = .ok (.getfield 25, 3) := by decide +kernel
theorem dX9_set_25 : decode cX9_set 25 = .ok (.bipush 12, 2) := by decide +kernel
theorem dX9_set_27 : decode cX9_set 27 = .ok (.iload_n 2, 1) := by decide +kernel
theorem dX9_set_28 : decode cX9_set 28 = .ok (.imul, 1) := by decide +kernel
theorem dX9_set_29 : decode cX9_set 29 = .ok (.iload_n 1, 1) := by decide +kernel
theorem dX9_set_30 : decode cX9_set 30 = .ok (.iadd, 1) := by decide +kernel
theorem dX9_set_31 : decode cX9_set 31 = .ok (.iaload, 1) := by decide +kernel
theorem dX9_set_32 : decode cX9_set 32 = .ok (.goto 4, 3) := by decide +kernel
theorem dX9_set_35 : decode cX9_set 35 = .ok (.iconst (-1), 1) := by decide +kernel
theorem dX9_set_36 : decode cX9_set 36 = .ok (.ireturn, 1) := by decide +kernel
theorem dX9_allOne_0 : decode cX9_allOne 0 = .ok (.iconst 0, 1) := by decide +kernel
theorem dX9_allOne_1 : decode cX9_allOne 1 = .ok (.istore_n 3, 1) := by decide +kernel
theorem dX9_allOne_2 : decode cX9_allOne 2 = .ok (.iload_n 3, 1) := by decide +kernel
theorem dX9_allOne_3 : decode cX9_allOne 3 = .ok (.aload_n 0, 1) := by decide +kernel
theorem dX9_allOne_4 : decode cX9_allOne 4 = .ok (.getfield 83, 3) := by decide +kernel
theorem dX9_allOne_7 : decode cX9_allOne 7 = .ok (.aload_n 0, 1) := by decide +kernel
theorem dX9_allOne_8 : decode cX9_allOne 8 = .ok (.getfield 86, 3) := by decide +kernel
theorem dX9_allOne_11 : decode cX9_allOne 11 = .ok (.imul, 1) := by decide +kernel
theorem dX9_allOne_12 : decode cX9_allOne 12 = .ok (.if_icmp .ge 27, 3) := by decide +kernel
theorem dX9_allOne_15 : decode cX9_allOne 15 = .ok (.aload_n 1, 1) := by decide +kernel
theorem dX9_allOne_16 : decode cX9_allOne 16 = .ok (.iload_n 2, 1) := by decide +kernel
theorem dX9_allOne_17 : decode cX9_allOne 17 = .ok (.aload_n 0, 1) := by decide +kernel
theorem dX9_allOne_18 : decode cX9_allOne 18 = .ok (.iload_n 3, 1) := by decide +kernel
theorem dX9_allOne_19 : decode cX9_allOne 19 = .ok (.invokevirtual 236, 3) := by decide +kernel
theorem dX9_allOne_22 : decode cX9_allOne 22 = .ok (.iadd, 1) := by decide +kernel
theorem dX9_allOne_23 : decode cX9_allOne 23 = .ok (.iaload, 1) := by decide +kernel
theorem dX9_allOne_24 : decode cX9_allOne 24 = .ok (.invokestatic 185, 3) := by decide +kernel
theorem dX9_allOne_27 : decode cX9_allOne 27 = .ok (.iconst 1, 1) := by decide +kernel
theorem dX9_allOne_28 : decode cX9_allOne 28 = .ok (.if_icmp .eq 5, 3) := by decide +kernel
theorem dX9_allOne_31 : decode cX9_allOne 31 = .ok (.iconst 0, 1) := by decide +kernel
theorem dX9_allOne_32 : decode cX9_allOne 32 = .ok (.ireturn, 1) := by decide +kernel
theorem dX9_allOne_33 : decode cX9_allOne 33 = .ok (.iinc 3 1, 3) := by decide +kernel
theorem dX9_allOne_36 : decode cX9_allOne 36 = .ok (.goto (-34), 3) := by decide +kernel
theorem dX9_allOne_39 : decode cX9_allOne 39 = .ok (.iconst 1, 1) := by decide +kernel
theorem dX9_allOne_40 : decode cX9_allOne 40 = .ok (.ireturn, 1) := by decide +kernel
theorem dX9_least_0 : decode cX9_least 0 = .ok (.iconst 0, 1) := by decide +kernel
theorem dX9_least_1 : decode cX9_least 1 = .ok (.istore_n 1, 1) := by decide +kernel
theorem dX9_least_2 : decode cX9_least 2 = .ok (.iload_n 0, 1) := by decide +kernel
theorem dX9_least_3 : decode cX9_least 3 = .ok (.iload_n 1, 1) := by decide +kernel
theorem dX9_least_4 : decode cX9_least 4 = .ok (.ishr, 1) := by decide +kernel
theorem dX9_least_5 : decode cX9_least 5 = .ok (.iconst 1, 1) := by decide +kernel
theorem dX9_least_6 : decode cX9_least 6 = .ok (.iand, 1) := by decide +kernel
theorem dX9_least_7 : decode cX9_least 7 = .ok (.ifCond .ne 9, 3) := by decide +kernel
theorem dX9_least_10 : decode cX9_least 10 = .ok (.iinc 1 1, 3) := by decide +kernel
theorem dX9_least_13 : decode cX9_least 13 = .ok (.goto (-11), 3) := by decide +kernel
theorem dX9_least_16 : decode cX9_least 16 = .ok (.iload_n 1, 1) := by decide +kernel
theorem dX9_least_17 : decode cX9_least 17 = .ok (.ireturn, 1) := by decide +kernel
theorem dX9_branch_0 : decode cX9_branch 0 = .ok (.iconst (-1), 1) := by decide +kernel
theorem dX9_branch_1 : decode cX9_branch 1 = .ok (.istore_n 2, 1) := by decide +kernel
theorem dX9_branch_2 : decode cX9_branch 2 = .ok (.iconst 0, 1) := by decide +kernel
theorem dX9_branch_3 : decode cX9_branch 3 = .ok (.istore_n 3, 1) := by decide +kernel
theorem dX9_branch_4 : decode cX9_branch 4 = .ok (.iload_n 3, 1) := by decide +kernel
theorem dX9_branch_5 : decode cX9_branch 5 = .ok (.aload_n 0, 1) := by decide +kernel
theorem dX9_branch_6 : decode cX9_branch 6 = .ok (.getfield 83, 3) := by decide +kernel
theorem dX9_branch_9 : decode cX9_branch 9 = .ok (.aload_n 0, 1) := by decide +kernel
theorem dX9_branch_10 : decode cX9_branch 10 = .ok (.getfield 86, 3) := by decide +kernel
theorem dX9_branch_13 : decode cX9_branch 13 = .ok (.imul, 1) := by decide +kernel
theorem dX9_branch_14 : decode cX9_branch 14 = .ok (.if_icmp .ge 60, 3) := by decide +kernel
theorem dX9_branch_17 : decode cX9_branch 17 = .ok (.aload_n 0, 1) := by decide +kernel
theorem dX9_branch_18 : decode cX9_branch 18 = .ok (.iload_n 3, 1) := by decide +kernel
theorem dX9_branch_19 : decode cX9_branch 19 = .ok (.invokevirtual 236, 3) := by decide +kernel
theorem dX9_branch_22 : decode cX9_branch 22 = .ok (.istore 4, 2) := by decide +kernel
theorem dX9_branch_24 : decode cX9_branch 24 = .ok (.aload_n 0, 1) := by decide +kernel
theorem dX9_branch_25 : decode cX9_branch 25 = .ok (.getfield 65, 3) := by decide +kernel
theorem dX9_branch_28 : decode cX9_branch 28 = .ok (.iload_n 1, 1) := by decide +kernel
theorem dX9_branch_29 : decode cX9_branch 29 = .ok (.iload 4, 2) := by decide +kernel
theorem dX9_branch_31 : decode cX9_branch 31 = .ok (.iadd, 1) := by decide +kernel
theorem dX9_branch_32 : decode cX9_branch 32 = .ok (.iaload, 1) := by decide +kernel
theorem dX9_branch_33 : decode cX9_branch 33 = .ok (.invokestatic 185, 3) := by decide +kernel
theorem dX9_branch_36 : decode cX9_branch 36 = .ok (.istore 5, 2) := by decide +kernel
theorem dX9_branch_38 : decode cX9_branch 38 = .ok (.iload 5, 2) := by decide +kernel
theorem dX9_branch_40 : decode cX9_branch 40 = .ok (.iconst 1, 1) := by decide +kernel
theorem dX9_branch_41 : decode cX9_branch 41 = .ok (.if_icmp .le 27, 3) := by decide +kernel
theorem dX9_branch_44 : decode cX9_branch 44 = .ok (.iload_n 2, 1) := by decide +kernel
theorem dX9_branch_45 : decode cX9_branch 45 = .ok (.iconst (-1), 1) := by decide +kernel
theorem dX9_branch_46 : decode cX9_branch 46 = .ok (.if_icmp .eq 19, 3) := by decide +kernel
theorem dX9_branch_49 : decode cX9_branch 49 = .ok (.iload 5, 2) := by decide +kernel
theorem dX9_branch_51 : decode cX9_branch 51 = .ok (.aload_n 0, 1) := by decide +kernel
theorem dX9_branch_52 : decode cX9_branch 52 = .ok (.getfield 65, 3) := by decide +kernel
theorem dX9_branch_55 : decode cX9_branch 55 = .ok (.iload_n 1, 1) := by decide +kernel
theorem dX9_branch_56 : decode cX9_branch 56 = .ok (.iload_n 2, 1) := by decide +kernel
theorem dX9_branch_57 : decode cX9_branch 57 = .ok (.iadd, 1) := by decide +kernel
theorem dX9_branch_58 : decode cX9_branch 58 = .ok (.iaload, 1) := by decide +kernel
theorem dX9_branch_59 : decode cX9_branch 59 = .ok (.invokestatic 185, 3) := by decide +kernel
theorem dX9_branch_62 : decode cX9_branch 62 = .ok (.if_icmp .ge 6, 3) := by decide +kernel
theorem dX9_branch_65 : decode cX9_branch 65 = .ok (.iload 4, 2) := by decide +kernel
theorem dX9_branch_67 : decode cX9_branch 67 = .ok (.istore_n 2, 1) := by decide +kernel
theorem dX9_branch_68 : decode cX9_branch 68 = .ok (.iinc 3 1, 3) := by decide +kernel
theorem dX9_branch_71 : decode cX9_branch 71 = .ok (.goto (-67), 3) := by decide +kernel
theorem dX9_branch_74 : decode cX9_branch 74 = .ok (.iload_n 2, 1) := by decide +kernel
theorem dX9_branch_75 : decode cX9_branch 75 = .ok (.ireturn, 1) := by decide +kernel
theorem dX9_look_0 : decode cX9_look 0 = .ok (.sipush 144, 3) := by decide +kernel
theorem dX9_look_3 : decode cX9_look 3 = .ok (.iload_n 1, 1) := by decide +kernel
theorem dX9_look_4 : decode cX9_look 4 = .ok (.imul, 1) := by decide +kernel
theorem dX9_look_5 : decode cX9_look 5 = .ok (.istore_n 2, 1) := by decide +kernel
theorem dX9_look_6 : decode cX9_look 6 = .ok (.aload_n 0, 1) := by decide +kernel
theorem dX9_look_7 : decode cX9_look 7 = .ok (.aload_n 0, 1) := by decide +kernel
theorem dX9_look_8 : decode cX9_look 8 = .ok (.getfield 65, 3) := by decide +kernel
theorem dX9_look_11 : decode cX9_look 11 = .ok (.iload_n 2, 1) := by decide +kernel
theorem dX9_look_12 : decode cX9_look 12 = .ok (.invokevirtual 239, 3) := by decide +kernel
theorem dX9_look_15 : decode cX9_look 15 = .ok (.ifCond .ne 4, 3) := by decide +kernel
theorem dX9_look_18 : decode cX9_look 18 = .ok (.return_, 1) := by decide +kernel
theorem dX9_look_19 : decode cX9_look 19 = .ok (.aload_n 0, 1) := by decide +kernel
theorem dX9_look_20 : decode cX9_look 20 = .ok (.aload_n 0, 1) := by decide +kernel
theorem dX9_look_21 : decode cX9_look 21 = .ok (.getfield 65, 3) := by decide +kernel
theorem dX9_look_24 : decode cX9_look 24 = .ok (.iload_n 2, 1) := by decide +kernel
theorem dX9_look_25 : decode cX9_look 25 = .ok (.invokevirtual 252, 3) := by decide +kernel
theorem dX9_look_28 : decode cX9_look 28 = .ok (.ifCond .eq 82, 3) := by decide +kernel
theorem dX9_look_31 : decode cX9_look 31 = .ok (.iconst 0, 1) := by decide +kernel
theorem dX9_look_32 : decode cX9_look 32 = .ok (.istore_n 3, 1) := by decide +kernel
theorem dX9_look_33 : decode cX9_look 33 = .ok (.iload_n 3, 1) := by decide +kernel
theorem dX9_look_34 : decode cX9_look 34 = .ok (.sipush 144, 3) := by decide +kernel
theorem dX9_look_37 : decode cX9_look 37 = .ok (.if_icmp .ge 62, 3) := by decide +kernel
theorem dX9_look_40 : decode cX9_look 40 = .ok (.aload_n 0, 1) := by decide +kernel
theorem dX9_look_41 : decode cX9_look 41 = .ok (.getfield 255, 3) := by decide +kernel
theorem dX9_look_44 : decode cX9_look 44 = .ok (.iconst 2, 1) := by decide +kernel
theorem dX9_look_45 : decode cX9_look 45 = .ok (.if_icmp .ge 54, 3) := by decide +kernel
theorem dX9_look_48 : decode cX9_look 48 = .ok (.aload_n 0, 1) := by decide +kernel
theorem dX9_look_49 : decode cX9_look 49 = .ok (.getfield 68, 3) := by decide +kernel
theorem dX9_look_52 : decode cX9_look 52 = .ok (.sipush 144, 3) := by decide +kernel
theorem dX9_look_55 : decode cX9_look 55 = .ok (.aload_n 0, 1) := by decide +kernel
theorem dX9_look_56 : decode cX9_look 56 = .ok (.getfield 255, 3) := by decide +kernel
theorem dX9_look_59 : decode cX9_look 59 = .ok (.imul, 1) := by decide +kernel
theorem dX9_look_60 : decode cX9_look 60 = .ok (.iload_n 3, 1) := by decide +kernel
theorem dX9_look_61 : decode cX9_look 61 = .ok (.iadd, 1) := by decide +kernel
theorem dX9_look_62 : decode cX9_look 62 = .ok (.aload_n 0, 1) := by decide +kernel
theorem dX9_look_63 : decode cX9_look 63 = .ok (.iload_n 3, 1) := by decide +kernel
theorem dX9_look_64 : decode cX9_look 64 = .ok (.bipush 12, 2) := by decide +kernel
theorem dX9_look_66 : decode cX9_look 66 = .ok (.irem, 1) := by decide +kernel
theorem dX9_look_67 : decode cX9_look 67 = .ok (.iload_n 3, 1) := by decide +kernel
theorem dX9_look_68 : decode cX9_look 68 = .ok (.bipush 12, 2) := by decide +kernel
theorem dX9_look_70 : decode cX9_look 70 = .ok (.idiv, 1) := by decide +kernel
theorem dX9_look_71 : decode cX9_look 71 = .ok (.invokevirtual 181, 3) := by decide +kernel
theorem dX9_look_74 : decode cX9_look 74 = .ok (.ifCond .eq 17, 3) := by decide +kernel
theorem dX9_look_77 : decode cX9_look 77 = .ok (.aload_n 0, 1) := by decide +kernel
theorem dX9_look_78 : decode cX9_look 78 = .ok (.getfield 65, 3) := by decide +kernel
theorem dX9_look_81 : decode cX9_look 81 = .ok (.iload_n 2, 1) := by decide +kernel
theorem dX9_look_82 : decode cX9_look 82 = .ok (.iload_n 3, 1) := by decide +kernel
theorem dX9_look_83 : decode cX9_look 83 = .ok (.iadd, 1) := by decide +kernel
theorem dX9_look_84 : decode cX9_look 84 = .ok (.iaload, 1) := by decide +kernel
theorem dX9_look_85 : decode cX9_look 85 = .ok (.invokestatic 258, 3) := by decide +kernel
theorem dX9_look_88 : decode cX9_look 88 = .ok (.goto 4, 3) := by decide +kernel
theorem dX9_look_91 : decode cX9_look 91 = .ok (.iconst 0, 1) := by decide +kernel
theorem dX9_look_92 : decode cX9_look 92 = .ok (.iastore, 1) := by decide +kernel
theorem dX9_look_93 : decode cX9_look 93 = .ok (.iinc 3 1, 3) := by decide +kernel
theorem dX9_look_96 : decode cX9_look 96 = .ok (.goto (-63), 3) := by decide +kernel
theorem dX9_look_99 : decode cX9_look 99 = .ok (.aload_n 0, 1) := by decide +kernel
theorem dX9_look_100 : decode cX9_look 100 = .ok (.dup, 1) := by decide +kernel
theorem dX9_look_101 : decode cX9_look 101 = .ok (.getfield 255, 3) := by decide +kernel
theorem dX9_look_104 : decode cX9_look 104 = .ok (.iconst 1, 1) := by decide +kernel
theorem dX9_look_105 : decode cX9_look 105 = .ok (.iadd, 1) := by decide +kernel
theorem dX9_look_106 : decode cX9_look 106 = .ok (.putfield 255, 3) := by decide +kernel
theorem dX9_look_109 : decode cX9_look 109 = .ok (.return_, 1) := by decide +kernel
theorem dX9_look_110 : decode cX9_look 110 = .ok (.aload_n 0, 1) := by decide +kernel
theorem dX9_look_111 : decode cX9_look 111 = .ok (.iload_n 2, 1) := by decide +kernel
theorem dX9_look_112 : decode cX9_look 112 = .ok (.invokevirtual 261, 3) := by decide +kernel
theorem dX9_look_115 : decode cX9_look 115 = .ok (.istore_n 3, 1) := by decide +kernel
theorem dX9_look_116 : decode cX9_look 116 = .ok (.iconst 0, 1) := by decide +kernel
theorem dX9_look_117 : decode cX9_look 117 = .ok (.istore 4, 2) := by decide +kernel
theorem dX9_look_119 : decode cX9_look 119 = .ok (.iload 4, 2) := by decide +kernel
theorem dX9_look_121 : decode cX9_look 121 = .ok (.aload_n 0, 1) := by decide +kernel
theorem dX9_look_122 : decode cX9_look 122 = .ok (.getfield 169, 3) := by decide +kernel
theorem dX9_look_125 : decode cX9_look 125 = .ok (.if_icmp .gt 135, 3) := by decide +kernel
theorem dX9_look_128 : decode cX9_look 128 = .ok (.aload_n 0, 1) := by decide +kernel
theorem dX9_look_129 : decode cX9_look 129 = .ok (.getfield 264, 3) := by decide +kernel
theorem dX9_look_132 : decode cX9_look 132 = .ok (.ifCond .ne 128, 3) := by decide +kernel
theorem dX9_look_135 : decode cX9_look 135 = .ok (.aload_n 0, 1) := by decide +kernel
theorem dX9_look_136 : decode cX9_look 136 = .ok (.getfield 255, 3) := by decide +kernel
theorem dX9_look_139 : decode cX9_look 139 = .ok (.aload_n 0, 1) := by decide +kernel
theorem dX9_look_140 : decode cX9_look 140 = .ok (.getfield 267, 3) := by decide +kernel
theorem dX9_look_143 : decode cX9_look 143 = .ok (.if_icmp .ge 117, 3) := by decide +kernel
theorem dX9_look_146 : decode cX9_look 146 = .ok (.aload_n 0, 1) := by decide +kernel
theorem dX9_look_147 : decode cX9_look 147 = .ok (.getfield 65, 3) := by decide +kernel
theorem dX9_look_150 : decode cX9_look 150 = .ok (.iload_n 2, 1) := by decide +kernel
theorem dX9_look_151 : decode cX9_look 151 = .ok (.iload_n 3, 1) := by decide +kernel
theorem dX9_look_152 : decode cX9_look 152 = .ok (.iadd, 1) := by decide +kernel
theorem dX9_look_153 : decode cX9_look 153 = .ok (.iaload, 1) := by decide +kernel
theorem dX9_look_154 : decode cX9_look 154 = .ok (.iload 4, 2) := by decide +kernel
theorem dX9_look_156 : decode cX9_look 156 = .ok (.ishr, 1) := by decide +kernel
theorem dX9_look_157 : decode cX9_look 157 = .ok (.iconst 1, 1) := by decide +kernel
theorem dX9_look_158 : decode cX9_look 158 = .ok (.iand, 1) := by decide +kernel
theorem dX9_look_159 : decode cX9_look 159 = .ok (.ifCond .ne 6, 3) := by decide +kernel
theorem dX9_look_162 : decode cX9_look 162 = .ok (.goto 92, 3) := by decide +kernel
theorem dX9_look_165 : decode cX9_look 165 = .ok (.aload_n 0, 1) := by decide +kernel
theorem dX9_look_166 : decode cX9_look 166 = .ok (.getfield 270, 3) := by decide +kernel
theorem dX9_look_169 : decode cX9_look 169 = .ok (.aload_n 0, 1) := by decide +kernel
theorem dX9_look_170 : decode cX9_look 170 = .ok (.getfield 273, 3) := by decide +kernel
theorem dX9_look_173 : decode cX9_look 173 = .ok (.if_icmp .ne 9, 3) := by decide +kernel
theorem dX9_look_176 : decode cX9_look 176 = .ok (.aload_n 0, 1) := by decide +kernel
theorem dX9_look_177 : decode cX9_look 177 = .ok (.iconst 1, 1) := by decide +kernel
theorem dX9_look_178 : decode cX9_look 178 = .ok (.putfield 264, 3) := by decide +kernel
theorem dX9_look_181 : decode cX9_look 181 = .ok (.return_, 1) := by decide +kernel
theorem dX9_look_182 : decode cX9_look 182 = .ok (.aload_n 0, 1) := by decide +kernel
theorem dX9_look_183 : decode cX9_look 183 = .ok (.dup, 1) := by decide +kernel
theorem dX9_look_184 : decode cX9_look 184 = .ok (.getfield 270, 3) := by decide +kernel
theorem dX9_look_187 : decode cX9_look 187 = .ok (.iconst 1, 1) := by decide +kernel
theorem dX9_look_188 : decode cX9_look 188 = .ok (.iadd, 1) := by decide +kernel
theorem dX9_look_189 : decode cX9_look 189 = .ok (.putfield 270, 3) := by decide +kernel
theorem dX9_look_192 : decode cX9_look 192 = .ok (.iconst 0, 1) := by decide +kernel
theorem dX9_look_193 : decode cX9_look 193 = .ok (.istore 5, 2) := by decide +kernel
theorem dX9_look_195 : decode cX9_look 195 = .ok (.iload 5, 2) := by decide +kernel
theorem dX9_look_197 : decode cX9_look 197 = .ok (.sipush 144, 3) := by decide +kernel
theorem dX9_look_200 : decode cX9_look 200 = .ok (.if_icmp .ge 31, 3) := by decide +kernel
theorem dX9_look_203 : decode cX9_look 203 = .ok (.aload_n 0, 1) := by decide +kernel
theorem dX9_look_204 : decode cX9_look 204 = .ok (.getfield 65, 3) := by decide +kernel
theorem dX9_look_207 : decode cX9_look 207 = .ok (.iload_n 2, 1) := by decide +kernel
theorem dX9_look_208 : decode cX9_look 208 = .ok (.sipush 144, 3) := by decide +kernel
theorem dX9_look_211 : decode cX9_look 211 = .ok (.iadd, 1) := by decide +kernel
theorem dX9_look_212 : decode cX9_look 212 = .ok (.iload 5, 2) := by decide +kernel
theorem dX9_look_214 : decode cX9_look 214 = .ok (.iadd, 1) := by decide +kernel
theorem dX9_look_215 : decode cX9_look 215 = .ok (.aload_n 0, 1) := by decide +kernel
theorem dX9_look_216 : decode cX9_look 216 = .ok (.getfield 65, 3) := by decide +kernel
theorem dX9_look_219 : decode cX9_look 219 = .ok (.iload_n 2, 1) := by decide +kernel
theorem dX9_look_220 : decode cX9_look 220 = .ok (.iload 5, 2) := by decide +kernel
theorem dX9_look_222 : decode cX9_look 222 = .ok (.iadd, 1) := by decide +kernel
theorem dX9_look_223 : decode cX9_look 223 = .ok (.iaload, 1) := by decide +kernel
theorem dX9_look_224 : decode cX9_look 224 = .ok (.iastore, 1) := by decide +kernel
theorem dX9_look_225 : decode cX9_look 225 = .ok (.iinc 5 1, 3) := by decide +kernel
theorem dX9_look_228 : decode cX9_look 228 = .ok (.goto (-33), 3) := by decide +kernel
theorem dX9_look_231 : decode cX9_look 231 = .ok (.aload_n 0, 1) := by decide +kernel
theorem dX9_look_232 : decode cX9_look 232 = .ok (.getfield 65, 3) := by decide +kernel
theorem dX9_look_235 : decode cX9_look 235 = .ok (.iload_n 2, 1) := by decide +kernel
theorem dX9_look_236 : decode cX9_look 236 = .ok (.sipush 144, 3) := by decide +kernel
theorem dX9_look_239 : decode cX9_look 239 = .ok (.iadd, 1) := by decide +kernel
theorem dX9_look_240 : decode cX9_look 240 = .ok (.iload_n 3, 1) := by decide +kernel
theorem dX9_look_241 : decode cX9_look 241 = .ok (.iadd, 1) := by decide +kernel
theorem dX9_look_242 : decode cX9_look 242 = .ok (.iconst 1, 1) := by decide +kernel
theorem dX9_look_243 : decode cX9_look 243 = .ok (.iload 4, 2) := by decide +kernel
theorem dX9_look_245 : decode cX9_look 245 = .ok (.ishl, 1) := by decide +kernel
theorem dX9_look_246 : decode cX9_look 246 = .ok (.iastore, 1) := by decide +kernel
theorem dX9_look_247 : decode cX9_look 247 = .ok (.aload_n 0, 1) := by decide +kernel
theorem dX9_look_248 : decode cX9_look 248 = .ok (.iload_n 1, 1) := by decide +kernel
theorem dX9_look_249 : decode cX9_look 249 = .ok (.iconst 1, 1) := by decide +kernel
theorem dX9_look_250 : decode cX9_look 250 = .ok (.iadd, 1) := by decide +kernel
theorem dX9_look_251 : decode cX9_look 251 = .ok (.invokevirtual 276, 3) := by decide +kernel
theorem dX9_look_254 : decode cX9_look 254 = .ok (.iinc 4 1, 3) := by decide +kernel
theorem dX9_look_257 : decode cX9_look 257 = .ok (.goto (-138), 3) := by decide +kernel
theorem dX9_look_260 : decode cX9_look 260 = .ok (.return_, 1) := by decide +kernel
theorem dX9_searches_0 : decode cX9_searches 0 = .ok (.aload_n 0, 1) := by decide +kernel
theorem dX9_searches_1 : decode cX9_searches 1 = .ok (.iconst 0, 1) := by decide +kernel
theorem dX9_searches_2 : decode cX9_searches 2 = .ok (.putfield 270, 3) := by decide +kernel
theorem dX9_searches_5 : decode cX9_searches 5 = .ok (.aload_n 0, 1) := by decide +kernel
theorem dX9_searches_6 : decode cX9_searches 6 = .ok (.iload_n 2, 1) := by decide +kernel
theorem dX9_searches_7 : decode cX9_searches 7 = .ok (.putfield 273, 3) := by decide +kernel
theorem dX9_searches_10 : decode cX9_searches 10 = .ok (.aload_n 0, 1) := by decide +kernel
theorem dX9_searches_11 : decode cX9_searches 11 = .ok (.iload_n 1, 1) := by decide +kernel
theorem dX9_searches_12 : decode cX9_searches 12 = .ok (.putfield 267, 3) := by decide +kernel
theorem dX9_searches_15 : decode cX9_searches 15 = .ok (.aload_n 0, 1) := by decide +kernel
theorem dX9_searches_16 : decode cX9_searches 16 = .ok (.iconst 0, 1) := by decide +kernel
theorem dX9_searches_17 : decode cX9_searches 17 = .ok (.putfield 255, 3) := by decide +kernel
theorem dX9_searches_20 : decode cX9_searches 20 = .ok (.aload_n 0, 1) := by decide +kernel
theorem dX9_searches_21 : decode cX9_searches 21 = .ok (.iconst 0, 1) := by decide +kernel
theorem dX9_searches_22 : decode cX9_searches 22 = .ok (.putfield 264, 3) := by decide +kernel
theorem dX9_searches_25 : decode cX9_searches 25 = .ok (.aload_n 0, 1) := by decide +kernel
theorem dX9_searches_26 : decode cX9_searches 26 = .ok (.aload_n 0, 1) := by decide +kernel
theorem dX9_searches_27 : decode cX9_searches 27 = .ok (.getfield 65, 3) := by decide +kernel
theorem dX9_searches_30 : decode cX9_searches 30 = .ok (.iconst 0, 1) := by decide +kernel
theorem dX9_searches_31 : decode cX9_searches 31 = .ok (.invokevirtual 193, 3) := by decide +kernel
theorem dX9_searches_34 : decode cX9_searches 34 = .ok (.aload_n 0, 1) := by decide +kernel
theorem dX9_searches_35 : decode cX9_searches 35 = .ok (.iconst 0, 1) := by decide +kernel
theorem dX9_searches_36 : decode cX9_searches 36 = .ok (.invokevirtual 276, 3) := by decide +kernel
theorem dX9_searches_39 : decode cX9_searches 39 = .ok (.return_, 1) := by decide +kernel
theorem dX9_search_0 : decode cX9_search 0 = .ok (.aload_n 0, 1) := by decide +kernel
theorem dX9_search_1 : decode cX9_search 1 = .ok (.iconst 0, 1) := by decide +kernel
theorem dX9_search_2 : decode cX9_search 2 = .ok (.putfield 80, 3) := by decide +kernel
theorem dX9_search_5 : decode cX9_search 5 = .ok (.aload_n 0, 1) := by decide +kernel
theorem dX9_search_6 : decode cX9_search 6 = .ok (.invokevirtual 89, 3) := by decide +kernel
theorem dX9_search_9 : decode cX9_search 9 = .ok (.ifCond .eq 24, 3) := by decide +kernel
theorem dX9_search_12 : decode cX9_search 12 = .ok (.iload_n 1, 1) := by decide +kernel
theorem dX9_search_13 : decode cX9_search 13 = .ok (.iconst 1, 1) := by decide +kernel
theorem dX9_search_14 : decode cX9_search 14 = .ok (.bipush 50, 2) := by decide +kernel
theorem dX9_search_16 : decode cX9_search 16 = .ok (.invokestatic 97, 3) := by decide +kernel
theorem dX9_search_19 : decode cX9_search 19 = .ok (.ifCond .eq 14, 3) := by decide +kernel
theorem dX9_search_22 : decode cX9_search 22 = .ok (.iload_n 2, 1) := by decide +kernel
theorem dX9_search_23 : decode cX9_search 23 = .ok (.iconst 0, 1) := by decide +kernel
theorem dX9_search_24 : decode cX9_search 24 = .ok (.sipush 1000, 3) := by decide +kernel
theorem dX9_search_27 : decode cX9_search 27 = .ok (.invokestatic 97, 3) := by decide +kernel
theorem dX9_search_30 : decode cX9_search 30 = .ok (.ifCond .ne 5, 3) := by decide +kernel
theorem dX9_search_33 : decode cX9_search 33 = .ok (.iconst (-1), 1) := by decide +kernel
theorem dX9_search_34 : decode cX9_search 34 = .ok (.ireturn, 1) := by decide +kernel
theorem dX9_search_35 : decode cX9_search 35 = .ok (.aload_n 0, 1) := by decide +kernel
theorem dX9_search_36 : decode cX9_search 36 = .ok (.iload_n 1, 1) := by decide +kernel
theorem dX9_search_37 : decode cX9_search 37 = .ok (.iload_n 2, 1) := by decide +kernel
theorem dX9_search_38 : decode cX9_search 38 = .ok (.invokevirtual 279, 3) := by decide +kernel
theorem dX9_search_41 : decode cX9_search 41 = .ok (.aload_n 0, 1) := by decide +kernel
theorem dX9_search_42 : decode cX9_search 42 = .ok (.aload_n 0, 1) := by decide +kernel
theorem dX9_search_43 : decode cX9_search 43 = .ok (.getfield 270, 3) := by decide +kernel
theorem dX9_search_46 : decode cX9_search 46 = .ok (.putfield 28, 3) := by decide +kernel
theorem dX9_search_49 : decode cX9_search 49 = .ok (.aload_n 0, 1) := by decide +kernel
theorem dX9_search_50 : decode cX9_search 50 = .ok (.iconst 1, 1) := by decide +kernel
theorem dX9_search_51 : decode cX9_search 51 = .ok (.putfield 105, 3) := by decide +kernel
theorem dX9_search_54 : decode cX9_search 54 = .ok (.aload_n 0, 1) := by decide +kernel
theorem dX9_search_55 : decode cX9_search 55 = .ok (.aload_n 0, 1) := by decide +kernel
theorem dX9_search_56 : decode cX9_search 56 = .ok (.getfield 255, 3) := by decide +kernel
theorem dX9_search_59 : decode cX9_search 59 = .ok (.putfield 282, 3) := by decide +kernel
theorem dX9_search_62 : decode cX9_search 62 = .ok (.iconst 0, 1) := by decide +kernel
theorem dX9_search_63 : decode cX9_search 63 = .ok (.istore_n 3, 1) := by decide +kernel
theorem dX9_search_64 : decode cX9_search 64 = .ok (.iload_n 3, 1) := by decide +kernel
theorem dX9_search_65 : decode cX9_search 65 = .ok (.sipush 288, 3) := by decide +kernel
theorem dX9_search_68 : decode cX9_search 68 = .ok (.if_icmp .ge 21, 3) := by decide +kernel
theorem dX9_search_71 : decode cX9_search 71 = .ok (.aload_n 0, 1) := by decide +kernel
theorem dX9_search_72 : decode cX9_search 72 = .ok (.getfield 32, 3) := by decide +kernel
theorem dX9_search_75 : decode cX9_search 75 = .ok (.iload_n 3, 1) := by decide +kernel
theorem dX9_search_76 : decode cX9_search 76 = .ok (.aload_n 0, 1) := by decide +kernel
theorem dX9_search_77 : decode cX9_search 77 = .ok (.getfield 68, 3) := by decide +kernel
theorem dX9_search_80 : decode cX9_search 80 = .ok (.iload_n 3, 1) := by decide +kernel
theorem dX9_search_81 : decode cX9_search 81 = .ok (.iaload, 1) := by decide +kernel
theorem dX9_search_82 : decode cX9_search 82 = .ok (.iastore, 1) := by decide +kernel
theorem dX9_search_83 : decode cX9_search 83 = .ok (.iinc 3 1, 3) := by decide +kernel
theorem dX9_search_86 : decode cX9_search 86 = .ok (.goto (-22), 3) := by decide +kernel
theorem dX9_search_89 : decode cX9_search 89 = .ok (.aload_n 0, 1) := by decide +kernel
theorem dX9_search_90 : decode cX9_search 90 = .ok (.getfield 264, 3) := by decide +kernel
theorem dX9_search_93 : decode cX9_search 93 = .ok (.ifCond .eq 8, 3) := by decide +kernel
theorem dX9_search_96 : decode cX9_search 96 = .ok (.bipush (-2), 2) := by decide +kernel
theorem dX9_search_98 : decode cX9_search 98 = .ok (.goto 7, 3) := by decide +kernel
theorem dX9_search_101 : decode cX9_search 101 = .ok (.aload_n 0, 1) := by decide +kernel
theorem dX9_search_102 : decode cX9_search 102 = .ok (.getfield 255, 3) := by decide +kernel
theorem dX9_search_105 : decode cX9_search 105 = .ok (.ireturn, 1) := by decide +kernel
theorem dX9_nodes_0 : decode cX9_nodes 0 = .ok (.aload_n 0, 1) := by decide +kernel
theorem dX9_nodes_1 : decode cX9_nodes 1 = .ok (.iconst 0, 1) := by decide +kernel
theorem dX9_nodes_2 : decode cX9_nodes 2 = .ok (.putfield 80, 3) := by decide +kernel
theorem dX9_nodes_5 : decode cX9_nodes 5 = .ok (.aload_n 0, 1) := by decide +kernel
theorem dX9_nodes_6 : decode cX9_nodes 6 = .ok (.getfield 28, 3) := by decide +kernel
theorem dX9_nodes_9 : decode cX9_nodes 9 = .ok (.ireturn, 1) := by decide +kernel
theorem dX9_solution_0 : decode cX9_solution 0 = .ok (.aload_n 0, 1) := by decide +kernel
theorem dX9_solution_1 : decode cX9_solution 1 = .ok (.iconst 0, 1) := by decide +kernel
theorem dX9_solution_2 : decode cX9_solution 2 = .ok (.putfield 80, 3) := by decide +kernel
theorem dX9_solution_5 : decode cX9_solution 5 = .ok (.aload_n 0, 1) := by decide +kernel
theorem dX9_solution_6 : decode cX9_solution 6 = .ok (.iload_n 2, 1) := by decide +kernel
theorem dX9_solution_7 : decode cX9_solution 7 = .ok (.iload_n 3, 1) := by decide +kernel
theorem dX9_solution_8 : decode cX9_solution 8 = .ok (.invokevirtual 181, 3) := by decide +kernel
theorem dX9_solution_11 : decode cX9_solution 11 = .ok (.ifCond .eq 47, 3) := by decide +kernel
theorem dX9_solution_14 : decode cX9_solution 14 = .ok (.aload_n 0, 1) := by decide +kernel
theorem dX9_solution_15 : decode cX9_solution 15 = .ok (.getfield 105, 3) := by decide +kernel
theorem dX9_solution_18 : decode cX9_solution 18 = .ok (.ifCond .eq 40, 3) := by decide +kernel
theorem dX9_solution_21 : decode cX9_solution 21 = .ok (.iload_n 1, 1) := by decide +kernel
theorem dX9_solution_22 : decode cX9_solution 22 = .ok (.iconst 0, 1) := by decide +kernel
theorem dX9_solution_23 : decode cX9_solution 23 = .ok (.iconst 1, 1) := by decide +kernel
theorem dX9_solution_24 : decode cX9_solution 24 = .ok (.invokestatic 97, 3) := by decide +kernel
theorem dX9_solution_27 : decode cX9_solution 27 = .ok (.ifCond .eq 31, 3) := by decide +kernel
theorem dX9_solution_30 : decode cX9_solution 30 = .ok (.iload_n 1, 1) := by decide +kernel
theorem dX9_solution_31 : decode cX9_solution 31 = .ok (.aload_n 0, 1) := by decide +kernel
theorem dX9_solution_32 : decode cX9_solution 32 = .ok (.getfield 282, 3) := by decide +kernel
theorem dX9_solution_35 : decode cX9_solution 35 = .ok (.if_icmp .ge 23, 3) := by decide +kernel
theorem dX9_solution_38 : decode cX9_solution 38 = .ok (.aload_n 0, 1) := by decide +kernel
theorem dX9_solution_39 : decode cX9_solution 39 = .ok (.getfield 32, 3) := by decide +kernel
theorem dX9_solution_42 : decode cX9_solution 42 = .ok (.sipush 144, 3) := by decide +kernel
theorem dX9_solution_45 : decode cX9_solution 45 = .ok (.iload_n 1, 1) := by decide +kernel
theorem dX9_solution_46 : decode cX9_solution 46 = .ok (.imul, 1) := by decide +kernel
theorem dX9_solution_47 : decode cX9_solution 47 = .ok (.bipush 12, 2) := by decide +kernel
theorem dX9_solution_49 : decode cX9_solution 49 = .ok (.iload_n 3, 1) := by decide +kernel
theorem dX9_solution_50 : decode cX9_solution 50 = .ok (.imul, 1) := by decide +kernel
theorem dX9_solution_51 : decode cX9_solution 51 = .ok (.iadd, 1) := by decide +kernel
theorem dX9_solution_52 : decode cX9_solution 52 = .ok (.iload_n 2, 1) := by decide +kernel
theorem dX9_solution_53 : decode cX9_solution 53 = .ok (.iadd, 1) := by decide +kernel
theorem dX9_solution_54 : decode cX9_solution 54 = .ok (.iaload, 1) := by decide +kernel
theorem dX9_solution_55 : decode cX9_solution 55 = .ok (.goto 4, 3) := by decide +kernel
theorem dX9_solution_58 : decode cX9_solution 58 = .ok (.iconst (-1), 1) := by decide +kernel
theorem dX9_solution_59 : decode cX9_solution 59 = .ok (.ireturn, 1) := by decide +kernel
theorem dX9_level_0 : decode cX9_level 0 = .ok (.aload_n 0, 1) := by decide +kernel
theorem dX9_level_1 : decode cX9_level 1 = .ok (.iconst 0, 1) := by decide +kernel
theorem dX9_level_2 : decode cX9_level 2 = .ok (.putfield 80, 3) := by decide +kernel
theorem dX9_level_5 : decode cX9_level 5 = .ok (.aload_n 0, 1) := by decide +kernel
theorem dX9_level_6 : decode cX9_level 6 = .ok (.invokevirtual 89, 3) := by decide +kernel
theorem dX9_level_9 : decode cX9_level 9 = .ok (.ifCond .ne 5, 3) := by decide +kernel
theorem dX9_level_12 : decode cX9_level 12 = .ok (.iconst (-1), 1) := by decide +kernel
theorem dX9_level_13 : decode cX9_level 13 = .ok (.ireturn, 1) := by decide +kernel
theorem dX9_level_14 : decode cX9_level 14 = .ok (.aload_n 0, 1) := by decide +kernel
theorem dX9_level_15 : decode cX9_level 15 = .ok (.aload_n 0, 1) := by decide +kernel
theorem dX9_level_16 : decode cX9_level 16 = .ok (.getfield 71, 3) := by decide +kernel
theorem dX9_level_19 : decode cX9_level 19 = .ok (.iconst 0, 1) := by decide +kernel
theorem dX9_level_20 : decode cX9_level 20 = .ok (.invokevirtual 193, 3) := by decide +kernel
theorem dX9_level_23 : decode cX9_level 23 = .ok (.aload_n 0, 1) := by decide +kernel
theorem dX9_level_24 : decode cX9_level 24 = .ok (.aload_n 0, 1) := by decide +kernel
theorem dX9_level_25 : decode cX9_level 25 = .ok (.getfield 71, 3) := by decide +kernel
theorem dX9_level_28 : decode cX9_level 28 = .ok (.iconst 0, 1) := by decide +kernel
theorem dX9_level_29 : decode cX9_level 29 = .ok (.invokevirtual 239, 3) := by decide +kernel
theorem dX9_level_32 : decode cX9_level 32 = .ok (.ifCond .ne 5, 3) := by decide +kernel
theorem dX9_level_35 : decode cX9_level 35 = .ok (.iconst 4, 1) := by decide +kernel
theorem dX9_level_36 : decode cX9_level 36 = .ok (.ireturn, 1) := by decide +kernel
theorem dX9_level_37 : decode cX9_level 37 = .ok (.aload_n 0, 1) := by decide +kernel
theorem dX9_level_38 : decode cX9_level 38 = .ok (.aload_n 0, 1) := by decide +kernel
theorem dX9_level_39 : decode cX9_level 39 = .ok (.getfield 71, 3) := by decide +kernel
theorem dX9_level_42 : decode cX9_level 42 = .ok (.iconst 0, 1) := by decide +kernel
theorem dX9_level_43 : decode cX9_level 43 = .ok (.invokevirtual 252, 3) := by decide +kernel
theorem dX9_level_46 : decode cX9_level 46 = .ok (.ifCond .eq 5, 3) := by decide +kernel
theorem dX9_level_49 : decode cX9_level 49 = .ok (.iconst 0, 1) := by decide +kernel
theorem dX9_level_50 : decode cX9_level 50 = .ok (.ireturn, 1) := by decide +kernel
theorem dX9_level_51 : decode cX9_level 51 = .ok (.aload_n 0, 1) := by decide +kernel
theorem dX9_level_52 : decode cX9_level 52 = .ok (.aload_n 0, 1) := by decide +kernel
theorem dX9_level_53 : decode cX9_level 53 = .ok (.getfield 71, 3) := by decide +kernel
theorem dX9_level_56 : decode cX9_level 56 = .ok (.invokevirtual 248, 3) := by decide +kernel
theorem dX9_level_59 : decode cX9_level 59 = .ok (.ifCond .ne 5, 3) := by decide +kernel
theorem dX9_level_62 : decode cX9_level 62 = .ok (.iconst 4, 1) := by decide +kernel
theorem dX9_level_63 : decode cX9_level 63 = .ok (.ireturn, 1) := by decide +kernel
theorem dX9_level_64 : decode cX9_level 64 = .ok (.aload_n 0, 1) := by decide +kernel
theorem dX9_level_65 : decode cX9_level 65 = .ok (.aload_n 0, 1) := by decide +kernel
theorem dX9_level_66 : decode cX9_level 66 = .ok (.getfield 71, 3) := by decide +kernel
theorem dX9_level_69 : decode cX9_level 69 = .ok (.iconst 0, 1) := by decide +kernel
theorem dX9_level_70 : decode cX9_level 70 = .ok (.invokevirtual 252, 3) := by decide +kernel
theorem dX9_level_73 : decode cX9_level 73 = .ok (.ifCond .eq 5, 3) := by decide +kernel
theorem dX9_level_76 : decode cX9_level 76 = .ok (.iconst 1, 1) := by decide +kernel
theorem dX9_level_77 : decode cX9_level 77 = .ok (.ireturn, 1) := by decide +kernel
theorem dX9_level_78 : decode cX9_level 78 = .ok (.aload_n 0, 1) := by decide +kernel
theorem dX9_level_79 : decode cX9_level 79 = .ok (.iconst 2, 1) := by decide +kernel
theorem dX9_level_80 : decode cX9_level 80 = .ok (.sipush 400, 3) := by decide +kernel
theorem dX9_level_83 : decode cX9_level 83 = .ok (.invokevirtual 279, 3) := by decide +kernel
theorem dX9_level_86 : decode cX9_level 86 = .ok (.aload_n 0, 1) := by decide +kernel
theorem dX9_level_87 : decode cX9_level 87 = .ok (.getfield 264, 3) := by decide +kernel
theorem dX9_level_90 : decode cX9_level 90 = .ok (.ifCond .eq 5, 3) := by decide +kernel
theorem dX9_level_93 : decode cX9_level 93 = .ok (.iconst 5, 1) := by decide +kernel
theorem dX9_level_94 : decode cX9_level 94 = .ok (.ireturn, 1) := by decide +kernel
theorem dX9_level_95 : decode cX9_level 95 = .ok (.aload_n 0, 1) := by decide +kernel
theorem dX9_level_96 : decode cX9_level 96 = .ok (.getfield 255, 3) := by decide +kernel
theorem dX9_level_99 : decode cX9_level 99 = .ok (.iconst 1, 1) := by decide +kernel
theorem dX9_level_100 : decode cX9_level 100 = .ok (.if_icmp .ne 7, 3) := by decide +kernel
theorem dX9_level_103 : decode cX9_level 103 = .ok (.iconst 2, 1) := by decide +kernel
theorem dX9_level_104 : decode cX9_level 104 = .ok (.goto 16, 3) := by decide +kernel
theorem dX9_level_107 : decode cX9_level 107 = .ok (.aload_n 0, 1) := by decide +kernel
theorem dX9_level_108 : decode cX9_level 108 = .ok (.getfield 255, 3) := by decide +kernel
theorem dX9_level_111 : decode cX9_level 111 = .ok (.iconst 2, 1) := by decide +kernel
theorem dX9_level_112 : decode cX9_level 112 = .ok (.if_icmp .ne 7, 3) := by decide +kernel
theorem dX9_level_115 : decode cX9_level 115 = .ok (.iconst 3, 1) := by decide +kernel
theorem dX9_level_116 : decode cX9_level 116 = .ok (.goto 4, 3) := by decide +kernel
theorem dX9_level_119 : decode cX9_level 119 = .ok (.iconst 4, 1) := by decide +kernel
theorem dX9_level_120 : decode cX9_level 120 = .ok (.ireturn, 1) := by decide +kernel
theorem dX9_mark_0 : decode cX9_mark 0 = .ok (.aload_n 0, 1) := by decide +kernel
theorem dX9_mark_1 : decode cX9_mark 1 = .ok (.iconst 0, 1) := by decide +kernel
theorem dX9_mark_2 : decode cX9_mark 2 = .ok (.putfield 80, 3) := by decide +kernel
theorem dX9_mark_5 : decode cX9_mark 5 = .ok (.aload_n 0, 1) := by decide +kernel
theorem dX9_mark_6 : decode cX9_mark 6 = .ok (.iload_n 1, 1) := by decide +kernel
theorem dX9_mark_7 : decode cX9_mark 7 = .ok (.iload_n 2, 1) := by decide +kernel
theorem dX9_mark_8 : decode cX9_mark 8 = .ok (.invokevirtual 181, 3) := by decide +kernel
theorem dX9_mark_11 : decode cX9_mark 11 = .ok (.ifCond .eq 15, 3) := by decide +kernel
theorem dX9_mark_14 : decode cX9_mark 14 = .ok (.iload_n 3, 1) := by decide +kernel
theorem dX9_mark_15 : decode cX9_mark 15 = .ok (.iconst (-1), 1) := by decide +kernel
theorem dX9_mark_16 : decode cX9_mark 16 = .ok (.aload_n 0, 1) := by decide +kernel
theorem dX9_mark_17 : decode cX9_mark 17 = .ok (.getfield 169, 3) := by decide +kernel
theorem dX9_mark_20 : decode cX9_mark 20 = .ok (.invokestatic 97, 3) := by decide +kernel
theorem dX9_mark_23 : decode cX9_mark 23 = .ok (.ifCond .ne 5, 3) := by decide +kernel
theorem dX9_mark_26 : decode cX9_mark 26 = .ok (.iconst 0, 1) := by decide +kernel
theorem dX9_mark_27 : decode cX9_mark 27 = .ok (.ireturn, 1) := by decide +kernel
theorem dX9_mark_28 : decode cX9_mark 28 = .ok (.aload_n 0, 1) := by decide +kernel
theorem dX9_mark_29 : decode cX9_mark 29 = .ok (.getfield 22, 3) := by decide +kernel
theorem dX9_mark_32 : decode cX9_mark 32 = .ok (.bipush 12, 2) := by decide +kernel
theorem dX9_mark_34 : decode cX9_mark 34 = .ok (.iload_n 2, 1) := by decide +kernel
theorem dX9_mark_35 : decode cX9_mark 35 = .ok (.imul, 1) := by decide +kernel
theorem dX9_mark_36 : decode cX9_mark 36 = .ok (.iload_n 1, 1) := by decide +kernel
theorem dX9_mark_37 : decode cX9_mark 37 = .ok (.iadd, 1) := by decide +kernel
theorem dX9_mark_38 : decode cX9_mark 38 = .ok (.iload_n 3, 1) := by decide +kernel
theorem dX9_mark_39 : decode cX9_mark 39 = .ok (.iastore, 1) := by decide +kernel
theorem dX9_mark_40 : decode cX9_mark 40 = .ok (.iconst 1, 1) := by decide +kernel
theorem dX9_mark_41 : decode cX9_mark 41 = .ok (.ireturn, 1) := by decide +kernel
theorem dX9_marked_0 : decode cX9_marked 0 = .ok (.aload_n 0, 1) := by decide +kernel
theorem dX9_marked_1 : decode cX9_marked 1 = .ok (.iconst 0, 1) := by decide +kernel
theorem dX9_marked_2 : decode cX9_marked 2 = .ok (.putfield 80, 3) := by decide +kernel
theorem dX9_marked_5 : decode cX9_marked 5 = .ok (.aload_n 0, 1) := by decide +kernel
theorem dX9_marked_6 : decode cX9_marked 6 = .ok (.iload_n 1, 1) := by decide +kernel
theorem dX9_marked_7 : decode cX9_marked 7 = .ok (.iload_n 2, 1) := by decide +kernel
theorem dX9_marked_8 : decode cX9_marked 8 = .ok (.invokevirtual 181, 3) := by decide +kernel
theorem dX9_marked_11 : decode cX9_marked 11 = .ok (.ifCond .eq 17, 3) := by decide +kernel
theorem dX9_marked_14 : decode cX9_marked 14 = .ok (.aload_n 0, 1) := by decide +kernel
theorem dX9_marked_15 : decode cX9_marked 15 = .ok (.getfield 22, 3) := by decide +kernel
theorem dX9_marked_18 : decode cX9_marked 18 = .ok (.bipush 12, 2) := by decide +kernel
theorem dX9_marked_20 : decode cX9_marked 20 = .ok (.iload_n 2, 1) := by decide +kernel
theorem dX9_marked_21 : decode cX9_marked 21 = .ok (.imul, 1) := by decide +kernel
theorem dX9_marked_22 : decode cX9_marked 22 = .ok (.iload_n 1, 1) := by decide +kernel
theorem dX9_marked_23 : decode cX9_marked 23 = .ok (.iadd, 1) := by decide +kernel
theorem dX9_marked_24 : decode cX9_marked 24 = .ok (.iaload, 1) := by decide +kernel
theorem dX9_marked_25 : decode cX9_marked 25 = .ok (.goto 4, 3) := by decide +kernel
theorem dX9_marked_28 : decode cX9_marked 28 = .ok (.iconst (-1), 1) := by decide +kernel
theorem dX9_marked_29 : decode cX9_marked 29 = .ok (.ireturn, 1) := by decide +kernel
theorem dX9_shown_0 : decode cX9_shown 0 = .ok (.aload_n 0, 1) := by decide +kernel
theorem dX9_shown_1 : decode cX9_shown 1 = .ok (.getfield 22, 3) := by decide +kernel
theorem dX9_shown_4 : decode cX9_shown 4 = .ok (.iload_n 1, 1) := by decide +kernel
theorem dX9_shown_5 : decode cX9_shown 5 = .ok (.iaload, 1) := by decide +kernel
theorem dX9_shown_6 : decode cX9_shown 6 = .ok (.iconst (-1), 1) := by decide +kernel
theorem dX9_shown_7 : decode cX9_shown 7 = .ok (.if_icmp .ne 7, 3) := by decide +kernel
theorem dX9_shown_10 : decode cX9_shown 10 = .ok (.iconst 0, 1) := by decide +kernel
theorem dX9_shown_11 : decode cX9_shown 11 = .ok (.goto 9, 3) := by decide +kernel
theorem dX9_shown_14 : decode cX9_shown 14 = .ok (.aload_n 0, 1) := by decide +kernel
theorem dX9_shown_15 : decode cX9_shown 15 = .ok (.getfield 22, 3) := by decide +kernel
theorem dX9_shown_18 : decode cX9_shown 18 = .ok (.iload_n 1, 1) := by decide +kernel
theorem dX9_shown_19 : decode cX9_shown 19 = .ok (.iaload, 1) := by decide +kernel
theorem dX9_shown_20 : decode cX9_shown 20 = .ok (.ireturn, 1) := by decide +kernel
theorem dX9_readsAs_0 : decode cX9_readsAs 0 = .ok (.iconst 0, 1) := by decide +kernel
theorem dX9_readsAs_1 : decode cX9_readsAs 1 = .ok (.istore_n 2, 1) := by decide +kernel
theorem dX9_readsAs_2 : decode cX9_readsAs 2 = .ok (.iconst 0, 1) := by decide +kernel
theorem dX9_readsAs_3 : decode cX9_readsAs 3 = .ok (.istore_n 3, 1) := by decide +kernel
theorem dX9_readsAs_4 : decode cX9_readsAs 4 = .ok (.iload_n 3, 1) := by decide +kernel
theorem dX9_readsAs_5 : decode cX9_readsAs 5 = .ok (.aload_n 0, 1) := by decide +kernel
theorem dX9_readsAs_6 : decode cX9_readsAs 6 = .ok (.iload_n 1, 1) := by decide +kernel
theorem dX9_readsAs_7 : decode cX9_readsAs 7 = .ok (.invokevirtual 209, 3) := by decide +kernel
theorem dX9_readsAs_10 : decode cX9_readsAs 10 = .ok (.if_icmp .ge 91, 3) := by decide +kernel
theorem dX9_readsAs_13 : decode cX9_readsAs 13 = .ok (.aload_n 0, 1) := by decide +kernel
theorem dX9_readsAs_14 : decode cX9_readsAs 14 = .ok (.aload_n 0, 1) := by decide +kernel
theorem dX9_readsAs_15 : decode cX9_readsAs 15 = .ok (.iload_n 1, 1) := by decide +kernel
theorem dX9_readsAs_16 : decode cX9_readsAs 16 = .ok (.iload_n 3, 1) := by decide +kernel
theorem dX9_readsAs_17 : decode cX9_readsAs 17 = .ok (.invokevirtual 206, 3) := by decide +kernel
theorem dX9_readsAs_20 : decode cX9_readsAs 20 = .ok (.invokevirtual 285, 3) := by decide +kernel
theorem dX9_readsAs_23 : decode cX9_readsAs 23 = .ok (.istore 4, 2) := by decide +kernel
theorem dX9_readsAs_25 : decode cX9_readsAs 25 = .ok (.iload_n 3, 1) := by decide +kernel
theorem dX9_readsAs_26 : decode cX9_readsAs 26 = .ok (.ifCond .le 18, 3) := by decide +kernel
theorem dX9_readsAs_29 : decode cX9_readsAs 29 = .ok (.aload_n 0, 1) := by decide +kernel
theorem dX9_readsAs_30 : decode cX9_readsAs 30 = .ok (.aload_n 0, 1) := by decide +kernel
theorem dX9_readsAs_31 : decode cX9_readsAs 31 = .ok (.iload_n 1, 1) := by decide +kernel
theorem dX9_readsAs_32 : decode cX9_readsAs 32 = .ok (.iload_n 3, 1) := by decide +kernel
theorem dX9_readsAs_33 : decode cX9_readsAs 33 = .ok (.iconst 1, 1) := by decide +kernel
theorem dX9_readsAs_34 : decode cX9_readsAs 34 = .ok (.isub, 1) := by decide +kernel
theorem dX9_readsAs_35 : decode cX9_readsAs 35 = .ok (.invokevirtual 206, 3) := by decide +kernel
theorem dX9_readsAs_38 : decode cX9_readsAs 38 = .ok (.invokevirtual 285, 3) := by decide +kernel
theorem dX9_readsAs_41 : decode cX9_readsAs 41 = .ok (.goto 4, 3) := by decide +kernel
theorem dX9_readsAs_44 : decode cX9_readsAs 44 = .ok (.iconst 0, 1) := by decide +kernel
theorem dX9_readsAs_45 : decode cX9_readsAs 45 = .ok (.istore 5, 2) := by decide +kernel
theorem dX9_readsAs_47 : decode cX9_readsAs 47 = .ok (.iload 4, 2) := by decide +kernel
theorem dX9_readsAs_49 : decode cX9_readsAs 49 = .ok (.ifCond .ne 6, 3) := by decide +kernel
theorem dX9_readsAs_52 : decode cX9_readsAs 52 = .ok (.goto 43, 3) := by decide +kernel
theorem dX9_readsAs_55 : decode cX9_readsAs 55 = .ok (.iload 4, 2) := by decide +kernel
theorem dX9_readsAs_57 : decode cX9_readsAs 57 = .ok (.iload 5, 2) := by decide +kernel
theorem dX9_readsAs_59 : decode cX9_readsAs 59 = .ok (.if_icmp .ne 18, 3) := by decide +kernel
theorem dX9_readsAs_62 : decode cX9_readsAs 62 = .ok (.aload_n 0, 1) := by decide +kernel
theorem dX9_readsAs_63 : decode cX9_readsAs 63 = .ok (.getfield 74, 3) := by decide +kernel
theorem dX9_readsAs_66 : decode cX9_readsAs 66 = .ok (.iload_n 2, 1) := by decide +kernel
theorem dX9_readsAs_67 : decode cX9_readsAs 67 = .ok (.iconst 1, 1) := by decide +kernel
theorem dX9_readsAs_68 : decode cX9_readsAs 68 = .ok (.isub, 1) := by decide +kernel
theorem dX9_readsAs_69 : decode cX9_readsAs 69 = .ok (.dup2, 1) := by decide +kernel
theorem dX9_readsAs_70 : decode cX9_readsAs 70 = .ok (.iaload, 1) := by decide +kernel
theorem dX9_readsAs_71 : decode cX9_readsAs 71 = .ok (.iconst 1, 1) := by decide +kernel
theorem dX9_readsAs_72 : decode cX9_readsAs 72 = .ok (.iadd, 1) := by decide +kernel
theorem dX9_readsAs_73 : decode cX9_readsAs 73 = .ok (.iastore, 1) := by decide +kernel
theorem dX9_readsAs_74 : decode cX9_readsAs 74 = .ok (.goto 21, 3) := by decide +kernel
theorem dX9_readsAs_77 : decode cX9_readsAs 77 = .ok (.aload_n 0, 1) := by decide +kernel
theorem dX9_readsAs_78 : decode cX9_readsAs 78 = .ok (.getfield 74, 3) := by decide +kernel
theorem dX9_readsAs_81 : decode cX9_readsAs 81 = .ok (.iload_n 2, 1) := by decide +kernel
theorem dX9_readsAs_82 : decode cX9_readsAs 82 = .ok (.iconst 1, 1) := by decide +kernel
theorem dX9_readsAs_83 : decode cX9_readsAs 83 = .ok (.iastore, 1) := by decide +kernel
theorem dX9_readsAs_84 : decode cX9_readsAs 84 = .ok (.aload_n 0, 1) := by decide +kernel
theorem dX9_readsAs_85 : decode cX9_readsAs 85 = .ok (.getfield 77, 3) := by decide +kernel
theorem dX9_readsAs_88 : decode cX9_readsAs 88 = .ok (.iload_n 2, 1) := by decide +kernel
theorem dX9_readsAs_89 : decode cX9_readsAs 89 = .ok (.iload 4, 2) := by decide +kernel
theorem dX9_readsAs_91 : decode cX9_readsAs 91 = .ok (.iastore, 1) := by decide +kernel
theorem dX9_readsAs_92 : decode cX9_readsAs 92 = .ok (.iinc 2 1, 3) := by decide +kernel
theorem dX9_readsAs_95 : decode cX9_readsAs 95 = .ok (.iinc 3 1, 3) := by decide +kernel
theorem dX9_readsAs_98 : decode cX9_readsAs 98 = .ok (.goto (-94), 3) := by decide +kernel
theorem dX9_readsAs_101 : decode cX9_readsAs 101 = .ok (.iload_n 2, 1) := by decide +kernel
theorem dX9_readsAs_102 : decode cX9_readsAs 102 = .ok (.ireturn, 1) := by decide +kernel
theorem dX9_isDone_0 : decode cX9_isDone 0 = .ok (.iconst 0, 1) := by decide +kernel
theorem dX9_isDone_1 : decode cX9_isDone 1 = .ok (.istore_n 1, 1) := by decide +kernel
theorem dX9_isDone_2 : decode cX9_isDone 2 = .ok (.iload_n 1, 1) := by decide +kernel
theorem dX9_isDone_3 : decode cX9_isDone 3 = .ok (.sipush 144, 3) := by decide +kernel
theorem dX9_isDone_6 : decode cX9_isDone 6 = .ok (.if_icmp .ge 35, 3) := by decide +kernel
theorem dX9_isDone_9 : decode cX9_isDone 9 = .ok (.aload_n 0, 1) := by decide +kernel
theorem dX9_isDone_10 : decode cX9_isDone 10 = .ok (.getfield 19, 3) := by decide +kernel
theorem dX9_isDone_13 : decode cX9_isDone 13 = .ok (.iload_n 1, 1) := by decide +kernel
theorem dX9_isDone_14 : decode cX9_isDone 14 = .ok (.iaload, 1) := by decide +kernel
theorem dX9_isDone_15 : decode cX9_isDone 15 = .ok (.iconst (-1), 1) := by decide +kernel
theorem dX9_isDone_16 : decode cX9_isDone 16 = .ok (.if_icmp .eq 19, 3) := by decide +kernel
theorem dX9_isDone_19 : decode cX9_isDone 19 = .ok (.aload_n 0, 1) := by decide +kernel
theorem dX9_isDone_20 : decode cX9_isDone 20 = .ok (.getfield 19, 3) := by decide +kernel
theorem dX9_isDone_23 : decode cX9_isDone 23 = .ok (.iload_n 1, 1) := by decide +kernel
theorem dX9_isDone_24 : decode cX9_isDone 24 = .ok (.iaload, 1) := by decide +kernel
theorem dX9_isDone_25 : decode cX9_isDone 25 = .ok (.aload_n 0, 1) := by decide +kernel
theorem dX9_isDone_26 : decode cX9_isDone 26 = .ok (.iload_n 1, 1) := by decide +kernel
theorem dX9_isDone_27 : decode cX9_isDone 27 = .ok (.invokevirtual 285, 3) := by decide +kernel
theorem dX9_isDone_30 : decode cX9_isDone 30 = .ok (.if_icmp .eq 5, 3) := by decide +kernel
theorem dX9_isDone_33 : decode cX9_isDone 33 = .ok (.iconst 0, 1) := by decide +kernel
theorem dX9_isDone_34 : decode cX9_isDone 34 = .ok (.ireturn, 1) := by decide +kernel
theorem dX9_isDone_35 : decode cX9_isDone 35 = .ok (.iinc 1 1, 3) := by decide +kernel
theorem dX9_isDone_38 : decode cX9_isDone 38 = .ok (.goto (-36), 3) := by decide +kernel
theorem dX9_isDone_41 : decode cX9_isDone 41 = .ok (.iconst 0, 1) := by decide +kernel
theorem dX9_isDone_42 : decode cX9_isDone 42 = .ok (.istore_n 1, 1) := by decide +kernel
theorem dX9_isDone_43 : decode cX9_isDone 43 = .ok (.iload_n 1, 1) := by decide +kernel
theorem dX9_isDone_44 : decode cX9_isDone 44 = .ok (.aload_n 0, 1) := by decide +kernel
theorem dX9_isDone_45 : decode cX9_isDone 45 = .ok (.invokevirtual 93, 3) := by decide +kernel
theorem dX9_isDone_48 : decode cX9_isDone 48 = .ok (.if_icmp .ge 85, 3) := by decide +kernel
theorem dX9_isDone_51 : decode cX9_isDone 51 = .ok (.aload_n 0, 1) := by decide +kernel
theorem dX9_isDone_52 : decode cX9_isDone 52 = .ok (.iload_n 1, 1) := by decide +kernel
theorem dX9_isDone_53 : decode cX9_isDone 53 = .ok (.invokevirtual 288, 3) := by decide +kernel
theorem dX9_isDone_56 : decode cX9_isDone 56 = .ok (.aload_n 0, 1) := by decide +kernel
theorem dX9_isDone_57 : decode cX9_isDone 57 = .ok (.getfield 9, 3) := by decide +kernel
theorem dX9_isDone_60 : decode cX9_isDone 60 = .ok (.iload_n 1, 1) := by decide +kernel
theorem dX9_isDone_61 : decode cX9_isDone 61 = .ok (.iaload, 1) := by decide +kernel
theorem dX9_isDone_62 : decode cX9_isDone 62 = .ok (.if_icmp .eq 5, 3) := by decide +kernel
theorem dX9_isDone_65 : decode cX9_isDone 65 = .ok (.iconst 0, 1) := by decide +kernel
theorem dX9_isDone_66 : decode cX9_isDone 66 = .ok (.ireturn, 1) := by decide +kernel
theorem dX9_isDone_67 : decode cX9_isDone 67 = .ok (.iconst 0, 1) := by decide +kernel
theorem dX9_isDone_68 : decode cX9_isDone 68 = .ok (.istore_n 2, 1) := by decide +kernel
theorem dX9_isDone_69 : decode cX9_isDone 69 = .ok (.iload_n 2, 1) := by decide +kernel
theorem dX9_isDone_70 : decode cX9_isDone 70 = .ok (.aload_n 0, 1) := by decide +kernel
theorem dX9_isDone_71 : decode cX9_isDone 71 = .ok (.getfield 9, 3) := by decide +kernel
theorem dX9_isDone_74 : decode cX9_isDone 74 = .ok (.iload_n 1, 1) := by decide +kernel
theorem dX9_isDone_75 : decode cX9_isDone 75 = .ok (.iaload, 1) := by decide +kernel
theorem dX9_isDone_76 : decode cX9_isDone 76 = .ok (.if_icmp .ge 51, 3) := by decide +kernel
theorem dX9_isDone_79 : decode cX9_isDone 79 = .ok (.aload_n 0, 1) := by decide +kernel
theorem dX9_isDone_80 : decode cX9_isDone 80 = .ok (.getfield 74, 3) := by decide +kernel
theorem dX9_isDone_83 : decode cX9_isDone 83 = .ok (.iload_n 2, 1) := by decide +kernel
theorem dX9_isDone_84 : decode cX9_isDone 84 = .ok (.iaload, 1) := by decide +kernel
theorem dX9_isDone_85 : decode cX9_isDone 85 = .ok (.aload_n 0, 1) := by decide +kernel
theorem dX9_isDone_86 : decode cX9_isDone 86 = .ok (.getfield 13, 3) := by decide +kernel
theorem dX9_isDone_89 : decode cX9_isDone 89 = .ok (.bipush 12, 2) := by decide +kernel
theorem dX9_isDone_91 : decode cX9_isDone 91 = .ok (.iload_n 1, 1) := by decide +kernel
theorem dX9_isDone_92 : decode cX9_isDone 92 = .ok (.imul, 1) := by decide +kernel
theorem dX9_isDone_93 : decode cX9_isDone 93 = .ok (.iload_n 2, 1) := by decide +kernel
theorem dX9_isDone_94 : decode cX9_isDone 94 = .ok (.iadd, 1) := by decide +kernel
theorem dX9_isDone_95 : decode cX9_isDone 95 = .ok (.iaload, 1) := by decide +kernel
theorem dX9_isDone_96 : decode cX9_isDone 96 = .ok (.if_icmp .ne 23, 3) := by decide +kernel
theorem dX9_isDone_99 : decode cX9_isDone 99 = .ok (.aload_n 0, 1) := by decide +kernel
theorem dX9_isDone_100 : decode cX9_isDone 100 = .ok (.getfield 77, 3) := by decide +kernel
theorem dX9_isDone_103 : decode cX9_isDone 103 = .ok (.iload_n 2, 1) := by decide +kernel
theorem dX9_isDone_104 : decode cX9_isDone 104 = .ok (.iaload, 1) := by decide +kernel
theorem dX9_isDone_105 : decode cX9_isDone 105 = .ok (.aload_n 0, 1) := by decide +kernel
theorem dX9_isDone_106 : decode cX9_isDone 106 = .ok (.getfield 16, 3) := by decide +kernel
theorem dX9_isDone_109 : decode cX9_isDone 109 = .ok (.bipush 12, 2) := by decide +kernel
theorem dX9_isDone_111 : decode cX9_isDone 111 = .ok (.iload_n 1, 1) := by decide +kernel
theorem dX9_isDone_112 : decode cX9_isDone 112 = .ok (.imul, 1) := by decide +kernel
theorem dX9_isDone_113 : decode cX9_isDone 113 = .ok (.iload_n 2, 1) := by decide +kernel
theorem dX9_isDone_114 : decode cX9_isDone 114 = .ok (.iadd, 1) := by decide +kernel
theorem dX9_isDone_115 : decode cX9_isDone 115 = .ok (.iaload, 1) := by decide +kernel
theorem dX9_isDone_116 : decode cX9_isDone 116 = .ok (.if_icmp .eq 5, 3) := by decide +kernel
theorem dX9_isDone_119 : decode cX9_isDone 119 = .ok (.iconst 0, 1) := by decide +kernel
theorem dX9_isDone_120 : decode cX9_isDone 120 = .ok (.ireturn, 1) := by decide +kernel
theorem dX9_isDone_121 : decode cX9_isDone 121 = .ok (.iinc 2 1, 3) := by decide +kernel
theorem dX9_isDone_124 : decode cX9_isDone 124 = .ok (.goto (-55), 3) := by decide +kernel
theorem dX9_isDone_127 : decode cX9_isDone 127 = .ok (.iinc 1 1, 3) := by decide +kernel
theorem dX9_isDone_130 : decode cX9_isDone 130 = .ok (.goto (-87), 3) := by decide +kernel
theorem dX9_isDone_133 : decode cX9_isDone 133 = .ok (.iconst 1, 1) := by decide +kernel
theorem dX9_isDone_134 : decode cX9_isDone 134 = .ok (.ireturn, 1) := by decide +kernel
theorem dX9_done_0 : decode cX9_done 0 = .ok (.aload_n 0, 1) := by decide +kernel
theorem dX9_done_1 : decode cX9_done 1 = .ok (.iconst 0, 1) := by decide +kernel
theorem dX9_done_2 : decode cX9_done 2 = .ok (.putfield 80, 3) := by decide +kernel
theorem dX9_done_5 : decode cX9_done 5 = .ok (.aload_n 0, 1) := by decide +kernel
theorem dX9_done_6 : decode cX9_done 6 = .ok (.invokevirtual 89, 3) := by decide +kernel
theorem dX9_done_9 : decode cX9_done 9 = .ok (.ifCond .eq 18, 3) := by decide +kernel
theorem dX9_done_12 : decode cX9_done 12 = .ok (.aload_n 0, 1) := by decide +kernel
theorem dX9_done_13 : decode cX9_done 13 = .ok (.invokevirtual 291, 3) := by decide +kernel
theorem dX9_done_16 : decode cX9_done 16 = .ok (.ifCond .eq 7, 3) := by decide +kernel
theorem dX9_done_19 : decode cX9_done 19 = .ok (.iconst 1, 1) := by decide +kernel
theorem dX9_done_20 : decode cX9_done 20 = .ok (.goto 8, 3) := by decide +kernel
theorem dX9_done_23 : decode cX9_done 23 = .ok (.iconst 0, 1) := by decide +kernel
theorem dX9_done_24 : decode cX9_done 24 = .ok (.goto 4, 3) := by decide +kernel
theorem dX9_done_27 : decode cX9_done 27 = .ok (.iconst (-1), 1) := by decide +kernel
theorem dX9_done_28 : decode cX9_done 28 = .ok (.ireturn, 1) := by decide +kernel
theorem dX9_wrong_0 : decode cX9_wrong 0 = .ok (.aload_n 0, 1) := by decide +kernel
theorem dX9_wrong_1 : decode cX9_wrong 1 = .ok (.iconst 0, 1) := by decide +kernel
theorem dX9_wrong_2 : decode cX9_wrong 2 = .ok (.putfield 80, 3) := by decide +kernel
theorem dX9_wrong_5 : decode cX9_wrong 5 = .ok (.aload_n 0, 1) := by decide +kernel
theorem dX9_wrong_6 : decode cX9_wrong 6 = .ok (.invokevirtual 89, 3) := by decide +kernel
theorem dX9_wrong_9 : decode cX9_wrong 9 = .ok (.ifCond .eq 17, 3) := by decide +kernel
theorem dX9_wrong_12 : decode cX9_wrong 12 = .ok (.aload_n 0, 1) := by decide +kernel
theorem dX9_wrong_13 : decode cX9_wrong 13 = .ok (.getfield 105, 3) := by decide +kernel
theorem dX9_wrong_16 : decode cX9_wrong 16 = .ok (.ifCond .eq 10, 3) := by decide +kernel
theorem dX9_wrong_19 : decode cX9_wrong 19 = .ok (.aload_n 0, 1) := by decide +kernel
theorem dX9_wrong_20 : decode cX9_wrong 20 = .ok (.getfield 282, 3) := by decide +kernel
theorem dX9_wrong_23 : decode cX9_wrong 23 = .ok (.ifCond .ne 5, 3) := by decide +kernel
theorem dX9_wrong_26 : decode cX9_wrong 26 = .ok (.iconst (-1), 1) := by decide +kernel
theorem dX9_wrong_27 : decode cX9_wrong 27 = .ok (.ireturn, 1) := by decide +kernel
theorem dX9_wrong_28 : decode cX9_wrong 28 = .ok (.iconst 0, 1) := by decide +kernel
theorem dX9_wrong_29 : decode cX9_wrong 29 = .ok (.istore_n 1, 1) := by decide +kernel
theorem dX9_wrong_30 : decode cX9_wrong 30 = .ok (.iconst 0, 1) := by decide +kernel
theorem dX9_wrong_31 : decode cX9_wrong 31 = .ok (.istore_n 2, 1) := by decide +kernel
theorem dX9_wrong_32 : decode cX9_wrong 32 = .ok (.iload_n 2, 1) := by decide +kernel
theorem dX9_wrong_33 : decode cX9_wrong 33 = .ok (.aload_n 0, 1) := by decide +kernel
theorem dX9_wrong_34 : decode cX9_wrong 34 = .ok (.getfield 83, 3) := by decide +kernel
theorem dX9_wrong_37 : decode cX9_wrong 37 = .ok (.aload_n 0, 1) := by decide +kernel
theorem dX9_wrong_38 : decode cX9_wrong 38 = .ok (.getfield 86, 3) := by decide +kernel
theorem dX9_wrong_41 : decode cX9_wrong 41 = .ok (.imul, 1) := by decide +kernel
theorem dX9_wrong_42 : decode cX9_wrong 42 = .ok (.if_icmp .ge 48, 3) := by decide +kernel
theorem dX9_wrong_45 : decode cX9_wrong 45 = .ok (.aload_n 0, 1) := by decide +kernel
theorem dX9_wrong_46 : decode cX9_wrong 46 = .ok (.iload_n 2, 1) := by decide +kernel
theorem dX9_wrong_47 : decode cX9_wrong 47 = .ok (.invokevirtual 236, 3) := by decide +kernel
theorem dX9_wrong_50 : decode cX9_wrong 50 = .ok (.istore_n 3, 1) := by decide +kernel
theorem dX9_wrong_51 : decode cX9_wrong 51 = .ok (.iload_n 1, 1) := by decide +kernel
theorem dX9_wrong_52 : decode cX9_wrong 52 = .ok (.aload_n 0, 1) := by decide +kernel
theorem dX9_wrong_53 : decode cX9_wrong 53 = .ok (.getfield 22, 3) := by decide +kernel
theorem dX9_wrong_56 : decode cX9_wrong 56 = .ok (.iload_n 3, 1) := by decide +kernel
theorem dX9_wrong_57 : decode cX9_wrong 57 = .ok (.iaload, 1) := by decide +kernel
theorem dX9_wrong_58 : decode cX9_wrong 58 = .ok (.iconst (-1), 1) := by decide +kernel
theorem dX9_wrong_59 : decode cX9_wrong 59 = .ok (.if_icmp .eq 22, 3) := by decide +kernel
theorem dX9_wrong_62 : decode cX9_wrong 62 = .ok (.aload_n 0, 1) := by decide +kernel
theorem dX9_wrong_63 : decode cX9_wrong 63 = .ok (.getfield 22, 3) := by decide +kernel
theorem dX9_wrong_66 : decode cX9_wrong 66 = .ok (.iload_n 3, 1) := by decide +kernel
theorem dX9_wrong_67 : decode cX9_wrong 67 = .ok (.iaload, 1) := by decide +kernel
theorem dX9_wrong_68 : decode cX9_wrong 68 = .ok (.aload_n 0, 1) := by decide +kernel
theorem dX9_wrong_69 : decode cX9_wrong 69 = .ok (.getfield 32, 3) := by decide +kernel
theorem dX9_wrong_72 : decode cX9_wrong 72 = .ok (.iload_n 3, 1) := by decide +kernel
theorem dX9_wrong_73 : decode cX9_wrong 73 = .ok (.iaload, 1) := by decide +kernel
theorem dX9_wrong_74 : decode cX9_wrong 74 = .ok (.if_icmp .eq 7, 3) := by decide +kernel
theorem dX9_wrong_77 : decode cX9_wrong 77 = .ok (.iconst 1, 1) := by decide +kernel
theorem dX9_wrong_78 : decode cX9_wrong 78 = .ok (.goto 4, 3) := by decide +kernel
theorem dX9_wrong_81 : decode cX9_wrong 81 = .ok (.iconst 0, 1) := by decide +kernel
theorem dX9_wrong_82 : decode cX9_wrong 82 = .ok (.iadd, 1) := by decide +kernel
theorem dX9_wrong_83 : decode cX9_wrong 83 = .ok (.istore_n 1, 1) := by decide +kernel
theorem dX9_wrong_84 : decode cX9_wrong 84 = .ok (.iinc 2 1, 3) := by decide +kernel
theorem dX9_wrong_87 : decode cX9_wrong 87 = .ok (.goto (-55), 3) := by decide +kernel
theorem dX9_wrong_90 : decode cX9_wrong 90 = .ok (.iload_n 1, 1) := by decide +kernel
theorem dX9_wrong_91 : decode cX9_wrong 91 = .ok (.ireturn, 1) := by decide +kernel
def f_X9_rule (a1 : Int32) (s : St) : Option (Int32 × St) :=
  Option.bind (some (sF s 43 0 (0 : Int32))) fun s1 =>
  Option.bind (f_X9_isLine a1 s1) fun r2 =>
  if r2.1 = 0 then (
    some ((-1 : Int32), r2.2))
  else (
    if (r2.2.1 43 10) = 0 then (
      some ((-1 : Int32), r2.2))
    else (
      Option.bind (f_X9_lineRule 49 (0 : Int32) a1 r2.2) fun r5 =>
      some (r5.1, r5.2)))
set_option maxRecDepth 100000 in
set_option maxHeartbeats 4000000 in
theorem ok_X9_rule {a1 : Int32} {s : St} {r : Int32 × St} (h : f_X9_rule a1 s = some r) : Ct 19 m_X9_rule [.ref 43, .int a1] s (some (.int r.1)) r.2 := by
  unfold f_X9_rule at h
  refine ct_of [some (.ref 43), some (.int a1)] 0 (by decide) rfl (Nat.le_of_ble_eq_true rfl) ?_
  refine wp_aload_n (i := 0) dX9_rule_0 rfl rfl ?_
  refine wp_iconst (v := 0) dX9_rule_1 (by decide +kernel) ?_
  obtain ⟨s1, es1, h⟩ := ob h
  refine wp_putI2 dX9_rule_2 fl_X9_80 rfl rfl rfl rfl es1 ?_
  refine wp_aload_n (i := 0) dX9_rule_5 rfl rfl ?_
  refine wp_iload_n (i := 1) dX9_rule_6 rfl rfl ?_
  obtain ⟨r2, er2, h⟩ := ob h
  refine wp_cVi (N := m_X9_isLine) (As := [.int a1]) (rest := []) dX9_rule_7 ml_X9_189 mo_X9_isLine vo_X9_isLine rfl rfl (ok_X9_isLine er2) (by decide) (Nat.le_of_ble_eq_true rfl) ?_
  refine wp_if_eq (tgt := 33) dX9_rule_10 (by decide) (fun c3 => ?_) (fun c3 => ?_)
  · rw [if_pos c3] at h
    refine wp_iconst (v := -1) dX9_rule_33 (by decide +kernel) ?_
    obtain rfl := Option.some.inj h
    exact wp_iret dX9_rule_34 rfl rfl
  · rw [if_neg c3] at h
    refine wp_aload_n (i := 0) dX9_rule_13 rfl rfl ?_
    refine wp_getI dX9_rule_14 fl_X9_101 rfl rfl ?_
    refine wp_if_eq (tgt := 33) dX9_rule_17 (by decide) (fun c4 => ?_) (fun c4 => ?_)
    · rw [if_pos c4] at h
      refine wp_iconst (v := -1) dX9_rule_33 (by decide +kernel) ?_
      obtain rfl := Option.some.inj h
      exact wp_iret dX9_rule_34 rfl rfl
    · rw [if_neg c4] at h
      refine wp_aload_n (i := 0) dX9_rule_20 rfl rfl ?_
      refine wp_aload_n (i := 0) dX9_rule_21 rfl rfl ?_
      refine wp_getR (t := 49) dX9_rule_22 fl_X9_25 rfl rfl ?_
      refine wp_iconst (v := 0) dX9_rule_25 (by decide +kernel) ?_
      refine wp_iload_n (i := 1) dX9_rule_26 rfl rfl ?_
      obtain ⟨r5, er5, h⟩ := ob h
      refine wp_cVi (N := m_X9_lineRule) (As := [.ref 49, .int (0 : Int32), .int a1]) (rest := []) dX9_rule_27 ml_X9_229 mo_X9_lineRule vo_X9_lineRule rfl rfl (ok_X9_lineRule er5) (by decide) (Nat.le_of_ble_eq_true rfl) ?_
      refine wp_goto (tgt := 34) dX9_rule_30 (by decide) ?_
      obtain rfl := Option.some.inj h
      exact wp_iret dX9_rule_34 rfl rfl
def f_X9_ways (a1 : Int32) (s : St) : Option (Int64 × St) :=
  Option.bind (some (sF s 43 0 (0 : Int32))) fun s1 =>
  Option.bind (f_X9_isLine a1 s1) fun r2 =>
  if r2.1 = 0 then (
    some ((-1 : Int64), r2.2))
  else (
    if (r2.2.1 43 10) = 0 then (
      some ((-1 : Int64), r2.2))
    else (
      Option.bind (f_X9_allWays 49 (0 : Int32) a1 r2.2) fun s5 =>
      some (s5.2.1 43 36, s5)))
set_option maxRecDepth 100000 in
set_option maxHeartbeats 4000000 in
theorem ok_X9_ways {a1 : Int32} {s : St} {r : Int64 × St} (h : f_X9_ways a1 s = some r) : Ct 18 m_X9_ways [.ref 43, .int a1] s (some (.long r.1)) r.2 := by
  unfold f_X9_ways at h
  refine ct_of [some (.ref 43), some (.int a1)] 0 (by decide) rfl (Nat.le_of_ble_eq_true rfl) ?_
  refine wp_aload_n (i := 0) dX9_ways_0 rfl rfl ?_
  refine wp_iconst (v := 0) dX9_ways_1 (by decide +kernel) ?_
  obtain ⟨s1, es1, h⟩ := ob h
  refine wp_putI2 dX9_ways_2 fl_X9_80 rfl rfl rfl rfl es1 ?_
  refine wp_aload_n (i := 0) dX9_ways_5 rfl rfl ?_
  refine wp_iload_n (i := 1) dX9_ways_6 rfl rfl ?_
  obtain ⟨r2, er2, h⟩ := ob h
  refine wp_cVi (N := m_X9_isLine) (As := [.int a1]) (rest := []) dX9_ways_7 ml_X9_189 mo_X9_isLine vo_X9_isLine rfl rfl (ok_X9_isLine er2) (by decide) (Nat.le_of_ble_eq_true rfl) ?_
  refine wp_if_eq (tgt := 20) dX9_ways_10 (by decide) (fun c3 => ?_) (fun c3 => ?_)
  · rw [if_pos c3] at h
    refine wp_ldc2 dX9_ways_20 kc_X9_243 ?_
    obtain rfl := Option.some.inj h
    exact wp_lret dX9_ways_23 rfl
  · rw [if_neg c3] at h
    refine wp_aload_n (i := 0) dX9_ways_13 rfl rfl ?_
    refine wp_getI dX9_ways_14 fl_X9_101 rfl rfl ?_
    refine wp_if_ne (tgt := 24) dX9_ways_17 (by decide) (fun c4 => ?_) (fun c4 => ?_)
    · rw [if_neg c4] at h
      refine wp_aload_n (i := 0) dX9_ways_24 rfl rfl ?_
      refine wp_aload_n (i := 0) dX9_ways_25 rfl rfl ?_
      refine wp_getR (t := 49) dX9_ways_26 fl_X9_25 rfl rfl ?_
      refine wp_iconst (v := 0) dX9_ways_29 (by decide +kernel) ?_
      refine wp_iload_n (i := 1) dX9_ways_30 rfl rfl ?_
      obtain ⟨s5, es5, h⟩ := ob h
      refine wp_cVv (N := m_X9_allWays) (As := [.ref 49, .int (0 : Int32), .int a1]) (rest := []) dX9_ways_31 ml_X9_222 mo_X9_allWays vo_X9_allWays rfl rfl (ok_X9_allWays es5) (by decide) (Nat.le_of_ble_eq_true rfl) ?_
      refine wp_aload_n (i := 0) dX9_ways_34 rfl rfl ?_
      refine wp_getJ dX9_ways_35 fl_X9_215 rfl rfl ?_
      obtain rfl := Option.some.inj h
      exact wp_lret dX9_ways_38 rfl
    · rw [if_pos c4] at h
      refine wp_ldc2 dX9_ways_20 kc_X9_243 ?_
      obtain rfl := Option.some.inj h
      exact wp_lret dX9_ways_23 rfl
def f_X9_needSets  (s : St) : Option (St) :=
  if (s.1 43 10) = 0 then (
    Option.bind (f_X9_first 49 (0 : Int32) s) fun s3 =>
    Option.bind (some (sF s3 43 10 (1 : Int32))) fun s4 =>
    some s4)
  else (
    Option.bind (some (sF s 43 10 (1 : Int32))) fun s2 =>
    some s2)
set_option maxRecDepth 100000 in
set_option maxHeartbeats 4000000 in
theorem ok_X9_needSets  {s : St} {r : St} (h : f_X9_needSets  s = some r) : Ct 1 m_X9_needSets [.ref 43] s none r := by
  unfold f_X9_needSets at h
  refine ct_of [some (.ref 43)] 0 (by decide) rfl (Nat.le_of_ble_eq_true rfl) ?_
  refine wp_aload_n (i := 0) dX9_needSets_0 rfl rfl ?_
  refine wp_getI dX9_needSets_1 fl_X9_101 rfl rfl ?_
  refine wp_if_ne (tgt := 16) dX9_needSets_4 (by decide) (fun c1 => ?_) (fun c1 => ?_)
  · rw [if_neg c1] at h
    refine wp_aload_n (i := 0) dX9_needSets_16 rfl rfl ?_
    refine wp_iconst (v := 1) dX9_needSets_17 (by decide +kernel) ?_
    obtain ⟨s2, es2, h⟩ := ob h
    refine wp_putZ2 dX9_needSets_18 fl_X9_101 rfl rfl rfl rfl (Or.inr rfl) es2 ?_
    obtain rfl := Option.some.inj h
    exact wp_vret dX9_needSets_21 rfl
  · rw [if_pos c1] at h
    refine wp_aload_n (i := 0) dX9_needSets_7 rfl rfl ?_
    refine wp_aload_n (i := 0) dX9_needSets_8 rfl rfl ?_
    refine wp_getR (t := 49) dX9_needSets_9 fl_X9_25 rfl rfl ?_
    refine wp_iconst (v := 0) dX9_needSets_12 (by decide +kernel) ?_
    obtain ⟨s3, es3, h⟩ := ob h
    refine wp_cVv (N := m_X9_first) (As := [.ref 49, .int (0 : Int32)]) (rest := []) dX9_needSets_13 ml_X9_193 mo_X9_first vo_X9_first rfl rfl (ok_X9_first es3) (by decide) (Nat.le_of_ble_eq_true rfl) ?_
    refine wp_aload_n (i := 0) dX9_needSets_16 rfl rfl ?_
    refine wp_iconst (v := 1) dX9_needSets_17 (by decide +kernel) ?_
    obtain ⟨s4, es4, h⟩ := ob h
    refine wp_putZ2 dX9_needSets_18 fl_X9_101 rfl rfl rfl rfl (Or.inr rfl) es4 ?_
    obtain rfl := Option.some.inj h
    exact wp_vret dX9_needSets_21 rfl
def f_X9_rest  (s : St) : Option (Int32 × St) :=
  Option.bind (some (sF s 43 0 (0 : Int32))) fun s1 =>
  Option.bind (f_X9_is s1) fun r2 =>
  if r2.1 = 0 then (
    some ((-1 : Int32), r2.2))
  else (
    Option.bind (f_X9_needSets r2.2) fun s4 =>
    Option.bind (f_X9_toRest 49 (0 : Int32) s4) fun r5 =>
    if r5.1 = 0 then (
      some ((-2 : Int32), r5.2))
    else (
      some (r5.2.1 43 37, r5.2)))
set_option maxRecDepth 100000 in
set_option maxHeartbeats 4000000 in
theorem ok_X9_rest  {s : St} {r : Int32 × St} (h : f_X9_rest  s = some r) : Ct 20 m_X9_rest [.ref 43] s (some (.int r.1)) r.2 := by
  unfold f_X9_rest at h
  refine ct_of [some (.ref 43)] 0 (by decide) rfl (Nat.le_of_ble_eq_true rfl) ?_
  refine wp_aload_n (i := 0) dX9_rest_0 rfl rfl ?_
  refine wp_iconst (v := 0) dX9_rest_1 (by decide +kernel) ?_
  obtain ⟨s1, es1, h⟩ := ob h
  refine wp_putI2 dX9_rest_2 fl_X9_80 rfl rfl rfl rfl es1 ?_
  refine wp_aload_n (i := 0) dX9_rest_5 rfl rfl ?_
  obtain ⟨r2, er2, h⟩ := ob h
  refine wp_cVi (N := m_X9_is) (As := []) (rest := []) dX9_rest_6 ml_X9_89 mo_X9_is vo_X9_is rfl rfl (ok_X9_is er2) (by decide) (Nat.le_of_ble_eq_true rfl) ?_
  refine wp_if_ne (tgt := 14) dX9_rest_9 (by decide) (fun c3 => ?_) (fun c3 => ?_)
  · rw [if_neg c3] at h
    refine wp_aload_n (i := 0) dX9_rest_14 rfl rfl ?_
    obtain ⟨s4, es4, h⟩ := ob h
    refine wp_cVv (N := m_X9_needSets) (As := []) (rest := []) dX9_rest_15 ml_X9_245 mo_X9_needSets vo_X9_needSets rfl rfl (ok_X9_needSets es4) (by decide) (Nat.le_of_ble_eq_true rfl) ?_
    refine wp_aload_n (i := 0) dX9_rest_18 rfl rfl ?_
    refine wp_aload_n (i := 0) dX9_rest_19 rfl rfl ?_
    refine wp_getR (t := 49) dX9_rest_20 fl_X9_25 rfl rfl ?_
    refine wp_iconst (v := 0) dX9_rest_23 (by decide +kernel) ?_
    obtain ⟨r5, er5, h⟩ := ob h
    refine wp_cVi (N := m_X9_toRest) (As := [.ref 49, .int (0 : Int32)]) (rest := []) dX9_rest_24 ml_X9_239 mo_X9_toRest vo_X9_toRest rfl rfl (ok_X9_toRest er5) (by decide) (Nat.le_of_ble_eq_true rfl) ?_
    refine wp_if_eq (tgt := 37) dX9_rest_27 (by decide) (fun c6 => ?_) (fun c6 => ?_)
    · rw [if_pos c6] at h
      refine wp_bipush (v := -2) dX9_rest_37 (by decide +kernel) ?_
      obtain rfl := Option.some.inj h
      exact wp_iret dX9_rest_39 rfl rfl
    · rw [if_neg c6] at h
      refine wp_aload_n (i := 0) dX9_rest_30 rfl rfl ?_
      refine wp_getI dX9_rest_31 fl_X9_226 rfl rfl ?_
      refine wp_goto (tgt := 39) dX9_rest_34 (by decide) ?_
      obtain rfl := Option.some.inj h
      exact wp_iret dX9_rest_39 rfl rfl
  · rw [if_pos c3] at h
    refine wp_iconst (v := -1) dX9_rest_12 (by decide +kernel) ?_
    obtain rfl := Option.some.inj h
    exact wp_iret dX9_rest_13 rfl rfl
def f_X9_tries  (s : St) : Option (Int32 × St) :=
  Option.bind (some (sF s 43 0 (0 : Int32))) fun s1 =>
  Option.bind (f_X9_is s1) fun r2 =>
  if r2.1 = 0 then (
    some ((-1 : Int32), r2.2))
  else (
    Option.bind (f_X9_needSets r2.2) fun s4 =>
    Option.bind (f_X9_toRest 49 (0 : Int32) s4) fun r5 =>
    if r5.1 = 0 then (
      some ((-2 : Int32), r5.2))
    else (
      Option.bind (f_X9_trying 49 r5.2) fun r7 =>
      if r7.1 = 0 then (
        some ((-2 : Int32), r7.2))
      else (
        some (r7.2.1 43 39, r7.2))))
set_option maxRecDepth 100000 in
set_option maxHeartbeats 4000000 in
theorem ok_X9_tries  {s : St} {r : Int32 × St} (h : f_X9_tries  s = some r) : Ct 21 m_X9_tries [.ref 43] s (some (.int r.1)) r.2 := by
  unfold f_X9_tries at h
  refine ct_of [some (.ref 43)] 0 (by decide) rfl (Nat.le_of_ble_eq_true rfl) ?_
  refine wp_aload_n (i := 0) dX9_tries_0 rfl rfl ?_
  refine wp_iconst (v := 0) dX9_tries_1 (by decide +kernel) ?_
  obtain ⟨s1, es1, h⟩ := ob h
  refine wp_putI2 dX9_tries_2 fl_X9_80 rfl rfl rfl rfl es1 ?_
  refine wp_aload_n (i := 0) dX9_tries_5 rfl rfl ?_
  obtain ⟨r2, er2, h⟩ := ob h
  refine wp_cVi (N := m_X9_is) (As := []) (rest := []) dX9_tries_6 ml_X9_89 mo_X9_is vo_X9_is rfl rfl (ok_X9_is er2) (by decide) (Nat.le_of_ble_eq_true rfl) ?_
  refine wp_if_ne (tgt := 14) dX9_tries_9 (by decide) (fun c3 => ?_) (fun c3 => ?_)
  · rw [if_neg c3] at h
    refine wp_aload_n (i := 0) dX9_tries_14 rfl rfl ?_
    obtain ⟨s4, es4, h⟩ := ob h
    refine wp_cVv (N := m_X9_needSets) (As := []) (rest := []) dX9_tries_15 ml_X9_245 mo_X9_needSets vo_X9_needSets rfl rfl (ok_X9_needSets es4) (by decide) (Nat.le_of_ble_eq_true rfl) ?_
    refine wp_aload_n (i := 0) dX9_tries_18 rfl rfl ?_
    refine wp_aload_n (i := 0) dX9_tries_19 rfl rfl ?_
    refine wp_getR (t := 49) dX9_tries_20 fl_X9_25 rfl rfl ?_
    refine wp_iconst (v := 0) dX9_tries_23 (by decide +kernel) ?_
    obtain ⟨r5, er5, h⟩ := ob h
    refine wp_cVi (N := m_X9_toRest) (As := [.ref 49, .int (0 : Int32)]) (rest := []) dX9_tries_24 ml_X9_239 mo_X9_toRest vo_X9_toRest rfl rfl (ok_X9_toRest er5) (by decide) (Nat.le_of_ble_eq_true rfl) ?_
    refine wp_if_eq (tgt := 48) dX9_tries_27 (by decide) (fun c6 => ?_) (fun c6 => ?_)
    · rw [if_pos c6] at h
      refine wp_bipush (v := -2) dX9_tries_48 (by decide +kernel) ?_
      obtain rfl := Option.some.inj h
      exact wp_iret dX9_tries_50 rfl rfl
    · rw [if_neg c6] at h
      refine wp_aload_n (i := 0) dX9_tries_30 rfl rfl ?_
      refine wp_aload_n (i := 0) dX9_tries_31 rfl rfl ?_
      refine wp_getR (t := 49) dX9_tries_32 fl_X9_25 rfl rfl ?_
      obtain ⟨r7, er7, h⟩ := ob h
      refine wp_cVi (N := m_X9_trying) (As := [.ref 49]) (rest := []) dX9_tries_35 ml_X9_248 mo_X9_trying vo_X9_trying rfl rfl (ok_X9_trying er7) (by decide) (Nat.le_of_ble_eq_true rfl) ?_
      refine wp_if_eq (tgt := 48) dX9_tries_38 (by decide) (fun c8 => ?_) (fun c8 => ?_)
      · rw [if_pos c8] at h
        refine wp_bipush (v := -2) dX9_tries_48 (by decide +kernel) ?_
        obtain rfl := Option.some.inj h
        exact wp_iret dX9_tries_50 rfl rfl
      · rw [if_neg c8] at h
        refine wp_aload_n (i := 0) dX9_tries_41 rfl rfl ?_
        refine wp_getI dX9_tries_42 fl_X9_233 rfl rfl ?_
        refine wp_goto (tgt := 50) dX9_tries_45 (by decide) ?_
        obtain rfl := Option.some.inj h
        exact wp_iret dX9_tries_50 rfl rfl
  · rw [if_pos c3] at h
    refine wp_iconst (v := -1) dX9_tries_12 (by decide +kernel) ?_
    obtain rfl := Option.some.inj h
    exact wp_iret dX9_tries_13 rfl rfl
def f_X9_set (a1 : Int32) (a2 : Int32) (s : St) : Option (Int32 × St) :=
  Option.bind (some (sF s 43 0 (0 : Int32))) fun s1 =>
  Option.bind (f_X9_isCell a1 a2 s1) fun r2 =>
  if r2.1 = 0 then (
    some ((-1 : Int32), r2.2))
  else (
    if (r2.2.1 43 10) = 0 then (
      some ((-1 : Int32), r2.2))
    else (
      Option.bind (aI r2.2 49 (((12 : Int32) * a2) + a1)) fun x5 =>
      some (x5, r2.2)))
set_option maxRecDepth 100000 in
set_option maxHeartbeats 4000000 in
theorem ok_X9_set {a1 : Int32} {a2 : Int32} {s : St} {r : Int32 × St} (h : f_X9_set a1 a2 s = some r) : Ct 2 m_X9_set [.ref 43, .int a1, .int a2] s (some (.int r.1)) r.2 := by
  unfold f_X9_set at h
  refine ct_of [some (.ref 43), some (.int a1), some (.int a2)] 0 (by decide) rfl (Nat.le_of_ble_eq_true rfl) ?_
  refine wp_aload_n (i := 0) dX9_set_0 rfl rfl ?_
  refine wp_iconst (v := 0) dX9_set_1 (by decide +kernel) ?_
  obtain ⟨s1, es1, h⟩ := ob h
  refine wp_putI2 dX9_set_2 fl_X9_80 rfl rfl rfl rfl es1 ?_
  refine wp_aload_n (i := 0) dX9_set_5 rfl rfl ?_
  refine wp_iload_n (i := 1) dX9_set_6 rfl rfl ?_
  refine wp_iload_n (i := 2) dX9_set_7 rfl rfl ?_
  obtain ⟨r2, er2, h⟩ := ob h
  refine wp_cVi (N := m_X9_isCell) (As := [.int a1, .int a2]) (rest := []) dX9_set_8 ml_X9_181 mo_X9_isCell vo_X9_isCell rfl rfl (ok_X9_isCell er2) (by decide) (Nat.le_of_ble_eq_true rfl) ?_
  refine wp_if_eq (tgt := 35) dX9_set_11 (by decide) (fun c3 => ?_) (fun c3 => ?_)
  · rw [if_pos c3] at h
    refine wp_iconst (v := -1) dX9_set_35 (by decide +kernel) ?_
    obtain rfl := Option.some.inj h
    exact wp_iret dX9_set_36 rfl rfl
  · rw [if_neg c3] at h
    refine wp_aload_n (i := 0) dX9_set_14 rfl rfl ?_
    refine wp_getI dX9_set_15 fl_X9_101 rfl rfl ?_
    refine wp_if_eq (tgt := 35) dX9_set_18 (by decide) (fun c4 => ?_) (fun c4 => ?_)
    · rw [if_pos c4] at h
      refine wp_iconst (v := -1) dX9_set_35 (by decide +kernel) ?_
      obtain rfl := Option.some.inj h
      exact wp_iret dX9_set_36 rfl rfl
    · rw [if_neg c4] at h
      refine wp_aload_n (i := 0) dX9_set_21 rfl rfl ?_
      refine wp_getR (t := 49) dX9_set_22 fl_X9_25 rfl rfl ?_
      refine wp_bipush (v := 12) dX9_set_25 (by decide +kernel) ?_
      refine wp_iload_n (i := 2) dX9_set_27 rfl rfl ?_
      refine wp_imul dX9_set_28 ?_
      refine wp_iload_n (i := 1) dX9_set_29 rfl rfl ?_
      refine wp_iadd dX9_set_30 ?_
      obtain ⟨x5, ex5, h⟩ := ob h
      refine wp_aI dX9_set_31 ex5 ?_
      refine wp_goto (tgt := 36) dX9_set_32 (by decide) ?_
      obtain rfl := Option.some.inj h
      exact wp_iret dX9_set_36 rfl rfl
def f_X9_allOne_2 (a1 : Nat) : Nat → Int32 → Int32 → St → Option (Int32 × St)
  | 0, _, _, _ => none
  | n + 1, v2, v3, s =>
    if ((s.1 43 1) * (s.1 43 2)) ≤ v3 then (
      some ((1 : Int32), s))
    else (
      Option.bind (f_X9_inOrder v3 s) fun r2 =>
      Option.bind (aI r2.2 a1 (v2 + r2.1)) fun x3 =>
      Option.bind (f_X9_many x3 r2.2) fun r4 =>
      if r4.1 = (1 : Int32) then (
        f_X9_allOne_2 a1 n v2 (v3 + 1) r4.2)
      else (
        some ((0 : Int32), r4.2)))
set_option maxRecDepth 100000 in
set_option maxHeartbeats 4000000 in
theorem w_X9_allOne_2 {r : Int32 × St} {a1 : Nat}   : ∀ (n : Nat) (v2 : Int32) (v3 : Int32) (s : St), f_X9_allOne_2 a1  n v2 v3 s = some r → Wp m_X9_allOne 1 (PR (some (.int r.1)) r.2) 2 [some (.ref 43), some (.ref a1), some (.int v2), some (.int v3)] [] s := by
  intro n
  induction n with
  | zero => intro v2 v3 s h; cases h
  | succ n ih =>
    intro v2 v3 s h
    unfold f_X9_allOne_2 at h
    refine wp_iload_n (i := 3) dX9_allOne_2 rfl rfl ?_
    refine wp_aload_n (i := 0) dX9_allOne_3 rfl rfl ?_
    refine wp_getI dX9_allOne_4 fl_X9_83 rfl rfl ?_
    refine wp_aload_n (i := 0) dX9_allOne_7 rfl rfl ?_
    refine wp_getI dX9_allOne_8 fl_X9_86 rfl rfl ?_
    refine wp_imul dX9_allOne_11 ?_
    refine wp_icmp_ge (tgt := 39) dX9_allOne_12 (by decide) (fun c1 => ?_) (fun c1 => ?_)
    · rw [if_pos c1] at h
      refine wp_iconst (v := 1) dX9_allOne_39 (by decide +kernel) ?_
      obtain rfl := Option.some.inj h
      exact wp_iret dX9_allOne_40 rfl (narrow_z (Or.inr rfl)).1
    · rw [if_neg c1] at h
      refine wp_aload_n (i := 1) dX9_allOne_15 rfl rfl ?_
      refine wp_iload_n (i := 2) dX9_allOne_16 rfl rfl ?_
      refine wp_aload_n (i := 0) dX9_allOne_17 rfl rfl ?_
      refine wp_iload_n (i := 3) dX9_allOne_18 rfl rfl ?_
      obtain ⟨r2, er2, h⟩ := ob h
      refine wp_cVi (N := m_X9_inOrder) (As := [.int v3]) (rest := [.int v2, .ref a1]) dX9_allOne_19 ml_X9_236 mo_X9_inOrder vo_X9_inOrder rfl rfl (ok_X9_inOrder er2) (by decide) (Nat.le_of_ble_eq_true rfl) ?_
      refine wp_iadd dX9_allOne_22 ?_
      obtain ⟨x3, ex3, h⟩ := ob h
      refine wp_aI dX9_allOne_23 ex3 ?_
      obtain ⟨r4, er4, h⟩ := ob h
      refine wp_cSi (N := m_X9_many) (As := [.int x3]) (rest := []) dX9_allOne_24 ml_X9_185 mo_X9_many vo_X9_many rfl (ok_X9_many er4) (by decide) (Nat.le_of_ble_eq_true rfl) ?_
      refine wp_iconst (v := 1) dX9_allOne_27 (by decide +kernel) ?_
      refine wp_icmp_eq (tgt := 33) dX9_allOne_28 (by decide) (fun c5 => ?_) (fun c5 => ?_)
      · rw [if_pos c5] at h
        refine wp_inc (c := 1) (ls' := [some (.ref 43), some (.ref a1), some (.int v2), some (.int (v3 + 1))]) dX9_allOne_33 rfl (by decide +kernel) (by decide) rfl rfl ?_
        refine wp_goto (tgt := 2) dX9_allOne_36 (by decide) ?_
        exact wp_sub (ls' := [some (.ref 43), some (.ref a1), some (.int v2), some (.int (v3 + 1))]) ⟨rfl, rfl, rfl, rfl, trivial⟩ (ih _ _ _ h)
      · rw [if_neg c5] at h
        refine wp_iconst (v := 0) dX9_allOne_31 (by decide +kernel) ?_
        obtain rfl := Option.some.inj h
        exact wp_iret dX9_allOne_32 rfl (narrow_z (Or.inl rfl)).1
def f_X9_allOne (a1 : Nat) (a2 : Int32) (s : St) : Option (Int32 × St) :=
  f_X9_allOne_2 a1 FU a2 (0 : Int32) s
set_option maxRecDepth 100000 in
set_option maxHeartbeats 4000000 in
theorem ok_X9_allOne {a1 : Nat} {a2 : Int32} {s : St} {r : Int32 × St} (h : f_X9_allOne a1 a2 s = some r) : Ct 1 m_X9_allOne [.ref 43, .ref a1, .int a2] s (some (.int r.1)) r.2 := by
  unfold f_X9_allOne at h
  refine ct_of [some (.ref 43), some (.ref a1), some (.int a2), none] 1 (by decide) rfl (Nat.le_of_ble_eq_true rfl) ?_
  refine wp_iconst (v := 0) dX9_allOne_0 (by decide +kernel) ?_
  refine wp_istore_n (ls' := [some (.ref 43), some (.ref a1), some (.int a2), some (.int (0 : Int32))]) dX9_allOne_1 rfl (by decide) rfl rfl ?_
  exact wp_sub (ls' := [some (.ref 43), some (.ref a1), some (.int a2), some (.int (0 : Int32))]) ⟨rfl, rfl, rfl, rfl, trivial⟩ (w_X9_allOne_2 _ _ _ _ h)
def f_X9_least_2 : Nat → Int32 → Int32 → St → Option (Int32 × St)
  | 0, _, _, _ => none
  | n + 1, v0, v1, s =>
    if ((v0 >>> (v1 &&& 31)) &&& (1 : Int32)) = 0 then (
      f_X9_least_2 n v0 (v1 + 1) s)
    else (
      some (v1, s))
set_option maxRecDepth 100000 in
set_option maxHeartbeats 4000000 in
theorem w_X9_least_2 {r : Int32 × St}   : ∀ (n : Nat) (v0 : Int32) (v1 : Int32) (s : St), f_X9_least_2  n v0 v1 s = some r → Wp m_X9_least 0 (PR (some (.int r.1)) r.2) 2 [some (.int v0), some (.int v1)] [] s := by
  intro n
  induction n with
  | zero => intro v0 v1 s h; cases h
  | succ n ih =>
    intro v0 v1 s h
    unfold f_X9_least_2 at h
    refine wp_iload_n (i := 0) dX9_least_2 rfl rfl ?_
    refine wp_iload_n (i := 1) dX9_least_3 rfl rfl ?_
    refine wp_ishr dX9_least_4 ?_
    refine wp_iconst (v := 1) dX9_least_5 (by decide +kernel) ?_
    refine wp_iand dX9_least_6 ?_
    refine wp_if_ne (tgt := 16) dX9_least_7 (by decide) (fun c1 => ?_) (fun c1 => ?_)
    · rw [if_neg c1] at h
      refine wp_iload_n (i := 1) dX9_least_16 rfl rfl ?_
      obtain rfl := Option.some.inj h
      exact wp_iret dX9_least_17 rfl rfl
    · rw [if_pos c1] at h
      refine wp_inc (c := 1) (ls' := [some (.int v0), some (.int (v1 + 1))]) dX9_least_10 rfl (by decide +kernel) (by decide) rfl rfl ?_
      refine wp_goto (tgt := 2) dX9_least_13 (by decide) ?_
      exact wp_sub (ls' := [some (.int v0), some (.int (v1 + 1))]) ⟨rfl, rfl, trivial⟩ (ih _ _ _ h)
def f_X9_least (a1 : Int32) (s : St) : Option (Int32 × St) :=
  f_X9_least_2 FU a1 (0 : Int32) s
set_option maxRecDepth 100000 in
set_option maxHeartbeats 4000000 in
theorem ok_X9_least {a1 : Int32} {s : St} {r : Int32 × St} (h : f_X9_least a1 s = some r) : Ct 0 m_X9_least [.int a1] s (some (.int r.1)) r.2 := by
  unfold f_X9_least at h
  refine ct_of [some (.int a1), none] 1 (by decide) rfl (Nat.le_of_ble_eq_true rfl) ?_
  refine wp_iconst (v := 0) dX9_least_0 (by decide +kernel) ?_
  refine wp_istore_n (ls' := [some (.int a1), some (.int (0 : Int32))]) dX9_least_1 rfl (by decide) rfl rfl ?_
  exact wp_sub (ls' := [some (.int a1), some (.int (0 : Int32))]) ⟨rfl, rfl, trivial⟩ (w_X9_least_2 _ _ _ _ h)
def f_X9_branch_68 (K4 : Int32 → Int32 → Int32 → St → Option (Int32 × St)) (v1 : Int32) (v2 : Int32) (v3 : Int32) (s : St) : Option (Int32 × St) :=
  K4 v1 v2 (v3 + 1) s
set_option maxRecDepth 100000 in
set_option maxHeartbeats 4000000 in
theorem w_X9_branch_68 {r : Int32 × St} {K4 : Int32 → Int32 → Int32 → St → Option (Int32 × St)} (hK4 : ∀ (v1 : Int32) (v2 : Int32) (v3 : Int32) (s : St), K4 v1 v2 v3 s = some r → Wp m_X9_branch 1 (PR (some (.int r.1)) r.2) 4 [some (.ref 43), some (.int v1), some (.int v2), some (.int v3), none, none] [] s) {v1 : Int32} {v2 : Int32} {v3 : Int32}  {s : St} (h : f_X9_branch_68 K4 v1 v2 v3 s = some r) : Wp m_X9_branch 1 (PR (some (.int r.1)) r.2) 68 [some (.ref 43), some (.int v1), some (.int v2), some (.int v3), none, none] [] s := by
  unfold f_X9_branch_68 at h
  refine wp_inc (c := 1) (ls' := [some (.ref 43), some (.int v1), some (.int v2), some (.int (v3 + 1)), none, none]) dX9_branch_68 rfl (by decide +kernel) (by decide) rfl rfl ?_
  refine wp_goto (tgt := 4) dX9_branch_71 (by decide) ?_
  exact wp_sub (ls' := [some (.ref 43), some (.int v1), some (.int v2), some (.int (v3 + 1)), none, none]) ⟨rfl, rfl, rfl, rfl, trivial⟩ (hK4 _ _ _ _ h)
def f_X9_branch_65 (K4 : Int32 → Int32 → Int32 → St → Option (Int32 × St)) (v1 : Int32) (v3 : Int32) (v4 : Int32) (s : St) : Option (Int32 × St) :=
  f_X9_branch_68 K4 v1 v4 v3 s
set_option maxRecDepth 100000 in
set_option maxHeartbeats 4000000 in
theorem w_X9_branch_65 {r : Int32 × St} {K4 : Int32 → Int32 → Int32 → St → Option (Int32 × St)} (hK4 : ∀ (v1 : Int32) (v2 : Int32) (v3 : Int32) (s : St), K4 v1 v2 v3 s = some r → Wp m_X9_branch 1 (PR (some (.int r.1)) r.2) 4 [some (.ref 43), some (.int v1), some (.int v2), some (.int v3), none, none] [] s) {v1 : Int32} {v3 : Int32} {v4 : Int32}  {s : St} (h : f_X9_branch_65 K4 v1 v3 v4 s = some r) : Wp m_X9_branch 1 (PR (some (.int r.1)) r.2) 65 [some (.ref 43), some (.int v1), none, some (.int v3), some (.int v4), none] [] s := by
  unfold f_X9_branch_65 at h
  refine wp_iload dX9_branch_65 rfl ?_
  refine wp_istore_n (ls' := [some (.ref 43), some (.int v1), some (.int v4), some (.int v3), some (.int v4), none]) dX9_branch_67 rfl (by decide) rfl rfl ?_
  exact wp_sub (ls' := [some (.ref 43), some (.int v1), some (.int v4), some (.int v3), none, none]) ⟨rfl, rfl, rfl, rfl, trivial⟩ (w_X9_branch_68 hK4 h)
def f_X9_branch_4 : Nat → Int32 → Int32 → Int32 → St → Option (Int32 × St)
  | 0, _, _, _, _ => none
  | n + 1, v1, v2, v3, s =>
    if ((s.1 43 1) * (s.1 43 2)) ≤ v3 then (
      some (v2, s))
    else (
      Option.bind (f_X9_inOrder v3 s) fun r2 =>
      Option.bind (aI r2.2 61 (v1 + r2.1)) fun x3 =>
      Option.bind (f_X9_many x3 r2.2) fun r4 =>
      if r4.1 ≤ (1 : Int32) then (
        f_X9_branch_68 (f_X9_branch_4 n) v1 v2 v3 r4.2)
      else (
        if v2 = (-1 : Int32) then (
          f_X9_branch_65 (f_X9_branch_4 n) v1 v3 r2.1 r4.2)
        else (
          Option.bind (aI r4.2 61 (v1 + v2)) fun x7 =>
          Option.bind (f_X9_many x7 r4.2) fun r8 =>
          if r8.1 ≤ r4.1 then (
            f_X9_branch_68 (f_X9_branch_4 n) v1 v2 v3 r8.2)
          else (
            f_X9_branch_65 (f_X9_branch_4 n) v1 v3 r2.1 r8.2))))
set_option maxRecDepth 100000 in
set_option maxHeartbeats 4000000 in
theorem w_X9_branch_4 {r : Int32 × St}   : ∀ (n : Nat) (v1 : Int32) (v2 : Int32) (v3 : Int32) (s : St), f_X9_branch_4  n v1 v2 v3 s = some r → Wp m_X9_branch 1 (PR (some (.int r.1)) r.2) 4 [some (.ref 43), some (.int v1), some (.int v2), some (.int v3), none, none] [] s := by
  intro n
  induction n with
  | zero => intro v1 v2 v3 s h; cases h
  | succ n ih =>
    intro v1 v2 v3 s h
    unfold f_X9_branch_4 at h
    refine wp_iload_n (i := 3) dX9_branch_4 rfl rfl ?_
    refine wp_aload_n (i := 0) dX9_branch_5 rfl rfl ?_
    refine wp_getI dX9_branch_6 fl_X9_83 rfl rfl ?_
    refine wp_aload_n (i := 0) dX9_branch_9 rfl rfl ?_
    refine wp_getI dX9_branch_10 fl_X9_86 rfl rfl ?_
    refine wp_imul dX9_branch_13 ?_
    refine wp_icmp_ge (tgt := 74) dX9_branch_14 (by decide) (fun c1 => ?_) (fun c1 => ?_)
    · rw [if_pos c1] at h
      refine wp_iload_n (i := 2) dX9_branch_74 rfl rfl ?_
      obtain rfl := Option.some.inj h
      exact wp_iret dX9_branch_75 rfl rfl
    · rw [if_neg c1] at h
      refine wp_aload_n (i := 0) dX9_branch_17 rfl rfl ?_
      refine wp_iload_n (i := 3) dX9_branch_18 rfl rfl ?_
      obtain ⟨r2, er2, h⟩ := ob h
      refine wp_cVi (N := m_X9_inOrder) (As := [.int v3]) (rest := []) dX9_branch_19 ml_X9_236 mo_X9_inOrder vo_X9_inOrder rfl rfl (ok_X9_inOrder er2) (by decide) (Nat.le_of_ble_eq_true rfl) ?_
      refine wp_istore (ls' := [some (.ref 43), some (.int v1), some (.int v2), some (.int v3), some (.int r2.1), none]) dX9_branch_22 (by decide) rfl rfl ?_
      refine wp_aload_n (i := 0) dX9_branch_24 rfl rfl ?_
      refine wp_getR (t := 61) dX9_branch_25 fl_X9_65 rfl rfl ?_
      refine wp_iload_n (i := 1) dX9_branch_28 rfl rfl ?_
      refine wp_iload dX9_branch_29 rfl ?_
      refine wp_iadd dX9_branch_31 ?_
      obtain ⟨x3, ex3, h⟩ := ob h
      refine wp_aI dX9_branch_32 ex3 ?_
      obtain ⟨r4, er4, h⟩ := ob h
      refine wp_cSi (N := m_X9_many) (As := [.int x3]) (rest := []) dX9_branch_33 ml_X9_185 mo_X9_many vo_X9_many rfl (ok_X9_many er4) (by decide) (Nat.le_of_ble_eq_true rfl) ?_
      refine wp_istore (ls' := [some (.ref 43), some (.int v1), some (.int v2), some (.int v3), some (.int r2.1), some (.int r4.1)]) dX9_branch_36 (by decide) rfl rfl ?_
      refine wp_iload dX9_branch_38 rfl ?_
      refine wp_iconst (v := 1) dX9_branch_40 (by decide +kernel) ?_
      refine wp_icmp_le (tgt := 68) dX9_branch_41 (by decide) (fun c5 => ?_) (fun c5 => ?_)
      · rw [if_pos c5] at h
        exact wp_sub (ls' := [some (.ref 43), some (.int v1), some (.int v2), some (.int v3), none, none]) ⟨rfl, rfl, rfl, rfl, trivial⟩ (w_X9_branch_68 ih h)
      · rw [if_neg c5] at h
        refine wp_iload_n (i := 2) dX9_branch_44 rfl rfl ?_
        refine wp_iconst (v := -1) dX9_branch_45 (by decide +kernel) ?_
        refine wp_icmp_eq (tgt := 65) dX9_branch_46 (by decide) (fun c6 => ?_) (fun c6 => ?_)
        · rw [if_pos c6] at h
          exact wp_sub (ls' := [some (.ref 43), some (.int v1), none, some (.int v3), some (.int r2.1), none]) ⟨rfl, rfl, rfl, rfl, trivial⟩ (w_X9_branch_65 ih h)
        · rw [if_neg c6] at h
          refine wp_iload dX9_branch_49 rfl ?_
          refine wp_aload_n (i := 0) dX9_branch_51 rfl rfl ?_
          refine wp_getR (t := 61) dX9_branch_52 fl_X9_65 rfl rfl ?_
          refine wp_iload_n (i := 1) dX9_branch_55 rfl rfl ?_
          refine wp_iload_n (i := 2) dX9_branch_56 rfl rfl ?_
          refine wp_iadd dX9_branch_57 ?_
          obtain ⟨x7, ex7, h⟩ := ob h
          refine wp_aI dX9_branch_58 ex7 ?_
          obtain ⟨r8, er8, h⟩ := ob h
          refine wp_cSi (N := m_X9_many) (As := [.int x7]) (rest := [.int r4.1]) dX9_branch_59 ml_X9_185 mo_X9_many vo_X9_many rfl (ok_X9_many er8) (by decide) (Nat.le_of_ble_eq_true rfl) ?_
          refine wp_icmp_ge (tgt := 68) dX9_branch_62 (by decide) (fun c9 => ?_) (fun c9 => ?_)
          · rw [if_pos c9] at h
            exact wp_sub (ls' := [some (.ref 43), some (.int v1), some (.int v2), some (.int v3), none, none]) ⟨rfl, rfl, rfl, rfl, trivial⟩ (w_X9_branch_68 ih h)
          · rw [if_neg c9] at h
            exact wp_sub (ls' := [some (.ref 43), some (.int v1), none, some (.int v3), some (.int r2.1), none]) ⟨rfl, rfl, rfl, rfl, trivial⟩ (w_X9_branch_65 ih h)
def f_X9_branch (a1 : Int32) (s : St) : Option (Int32 × St) :=
  f_X9_branch_4 FU a1 (-1 : Int32) (0 : Int32) s
set_option maxRecDepth 100000 in
set_option maxHeartbeats 4000000 in
theorem ok_X9_branch {a1 : Int32} {s : St} {r : Int32 × St} (h : f_X9_branch a1 s = some r) : Ct 1 m_X9_branch [.ref 43, .int a1] s (some (.int r.1)) r.2 := by
  unfold f_X9_branch at h
  refine ct_of [some (.ref 43), some (.int a1), none, none, none, none] 4 (by decide) rfl (Nat.le_of_ble_eq_true rfl) ?_
  refine wp_iconst (v := -1) dX9_branch_0 (by decide +kernel) ?_
  refine wp_istore_n (ls' := [some (.ref 43), some (.int a1), some (.int (-1 : Int32)), none, none, none]) dX9_branch_1 rfl (by decide) rfl rfl ?_
  refine wp_iconst (v := 0) dX9_branch_2 (by decide +kernel) ?_
  refine wp_istore_n (ls' := [some (.ref 43), some (.int a1), some (.int (-1 : Int32)), some (.int (0 : Int32)), none, none]) dX9_branch_3 rfl (by decide) rfl rfl ?_
  exact wp_sub (ls' := [some (.ref 43), some (.int a1), some (.int (-1 : Int32)), some (.int (0 : Int32)), none, none]) ⟨rfl, rfl, rfl, rfl, trivial⟩ (w_X9_branch_4 _ _ _ _ _ h)
def f_X9_look_254 (K119 : Int32 → Int32 → Int32 → Int32 → St → Option (St)) (L : Int32 → St → Option (St)) (v1 : Int32) (v2 : Int32) (v3 : Int32) (v4 : Int32) (s : St) : Option (St) :=
  K119 v1 v2 v3 (v4 + 1) s
set_option maxRecDepth 100000 in
set_option maxHeartbeats 4000000 in
theorem w_X9_look_254 {r : St} {d dd : Nat} {K119 : Int32 → Int32 → Int32 → Int32 → St → Option (St)} (hK119 : ∀ (v1 : Int32) (v2 : Int32) (v3 : Int32) (v4 : Int32) (s : St), K119 v1 v2 v3 v4 s = some r → Wp m_X9_look d (PR none r) 119 [some (.ref 43), some (.int v1), some (.int v2), some (.int v3), some (.int v4), none] [] s) {L : Int32 → St → Option (St)} (hL : ∀ a1' (s' : St) (r' : St), L a1' s' = some r' → Ct dd m_X9_look [.ref 43, .int a1'] s' none r') (hdd : dd + 1 ≤ d) (hd0 : 20 ≤ d) {v1 : Int32} {v2 : Int32} {v3 : Int32} {v4 : Int32}  {s : St} (h : f_X9_look_254 K119 L v1 v2 v3 v4 s = some r) : Wp m_X9_look d (PR none r) 254 [some (.ref 43), some (.int v1), some (.int v2), some (.int v3), some (.int v4), none] [] s := by
  unfold f_X9_look_254 at h
  refine wp_inc (c := 1) (ls' := [some (.ref 43), some (.int v1), some (.int v2), some (.int v3), some (.int (v4 + 1)), none]) dX9_look_254 rfl (by decide +kernel) (by decide) rfl rfl ?_
  refine wp_goto (tgt := 119) dX9_look_257 (by decide) ?_
  exact wp_sub (ls' := [some (.ref 43), some (.int v1), some (.int v2), some (.int v3), some (.int (v4 + 1)), none]) ⟨rfl, rfl, rfl, rfl, rfl, trivial⟩ (hK119 _ _ _ _ _ h)
def f_X9_look_195 (K119 : Int32 → Int32 → Int32 → Int32 → St → Option (St)) (L : Int32 → St → Option (St)) : Nat → Int32 → Int32 → Int32 → Int32 → Int32 → St → Option (St)
  | 0, _, _, _, _, _, _ => none
  | n + 1, v1, v2, v3, v4, v5, s =>
    if (144 : Int32) ≤ v5 then (
      Option.bind (pI s 61 ((v2 + (144 : Int32)) + v3) ((1 : Int32) <<< (v4 &&& 31))) fun s2 =>
      Option.bind (L (v1 + (1 : Int32)) s2) fun s3 =>
      f_X9_look_254 K119 L v1 v2 v3 v4 s3)
    else (
      Option.bind (aI s 61 (v2 + v5)) fun x4 =>
      Option.bind (pI s 61 ((v2 + (144 : Int32)) + v5) x4) fun s5 =>
      f_X9_look_195 K119 L n v1 v2 v3 v4 (v5 + 1) s5)
set_option maxRecDepth 100000 in
set_option maxHeartbeats 4000000 in
theorem w_X9_look_195 {r : St} {d dd : Nat} {K119 : Int32 → Int32 → Int32 → Int32 → St → Option (St)} (hK119 : ∀ (v1 : Int32) (v2 : Int32) (v3 : Int32) (v4 : Int32) (s : St), K119 v1 v2 v3 v4 s = some r → Wp m_X9_look d (PR none r) 119 [some (.ref 43), some (.int v1), some (.int v2), some (.int v3), some (.int v4), none] [] s) {L : Int32 → St → Option (St)} (hL : ∀ a1' (s' : St) (r' : St), L a1' s' = some r' → Ct dd m_X9_look [.ref 43, .int a1'] s' none r') (hdd : dd + 1 ≤ d) (hd0 : 20 ≤ d)   : ∀ (n : Nat) (v1 : Int32) (v2 : Int32) (v3 : Int32) (v4 : Int32) (v5 : Int32) (s : St), f_X9_look_195 K119 L n v1 v2 v3 v4 v5 s = some r → Wp m_X9_look d (PR none r) 195 [some (.ref 43), some (.int v1), some (.int v2), some (.int v3), some (.int v4), some (.int v5)] [] s := by
  intro n
  induction n with
  | zero => intro v1 v2 v3 v4 v5 s h; cases h
  | succ n ih =>
    intro v1 v2 v3 v4 v5 s h
    unfold f_X9_look_195 at h
    refine wp_iload dX9_look_195 rfl ?_
    refine wp_sipush (v := 144) dX9_look_197 (by decide +kernel) ?_
    refine wp_icmp_ge (tgt := 231) dX9_look_200 (by decide) (fun c1 => ?_) (fun c1 => ?_)
    · rw [if_pos c1] at h
      refine wp_aload_n (i := 0) dX9_look_231 rfl rfl ?_
      refine wp_getR (t := 61) dX9_look_232 fl_X9_65 rfl rfl ?_
      refine wp_iload_n (i := 2) dX9_look_235 rfl rfl ?_
      refine wp_sipush (v := 144) dX9_look_236 (by decide +kernel) ?_
      refine wp_iadd dX9_look_239 ?_
      refine wp_iload_n (i := 3) dX9_look_240 rfl rfl ?_
      refine wp_iadd dX9_look_241 ?_
      refine wp_iconst (v := 1) dX9_look_242 (by decide +kernel) ?_
      refine wp_iload dX9_look_243 rfl ?_
      refine wp_ishl dX9_look_245 ?_
      obtain ⟨s2, es2, h⟩ := ob h
      refine wp_pI dX9_look_246 es2 ?_
      refine wp_aload_n (i := 0) dX9_look_247 rfl rfl ?_
      refine wp_iload_n (i := 1) dX9_look_248 rfl rfl ?_
      refine wp_iconst (v := 1) dX9_look_249 (by decide +kernel) ?_
      refine wp_iadd dX9_look_250 ?_
      obtain ⟨s3, es3, h⟩ := ob h
      refine wp_cVv (N := m_X9_look) (As := [.int (v1 + (1 : Int32))]) (rest := []) dX9_look_251 ml_X9_276 mo_X9_look vo_X9_look rfl rfl (hL _ _ _ es3) hdd (Nat.le_of_ble_eq_true rfl) ?_
      exact wp_sub (ls' := [some (.ref 43), some (.int v1), some (.int v2), some (.int v3), some (.int v4), none]) ⟨rfl, rfl, rfl, rfl, rfl, trivial⟩ (w_X9_look_254 hK119 hL hdd hd0 h)
    · rw [if_neg c1] at h
      refine wp_aload_n (i := 0) dX9_look_203 rfl rfl ?_
      refine wp_getR (t := 61) dX9_look_204 fl_X9_65 rfl rfl ?_
      refine wp_iload_n (i := 2) dX9_look_207 rfl rfl ?_
      refine wp_sipush (v := 144) dX9_look_208 (by decide +kernel) ?_
      refine wp_iadd dX9_look_211 ?_
      refine wp_iload dX9_look_212 rfl ?_
      refine wp_iadd dX9_look_214 ?_
      refine wp_aload_n (i := 0) dX9_look_215 rfl rfl ?_
      refine wp_getR (t := 61) dX9_look_216 fl_X9_65 rfl rfl ?_
      refine wp_iload_n (i := 2) dX9_look_219 rfl rfl ?_
      refine wp_iload dX9_look_220 rfl ?_
      refine wp_iadd dX9_look_222 ?_
      obtain ⟨x4, ex4, h⟩ := ob h
      refine wp_aI dX9_look_223 ex4 ?_
      obtain ⟨s5, es5, h⟩ := ob h
      refine wp_pI dX9_look_224 es5 ?_
      refine wp_inc (c := 1) (ls' := [some (.ref 43), some (.int v1), some (.int v2), some (.int v3), some (.int v4), some (.int (v5 + 1))]) dX9_look_225 rfl (by decide +kernel) (by decide) rfl rfl ?_
      refine wp_goto (tgt := 195) dX9_look_228 (by decide) ?_
      exact wp_sub (ls' := [some (.ref 43), some (.int v1), some (.int v2), some (.int v3), some (.int v4), some (.int (v5 + 1))]) ⟨rfl, rfl, rfl, rfl, rfl, rfl, trivial⟩ (ih _ _ _ _ _ _ h)
def f_X9_look_119 (L : Int32 → St → Option (St)) : Nat → Int32 → Int32 → Int32 → Int32 → St → Option (St)
  | 0, _, _, _, _, _ => none
  | n + 1, v1, v2, v3, v4, s =>
    if (s.1 43 3) < v4 then (
      some s)
    else (
      if (s.1 43 45) = 0 then (
        if (s.1 43 43) ≤ (s.1 43 44) then (
          some s)
        else (
          Option.bind (aI s 61 (v2 + v3)) fun x4 =>
          if ((x4 >>> (v4 &&& 31)) &&& (1 : Int32)) = 0 then (
            f_X9_look_254 (f_X9_look_119 L n) L v1 v2 v3 v4 s)
          else (
            if (s.1 43 41) = (s.1 43 42) then (
              Option.bind (some (sF s 43 45 (1 : Int32))) fun s8 =>
              some s8)
            else (
              Option.bind (some (sF s 43 41 ((s.1 43 41) + (1 : Int32)))) fun s7 =>
              f_X9_look_195 (f_X9_look_119 L n) L FU v1 v2 v3 v4 (0 : Int32) s7))))
      else (
        some s))
set_option maxRecDepth 100000 in
set_option maxHeartbeats 4000000 in
theorem w_X9_look_119 {r : St} {d dd : Nat} {L : Int32 → St → Option (St)} (hL : ∀ a1' (s' : St) (r' : St), L a1' s' = some r' → Ct dd m_X9_look [.ref 43, .int a1'] s' none r') (hdd : dd + 1 ≤ d) (hd0 : 20 ≤ d)   : ∀ (n : Nat) (v1 : Int32) (v2 : Int32) (v3 : Int32) (v4 : Int32) (s : St), f_X9_look_119  L n v1 v2 v3 v4 s = some r → Wp m_X9_look d (PR none r) 119 [some (.ref 43), some (.int v1), some (.int v2), some (.int v3), some (.int v4), none] [] s := by
  intro n
  induction n with
  | zero => intro v1 v2 v3 v4 s h; cases h
  | succ n ih =>
    intro v1 v2 v3 v4 s h
    unfold f_X9_look_119 at h
    refine wp_iload dX9_look_119 rfl ?_
    refine wp_aload_n (i := 0) dX9_look_121 rfl rfl ?_
    refine wp_getI dX9_look_122 fl_X9_169 rfl rfl ?_
    refine wp_icmp_gt (tgt := 260) dX9_look_125 (by decide) (fun c1 => ?_) (fun c1 => ?_)
    · rw [if_pos c1] at h
      obtain rfl := Option.some.inj h
      exact wp_vret dX9_look_260 rfl
    · rw [if_neg c1] at h
      refine wp_aload_n (i := 0) dX9_look_128 rfl rfl ?_
      refine wp_getI dX9_look_129 fl_X9_264 rfl rfl ?_
      refine wp_if_ne (tgt := 260) dX9_look_132 (by decide) (fun c2 => ?_) (fun c2 => ?_)
      · rw [if_neg c2] at h
        obtain rfl := Option.some.inj h
        exact wp_vret dX9_look_260 rfl
      · rw [if_pos c2] at h
        refine wp_aload_n (i := 0) dX9_look_135 rfl rfl ?_
        refine wp_getI dX9_look_136 fl_X9_255 rfl rfl ?_
        refine wp_aload_n (i := 0) dX9_look_139 rfl rfl ?_
        refine wp_getI dX9_look_140 fl_X9_267 rfl rfl ?_
        refine wp_icmp_ge (tgt := 260) dX9_look_143 (by decide) (fun c3 => ?_) (fun c3 => ?_)
        · rw [if_pos c3] at h
          obtain rfl := Option.some.inj h
          exact wp_vret dX9_look_260 rfl
        · rw [if_neg c3] at h
          refine wp_aload_n (i := 0) dX9_look_146 rfl rfl ?_
          refine wp_getR (t := 61) dX9_look_147 fl_X9_65 rfl rfl ?_
          refine wp_iload_n (i := 2) dX9_look_150 rfl rfl ?_
          refine wp_iload_n (i := 3) dX9_look_151 rfl rfl ?_
          refine wp_iadd dX9_look_152 ?_
          obtain ⟨x4, ex4, h⟩ := ob h
          refine wp_aI dX9_look_153 ex4 ?_
          refine wp_iload dX9_look_154 rfl ?_
          refine wp_ishr dX9_look_156 ?_
          refine wp_iconst (v := 1) dX9_look_157 (by decide +kernel) ?_
          refine wp_iand dX9_look_158 ?_
          refine wp_if_ne (tgt := 165) dX9_look_159 (by decide) (fun c5 => ?_) (fun c5 => ?_)
          · rw [if_neg c5] at h
            refine wp_aload_n (i := 0) dX9_look_165 rfl rfl ?_
            refine wp_getI dX9_look_166 fl_X9_270 rfl rfl ?_
            refine wp_aload_n (i := 0) dX9_look_169 rfl rfl ?_
            refine wp_getI dX9_look_170 fl_X9_273 rfl rfl ?_
            refine wp_icmp_ne (tgt := 182) dX9_look_173 (by decide) (fun c6 => ?_) (fun c6 => ?_)
            · rw [if_neg c6] at h
              refine wp_aload_n (i := 0) dX9_look_182 rfl rfl ?_
              refine wp_dup_r dX9_look_183 ?_
              refine wp_getI dX9_look_184 fl_X9_270 rfl rfl ?_
              refine wp_iconst (v := 1) dX9_look_187 (by decide +kernel) ?_
              refine wp_iadd dX9_look_188 ?_
              obtain ⟨s7, es7, h⟩ := ob h
              refine wp_putI2 dX9_look_189 fl_X9_270 rfl rfl rfl rfl es7 ?_
              refine wp_iconst (v := 0) dX9_look_192 (by decide +kernel) ?_
              refine wp_istore (ls' := [some (.ref 43), some (.int v1), some (.int v2), some (.int v3), some (.int v4), some (.int (0 : Int32))]) dX9_look_193 (by decide) rfl rfl ?_
              exact wp_sub (ls' := [some (.ref 43), some (.int v1), some (.int v2), some (.int v3), some (.int v4), some (.int (0 : Int32))]) ⟨rfl, rfl, rfl, rfl, rfl, rfl, trivial⟩ (w_X9_look_195 ih hL hdd hd0 _ _ _ _ _ _ _ h)
            · rw [if_pos c6] at h
              refine wp_aload_n (i := 0) dX9_look_176 rfl rfl ?_
              refine wp_iconst (v := 1) dX9_look_177 (by decide +kernel) ?_
              obtain ⟨s8, es8, h⟩ := ob h
              refine wp_putZ2 dX9_look_178 fl_X9_264 rfl rfl rfl rfl (Or.inr rfl) es8 ?_
              obtain rfl := Option.some.inj h
              exact wp_vret dX9_look_181 rfl
          · rw [if_pos c5] at h
            refine wp_goto (tgt := 254) dX9_look_162 (by decide) ?_
            exact wp_sub (ls' := [some (.ref 43), some (.int v1), some (.int v2), some (.int v3), some (.int v4), none]) ⟨rfl, rfl, rfl, rfl, rfl, trivial⟩ (w_X9_look_254 ih hL hdd hd0 h)
def f_X9_look_99 (L : Int32 → St → Option (St))  (s : St) : Option (St) :=
  Option.bind (some (sF s 43 44 ((s.1 43 44) + (1 : Int32)))) fun s1 =>
  some s1
set_option maxRecDepth 100000 in
set_option maxHeartbeats 4000000 in
theorem w_X9_look_99 {r : St} {d dd : Nat} {L : Int32 → St → Option (St)} (hL : ∀ a1' (s' : St) (r' : St), L a1' s' = some r' → Ct dd m_X9_look [.ref 43, .int a1'] s' none r') (hdd : dd + 1 ≤ d) (hd0 : 20 ≤ d)   {s : St} (h : f_X9_look_99  L s = some r) : Wp m_X9_look d (PR none r) 99 [some (.ref 43), none, none, none, none, none] [] s := by
  unfold f_X9_look_99 at h
  refine wp_aload_n (i := 0) dX9_look_99 rfl rfl ?_
  refine wp_dup_r dX9_look_100 ?_
  refine wp_getI dX9_look_101 fl_X9_255 rfl rfl ?_
  refine wp_iconst (v := 1) dX9_look_104 (by decide +kernel) ?_
  refine wp_iadd dX9_look_105 ?_
  obtain ⟨s1, es1, h⟩ := ob h
  refine wp_putI2 dX9_look_106 fl_X9_255 rfl rfl rfl rfl es1 ?_
  obtain rfl := Option.some.inj h
  exact wp_vret dX9_look_109 rfl
def f_X9_look_92 (K33 : Int32 → Int32 → St → Option (St)) (L : Int32 → St → Option (St)) (v2 : Int32) (v3 : Int32) (t0 : Int32) (t1 : Int32) (s : St) : Option (St) :=
  Option.bind (pI s 62 t1 t0) fun s1 =>
  K33 v2 (v3 + 1) s1
set_option maxRecDepth 100000 in
set_option maxHeartbeats 4000000 in
theorem w_X9_look_92 {r : St} {d dd : Nat} {K33 : Int32 → Int32 → St → Option (St)} (hK33 : ∀ (v2 : Int32) (v3 : Int32) (s : St), K33 v2 v3 s = some r → Wp m_X9_look d (PR none r) 33 [some (.ref 43), none, some (.int v2), some (.int v3), none, none] [] s) {L : Int32 → St → Option (St)} (hL : ∀ a1' (s' : St) (r' : St), L a1' s' = some r' → Ct dd m_X9_look [.ref 43, .int a1'] s' none r') (hdd : dd + 1 ≤ d) (hd0 : 20 ≤ d) {v2 : Int32} {v3 : Int32} {t0 : Int32} {t1 : Int32}  {s : St} (h : f_X9_look_92 K33 L v2 v3 t0 t1 s = some r) : Wp m_X9_look d (PR none r) 92 [some (.ref 43), none, some (.int v2), some (.int v3), none, none] [.int t0, .int t1, .ref 62] s := by
  unfold f_X9_look_92 at h
  obtain ⟨s1, es1, h⟩ := ob h
  refine wp_pI dX9_look_92 es1 ?_
  refine wp_inc (c := 1) (ls' := [some (.ref 43), none, some (.int v2), some (.int (v3 + 1)), none, none]) dX9_look_93 rfl (by decide +kernel) (by decide) rfl rfl ?_
  refine wp_goto (tgt := 33) dX9_look_96 (by decide) ?_
  exact wp_sub (ls' := [some (.ref 43), none, some (.int v2), some (.int (v3 + 1)), none, none]) ⟨rfl, rfl, rfl, trivial⟩ (hK33 _ _ _ h)
def f_X9_look_33 (L : Int32 → St → Option (St)) : Nat → Int32 → Int32 → St → Option (St)
  | 0, _, _, _ => none
  | n + 1, v2, v3, s =>
    if (144 : Int32) ≤ v3 then (
      f_X9_look_99 L s)
    else (
      if (2 : Int32) ≤ (s.1 43 44) then (
        f_X9_look_99 L s)
      else (
        Option.bind (f_X9_isCell (v3 - v3 / (12 : Int32) * (12 : Int32)) (v3 / (12 : Int32)) s) fun r3 =>
        if r3.1 = 0 then (
          f_X9_look_92 (f_X9_look_33 L n) L v2 v3 (0 : Int32) (((144 : Int32) * (s.1 43 44)) + v3) r3.2)
        else (
          Option.bind (aI r3.2 61 (v2 + v3)) fun x5 =>
          Option.bind (f_X9_least x5 r3.2) fun r6 =>
          f_X9_look_92 (f_X9_look_33 L n) L v2 v3 r6.1 (((144 : Int32) * (s.1 43 44)) + v3) r6.2)))
set_option maxRecDepth 100000 in
set_option maxHeartbeats 4000000 in
theorem w_X9_look_33 {r : St} {d dd : Nat} {L : Int32 → St → Option (St)} (hL : ∀ a1' (s' : St) (r' : St), L a1' s' = some r' → Ct dd m_X9_look [.ref 43, .int a1'] s' none r') (hdd : dd + 1 ≤ d) (hd0 : 20 ≤ d)   : ∀ (n : Nat) (v2 : Int32) (v3 : Int32) (s : St), f_X9_look_33  L n v2 v3 s = some r → Wp m_X9_look d (PR none r) 33 [some (.ref 43), none, some (.int v2), some (.int v3), none, none] [] s := by
  intro n
  induction n with
  | zero => intro v2 v3 s h; cases h
  | succ n ih =>
    intro v2 v3 s h
    unfold f_X9_look_33 at h
    refine wp_iload_n (i := 3) dX9_look_33 rfl rfl ?_
    refine wp_sipush (v := 144) dX9_look_34 (by decide +kernel) ?_
    refine wp_icmp_ge (tgt := 99) dX9_look_37 (by decide) (fun c1 => ?_) (fun c1 => ?_)
    · rw [if_pos c1] at h
      exact wp_sub (ls' := [some (.ref 43), none, none, none, none, none]) ⟨rfl, trivial⟩ (w_X9_look_99 hL hdd hd0 h)
    · rw [if_neg c1] at h
      refine wp_aload_n (i := 0) dX9_look_40 rfl rfl ?_
      refine wp_getI dX9_look_41 fl_X9_255 rfl rfl ?_
      refine wp_iconst (v := 2) dX9_look_44 (by decide +kernel) ?_
      refine wp_icmp_ge (tgt := 99) dX9_look_45 (by decide) (fun c2 => ?_) (fun c2 => ?_)
      · rw [if_pos c2] at h
        exact wp_sub (ls' := [some (.ref 43), none, none, none, none, none]) ⟨rfl, trivial⟩ (w_X9_look_99 hL hdd hd0 h)
      · rw [if_neg c2] at h
        refine wp_aload_n (i := 0) dX9_look_48 rfl rfl ?_
        refine wp_getR (t := 62) dX9_look_49 fl_X9_68 rfl rfl ?_
        refine wp_sipush (v := 144) dX9_look_52 (by decide +kernel) ?_
        refine wp_aload_n (i := 0) dX9_look_55 rfl rfl ?_
        refine wp_getI dX9_look_56 fl_X9_255 rfl rfl ?_
        refine wp_imul dX9_look_59 ?_
        refine wp_iload_n (i := 3) dX9_look_60 rfl rfl ?_
        refine wp_iadd dX9_look_61 ?_
        refine wp_aload_n (i := 0) dX9_look_62 rfl rfl ?_
        refine wp_iload_n (i := 3) dX9_look_63 rfl rfl ?_
        refine wp_bipush (v := 12) dX9_look_64 (by decide +kernel) ?_
        refine wp_irem dX9_look_66 (by decide +kernel) ?_
        refine wp_iload_n (i := 3) dX9_look_67 rfl rfl ?_
        refine wp_bipush (v := 12) dX9_look_68 (by decide +kernel) ?_
        refine wp_idiv dX9_look_70 (by decide +kernel) ?_
        obtain ⟨r3, er3, h⟩ := ob h
        refine wp_cVi (N := m_X9_isCell) (As := [.int (v3 - v3 / (12 : Int32) * (12 : Int32)), .int (v3 / (12 : Int32))]) (rest := [.int (((144 : Int32) * (s.1 43 44)) + v3), .ref 62]) dX9_look_71 ml_X9_181 mo_X9_isCell vo_X9_isCell rfl rfl (ok_X9_isCell er3) (by omega) (Nat.le_of_ble_eq_true rfl) ?_
        refine wp_if_eq (tgt := 91) dX9_look_74 (by decide) (fun c4 => ?_) (fun c4 => ?_)
        · rw [if_pos c4] at h
          refine wp_iconst (v := 0) dX9_look_91 (by decide +kernel) ?_
          exact wp_sub (ls' := [some (.ref 43), none, some (.int v2), some (.int v3), none, none]) ⟨rfl, rfl, rfl, trivial⟩ (w_X9_look_92 ih hL hdd hd0 h)
        · rw [if_neg c4] at h
          refine wp_aload_n (i := 0) dX9_look_77 rfl rfl ?_
          refine wp_getR (t := 61) dX9_look_78 fl_X9_65 rfl rfl ?_
          refine wp_iload_n (i := 2) dX9_look_81 rfl rfl ?_
          refine wp_iload_n (i := 3) dX9_look_82 rfl rfl ?_
          refine wp_iadd dX9_look_83 ?_
          obtain ⟨x5, ex5, h⟩ := ob h
          refine wp_aI dX9_look_84 ex5 ?_
          obtain ⟨r6, er6, h⟩ := ob h
          refine wp_cSi (N := m_X9_least) (As := [.int x5]) (rest := [.int (((144 : Int32) * (s.1 43 44)) + v3), .ref 62]) dX9_look_85 ml_X9_258 mo_X9_least vo_X9_least rfl (ok_X9_least er6) (by omega) (Nat.le_of_ble_eq_true rfl) ?_
          refine wp_goto (tgt := 92) dX9_look_88 (by decide) ?_
          exact wp_sub (ls' := [some (.ref 43), none, some (.int v2), some (.int v3), none, none]) ⟨rfl, rfl, rfl, trivial⟩ (w_X9_look_92 ih hL hdd hd0 h)
def f_X9_look : Nat → Int32 → St → Option (St)
  | 0, _, _ => none
  | n + 1, a1, s =>
    Option.bind (f_X9_toRest 61 ((144 : Int32) * a1) s) fun r1 =>
    if r1.1 = 0 then (
      some r1.2)
    else (
      Option.bind (f_X9_allOne 61 ((144 : Int32) * a1) r1.2) fun r3 =>
      if r3.1 = 0 then (
        Option.bind (f_X9_branch ((144 : Int32) * a1) r3.2) fun r5 =>
        f_X9_look_119 (f_X9_look n) FU a1 ((144 : Int32) * a1) r5.1 (0 : Int32) r5.2)
      else (
        f_X9_look_33 (f_X9_look n) FU ((144 : Int32) * a1) (0 : Int32) r3.2))
set_option maxRecDepth 100000 in
set_option maxHeartbeats 4000000 in
theorem okr_X9_look : ∀ (n : Nat) (a1 : Int32) (s : St) (r : St), f_X9_look n a1 s = some r → Ct (n + 20) m_X9_look [.ref 43, .int a1] s none r := by
  intro n
  induction n with
  | zero => intro a1 s r h; cases h
  | succ n ih =>
    intro a1 s r h
    unfold f_X9_look at h
    have hL := ih
    have hdd : n + 20 + 1 ≤ n + 1 + 20 := by omega
    have hd0 : 20 ≤ n + 1 + 20 := by omega
    refine ct_of [some (.ref 43), some (.int a1), none, none, none, none] 4 (by decide) rfl (Nat.le_of_ble_eq_true rfl) ?_
    refine wp_sipush (v := 144) dX9_look_0 (by decide +kernel) ?_
    refine wp_iload_n (i := 1) dX9_look_3 rfl rfl ?_
    refine wp_imul dX9_look_4 ?_
    refine wp_istore_n (ls' := [some (.ref 43), some (.int a1), some (.int ((144 : Int32) * a1)), none, none, none]) dX9_look_5 rfl (by decide) rfl rfl ?_
    refine wp_aload_n (i := 0) dX9_look_6 rfl rfl ?_
    refine wp_aload_n (i := 0) dX9_look_7 rfl rfl ?_
    refine wp_getR (t := 61) dX9_look_8 fl_X9_65 rfl rfl ?_
    refine wp_iload_n (i := 2) dX9_look_11 rfl rfl ?_
    obtain ⟨r1, er1, h⟩ := ob h
    refine wp_cVi (N := m_X9_toRest) (As := [.ref 61, .int ((144 : Int32) * a1)]) (rest := []) dX9_look_12 ml_X9_239 mo_X9_toRest vo_X9_toRest rfl rfl (ok_X9_toRest er1) (by omega) (Nat.le_of_ble_eq_true rfl) ?_
    refine wp_if_ne (tgt := 19) dX9_look_15 (by decide) (fun c2 => ?_) (fun c2 => ?_)
    · rw [if_neg c2] at h
      refine wp_aload_n (i := 0) dX9_look_19 rfl rfl ?_
      refine wp_aload_n (i := 0) dX9_look_20 rfl rfl ?_
      refine wp_getR (t := 61) dX9_look_21 fl_X9_65 rfl rfl ?_
      refine wp_iload_n (i := 2) dX9_look_24 rfl rfl ?_
      obtain ⟨r3, er3, h⟩ := ob h
      refine wp_cVi (N := m_X9_allOne) (As := [.ref 61, .int ((144 : Int32) * a1)]) (rest := []) dX9_look_25 ml_X9_252 mo_X9_allOne vo_X9_allOne rfl rfl (ok_X9_allOne er3) (by omega) (Nat.le_of_ble_eq_true rfl) ?_
      refine wp_if_eq (tgt := 110) dX9_look_28 (by decide) (fun c4 => ?_) (fun c4 => ?_)
      · rw [if_pos c4] at h
        refine wp_aload_n (i := 0) dX9_look_110 rfl rfl ?_
        refine wp_iload_n (i := 2) dX9_look_111 rfl rfl ?_
        obtain ⟨r5, er5, h⟩ := ob h
        refine wp_cVi (N := m_X9_branch) (As := [.int ((144 : Int32) * a1)]) (rest := []) dX9_look_112 ml_X9_261 mo_X9_branch vo_X9_branch rfl rfl (ok_X9_branch er5) (by omega) (Nat.le_of_ble_eq_true rfl) ?_
        refine wp_istore_n (ls' := [some (.ref 43), some (.int a1), some (.int ((144 : Int32) * a1)), some (.int r5.1), none, none]) dX9_look_115 rfl (by decide) rfl rfl ?_
        refine wp_iconst (v := 0) dX9_look_116 (by decide +kernel) ?_
        refine wp_istore (ls' := [some (.ref 43), some (.int a1), some (.int ((144 : Int32) * a1)), some (.int r5.1), some (.int (0 : Int32)), none]) dX9_look_117 (by decide) rfl rfl ?_
        exact wp_sub (ls' := [some (.ref 43), some (.int a1), some (.int ((144 : Int32) * a1)), some (.int r5.1), some (.int (0 : Int32)), none]) ⟨rfl, rfl, rfl, rfl, rfl, trivial⟩ (w_X9_look_119 hL hdd hd0 _ _ _ _ _ _ h)
      · rw [if_neg c4] at h
        refine wp_iconst (v := 0) dX9_look_31 (by decide +kernel) ?_
        refine wp_istore_n (ls' := [some (.ref 43), some (.int a1), some (.int ((144 : Int32) * a1)), some (.int (0 : Int32)), none, none]) dX9_look_32 rfl (by decide) rfl rfl ?_
        exact wp_sub (ls' := [some (.ref 43), none, some (.int ((144 : Int32) * a1)), some (.int (0 : Int32)), none, none]) ⟨rfl, rfl, rfl, trivial⟩ (w_X9_look_33 hL hdd hd0 _ _ _ _ h)
    · rw [if_pos c2] at h
      obtain rfl := Option.some.inj h
      exact wp_vret dX9_look_18 rfl
theorem ok_X9_look {a1 : Int32} {s : St} {r : St} (n : Nat) (h : f_X9_look n a1 s = some r) : Ct (n + 20) m_X9_look [.ref 43, .int a1] s none r := okr_X9_look n _ _ _ h
def f_X9_searches (a1 : Int32) (a2 : Int32) (s : St) : Option (St) :=
  Option.bind (some (sF s 43 41 (0 : Int32))) fun s1 =>
  Option.bind (some (sF s1 43 42 a2)) fun s2 =>
  Option.bind (some (sF s2 43 43 a1)) fun s3 =>
  Option.bind (some (sF s3 43 44 (0 : Int32))) fun s4 =>
  Option.bind (some (sF s4 43 45 (0 : Int32))) fun s5 =>
  Option.bind (f_X9_first 61 (0 : Int32) s5) fun s6 =>
  Option.bind (f_X9_look LOOKN (0 : Int32) s6) fun s7 =>
  some s7
set_option maxRecDepth 100000 in
set_option maxHeartbeats 4000000 in
theorem ok_X9_searches {a1 : Int32} {a2 : Int32} {s : St} {r : St} (h : f_X9_searches a1 a2 s = some r) : Ct 168 m_X9_searches [.ref 43, .int a1, .int a2] s none r := by
  unfold f_X9_searches at h
  refine ct_of [some (.ref 43), some (.int a1), some (.int a2)] 0 (by decide) rfl (Nat.le_of_ble_eq_true rfl) ?_
  refine wp_aload_n (i := 0) dX9_searches_0 rfl rfl ?_
  refine wp_iconst (v := 0) dX9_searches_1 (by decide +kernel) ?_
  obtain ⟨s1, es1, h⟩ := ob h
  refine wp_putI2 dX9_searches_2 fl_X9_270 rfl rfl rfl rfl es1 ?_
  refine wp_aload_n (i := 0) dX9_searches_5 rfl rfl ?_
  refine wp_iload_n (i := 2) dX9_searches_6 rfl rfl ?_
  obtain ⟨s2, es2, h⟩ := ob h
  refine wp_putI2 dX9_searches_7 fl_X9_273 rfl rfl rfl rfl es2 ?_
  refine wp_aload_n (i := 0) dX9_searches_10 rfl rfl ?_
  refine wp_iload_n (i := 1) dX9_searches_11 rfl rfl ?_
  obtain ⟨s3, es3, h⟩ := ob h
  refine wp_putI2 dX9_searches_12 fl_X9_267 rfl rfl rfl rfl es3 ?_
  refine wp_aload_n (i := 0) dX9_searches_15 rfl rfl ?_
  refine wp_iconst (v := 0) dX9_searches_16 (by decide +kernel) ?_
  obtain ⟨s4, es4, h⟩ := ob h
  refine wp_putI2 dX9_searches_17 fl_X9_255 rfl rfl rfl rfl es4 ?_
  refine wp_aload_n (i := 0) dX9_searches_20 rfl rfl ?_
  refine wp_iconst (v := 0) dX9_searches_21 (by decide +kernel) ?_
  obtain ⟨s5, es5, h⟩ := ob h
  refine wp_putZ2 dX9_searches_22 fl_X9_264 rfl rfl rfl rfl (Or.inl rfl) es5 ?_
  refine wp_aload_n (i := 0) dX9_searches_25 rfl rfl ?_
  refine wp_aload_n (i := 0) dX9_searches_26 rfl rfl ?_
  refine wp_getR (t := 61) dX9_searches_27 fl_X9_65 rfl rfl ?_
  refine wp_iconst (v := 0) dX9_searches_30 (by decide +kernel) ?_
  obtain ⟨s6, es6, h⟩ := ob h
  refine wp_cVv (N := m_X9_first) (As := [.ref 61, .int (0 : Int32)]) (rest := []) dX9_searches_31 ml_X9_193 mo_X9_first vo_X9_first rfl rfl (ok_X9_first es6) (by decide) (Nat.le_of_ble_eq_true rfl) ?_
  refine wp_aload_n (i := 0) dX9_searches_34 rfl rfl ?_
  refine wp_iconst (v := 0) dX9_searches_35 (by decide +kernel) ?_
  obtain ⟨s7, es7, h⟩ := ob h
  refine wp_cVv (N := m_X9_look) (As := [.int (0 : Int32)]) (rest := []) dX9_searches_36 ml_X9_276 mo_X9_look vo_X9_look rfl rfl (ok_X9_look _ es7) (by decide) (Nat.le_of_ble_eq_true rfl) ?_
  obtain rfl := Option.some.inj h
  exact wp_vret dX9_searches_39 rfl
def f_X9_search_64 : Nat → Int32 → St → Option (Int32 × St)
  | 0, _, _ => none
  | n + 1, v3, s =>
    if (288 : Int32) ≤ v3 then (
      if (s.1 43 45) = 0 then (
        some (s.1 43 44, s))
      else (
        some ((-2 : Int32), s)))
    else (
      Option.bind (aI s 62 v3) fun x3 =>
      Option.bind (pI s 50 v3 x3) fun s4 =>
      f_X9_search_64 n (v3 + 1) s4)
set_option maxRecDepth 100000 in
set_option maxHeartbeats 4000000 in
theorem w_X9_search_64 {r : Int32 × St}   : ∀ (n : Nat) (v3 : Int32) (s : St), f_X9_search_64  n v3 s = some r → Wp m_X9_search 169 (PR (some (.int r.1)) r.2) 64 [some (.ref 43), none, none, some (.int v3)] [] s := by
  intro n
  induction n with
  | zero => intro v3 s h; cases h
  | succ n ih =>
    intro v3 s h
    unfold f_X9_search_64 at h
    refine wp_iload_n (i := 3) dX9_search_64 rfl rfl ?_
    refine wp_sipush (v := 288) dX9_search_65 (by decide +kernel) ?_
    refine wp_icmp_ge (tgt := 89) dX9_search_68 (by decide) (fun c1 => ?_) (fun c1 => ?_)
    · rw [if_pos c1] at h
      refine wp_aload_n (i := 0) dX9_search_89 rfl rfl ?_
      refine wp_getI dX9_search_90 fl_X9_264 rfl rfl ?_
      refine wp_if_eq (tgt := 101) dX9_search_93 (by decide) (fun c2 => ?_) (fun c2 => ?_)
      · rw [if_pos c2] at h
        refine wp_aload_n (i := 0) dX9_search_101 rfl rfl ?_
        refine wp_getI dX9_search_102 fl_X9_255 rfl rfl ?_
        obtain rfl := Option.some.inj h
        exact wp_iret dX9_search_105 rfl rfl
      · rw [if_neg c2] at h
        refine wp_bipush (v := -2) dX9_search_96 (by decide +kernel) ?_
        refine wp_goto (tgt := 105) dX9_search_98 (by decide) ?_
        obtain rfl := Option.some.inj h
        exact wp_iret dX9_search_105 rfl rfl
    · rw [if_neg c1] at h
      refine wp_aload_n (i := 0) dX9_search_71 rfl rfl ?_
      refine wp_getR (t := 50) dX9_search_72 fl_X9_32 rfl rfl ?_
      refine wp_iload_n (i := 3) dX9_search_75 rfl rfl ?_
      refine wp_aload_n (i := 0) dX9_search_76 rfl rfl ?_
      refine wp_getR (t := 62) dX9_search_77 fl_X9_68 rfl rfl ?_
      refine wp_iload_n (i := 3) dX9_search_80 rfl rfl ?_
      obtain ⟨x3, ex3, h⟩ := ob h
      refine wp_aI dX9_search_81 ex3 ?_
      obtain ⟨s4, es4, h⟩ := ob h
      refine wp_pI dX9_search_82 es4 ?_
      refine wp_inc (c := 1) (ls' := [some (.ref 43), none, none, some (.int (v3 + 1))]) dX9_search_83 rfl (by decide +kernel) (by decide) rfl rfl ?_
      refine wp_goto (tgt := 64) dX9_search_86 (by decide) ?_
      exact wp_sub (ls' := [some (.ref 43), none, none, some (.int (v3 + 1))]) ⟨rfl, rfl, trivial⟩ (ih _ _ h)
def f_X9_search (a1 : Int32) (a2 : Int32) (s : St) : Option (Int32 × St) :=
  Option.bind (some (sF s 43 0 (0 : Int32))) fun s1 =>
  Option.bind (f_X9_is s1) fun r2 =>
  if r2.1 = 0 then (
    some ((-1 : Int32), r2.2))
  else (
    Option.bind (f_X9_in a1 (1 : Int32) (50 : Int32) r2.2) fun r4 =>
    if r4.1 = 0 then (
      some ((-1 : Int32), r4.2))
    else (
      Option.bind (f_X9_in a2 (0 : Int32) (1000 : Int32) r4.2) fun r6 =>
      if r6.1 = 0 then (
        some ((-1 : Int32), r6.2))
      else (
        Option.bind (f_X9_searches a1 a2 r6.2) fun s8 =>
        Option.bind (some (sF s8 43 12 (s8.1 43 41))) fun s9 =>
        Option.bind (some (sF s9 43 11 (1 : Int32))) fun s10 =>
        Option.bind (some (sF s10 43 13 (s10.1 43 44))) fun s11 =>
        f_X9_search_64 FU (0 : Int32) s11)))
set_option maxRecDepth 100000 in
set_option maxHeartbeats 4000000 in
theorem ok_X9_search {a1 : Int32} {a2 : Int32} {s : St} {r : Int32 × St} (h : f_X9_search a1 a2 s = some r) : Ct 169 m_X9_search [.ref 43, .int a1, .int a2] s (some (.int r.1)) r.2 := by
  unfold f_X9_search at h
  refine ct_of [some (.ref 43), some (.int a1), some (.int a2), none] 1 (by decide) rfl (Nat.le_of_ble_eq_true rfl) ?_
  refine wp_aload_n (i := 0) dX9_search_0 rfl rfl ?_
  refine wp_iconst (v := 0) dX9_search_1 (by decide +kernel) ?_
  obtain ⟨s1, es1, h⟩ := ob h
  refine wp_putI2 dX9_search_2 fl_X9_80 rfl rfl rfl rfl es1 ?_
  refine wp_aload_n (i := 0) dX9_search_5 rfl rfl ?_
  obtain ⟨r2, er2, h⟩ := ob h
  refine wp_cVi (N := m_X9_is) (As := []) (rest := []) dX9_search_6 ml_X9_89 mo_X9_is vo_X9_is rfl rfl (ok_X9_is er2) (by decide) (Nat.le_of_ble_eq_true rfl) ?_
  refine wp_if_eq (tgt := 33) dX9_search_9 (by decide) (fun c3 => ?_) (fun c3 => ?_)
  · rw [if_pos c3] at h
    refine wp_iconst (v := -1) dX9_search_33 (by decide +kernel) ?_
    obtain rfl := Option.some.inj h
    exact wp_iret dX9_search_34 rfl rfl
  · rw [if_neg c3] at h
    refine wp_iload_n (i := 1) dX9_search_12 rfl rfl ?_
    refine wp_iconst (v := 1) dX9_search_13 (by decide +kernel) ?_
    refine wp_bipush (v := 50) dX9_search_14 (by decide +kernel) ?_
    obtain ⟨r4, er4, h⟩ := ob h
    refine wp_cSi (N := m_X9_in) (As := [.int a1, .int (1 : Int32), .int (50 : Int32)]) (rest := []) dX9_search_16 ml_X9_97 mo_X9_in vo_X9_in rfl (ok_X9_in er4) (by decide) (Nat.le_of_ble_eq_true rfl) ?_
    refine wp_if_eq (tgt := 33) dX9_search_19 (by decide) (fun c5 => ?_) (fun c5 => ?_)
    · rw [if_pos c5] at h
      refine wp_iconst (v := -1) dX9_search_33 (by decide +kernel) ?_
      obtain rfl := Option.some.inj h
      exact wp_iret dX9_search_34 rfl rfl
    · rw [if_neg c5] at h
      refine wp_iload_n (i := 2) dX9_search_22 rfl rfl ?_
      refine wp_iconst (v := 0) dX9_search_23 (by decide +kernel) ?_
      refine wp_sipush (v := 1000) dX9_search_24 (by decide +kernel) ?_
      obtain ⟨r6, er6, h⟩ := ob h
      refine wp_cSi (N := m_X9_in) (As := [.int a2, .int (0 : Int32), .int (1000 : Int32)]) (rest := []) dX9_search_27 ml_X9_97 mo_X9_in vo_X9_in rfl (ok_X9_in er6) (by decide) (Nat.le_of_ble_eq_true rfl) ?_
      refine wp_if_ne (tgt := 35) dX9_search_30 (by decide) (fun c7 => ?_) (fun c7 => ?_)
      · rw [if_neg c7] at h
        refine wp_aload_n (i := 0) dX9_search_35 rfl rfl ?_
        refine wp_iload_n (i := 1) dX9_search_36 rfl rfl ?_
        refine wp_iload_n (i := 2) dX9_search_37 rfl rfl ?_
        obtain ⟨s8, es8, h⟩ := ob h
        refine wp_cVv (N := m_X9_searches) (As := [.int a1, .int a2]) (rest := []) dX9_search_38 ml_X9_279 mo_X9_searches vo_X9_searches rfl rfl (ok_X9_searches es8) (by decide) (Nat.le_of_ble_eq_true rfl) ?_
        refine wp_aload_n (i := 0) dX9_search_41 rfl rfl ?_
        refine wp_aload_n (i := 0) dX9_search_42 rfl rfl ?_
        refine wp_getI dX9_search_43 fl_X9_270 rfl rfl ?_
        obtain ⟨s9, es9, h⟩ := ob h
        refine wp_putI2 dX9_search_46 fl_X9_28 rfl rfl rfl rfl es9 ?_
        refine wp_aload_n (i := 0) dX9_search_49 rfl rfl ?_
        refine wp_iconst (v := 1) dX9_search_50 (by decide +kernel) ?_
        obtain ⟨s10, es10, h⟩ := ob h
        refine wp_putZ2 dX9_search_51 fl_X9_105 rfl rfl rfl rfl (Or.inr rfl) es10 ?_
        refine wp_aload_n (i := 0) dX9_search_54 rfl rfl ?_
        refine wp_aload_n (i := 0) dX9_search_55 rfl rfl ?_
        refine wp_getI dX9_search_56 fl_X9_255 rfl rfl ?_
        obtain ⟨s11, es11, h⟩ := ob h
        refine wp_putI2 dX9_search_59 fl_X9_282 rfl rfl rfl rfl es11 ?_
        refine wp_iconst (v := 0) dX9_search_62 (by decide +kernel) ?_
        refine wp_istore_n (ls' := [some (.ref 43), some (.int a1), some (.int a2), some (.int (0 : Int32))]) dX9_search_63 rfl (by decide) rfl rfl ?_
        exact wp_sub (ls' := [some (.ref 43), none, none, some (.int (0 : Int32))]) ⟨rfl, rfl, trivial⟩ (w_X9_search_64 _ _ _ h)
      · rw [if_pos c7] at h
        refine wp_iconst (v := -1) dX9_search_33 (by decide +kernel) ?_
        obtain rfl := Option.some.inj h
        exact wp_iret dX9_search_34 rfl rfl
def f_X9_nodes  (s : St) : Option (Int32 × St) :=
  Option.bind (some (sF s 43 0 (0 : Int32))) fun s1 =>
  some (s1.1 43 12, s1)
set_option maxRecDepth 100000 in
set_option maxHeartbeats 4000000 in
theorem ok_X9_nodes  {s : St} {r : Int32 × St} (h : f_X9_nodes  s = some r) : Ct 0 m_X9_nodes [.ref 43] s (some (.int r.1)) r.2 := by
  unfold f_X9_nodes at h
  refine ct_of [some (.ref 43)] 0 (by decide) rfl (Nat.le_of_ble_eq_true rfl) ?_
  refine wp_aload_n (i := 0) dX9_nodes_0 rfl rfl ?_
  refine wp_iconst (v := 0) dX9_nodes_1 (by decide +kernel) ?_
  obtain ⟨s1, es1, h⟩ := ob h
  refine wp_putI2 dX9_nodes_2 fl_X9_80 rfl rfl rfl rfl es1 ?_
  refine wp_aload_n (i := 0) dX9_nodes_5 rfl rfl ?_
  refine wp_getI dX9_nodes_6 fl_X9_28 rfl rfl ?_
  obtain rfl := Option.some.inj h
  exact wp_iret dX9_nodes_9 rfl rfl
def f_X9_solution (a1 : Int32) (a2 : Int32) (a3 : Int32) (s : St) : Option (Int32 × St) :=
  Option.bind (some (sF s 43 0 (0 : Int32))) fun s1 =>
  Option.bind (f_X9_isCell a2 a3 s1) fun r2 =>
  if r2.1 = 0 then (
    some ((-1 : Int32), r2.2))
  else (
    if (r2.2.1 43 11) = 0 then (
      some ((-1 : Int32), r2.2))
    else (
      Option.bind (f_X9_in a1 (0 : Int32) (1 : Int32) r2.2) fun r5 =>
      if r5.1 = 0 then (
        some ((-1 : Int32), r5.2))
      else (
        if (r5.2.1 43 13) ≤ a1 then (
          some ((-1 : Int32), r5.2))
        else (
          Option.bind (aI r5.2 50 ((((144 : Int32) * a1) + ((12 : Int32) * a3)) + a2)) fun x8 =>
          some (x8, r5.2)))))
set_option maxRecDepth 100000 in
set_option maxHeartbeats 4000000 in
theorem ok_X9_solution {a1 : Int32} {a2 : Int32} {a3 : Int32} {s : St} {r : Int32 × St} (h : f_X9_solution a1 a2 a3 s = some r) : Ct 2 m_X9_solution [.ref 43, .int a1, .int a2, .int a3] s (some (.int r.1)) r.2 := by
  unfold f_X9_solution at h
  refine ct_of [some (.ref 43), some (.int a1), some (.int a2), some (.int a3)] 0 (by decide) rfl (Nat.le_of_ble_eq_true rfl) ?_
  refine wp_aload_n (i := 0) dX9_solution_0 rfl rfl ?_
  refine wp_iconst (v := 0) dX9_solution_1 (by decide +kernel) ?_
  obtain ⟨s1, es1, h⟩ := ob h
  refine wp_putI2 dX9_solution_2 fl_X9_80 rfl rfl rfl rfl es1 ?_
  refine wp_aload_n (i := 0) dX9_solution_5 rfl rfl ?_
  refine wp_iload_n (i := 2) dX9_solution_6 rfl rfl ?_
  refine wp_iload_n (i := 3) dX9_solution_7 rfl rfl ?_
  obtain ⟨r2, er2, h⟩ := ob h
  refine wp_cVi (N := m_X9_isCell) (As := [.int a2, .int a3]) (rest := []) dX9_solution_8 ml_X9_181 mo_X9_isCell vo_X9_isCell rfl rfl (ok_X9_isCell er2) (by decide) (Nat.le_of_ble_eq_true rfl) ?_
  refine wp_if_eq (tgt := 58) dX9_solution_11 (by decide) (fun c3 => ?_) (fun c3 => ?_)
  · rw [if_pos c3] at h
    refine wp_iconst (v := -1) dX9_solution_58 (by decide +kernel) ?_
    obtain rfl := Option.some.inj h
    exact wp_iret dX9_solution_59 rfl rfl
  · rw [if_neg c3] at h
    refine wp_aload_n (i := 0) dX9_solution_14 rfl rfl ?_
    refine wp_getI dX9_solution_15 fl_X9_105 rfl rfl ?_
    refine wp_if_eq (tgt := 58) dX9_solution_18 (by decide) (fun c4 => ?_) (fun c4 => ?_)
    · rw [if_pos c4] at h
      refine wp_iconst (v := -1) dX9_solution_58 (by decide +kernel) ?_
      obtain rfl := Option.some.inj h
      exact wp_iret dX9_solution_59 rfl rfl
    · rw [if_neg c4] at h
      refine wp_iload_n (i := 1) dX9_solution_21 rfl rfl ?_
      refine wp_iconst (v := 0) dX9_solution_22 (by decide +kernel) ?_
      refine wp_iconst (v := 1) dX9_solution_23 (by decide +kernel) ?_
      obtain ⟨r5, er5, h⟩ := ob h
      refine wp_cSi (N := m_X9_in) (As := [.int a1, .int (0 : Int32), .int (1 : Int32)]) (rest := []) dX9_solution_24 ml_X9_97 mo_X9_in vo_X9_in rfl (ok_X9_in er5) (by decide) (Nat.le_of_ble_eq_true rfl) ?_
      refine wp_if_eq (tgt := 58) dX9_solution_27 (by decide) (fun c6 => ?_) (fun c6 => ?_)
      · rw [if_pos c6] at h
        refine wp_iconst (v := -1) dX9_solution_58 (by decide +kernel) ?_
        obtain rfl := Option.some.inj h
        exact wp_iret dX9_solution_59 rfl rfl
      · rw [if_neg c6] at h
        refine wp_iload_n (i := 1) dX9_solution_30 rfl rfl ?_
        refine wp_aload_n (i := 0) dX9_solution_31 rfl rfl ?_
        refine wp_getI dX9_solution_32 fl_X9_282 rfl rfl ?_
        refine wp_icmp_ge (tgt := 58) dX9_solution_35 (by decide) (fun c7 => ?_) (fun c7 => ?_)
        · rw [if_pos c7] at h
          refine wp_iconst (v := -1) dX9_solution_58 (by decide +kernel) ?_
          obtain rfl := Option.some.inj h
          exact wp_iret dX9_solution_59 rfl rfl
        · rw [if_neg c7] at h
          refine wp_aload_n (i := 0) dX9_solution_38 rfl rfl ?_
          refine wp_getR (t := 50) dX9_solution_39 fl_X9_32 rfl rfl ?_
          refine wp_sipush (v := 144) dX9_solution_42 (by decide +kernel) ?_
          refine wp_iload_n (i := 1) dX9_solution_45 rfl rfl ?_
          refine wp_imul dX9_solution_46 ?_
          refine wp_bipush (v := 12) dX9_solution_47 (by decide +kernel) ?_
          refine wp_iload_n (i := 3) dX9_solution_49 rfl rfl ?_
          refine wp_imul dX9_solution_50 ?_
          refine wp_iadd dX9_solution_51 ?_
          refine wp_iload_n (i := 2) dX9_solution_52 rfl rfl ?_
          refine wp_iadd dX9_solution_53 ?_
          obtain ⟨x8, ex8, h⟩ := ob h
          refine wp_aI dX9_solution_54 ex8 ?_
          refine wp_goto (tgt := 59) dX9_solution_55 (by decide) ?_
          obtain rfl := Option.some.inj h
          exact wp_iret dX9_solution_59 rfl rfl
def f_X9_level  (s : St) : Option (Int32 × St) :=
  Option.bind (some (sF s 43 0 (0 : Int32))) fun s1 =>
  Option.bind (f_X9_is s1) fun r2 =>
  if r2.1 = 0 then (
    some ((-1 : Int32), r2.2))
  else (
    Option.bind (f_X9_first 63 (0 : Int32) r2.2) fun s4 =>
    Option.bind (f_X9_toRest 63 (0 : Int32) s4) fun r5 =>
    if r5.1 = 0 then (
      some ((4 : Int32), r5.2))
    else (
      Option.bind (f_X9_allOne 63 (0 : Int32) r5.2) fun r7 =>
      if r7.1 = 0 then (
        Option.bind (f_X9_trying 63 r7.2) fun r9 =>
        if r9.1 = 0 then (
          some ((4 : Int32), r9.2))
        else (
          Option.bind (f_X9_allOne 63 (0 : Int32) r9.2) fun r11 =>
          if r11.1 = 0 then (
            Option.bind (f_X9_searches (2 : Int32) (400 : Int32) r11.2) fun s13 =>
            if (s13.1 43 45) = 0 then (
              if (s13.1 43 44) = (1 : Int32) then (
                some ((2 : Int32), s13))
              else (
                if (s13.1 43 44) = (2 : Int32) then (
                  some ((3 : Int32), s13))
                else (
                  some ((4 : Int32), s13))))
            else (
              some ((5 : Int32), s13)))
          else (
            some ((1 : Int32), r11.2))))
      else (
        some ((0 : Int32), r7.2))))
set_option maxRecDepth 100000 in
set_option maxHeartbeats 4000000 in
theorem ok_X9_level  {s : St} {r : Int32 × St} (h : f_X9_level  s = some r) : Ct 169 m_X9_level [.ref 43] s (some (.int r.1)) r.2 := by
  unfold f_X9_level at h
  refine ct_of [some (.ref 43)] 0 (by decide) rfl (Nat.le_of_ble_eq_true rfl) ?_
  refine wp_aload_n (i := 0) dX9_level_0 rfl rfl ?_
  refine wp_iconst (v := 0) dX9_level_1 (by decide +kernel) ?_
  obtain ⟨s1, es1, h⟩ := ob h
  refine wp_putI2 dX9_level_2 fl_X9_80 rfl rfl rfl rfl es1 ?_
  refine wp_aload_n (i := 0) dX9_level_5 rfl rfl ?_
  obtain ⟨r2, er2, h⟩ := ob h
  refine wp_cVi (N := m_X9_is) (As := []) (rest := []) dX9_level_6 ml_X9_89 mo_X9_is vo_X9_is rfl rfl (ok_X9_is er2) (by decide) (Nat.le_of_ble_eq_true rfl) ?_
  refine wp_if_ne (tgt := 14) dX9_level_9 (by decide) (fun c3 => ?_) (fun c3 => ?_)
  · rw [if_neg c3] at h
    refine wp_aload_n (i := 0) dX9_level_14 rfl rfl ?_
    refine wp_aload_n (i := 0) dX9_level_15 rfl rfl ?_
    refine wp_getR (t := 63) dX9_level_16 fl_X9_71 rfl rfl ?_
    refine wp_iconst (v := 0) dX9_level_19 (by decide +kernel) ?_
    obtain ⟨s4, es4, h⟩ := ob h
    refine wp_cVv (N := m_X9_first) (As := [.ref 63, .int (0 : Int32)]) (rest := []) dX9_level_20 ml_X9_193 mo_X9_first vo_X9_first rfl rfl (ok_X9_first es4) (by decide) (Nat.le_of_ble_eq_true rfl) ?_
    refine wp_aload_n (i := 0) dX9_level_23 rfl rfl ?_
    refine wp_aload_n (i := 0) dX9_level_24 rfl rfl ?_
    refine wp_getR (t := 63) dX9_level_25 fl_X9_71 rfl rfl ?_
    refine wp_iconst (v := 0) dX9_level_28 (by decide +kernel) ?_
    obtain ⟨r5, er5, h⟩ := ob h
    refine wp_cVi (N := m_X9_toRest) (As := [.ref 63, .int (0 : Int32)]) (rest := []) dX9_level_29 ml_X9_239 mo_X9_toRest vo_X9_toRest rfl rfl (ok_X9_toRest er5) (by decide) (Nat.le_of_ble_eq_true rfl) ?_
    refine wp_if_ne (tgt := 37) dX9_level_32 (by decide) (fun c6 => ?_) (fun c6 => ?_)
    · rw [if_neg c6] at h
      refine wp_aload_n (i := 0) dX9_level_37 rfl rfl ?_
      refine wp_aload_n (i := 0) dX9_level_38 rfl rfl ?_
      refine wp_getR (t := 63) dX9_level_39 fl_X9_71 rfl rfl ?_
      refine wp_iconst (v := 0) dX9_level_42 (by decide +kernel) ?_
      obtain ⟨r7, er7, h⟩ := ob h
      refine wp_cVi (N := m_X9_allOne) (As := [.ref 63, .int (0 : Int32)]) (rest := []) dX9_level_43 ml_X9_252 mo_X9_allOne vo_X9_allOne rfl rfl (ok_X9_allOne er7) (by decide) (Nat.le_of_ble_eq_true rfl) ?_
      refine wp_if_eq (tgt := 51) dX9_level_46 (by decide) (fun c8 => ?_) (fun c8 => ?_)
      · rw [if_pos c8] at h
        refine wp_aload_n (i := 0) dX9_level_51 rfl rfl ?_
        refine wp_aload_n (i := 0) dX9_level_52 rfl rfl ?_
        refine wp_getR (t := 63) dX9_level_53 fl_X9_71 rfl rfl ?_
        obtain ⟨r9, er9, h⟩ := ob h
        refine wp_cVi (N := m_X9_trying) (As := [.ref 63]) (rest := []) dX9_level_56 ml_X9_248 mo_X9_trying vo_X9_trying rfl rfl (ok_X9_trying er9) (by decide) (Nat.le_of_ble_eq_true rfl) ?_
        refine wp_if_ne (tgt := 64) dX9_level_59 (by decide) (fun c10 => ?_) (fun c10 => ?_)
        · rw [if_neg c10] at h
          refine wp_aload_n (i := 0) dX9_level_64 rfl rfl ?_
          refine wp_aload_n (i := 0) dX9_level_65 rfl rfl ?_
          refine wp_getR (t := 63) dX9_level_66 fl_X9_71 rfl rfl ?_
          refine wp_iconst (v := 0) dX9_level_69 (by decide +kernel) ?_
          obtain ⟨r11, er11, h⟩ := ob h
          refine wp_cVi (N := m_X9_allOne) (As := [.ref 63, .int (0 : Int32)]) (rest := []) dX9_level_70 ml_X9_252 mo_X9_allOne vo_X9_allOne rfl rfl (ok_X9_allOne er11) (by decide) (Nat.le_of_ble_eq_true rfl) ?_
          refine wp_if_eq (tgt := 78) dX9_level_73 (by decide) (fun c12 => ?_) (fun c12 => ?_)
          · rw [if_pos c12] at h
            refine wp_aload_n (i := 0) dX9_level_78 rfl rfl ?_
            refine wp_iconst (v := 2) dX9_level_79 (by decide +kernel) ?_
            refine wp_sipush (v := 400) dX9_level_80 (by decide +kernel) ?_
            obtain ⟨s13, es13, h⟩ := ob h
            refine wp_cVv (N := m_X9_searches) (As := [.int (2 : Int32), .int (400 : Int32)]) (rest := []) dX9_level_83 ml_X9_279 mo_X9_searches vo_X9_searches rfl rfl (ok_X9_searches es13) (by decide) (Nat.le_of_ble_eq_true rfl) ?_
            refine wp_aload_n (i := 0) dX9_level_86 rfl rfl ?_
            refine wp_getI dX9_level_87 fl_X9_264 rfl rfl ?_
            refine wp_if_eq (tgt := 95) dX9_level_90 (by decide) (fun c14 => ?_) (fun c14 => ?_)
            · rw [if_pos c14] at h
              refine wp_aload_n (i := 0) dX9_level_95 rfl rfl ?_
              refine wp_getI dX9_level_96 fl_X9_255 rfl rfl ?_
              refine wp_iconst (v := 1) dX9_level_99 (by decide +kernel) ?_
              refine wp_icmp_ne (tgt := 107) dX9_level_100 (by decide) (fun c15 => ?_) (fun c15 => ?_)
              · rw [if_neg c15] at h
                refine wp_aload_n (i := 0) dX9_level_107 rfl rfl ?_
                refine wp_getI dX9_level_108 fl_X9_255 rfl rfl ?_
                refine wp_iconst (v := 2) dX9_level_111 (by decide +kernel) ?_
                refine wp_icmp_ne (tgt := 119) dX9_level_112 (by decide) (fun c16 => ?_) (fun c16 => ?_)
                · rw [if_neg c16] at h
                  refine wp_iconst (v := 4) dX9_level_119 (by decide +kernel) ?_
                  obtain rfl := Option.some.inj h
                  exact wp_iret dX9_level_120 rfl rfl
                · rw [if_pos c16] at h
                  refine wp_iconst (v := 3) dX9_level_115 (by decide +kernel) ?_
                  refine wp_goto (tgt := 120) dX9_level_116 (by decide) ?_
                  obtain rfl := Option.some.inj h
                  exact wp_iret dX9_level_120 rfl rfl
              · rw [if_pos c15] at h
                refine wp_iconst (v := 2) dX9_level_103 (by decide +kernel) ?_
                refine wp_goto (tgt := 120) dX9_level_104 (by decide) ?_
                obtain rfl := Option.some.inj h
                exact wp_iret dX9_level_120 rfl rfl
            · rw [if_neg c14] at h
              refine wp_iconst (v := 5) dX9_level_93 (by decide +kernel) ?_
              obtain rfl := Option.some.inj h
              exact wp_iret dX9_level_94 rfl rfl
          · rw [if_neg c12] at h
            refine wp_iconst (v := 1) dX9_level_76 (by decide +kernel) ?_
            obtain rfl := Option.some.inj h
            exact wp_iret dX9_level_77 rfl rfl
        · rw [if_pos c10] at h
          refine wp_iconst (v := 4) dX9_level_62 (by decide +kernel) ?_
          obtain rfl := Option.some.inj h
          exact wp_iret dX9_level_63 rfl rfl
      · rw [if_neg c8] at h
        refine wp_iconst (v := 0) dX9_level_49 (by decide +kernel) ?_
        obtain rfl := Option.some.inj h
        exact wp_iret dX9_level_50 rfl rfl
    · rw [if_pos c6] at h
      refine wp_iconst (v := 4) dX9_level_35 (by decide +kernel) ?_
      obtain rfl := Option.some.inj h
      exact wp_iret dX9_level_36 rfl rfl
  · rw [if_pos c3] at h
    refine wp_iconst (v := -1) dX9_level_12 (by decide +kernel) ?_
    obtain rfl := Option.some.inj h
    exact wp_iret dX9_level_13 rfl rfl
def f_X9_mark (a1 : Int32) (a2 : Int32) (a3 : Int32) (s : St) : Option (Int32 × St) :=
  Option.bind (some (sF s 43 0 (0 : Int32))) fun s1 =>
  Option.bind (f_X9_isCell a1 a2 s1) fun r2 =>
  if r2.1 = 0 then (
    some ((0 : Int32), r2.2))
  else (
    Option.bind (f_X9_in a3 (-1 : Int32) (r2.2.1 43 3) r2.2) fun r4 =>
    if r4.1 = 0 then (
      some ((0 : Int32), r4.2))
    else (
      Option.bind (pI r4.2 48 (((12 : Int32) * a2) + a1) a3) fun s6 =>
      some ((1 : Int32), s6)))
set_option maxRecDepth 100000 in
set_option maxHeartbeats 4000000 in
theorem ok_X9_mark {a1 : Int32} {a2 : Int32} {a3 : Int32} {s : St} {r : Int32 × St} (h : f_X9_mark a1 a2 a3 s = some r) : Ct 2 m_X9_mark [.ref 43, .int a1, .int a2, .int a3] s (some (.int r.1)) r.2 := by
  unfold f_X9_mark at h
  refine ct_of [some (.ref 43), some (.int a1), some (.int a2), some (.int a3)] 0 (by decide) rfl (Nat.le_of_ble_eq_true rfl) ?_
  refine wp_aload_n (i := 0) dX9_mark_0 rfl rfl ?_
  refine wp_iconst (v := 0) dX9_mark_1 (by decide +kernel) ?_
  obtain ⟨s1, es1, h⟩ := ob h
  refine wp_putI2 dX9_mark_2 fl_X9_80 rfl rfl rfl rfl es1 ?_
  refine wp_aload_n (i := 0) dX9_mark_5 rfl rfl ?_
  refine wp_iload_n (i := 1) dX9_mark_6 rfl rfl ?_
  refine wp_iload_n (i := 2) dX9_mark_7 rfl rfl ?_
  obtain ⟨r2, er2, h⟩ := ob h
  refine wp_cVi (N := m_X9_isCell) (As := [.int a1, .int a2]) (rest := []) dX9_mark_8 ml_X9_181 mo_X9_isCell vo_X9_isCell rfl rfl (ok_X9_isCell er2) (by decide) (Nat.le_of_ble_eq_true rfl) ?_
  refine wp_if_eq (tgt := 26) dX9_mark_11 (by decide) (fun c3 => ?_) (fun c3 => ?_)
  · rw [if_pos c3] at h
    refine wp_iconst (v := 0) dX9_mark_26 (by decide +kernel) ?_
    obtain rfl := Option.some.inj h
    exact wp_iret dX9_mark_27 rfl (narrow_z (Or.inl rfl)).1
  · rw [if_neg c3] at h
    refine wp_iload_n (i := 3) dX9_mark_14 rfl rfl ?_
    refine wp_iconst (v := -1) dX9_mark_15 (by decide +kernel) ?_
    refine wp_aload_n (i := 0) dX9_mark_16 rfl rfl ?_
    refine wp_getI dX9_mark_17 fl_X9_169 rfl rfl ?_
    obtain ⟨r4, er4, h⟩ := ob h
    refine wp_cSi (N := m_X9_in) (As := [.int a3, .int (-1 : Int32), .int (r2.2.1 43 3)]) (rest := []) dX9_mark_20 ml_X9_97 mo_X9_in vo_X9_in rfl (ok_X9_in er4) (by decide) (Nat.le_of_ble_eq_true rfl) ?_
    refine wp_if_ne (tgt := 28) dX9_mark_23 (by decide) (fun c5 => ?_) (fun c5 => ?_)
    · rw [if_neg c5] at h
      refine wp_aload_n (i := 0) dX9_mark_28 rfl rfl ?_
      refine wp_getR (t := 48) dX9_mark_29 fl_X9_22 rfl rfl ?_
      refine wp_bipush (v := 12) dX9_mark_32 (by decide +kernel) ?_
      refine wp_iload_n (i := 2) dX9_mark_34 rfl rfl ?_
      refine wp_imul dX9_mark_35 ?_
      refine wp_iload_n (i := 1) dX9_mark_36 rfl rfl ?_
      refine wp_iadd dX9_mark_37 ?_
      refine wp_iload_n (i := 3) dX9_mark_38 rfl rfl ?_
      obtain ⟨s6, es6, h⟩ := ob h
      refine wp_pI dX9_mark_39 es6 ?_
      refine wp_iconst (v := 1) dX9_mark_40 (by decide +kernel) ?_
      obtain rfl := Option.some.inj h
      exact wp_iret dX9_mark_41 rfl (narrow_z (Or.inr rfl)).1
    · rw [if_pos c5] at h
      refine wp_iconst (v := 0) dX9_mark_26 (by decide +kernel) ?_
      obtain rfl := Option.some.inj h
      exact wp_iret dX9_mark_27 rfl (narrow_z (Or.inl rfl)).1
def f_X9_marked (a1 : Int32) (a2 : Int32) (s : St) : Option (Int32 × St) :=
  Option.bind (some (sF s 43 0 (0 : Int32))) fun s1 =>
  Option.bind (f_X9_isCell a1 a2 s1) fun r2 =>
  if r2.1 = 0 then (
    some ((-1 : Int32), r2.2))
  else (
    Option.bind (aI r2.2 48 (((12 : Int32) * a2) + a1)) fun x4 =>
    some (x4, r2.2))
set_option maxRecDepth 100000 in
set_option maxHeartbeats 4000000 in
theorem ok_X9_marked {a1 : Int32} {a2 : Int32} {s : St} {r : Int32 × St} (h : f_X9_marked a1 a2 s = some r) : Ct 2 m_X9_marked [.ref 43, .int a1, .int a2] s (some (.int r.1)) r.2 := by
  unfold f_X9_marked at h
  refine ct_of [some (.ref 43), some (.int a1), some (.int a2)] 0 (by decide) rfl (Nat.le_of_ble_eq_true rfl) ?_
  refine wp_aload_n (i := 0) dX9_marked_0 rfl rfl ?_
  refine wp_iconst (v := 0) dX9_marked_1 (by decide +kernel) ?_
  obtain ⟨s1, es1, h⟩ := ob h
  refine wp_putI2 dX9_marked_2 fl_X9_80 rfl rfl rfl rfl es1 ?_
  refine wp_aload_n (i := 0) dX9_marked_5 rfl rfl ?_
  refine wp_iload_n (i := 1) dX9_marked_6 rfl rfl ?_
  refine wp_iload_n (i := 2) dX9_marked_7 rfl rfl ?_
  obtain ⟨r2, er2, h⟩ := ob h
  refine wp_cVi (N := m_X9_isCell) (As := [.int a1, .int a2]) (rest := []) dX9_marked_8 ml_X9_181 mo_X9_isCell vo_X9_isCell rfl rfl (ok_X9_isCell er2) (by decide) (Nat.le_of_ble_eq_true rfl) ?_
  refine wp_if_eq (tgt := 28) dX9_marked_11 (by decide) (fun c3 => ?_) (fun c3 => ?_)
  · rw [if_pos c3] at h
    refine wp_iconst (v := -1) dX9_marked_28 (by decide +kernel) ?_
    obtain rfl := Option.some.inj h
    exact wp_iret dX9_marked_29 rfl rfl
  · rw [if_neg c3] at h
    refine wp_aload_n (i := 0) dX9_marked_14 rfl rfl ?_
    refine wp_getR (t := 48) dX9_marked_15 fl_X9_22 rfl rfl ?_
    refine wp_bipush (v := 12) dX9_marked_18 (by decide +kernel) ?_
    refine wp_iload_n (i := 2) dX9_marked_20 rfl rfl ?_
    refine wp_imul dX9_marked_21 ?_
    refine wp_iload_n (i := 1) dX9_marked_22 rfl rfl ?_
    refine wp_iadd dX9_marked_23 ?_
    obtain ⟨x4, ex4, h⟩ := ob h
    refine wp_aI dX9_marked_24 ex4 ?_
    refine wp_goto (tgt := 29) dX9_marked_25 (by decide) ?_
    obtain rfl := Option.some.inj h
    exact wp_iret dX9_marked_29 rfl rfl
def f_X9_shown (a1 : Int32) (s : St) : Option (Int32 × St) :=
  Option.bind (aI s 48 a1) fun x1 =>
  if x1 = (-1 : Int32) then (
    some ((0 : Int32), s))
  else (
    Option.bind (aI s 48 a1) fun x3 =>
    some (x3, s))
set_option maxRecDepth 100000 in
set_option maxHeartbeats 4000000 in
theorem ok_X9_shown {a1 : Int32} {s : St} {r : Int32 × St} (h : f_X9_shown a1 s = some r) : Ct 0 m_X9_shown [.ref 43, .int a1] s (some (.int r.1)) r.2 := by
  unfold f_X9_shown at h
  refine ct_of [some (.ref 43), some (.int a1)] 0 (by decide) rfl (Nat.le_of_ble_eq_true rfl) ?_
  refine wp_aload_n (i := 0) dX9_shown_0 rfl rfl ?_
  refine wp_getR (t := 48) dX9_shown_1 fl_X9_22 rfl rfl ?_
  refine wp_iload_n (i := 1) dX9_shown_4 rfl rfl ?_
  obtain ⟨x1, ex1, h⟩ := ob h
  refine wp_aI dX9_shown_5 ex1 ?_
  refine wp_iconst (v := -1) dX9_shown_6 (by decide +kernel) ?_
  refine wp_icmp_ne (tgt := 14) dX9_shown_7 (by decide) (fun c2 => ?_) (fun c2 => ?_)
  · rw [if_neg c2] at h
    refine wp_aload_n (i := 0) dX9_shown_14 rfl rfl ?_
    refine wp_getR (t := 48) dX9_shown_15 fl_X9_22 rfl rfl ?_
    refine wp_iload_n (i := 1) dX9_shown_18 rfl rfl ?_
    obtain ⟨x3, ex3, h⟩ := ob h
    refine wp_aI dX9_shown_19 ex3 ?_
    obtain rfl := Option.some.inj h
    exact wp_iret dX9_shown_20 rfl rfl
  · rw [if_pos c2] at h
    refine wp_iconst (v := 0) dX9_shown_10 (by decide +kernel) ?_
    refine wp_goto (tgt := 20) dX9_shown_11 (by decide) ?_
    obtain rfl := Option.some.inj h
    exact wp_iret dX9_shown_20 rfl rfl
def f_X9_readsAs_95 (K4 : Int32 → Int32 → Int32 → St → Option (Int32 × St)) (v1 : Int32) (v2 : Int32) (v3 : Int32) (s : St) : Option (Int32 × St) :=
  K4 v1 v2 (v3 + 1) s
set_option maxRecDepth 100000 in
set_option maxHeartbeats 4000000 in
theorem w_X9_readsAs_95 {r : Int32 × St} {K4 : Int32 → Int32 → Int32 → St → Option (Int32 × St)} (hK4 : ∀ (v1 : Int32) (v2 : Int32) (v3 : Int32) (s : St), K4 v1 v2 v3 s = some r → Wp m_X9_readsAs 1 (PR (some (.int r.1)) r.2) 4 [some (.ref 43), some (.int v1), some (.int v2), some (.int v3), none, none] [] s) {v1 : Int32} {v2 : Int32} {v3 : Int32}  {s : St} (h : f_X9_readsAs_95 K4 v1 v2 v3 s = some r) : Wp m_X9_readsAs 1 (PR (some (.int r.1)) r.2) 95 [some (.ref 43), some (.int v1), some (.int v2), some (.int v3), none, none] [] s := by
  unfold f_X9_readsAs_95 at h
  refine wp_inc (c := 1) (ls' := [some (.ref 43), some (.int v1), some (.int v2), some (.int (v3 + 1)), none, none]) dX9_readsAs_95 rfl (by decide +kernel) (by decide) rfl rfl ?_
  refine wp_goto (tgt := 4) dX9_readsAs_98 (by decide) ?_
  exact wp_sub (ls' := [some (.ref 43), some (.int v1), some (.int v2), some (.int (v3 + 1)), none, none]) ⟨rfl, rfl, rfl, rfl, trivial⟩ (hK4 _ _ _ _ h)
def f_X9_readsAs_45 (K4 : Int32 → Int32 → Int32 → St → Option (Int32 × St)) (v1 : Int32) (v2 : Int32) (v3 : Int32) (v4 : Int32) (t0 : Int32) (s : St) : Option (Int32 × St) :=
  if v4 = 0 then (
    f_X9_readsAs_95 K4 v1 v2 v3 s)
  else (
    if v4 = t0 then (
      Option.bind (aI s 64 (v2 - (1 : Int32))) fun x5 =>
      Option.bind (pI s 64 (v2 - (1 : Int32)) (x5 + (1 : Int32))) fun s6 =>
      f_X9_readsAs_95 K4 v1 v2 v3 s6)
    else (
      Option.bind (pI s 64 v2 (1 : Int32)) fun s3 =>
      Option.bind (pI s3 65 v2 v4) fun s4 =>
      f_X9_readsAs_95 K4 v1 (v2 + 1) v3 s4))
set_option maxRecDepth 100000 in
set_option maxHeartbeats 4000000 in
theorem w_X9_readsAs_45 {r : Int32 × St} {K4 : Int32 → Int32 → Int32 → St → Option (Int32 × St)} (hK4 : ∀ (v1 : Int32) (v2 : Int32) (v3 : Int32) (s : St), K4 v1 v2 v3 s = some r → Wp m_X9_readsAs 1 (PR (some (.int r.1)) r.2) 4 [some (.ref 43), some (.int v1), some (.int v2), some (.int v3), none, none] [] s) {v1 : Int32} {v2 : Int32} {v3 : Int32} {v4 : Int32} {t0 : Int32}  {s : St} (h : f_X9_readsAs_45 K4 v1 v2 v3 v4 t0 s = some r) : Wp m_X9_readsAs 1 (PR (some (.int r.1)) r.2) 45 [some (.ref 43), some (.int v1), some (.int v2), some (.int v3), some (.int v4), none] [.int t0] s := by
  unfold f_X9_readsAs_45 at h
  refine wp_istore (ls' := [some (.ref 43), some (.int v1), some (.int v2), some (.int v3), some (.int v4), some (.int t0)]) dX9_readsAs_45 (by decide) rfl rfl ?_
  refine wp_iload dX9_readsAs_47 rfl ?_
  refine wp_if_ne (tgt := 55) dX9_readsAs_49 (by decide) (fun c1 => ?_) (fun c1 => ?_)
  · rw [if_neg c1] at h
    refine wp_iload dX9_readsAs_55 rfl ?_
    refine wp_iload dX9_readsAs_57 rfl ?_
    refine wp_icmp_ne (tgt := 77) dX9_readsAs_59 (by decide) (fun c2 => ?_) (fun c2 => ?_)
    · rw [if_neg c2] at h
      refine wp_aload_n (i := 0) dX9_readsAs_77 rfl rfl ?_
      refine wp_getR (t := 64) dX9_readsAs_78 fl_X9_74 rfl rfl ?_
      refine wp_iload_n (i := 2) dX9_readsAs_81 rfl rfl ?_
      refine wp_iconst (v := 1) dX9_readsAs_82 (by decide +kernel) ?_
      obtain ⟨s3, es3, h⟩ := ob h
      refine wp_pI dX9_readsAs_83 es3 ?_
      refine wp_aload_n (i := 0) dX9_readsAs_84 rfl rfl ?_
      refine wp_getR (t := 65) dX9_readsAs_85 fl_X9_77 rfl rfl ?_
      refine wp_iload_n (i := 2) dX9_readsAs_88 rfl rfl ?_
      refine wp_iload dX9_readsAs_89 rfl ?_
      obtain ⟨s4, es4, h⟩ := ob h
      refine wp_pI dX9_readsAs_91 es4 ?_
      refine wp_inc (c := 1) (ls' := [some (.ref 43), some (.int v1), some (.int (v2 + 1)), some (.int v3), some (.int v4), some (.int t0)]) dX9_readsAs_92 rfl (by decide +kernel) (by decide) rfl rfl ?_
      exact wp_sub (ls' := [some (.ref 43), some (.int v1), some (.int (v2 + 1)), some (.int v3), none, none]) ⟨rfl, rfl, rfl, rfl, trivial⟩ (w_X9_readsAs_95 hK4 h)
    · rw [if_pos c2] at h
      refine wp_aload_n (i := 0) dX9_readsAs_62 rfl rfl ?_
      refine wp_getR (t := 64) dX9_readsAs_63 fl_X9_74 rfl rfl ?_
      refine wp_iload_n (i := 2) dX9_readsAs_66 rfl rfl ?_
      refine wp_iconst (v := 1) dX9_readsAs_67 (by decide +kernel) ?_
      refine wp_isub dX9_readsAs_68 ?_
      refine wp_dup2_ir dX9_readsAs_69 ?_
      obtain ⟨x5, ex5, h⟩ := ob h
      refine wp_aI dX9_readsAs_70 ex5 ?_
      refine wp_iconst (v := 1) dX9_readsAs_71 (by decide +kernel) ?_
      refine wp_iadd dX9_readsAs_72 ?_
      obtain ⟨s6, es6, h⟩ := ob h
      refine wp_pI dX9_readsAs_73 es6 ?_
      refine wp_goto (tgt := 95) dX9_readsAs_74 (by decide) ?_
      exact wp_sub (ls' := [some (.ref 43), some (.int v1), some (.int v2), some (.int v3), none, none]) ⟨rfl, rfl, rfl, rfl, trivial⟩ (w_X9_readsAs_95 hK4 h)
  · rw [if_pos c1] at h
    refine wp_goto (tgt := 95) dX9_readsAs_52 (by decide) ?_
    exact wp_sub (ls' := [some (.ref 43), some (.int v1), some (.int v2), some (.int v3), none, none]) ⟨rfl, rfl, rfl, rfl, trivial⟩ (w_X9_readsAs_95 hK4 h)
def f_X9_readsAs_4 : Nat → Int32 → Int32 → Int32 → St → Option (Int32 × St)
  | 0, _, _, _, _ => none
  | n + 1, v1, v2, v3, s =>
    Option.bind (f_X9_sizeOf v1 s) fun r1 =>
    if r1.1 ≤ v3 then (
      some (v2, r1.2))
    else (
      Option.bind (f_X9_cellOf v1 v3 r1.2) fun r3 =>
      Option.bind (f_X9_shown r3.1 r3.2) fun r4 =>
      if v3 ≤ 0 then (
        f_X9_readsAs_45 (f_X9_readsAs_4 n) v1 v2 v3 r4.1 (0 : Int32) r4.2)
      else (
        Option.bind (f_X9_cellOf v1 (v3 - (1 : Int32)) r4.2) fun r6 =>
        Option.bind (f_X9_shown r6.1 r6.2) fun r7 =>
        f_X9_readsAs_45 (f_X9_readsAs_4 n) v1 v2 v3 r4.1 r7.1 r7.2))
set_option maxRecDepth 100000 in
set_option maxHeartbeats 4000000 in
theorem w_X9_readsAs_4 {r : Int32 × St}   : ∀ (n : Nat) (v1 : Int32) (v2 : Int32) (v3 : Int32) (s : St), f_X9_readsAs_4  n v1 v2 v3 s = some r → Wp m_X9_readsAs 1 (PR (some (.int r.1)) r.2) 4 [some (.ref 43), some (.int v1), some (.int v2), some (.int v3), none, none] [] s := by
  intro n
  induction n with
  | zero => intro v1 v2 v3 s h; cases h
  | succ n ih =>
    intro v1 v2 v3 s h
    unfold f_X9_readsAs_4 at h
    refine wp_iload_n (i := 3) dX9_readsAs_4 rfl rfl ?_
    refine wp_aload_n (i := 0) dX9_readsAs_5 rfl rfl ?_
    refine wp_iload_n (i := 1) dX9_readsAs_6 rfl rfl ?_
    obtain ⟨r1, er1, h⟩ := ob h
    refine wp_cVi (N := m_X9_sizeOf) (As := [.int v1]) (rest := [.int v3]) dX9_readsAs_7 ml_X9_209 mo_X9_sizeOf vo_X9_sizeOf rfl rfl (ok_X9_sizeOf er1) (by decide) (Nat.le_of_ble_eq_true rfl) ?_
    refine wp_icmp_ge (tgt := 101) dX9_readsAs_10 (by decide) (fun c2 => ?_) (fun c2 => ?_)
    · rw [if_pos c2] at h
      refine wp_iload_n (i := 2) dX9_readsAs_101 rfl rfl ?_
      obtain rfl := Option.some.inj h
      exact wp_iret dX9_readsAs_102 rfl rfl
    · rw [if_neg c2] at h
      refine wp_aload_n (i := 0) dX9_readsAs_13 rfl rfl ?_
      refine wp_aload_n (i := 0) dX9_readsAs_14 rfl rfl ?_
      refine wp_iload_n (i := 1) dX9_readsAs_15 rfl rfl ?_
      refine wp_iload_n (i := 3) dX9_readsAs_16 rfl rfl ?_
      obtain ⟨r3, er3, h⟩ := ob h
      refine wp_cVi (N := m_X9_cellOf) (As := [.int v1, .int v3]) (rest := [.ref 43]) dX9_readsAs_17 ml_X9_206 mo_X9_cellOf vo_X9_cellOf rfl rfl (ok_X9_cellOf er3) (by decide) (Nat.le_of_ble_eq_true rfl) ?_
      obtain ⟨r4, er4, h⟩ := ob h
      refine wp_cVi (N := m_X9_shown) (As := [.int r3.1]) (rest := []) dX9_readsAs_20 ml_X9_285 mo_X9_shown vo_X9_shown rfl rfl (ok_X9_shown er4) (by decide) (Nat.le_of_ble_eq_true rfl) ?_
      refine wp_istore (ls' := [some (.ref 43), some (.int v1), some (.int v2), some (.int v3), some (.int r4.1), none]) dX9_readsAs_23 (by decide) rfl rfl ?_
      refine wp_iload_n (i := 3) dX9_readsAs_25 rfl rfl ?_
      refine wp_if_le (tgt := 44) dX9_readsAs_26 (by decide) (fun c5 => ?_) (fun c5 => ?_)
      · rw [if_pos c5] at h
        refine wp_iconst (v := 0) dX9_readsAs_44 (by decide +kernel) ?_
        exact wp_sub (ls' := [some (.ref 43), some (.int v1), some (.int v2), some (.int v3), some (.int r4.1), none]) ⟨rfl, rfl, rfl, rfl, rfl, trivial⟩ (w_X9_readsAs_45 ih h)
      · rw [if_neg c5] at h
        refine wp_aload_n (i := 0) dX9_readsAs_29 rfl rfl ?_
        refine wp_aload_n (i := 0) dX9_readsAs_30 rfl rfl ?_
        refine wp_iload_n (i := 1) dX9_readsAs_31 rfl rfl ?_
        refine wp_iload_n (i := 3) dX9_readsAs_32 rfl rfl ?_
        refine wp_iconst (v := 1) dX9_readsAs_33 (by decide +kernel) ?_
        refine wp_isub dX9_readsAs_34 ?_
        obtain ⟨r6, er6, h⟩ := ob h
        refine wp_cVi (N := m_X9_cellOf) (As := [.int v1, .int (v3 - (1 : Int32))]) (rest := [.ref 43]) dX9_readsAs_35 ml_X9_206 mo_X9_cellOf vo_X9_cellOf rfl rfl (ok_X9_cellOf er6) (by decide) (Nat.le_of_ble_eq_true rfl) ?_
        obtain ⟨r7, er7, h⟩ := ob h
        refine wp_cVi (N := m_X9_shown) (As := [.int r6.1]) (rest := []) dX9_readsAs_38 ml_X9_285 mo_X9_shown vo_X9_shown rfl rfl (ok_X9_shown er7) (by decide) (Nat.le_of_ble_eq_true rfl) ?_
        refine wp_goto (tgt := 45) dX9_readsAs_41 (by decide) ?_
        exact wp_sub (ls' := [some (.ref 43), some (.int v1), some (.int v2), some (.int v3), some (.int r4.1), none]) ⟨rfl, rfl, rfl, rfl, rfl, trivial⟩ (w_X9_readsAs_45 ih h)
def f_X9_readsAs (a1 : Int32) (s : St) : Option (Int32 × St) :=
  f_X9_readsAs_4 FU a1 (0 : Int32) (0 : Int32) s
set_option maxRecDepth 100000 in
set_option maxHeartbeats 4000000 in
theorem ok_X9_readsAs {a1 : Int32} {s : St} {r : Int32 × St} (h : f_X9_readsAs a1 s = some r) : Ct 1 m_X9_readsAs [.ref 43, .int a1] s (some (.int r.1)) r.2 := by
  unfold f_X9_readsAs at h
  refine ct_of [some (.ref 43), some (.int a1), none, none, none, none] 4 (by decide) rfl (Nat.le_of_ble_eq_true rfl) ?_
  refine wp_iconst (v := 0) dX9_readsAs_0 (by decide +kernel) ?_
  refine wp_istore_n (ls' := [some (.ref 43), some (.int a1), some (.int (0 : Int32)), none, none, none]) dX9_readsAs_1 rfl (by decide) rfl rfl ?_
  refine wp_iconst (v := 0) dX9_readsAs_2 (by decide +kernel) ?_
  refine wp_istore_n (ls' := [some (.ref 43), some (.int a1), some (.int (0 : Int32)), some (.int (0 : Int32)), none, none]) dX9_readsAs_3 rfl (by decide) rfl rfl ?_
  exact wp_sub (ls' := [some (.ref 43), some (.int a1), some (.int (0 : Int32)), some (.int (0 : Int32)), none, none]) ⟨rfl, rfl, rfl, rfl, trivial⟩ (w_X9_readsAs_4 _ _ _ _ _ h)
def f_X9_isDone_69 (K43 : Int32 → St → Option (Int32 × St)) : Nat → Int32 → Int32 → St → Option (Int32 × St)
  | 0, _, _, _ => none
  | n + 1, v1, v2, s =>
    Option.bind (aI s 44 v1) fun x1 =>
    if x1 ≤ v2 then (
      K43 (v1 + 1) s)
    else (
      Option.bind (aI s 64 v2) fun x3 =>
      Option.bind (aI s 45 (((12 : Int32) * v1) + v2)) fun x4 =>
      if x3 = x4 then (
        Option.bind (aI s 65 v2) fun x6 =>
        Option.bind (aI s 46 (((12 : Int32) * v1) + v2)) fun x7 =>
        if x6 = x7 then (
          f_X9_isDone_69 K43 n v1 (v2 + 1) s)
        else (
          some ((0 : Int32), s)))
      else (
        some ((0 : Int32), s)))
set_option maxRecDepth 100000 in
set_option maxHeartbeats 4000000 in
theorem w_X9_isDone_69 {r : Int32 × St} {K43 : Int32 → St → Option (Int32 × St)} (hK43 : ∀ (v1 : Int32) (s : St), K43 v1 s = some r → Wp m_X9_isDone 2 (PR (some (.int r.1)) r.2) 43 [some (.ref 43), some (.int v1), none] [] s)   : ∀ (n : Nat) (v1 : Int32) (v2 : Int32) (s : St), f_X9_isDone_69 K43 n v1 v2 s = some r → Wp m_X9_isDone 2 (PR (some (.int r.1)) r.2) 69 [some (.ref 43), some (.int v1), some (.int v2)] [] s := by
  intro n
  induction n with
  | zero => intro v1 v2 s h; cases h
  | succ n ih =>
    intro v1 v2 s h
    unfold f_X9_isDone_69 at h
    refine wp_iload_n (i := 2) dX9_isDone_69 rfl rfl ?_
    refine wp_aload_n (i := 0) dX9_isDone_70 rfl rfl ?_
    refine wp_getR (t := 44) dX9_isDone_71 fl_X9_9 rfl rfl ?_
    refine wp_iload_n (i := 1) dX9_isDone_74 rfl rfl ?_
    obtain ⟨x1, ex1, h⟩ := ob h
    refine wp_aI dX9_isDone_75 ex1 ?_
    refine wp_icmp_ge (tgt := 127) dX9_isDone_76 (by decide) (fun c2 => ?_) (fun c2 => ?_)
    · rw [if_pos c2] at h
      refine wp_inc (c := 1) (ls' := [some (.ref 43), some (.int (v1 + 1)), some (.int v2)]) dX9_isDone_127 rfl (by decide +kernel) (by decide) rfl rfl ?_
      refine wp_goto (tgt := 43) dX9_isDone_130 (by decide) ?_
      exact wp_sub (ls' := [some (.ref 43), some (.int (v1 + 1)), none]) ⟨rfl, rfl, trivial⟩ (hK43 _ _ h)
    · rw [if_neg c2] at h
      refine wp_aload_n (i := 0) dX9_isDone_79 rfl rfl ?_
      refine wp_getR (t := 64) dX9_isDone_80 fl_X9_74 rfl rfl ?_
      refine wp_iload_n (i := 2) dX9_isDone_83 rfl rfl ?_
      obtain ⟨x3, ex3, h⟩ := ob h
      refine wp_aI dX9_isDone_84 ex3 ?_
      refine wp_aload_n (i := 0) dX9_isDone_85 rfl rfl ?_
      refine wp_getR (t := 45) dX9_isDone_86 fl_X9_13 rfl rfl ?_
      refine wp_bipush (v := 12) dX9_isDone_89 (by decide +kernel) ?_
      refine wp_iload_n (i := 1) dX9_isDone_91 rfl rfl ?_
      refine wp_imul dX9_isDone_92 ?_
      refine wp_iload_n (i := 2) dX9_isDone_93 rfl rfl ?_
      refine wp_iadd dX9_isDone_94 ?_
      obtain ⟨x4, ex4, h⟩ := ob h
      refine wp_aI dX9_isDone_95 ex4 ?_
      refine wp_icmp_ne (tgt := 119) dX9_isDone_96 (by decide) (fun c5 => ?_) (fun c5 => ?_)
      · rw [if_neg c5] at h
        refine wp_iconst (v := 0) dX9_isDone_119 (by decide +kernel) ?_
        obtain rfl := Option.some.inj h
        exact wp_iret dX9_isDone_120 rfl (narrow_z (Or.inl rfl)).1
      · rw [if_pos c5] at h
        refine wp_aload_n (i := 0) dX9_isDone_99 rfl rfl ?_
        refine wp_getR (t := 65) dX9_isDone_100 fl_X9_77 rfl rfl ?_
        refine wp_iload_n (i := 2) dX9_isDone_103 rfl rfl ?_
        obtain ⟨x6, ex6, h⟩ := ob h
        refine wp_aI dX9_isDone_104 ex6 ?_
        refine wp_aload_n (i := 0) dX9_isDone_105 rfl rfl ?_
        refine wp_getR (t := 46) dX9_isDone_106 fl_X9_16 rfl rfl ?_
        refine wp_bipush (v := 12) dX9_isDone_109 (by decide +kernel) ?_
        refine wp_iload_n (i := 1) dX9_isDone_111 rfl rfl ?_
        refine wp_imul dX9_isDone_112 ?_
        refine wp_iload_n (i := 2) dX9_isDone_113 rfl rfl ?_
        refine wp_iadd dX9_isDone_114 ?_
        obtain ⟨x7, ex7, h⟩ := ob h
        refine wp_aI dX9_isDone_115 ex7 ?_
        refine wp_icmp_eq (tgt := 121) dX9_isDone_116 (by decide) (fun c8 => ?_) (fun c8 => ?_)
        · rw [if_pos c8] at h
          refine wp_inc (c := 1) (ls' := [some (.ref 43), some (.int v1), some (.int (v2 + 1))]) dX9_isDone_121 rfl (by decide +kernel) (by decide) rfl rfl ?_
          refine wp_goto (tgt := 69) dX9_isDone_124 (by decide) ?_
          exact wp_sub (ls' := [some (.ref 43), some (.int v1), some (.int (v2 + 1))]) ⟨rfl, rfl, rfl, trivial⟩ (ih _ _ _ h)
        · rw [if_neg c8] at h
          refine wp_iconst (v := 0) dX9_isDone_119 (by decide +kernel) ?_
          obtain rfl := Option.some.inj h
          exact wp_iret dX9_isDone_120 rfl (narrow_z (Or.inl rfl)).1
def f_X9_isDone_43 : Nat → Int32 → St → Option (Int32 × St)
  | 0, _, _ => none
  | n + 1, v1, s =>
    Option.bind (f_X9_lines s) fun r1 =>
    if r1.1 ≤ v1 then (
      some ((1 : Int32), r1.2))
    else (
      Option.bind (f_X9_readsAs v1 r1.2) fun r3 =>
      Option.bind (aI r3.2 44 v1) fun x4 =>
      if r3.1 = x4 then (
        f_X9_isDone_69 (f_X9_isDone_43 n) FU v1 (0 : Int32) r3.2)
      else (
        some ((0 : Int32), r3.2)))
set_option maxRecDepth 100000 in
set_option maxHeartbeats 4000000 in
theorem w_X9_isDone_43 {r : Int32 × St}   : ∀ (n : Nat) (v1 : Int32) (s : St), f_X9_isDone_43  n v1 s = some r → Wp m_X9_isDone 2 (PR (some (.int r.1)) r.2) 43 [some (.ref 43), some (.int v1), none] [] s := by
  intro n
  induction n with
  | zero => intro v1 s h; cases h
  | succ n ih =>
    intro v1 s h
    unfold f_X9_isDone_43 at h
    refine wp_iload_n (i := 1) dX9_isDone_43 rfl rfl ?_
    refine wp_aload_n (i := 0) dX9_isDone_44 rfl rfl ?_
    obtain ⟨r1, er1, h⟩ := ob h
    refine wp_cVi (N := m_X9_lines) (As := []) (rest := [.int v1]) dX9_isDone_45 ml_X9_93 mo_X9_lines vo_X9_lines rfl rfl (ok_X9_lines er1) (by decide) (Nat.le_of_ble_eq_true rfl) ?_
    refine wp_icmp_ge (tgt := 133) dX9_isDone_48 (by decide) (fun c2 => ?_) (fun c2 => ?_)
    · rw [if_pos c2] at h
      refine wp_iconst (v := 1) dX9_isDone_133 (by decide +kernel) ?_
      obtain rfl := Option.some.inj h
      exact wp_iret dX9_isDone_134 rfl (narrow_z (Or.inr rfl)).1
    · rw [if_neg c2] at h
      refine wp_aload_n (i := 0) dX9_isDone_51 rfl rfl ?_
      refine wp_iload_n (i := 1) dX9_isDone_52 rfl rfl ?_
      obtain ⟨r3, er3, h⟩ := ob h
      refine wp_cVi (N := m_X9_readsAs) (As := [.int v1]) (rest := []) dX9_isDone_53 ml_X9_288 mo_X9_readsAs vo_X9_readsAs rfl rfl (ok_X9_readsAs er3) (by decide) (Nat.le_of_ble_eq_true rfl) ?_
      refine wp_aload_n (i := 0) dX9_isDone_56 rfl rfl ?_
      refine wp_getR (t := 44) dX9_isDone_57 fl_X9_9 rfl rfl ?_
      refine wp_iload_n (i := 1) dX9_isDone_60 rfl rfl ?_
      obtain ⟨x4, ex4, h⟩ := ob h
      refine wp_aI dX9_isDone_61 ex4 ?_
      refine wp_icmp_eq (tgt := 67) dX9_isDone_62 (by decide) (fun c5 => ?_) (fun c5 => ?_)
      · rw [if_pos c5] at h
        refine wp_iconst (v := 0) dX9_isDone_67 (by decide +kernel) ?_
        refine wp_istore_n (ls' := [some (.ref 43), some (.int v1), some (.int (0 : Int32))]) dX9_isDone_68 rfl (by decide) rfl rfl ?_
        exact wp_sub (ls' := [some (.ref 43), some (.int v1), some (.int (0 : Int32))]) ⟨rfl, rfl, rfl, trivial⟩ (w_X9_isDone_69 ih _ _ _ _ h)
      · rw [if_neg c5] at h
        refine wp_iconst (v := 0) dX9_isDone_65 (by decide +kernel) ?_
        obtain rfl := Option.some.inj h
        exact wp_iret dX9_isDone_66 rfl (narrow_z (Or.inl rfl)).1
def f_X9_isDone_35 (K2 : Int32 → St → Option (Int32 × St)) (v1 : Int32) (s : St) : Option (Int32 × St) :=
  K2 (v1 + 1) s
set_option maxRecDepth 100000 in
set_option maxHeartbeats 4000000 in
theorem w_X9_isDone_35 {r : Int32 × St} {K2 : Int32 → St → Option (Int32 × St)} (hK2 : ∀ (v1 : Int32) (s : St), K2 v1 s = some r → Wp m_X9_isDone 2 (PR (some (.int r.1)) r.2) 2 [some (.ref 43), some (.int v1), none] [] s) {v1 : Int32}  {s : St} (h : f_X9_isDone_35 K2 v1 s = some r) : Wp m_X9_isDone 2 (PR (some (.int r.1)) r.2) 35 [some (.ref 43), some (.int v1), none] [] s := by
  unfold f_X9_isDone_35 at h
  refine wp_inc (c := 1) (ls' := [some (.ref 43), some (.int (v1 + 1)), none]) dX9_isDone_35 rfl (by decide +kernel) (by decide) rfl rfl ?_
  refine wp_goto (tgt := 2) dX9_isDone_38 (by decide) ?_
  exact wp_sub (ls' := [some (.ref 43), some (.int (v1 + 1)), none]) ⟨rfl, rfl, trivial⟩ (hK2 _ _ h)
def f_X9_isDone_2 : Nat → Int32 → St → Option (Int32 × St)
  | 0, _, _ => none
  | n + 1, v1, s =>
    if (144 : Int32) ≤ v1 then (
      f_X9_isDone_43 FU (0 : Int32) s)
    else (
      Option.bind (aI s 47 v1) fun x2 =>
      if x2 = (-1 : Int32) then (
        f_X9_isDone_35 (f_X9_isDone_2 n) v1 s)
      else (
        Option.bind (aI s 47 v1) fun x4 =>
        Option.bind (f_X9_shown v1 s) fun r5 =>
        if x4 = r5.1 then (
          f_X9_isDone_35 (f_X9_isDone_2 n) v1 r5.2)
        else (
          some ((0 : Int32), r5.2))))
set_option maxRecDepth 100000 in
set_option maxHeartbeats 4000000 in
theorem w_X9_isDone_2 {r : Int32 × St}   : ∀ (n : Nat) (v1 : Int32) (s : St), f_X9_isDone_2  n v1 s = some r → Wp m_X9_isDone 2 (PR (some (.int r.1)) r.2) 2 [some (.ref 43), some (.int v1), none] [] s := by
  intro n
  induction n with
  | zero => intro v1 s h; cases h
  | succ n ih =>
    intro v1 s h
    unfold f_X9_isDone_2 at h
    refine wp_iload_n (i := 1) dX9_isDone_2 rfl rfl ?_
    refine wp_sipush (v := 144) dX9_isDone_3 (by decide +kernel) ?_
    refine wp_icmp_ge (tgt := 41) dX9_isDone_6 (by decide) (fun c1 => ?_) (fun c1 => ?_)
    · rw [if_pos c1] at h
      refine wp_iconst (v := 0) dX9_isDone_41 (by decide +kernel) ?_
      refine wp_istore_n (ls' := [some (.ref 43), some (.int (0 : Int32)), none]) dX9_isDone_42 rfl (by decide) rfl rfl ?_
      exact wp_sub (ls' := [some (.ref 43), some (.int (0 : Int32)), none]) ⟨rfl, rfl, trivial⟩ (w_X9_isDone_43 _ _ _ h)
    · rw [if_neg c1] at h
      refine wp_aload_n (i := 0) dX9_isDone_9 rfl rfl ?_
      refine wp_getR (t := 47) dX9_isDone_10 fl_X9_19 rfl rfl ?_
      refine wp_iload_n (i := 1) dX9_isDone_13 rfl rfl ?_
      obtain ⟨x2, ex2, h⟩ := ob h
      refine wp_aI dX9_isDone_14 ex2 ?_
      refine wp_iconst (v := -1) dX9_isDone_15 (by decide +kernel) ?_
      refine wp_icmp_eq (tgt := 35) dX9_isDone_16 (by decide) (fun c3 => ?_) (fun c3 => ?_)
      · rw [if_pos c3] at h
        exact wp_sub (ls' := [some (.ref 43), some (.int v1), none]) ⟨rfl, rfl, trivial⟩ (w_X9_isDone_35 ih h)
      · rw [if_neg c3] at h
        refine wp_aload_n (i := 0) dX9_isDone_19 rfl rfl ?_
        refine wp_getR (t := 47) dX9_isDone_20 fl_X9_19 rfl rfl ?_
        refine wp_iload_n (i := 1) dX9_isDone_23 rfl rfl ?_
        obtain ⟨x4, ex4, h⟩ := ob h
        refine wp_aI dX9_isDone_24 ex4 ?_
        refine wp_aload_n (i := 0) dX9_isDone_25 rfl rfl ?_
        refine wp_iload_n (i := 1) dX9_isDone_26 rfl rfl ?_
        obtain ⟨r5, er5, h⟩ := ob h
        refine wp_cVi (N := m_X9_shown) (As := [.int v1]) (rest := [.int x4]) dX9_isDone_27 ml_X9_285 mo_X9_shown vo_X9_shown rfl rfl (ok_X9_shown er5) (by decide) (Nat.le_of_ble_eq_true rfl) ?_
        refine wp_icmp_eq (tgt := 35) dX9_isDone_30 (by decide) (fun c6 => ?_) (fun c6 => ?_)
        · rw [if_pos c6] at h
          exact wp_sub (ls' := [some (.ref 43), some (.int v1), none]) ⟨rfl, rfl, trivial⟩ (w_X9_isDone_35 ih h)
        · rw [if_neg c6] at h
          refine wp_iconst (v := 0) dX9_isDone_33 (by decide +kernel) ?_
          obtain rfl := Option.some.inj h
          exact wp_iret dX9_isDone_34 rfl (narrow_z (Or.inl rfl)).1
def f_X9_isDone  (s : St) : Option (Int32 × St) :=
  f_X9_isDone_2 FU (0 : Int32) s
set_option maxRecDepth 100000 in
set_option maxHeartbeats 4000000 in
theorem ok_X9_isDone  {s : St} {r : Int32 × St} (h : f_X9_isDone  s = some r) : Ct 2 m_X9_isDone [.ref 43] s (some (.int r.1)) r.2 := by
  unfold f_X9_isDone at h
  refine ct_of [some (.ref 43), none, none] 2 (by decide) rfl (Nat.le_of_ble_eq_true rfl) ?_
  refine wp_iconst (v := 0) dX9_isDone_0 (by decide +kernel) ?_
  refine wp_istore_n (ls' := [some (.ref 43), some (.int (0 : Int32)), none]) dX9_isDone_1 rfl (by decide) rfl rfl ?_
  exact wp_sub (ls' := [some (.ref 43), some (.int (0 : Int32)), none]) ⟨rfl, rfl, trivial⟩ (w_X9_isDone_2 _ _ _ h)
def f_X9_done  (s : St) : Option (Int32 × St) :=
  Option.bind (some (sF s 43 0 (0 : Int32))) fun s1 =>
  Option.bind (f_X9_is s1) fun r2 =>
  if r2.1 = 0 then (
    some ((-1 : Int32), r2.2))
  else (
    Option.bind (f_X9_isDone r2.2) fun r4 =>
    if r4.1 = 0 then (
      some ((0 : Int32), r4.2))
    else (
      some ((1 : Int32), r4.2)))
set_option maxRecDepth 100000 in
set_option maxHeartbeats 4000000 in
theorem ok_X9_done  {s : St} {r : Int32 × St} (h : f_X9_done  s = some r) : Ct 3 m_X9_done [.ref 43] s (some (.int r.1)) r.2 := by
  unfold f_X9_done at h
  refine ct_of [some (.ref 43)] 0 (by decide) rfl (Nat.le_of_ble_eq_true rfl) ?_
  refine wp_aload_n (i := 0) dX9_done_0 rfl rfl ?_
  refine wp_iconst (v := 0) dX9_done_1 (by decide +kernel) ?_
  obtain ⟨s1, es1, h⟩ := ob h
  refine wp_putI2 dX9_done_2 fl_X9_80 rfl rfl rfl rfl es1 ?_
  refine wp_aload_n (i := 0) dX9_done_5 rfl rfl ?_
  obtain ⟨r2, er2, h⟩ := ob h
  refine wp_cVi (N := m_X9_is) (As := []) (rest := []) dX9_done_6 ml_X9_89 mo_X9_is vo_X9_is rfl rfl (ok_X9_is er2) (by decide) (Nat.le_of_ble_eq_true rfl) ?_
  refine wp_if_eq (tgt := 27) dX9_done_9 (by decide) (fun c3 => ?_) (fun c3 => ?_)
  · rw [if_pos c3] at h
    refine wp_iconst (v := -1) dX9_done_27 (by decide +kernel) ?_
    obtain rfl := Option.some.inj h
    exact wp_iret dX9_done_28 rfl rfl
  · rw [if_neg c3] at h
    refine wp_aload_n (i := 0) dX9_done_12 rfl rfl ?_
    obtain ⟨r4, er4, h⟩ := ob h
    refine wp_cVi (N := m_X9_isDone) (As := []) (rest := []) dX9_done_13 ml_X9_291 mo_X9_isDone vo_X9_isDone rfl rfl (ok_X9_isDone er4) (by decide) (Nat.le_of_ble_eq_true rfl) ?_
    refine wp_if_eq (tgt := 23) dX9_done_16 (by decide) (fun c5 => ?_) (fun c5 => ?_)
    · rw [if_pos c5] at h
      refine wp_iconst (v := 0) dX9_done_23 (by decide +kernel) ?_
      refine wp_goto (tgt := 28) dX9_done_24 (by decide) ?_
      obtain rfl := Option.some.inj h
      exact wp_iret dX9_done_28 rfl rfl
    · rw [if_neg c5] at h
      refine wp_iconst (v := 1) dX9_done_19 (by decide +kernel) ?_
      refine wp_goto (tgt := 28) dX9_done_20 (by decide) ?_
      obtain rfl := Option.some.inj h
      exact wp_iret dX9_done_28 rfl rfl
def f_X9_wrong_82 (K32 : Int32 → Int32 → St → Option (Int32 × St)) (v2 : Int32) (t0 : Int32) (t1 : Int32) (s : St) : Option (Int32 × St) :=
  K32 (t1 + t0) (v2 + 1) s
set_option maxRecDepth 100000 in
set_option maxHeartbeats 4000000 in
theorem w_X9_wrong_82 {r : Int32 × St} {K32 : Int32 → Int32 → St → Option (Int32 × St)} (hK32 : ∀ (v1 : Int32) (v2 : Int32) (s : St), K32 v1 v2 s = some r → Wp m_X9_wrong 1 (PR (some (.int r.1)) r.2) 32 [some (.ref 43), some (.int v1), some (.int v2), none] [] s) {v2 : Int32} {t0 : Int32} {t1 : Int32}  {s : St} (h : f_X9_wrong_82 K32 v2 t0 t1 s = some r) : Wp m_X9_wrong 1 (PR (some (.int r.1)) r.2) 82 [some (.ref 43), none, some (.int v2), none] [.int t0, .int t1] s := by
  unfold f_X9_wrong_82 at h
  refine wp_iadd dX9_wrong_82 ?_
  refine wp_istore_n (ls' := [some (.ref 43), some (.int (t1 + t0)), some (.int v2), none]) dX9_wrong_83 rfl (by decide) rfl rfl ?_
  refine wp_inc (c := 1) (ls' := [some (.ref 43), some (.int (t1 + t0)), some (.int (v2 + 1)), none]) dX9_wrong_84 rfl (by decide +kernel) (by decide) rfl rfl ?_
  refine wp_goto (tgt := 32) dX9_wrong_87 (by decide) ?_
  exact wp_sub (ls' := [some (.ref 43), some (.int (t1 + t0)), some (.int (v2 + 1)), none]) ⟨rfl, rfl, rfl, trivial⟩ (hK32 _ _ _ h)
def f_X9_wrong_81 (K32 : Int32 → Int32 → St → Option (Int32 × St)) (v2 : Int32) (t0 : Int32) (s : St) : Option (Int32 × St) :=
  f_X9_wrong_82 K32 v2 (0 : Int32) t0 s
set_option maxRecDepth 100000 in
set_option maxHeartbeats 4000000 in
theorem w_X9_wrong_81 {r : Int32 × St} {K32 : Int32 → Int32 → St → Option (Int32 × St)} (hK32 : ∀ (v1 : Int32) (v2 : Int32) (s : St), K32 v1 v2 s = some r → Wp m_X9_wrong 1 (PR (some (.int r.1)) r.2) 32 [some (.ref 43), some (.int v1), some (.int v2), none] [] s) {v2 : Int32} {t0 : Int32}  {s : St} (h : f_X9_wrong_81 K32 v2 t0 s = some r) : Wp m_X9_wrong 1 (PR (some (.int r.1)) r.2) 81 [some (.ref 43), none, some (.int v2), none] [.int t0] s := by
  unfold f_X9_wrong_81 at h
  refine wp_iconst (v := 0) dX9_wrong_81 (by decide +kernel) ?_
  exact wp_sub (ls' := [some (.ref 43), none, some (.int v2), none]) ⟨rfl, rfl, trivial⟩ (w_X9_wrong_82 hK32 h)
def f_X9_wrong_32 : Nat → Int32 → Int32 → St → Option (Int32 × St)
  | 0, _, _, _ => none
  | n + 1, v1, v2, s =>
    if ((s.1 43 1) * (s.1 43 2)) ≤ v2 then (
      some (v1, s))
    else (
      Option.bind (f_X9_inOrder v2 s) fun r2 =>
      Option.bind (aI r2.2 48 r2.1) fun x3 =>
      if x3 = (-1 : Int32) then (
        f_X9_wrong_81 (f_X9_wrong_32 n) v2 v1 r2.2)
      else (
        Option.bind (aI r2.2 48 r2.1) fun x5 =>
        Option.bind (aI r2.2 50 r2.1) fun x6 =>
        if x5 = x6 then (
          f_X9_wrong_81 (f_X9_wrong_32 n) v2 v1 r2.2)
        else (
          f_X9_wrong_82 (f_X9_wrong_32 n) v2 (1 : Int32) v1 r2.2)))
set_option maxRecDepth 100000 in
set_option maxHeartbeats 4000000 in
theorem w_X9_wrong_32 {r : Int32 × St}   : ∀ (n : Nat) (v1 : Int32) (v2 : Int32) (s : St), f_X9_wrong_32  n v1 v2 s = some r → Wp m_X9_wrong 1 (PR (some (.int r.1)) r.2) 32 [some (.ref 43), some (.int v1), some (.int v2), none] [] s := by
  intro n
  induction n with
  | zero => intro v1 v2 s h; cases h
  | succ n ih =>
    intro v1 v2 s h
    unfold f_X9_wrong_32 at h
    refine wp_iload_n (i := 2) dX9_wrong_32 rfl rfl ?_
    refine wp_aload_n (i := 0) dX9_wrong_33 rfl rfl ?_
    refine wp_getI dX9_wrong_34 fl_X9_83 rfl rfl ?_
    refine wp_aload_n (i := 0) dX9_wrong_37 rfl rfl ?_
    refine wp_getI dX9_wrong_38 fl_X9_86 rfl rfl ?_
    refine wp_imul dX9_wrong_41 ?_
    refine wp_icmp_ge (tgt := 90) dX9_wrong_42 (by decide) (fun c1 => ?_) (fun c1 => ?_)
    · rw [if_pos c1] at h
      refine wp_iload_n (i := 1) dX9_wrong_90 rfl rfl ?_
      obtain rfl := Option.some.inj h
      exact wp_iret dX9_wrong_91 rfl rfl
    · rw [if_neg c1] at h
      refine wp_aload_n (i := 0) dX9_wrong_45 rfl rfl ?_
      refine wp_iload_n (i := 2) dX9_wrong_46 rfl rfl ?_
      obtain ⟨r2, er2, h⟩ := ob h
      refine wp_cVi (N := m_X9_inOrder) (As := [.int v2]) (rest := []) dX9_wrong_47 ml_X9_236 mo_X9_inOrder vo_X9_inOrder rfl rfl (ok_X9_inOrder er2) (by decide) (Nat.le_of_ble_eq_true rfl) ?_
      refine wp_istore_n (ls' := [some (.ref 43), some (.int v1), some (.int v2), some (.int r2.1)]) dX9_wrong_50 rfl (by decide) rfl rfl ?_
      refine wp_iload_n (i := 1) dX9_wrong_51 rfl rfl ?_
      refine wp_aload_n (i := 0) dX9_wrong_52 rfl rfl ?_
      refine wp_getR (t := 48) dX9_wrong_53 fl_X9_22 rfl rfl ?_
      refine wp_iload_n (i := 3) dX9_wrong_56 rfl rfl ?_
      obtain ⟨x3, ex3, h⟩ := ob h
      refine wp_aI dX9_wrong_57 ex3 ?_
      refine wp_iconst (v := -1) dX9_wrong_58 (by decide +kernel) ?_
      refine wp_icmp_eq (tgt := 81) dX9_wrong_59 (by decide) (fun c4 => ?_) (fun c4 => ?_)
      · rw [if_pos c4] at h
        exact wp_sub (ls' := [some (.ref 43), none, some (.int v2), none]) ⟨rfl, rfl, trivial⟩ (w_X9_wrong_81 ih h)
      · rw [if_neg c4] at h
        refine wp_aload_n (i := 0) dX9_wrong_62 rfl rfl ?_
        refine wp_getR (t := 48) dX9_wrong_63 fl_X9_22 rfl rfl ?_
        refine wp_iload_n (i := 3) dX9_wrong_66 rfl rfl ?_
        obtain ⟨x5, ex5, h⟩ := ob h
        refine wp_aI dX9_wrong_67 ex5 ?_
        refine wp_aload_n (i := 0) dX9_wrong_68 rfl rfl ?_
        refine wp_getR (t := 50) dX9_wrong_69 fl_X9_32 rfl rfl ?_
        refine wp_iload_n (i := 3) dX9_wrong_72 rfl rfl ?_
        obtain ⟨x6, ex6, h⟩ := ob h
        refine wp_aI dX9_wrong_73 ex6 ?_
        refine wp_icmp_eq (tgt := 81) dX9_wrong_74 (by decide) (fun c7 => ?_) (fun c7 => ?_)
        · rw [if_pos c7] at h
          exact wp_sub (ls' := [some (.ref 43), none, some (.int v2), none]) ⟨rfl, rfl, trivial⟩ (w_X9_wrong_81 ih h)
        · rw [if_neg c7] at h
          refine wp_iconst (v := 1) dX9_wrong_77 (by decide +kernel) ?_
          refine wp_goto (tgt := 82) dX9_wrong_78 (by decide) ?_
          exact wp_sub (ls' := [some (.ref 43), none, some (.int v2), none]) ⟨rfl, rfl, trivial⟩ (w_X9_wrong_82 ih h)
def f_X9_wrong  (s : St) : Option (Int32 × St) :=
  Option.bind (some (sF s 43 0 (0 : Int32))) fun s1 =>
  Option.bind (f_X9_is s1) fun r2 =>
  if r2.1 = 0 then (
    some ((-1 : Int32), r2.2))
  else (
    if (r2.2.1 43 11) = 0 then (
      some ((-1 : Int32), r2.2))
    else (
      if (r2.2.1 43 13) = 0 then (
        some ((-1 : Int32), r2.2))
      else (
        f_X9_wrong_32 FU (0 : Int32) (0 : Int32) r2.2)))
set_option maxRecDepth 100000 in
set_option maxHeartbeats 4000000 in
theorem ok_X9_wrong  {s : St} {r : Int32 × St} (h : f_X9_wrong  s = some r) : Ct 1 m_X9_wrong [.ref 43] s (some (.int r.1)) r.2 := by
  unfold f_X9_wrong at h
  refine ct_of [some (.ref 43), none, none, none] 3 (by decide) rfl (Nat.le_of_ble_eq_true rfl) ?_
  refine wp_aload_n (i := 0) dX9_wrong_0 rfl rfl ?_
  refine wp_iconst (v := 0) dX9_wrong_1 (by decide +kernel) ?_
  obtain ⟨s1, es1, h⟩ := ob h
  refine wp_putI2 dX9_wrong_2 fl_X9_80 rfl rfl rfl rfl es1 ?_
  refine wp_aload_n (i := 0) dX9_wrong_5 rfl rfl ?_
  obtain ⟨r2, er2, h⟩ := ob h
  refine wp_cVi (N := m_X9_is) (As := []) (rest := []) dX9_wrong_6 ml_X9_89 mo_X9_is vo_X9_is rfl rfl (ok_X9_is er2) (by decide) (Nat.le_of_ble_eq_true rfl) ?_
  refine wp_if_eq (tgt := 26) dX9_wrong_9 (by decide) (fun c3 => ?_) (fun c3 => ?_)
  · rw [if_pos c3] at h
    refine wp_iconst (v := -1) dX9_wrong_26 (by decide +kernel) ?_
    obtain rfl := Option.some.inj h
    exact wp_iret dX9_wrong_27 rfl rfl
  · rw [if_neg c3] at h
    refine wp_aload_n (i := 0) dX9_wrong_12 rfl rfl ?_
    refine wp_getI dX9_wrong_13 fl_X9_105 rfl rfl ?_
    refine wp_if_eq (tgt := 26) dX9_wrong_16 (by decide) (fun c4 => ?_) (fun c4 => ?_)
    · rw [if_pos c4] at h
      refine wp_iconst (v := -1) dX9_wrong_26 (by decide +kernel) ?_
      obtain rfl := Option.some.inj h
      exact wp_iret dX9_wrong_27 rfl rfl
    · rw [if_neg c4] at h
      refine wp_aload_n (i := 0) dX9_wrong_19 rfl rfl ?_
      refine wp_getI dX9_wrong_20 fl_X9_282 rfl rfl ?_
      refine wp_if_ne (tgt := 28) dX9_wrong_23 (by decide) (fun c5 => ?_) (fun c5 => ?_)
      · rw [if_neg c5] at h
        refine wp_iconst (v := 0) dX9_wrong_28 (by decide +kernel) ?_
        refine wp_istore_n (ls' := [some (.ref 43), some (.int (0 : Int32)), none, none]) dX9_wrong_29 rfl (by decide) rfl rfl ?_
        refine wp_iconst (v := 0) dX9_wrong_30 (by decide +kernel) ?_
        refine wp_istore_n (ls' := [some (.ref 43), some (.int (0 : Int32)), some (.int (0 : Int32)), none]) dX9_wrong_31 rfl (by decide) rfl rfl ?_
        exact wp_sub (ls' := [some (.ref 43), some (.int (0 : Int32)), some (.int (0 : Int32)), none]) ⟨rfl, rfl, rfl, trivial⟩ (w_X9_wrong_32 _ _ _ _ h)
      · rw [if_pos c5] at h
        refine wp_iconst (v := -1) dX9_wrong_26 (by decide +kernel) ?_
        obtain rfl := Option.some.inj h
        exact wp_iret dX9_wrong_27 rfl rfl
