theorem d_M_reach_0 : decode c_M_reach 0 = .ok (.iconst 0, 1) := by decide +kernel
theorem d_M_reach_1 : decode c_M_reach 1 = .ok (.istore 4, 2) := by decide +kernel
theorem d_M_reach_3 : decode c_M_reach 3 = .ok (.iconst 0, 1) := by decide +kernel
theorem d_M_reach_4 : decode c_M_reach 4 = .ok (.istore 5, 2) := by decide +kernel
theorem d_M_reach_6 : decode c_M_reach 6 = .ok (.iload 5, 2) := by decide +kernel
theorem d_M_reach_8 : decode c_M_reach 8 = .ok (.aload_n 0, 1) := by decide +kernel
theorem d_M_reach_9 : decode c_M_reach 9 = .ok (.getfield 25, 3) := by decide +kernel
theorem d_M_reach_12 : decode c_M_reach 12 = .ok (.iload_n 1, 1) := by decide +kernel
theorem d_M_reach_13 : decode c_M_reach 13 = .ok (.iaload, 1) := by decide +kernel
theorem d_M_reach_14 : decode c_M_reach 14 = .ok (.if_icmp .ge 48, 3) := by decide +kernel
theorem d_M_reach_17 : decode c_M_reach 17 = .ok (.iload_n 2, 1) := by decide +kernel
theorem d_M_reach_18 : decode c_M_reach 18 = .ok (.iload 5, 2) := by decide +kernel
theorem d_M_reach_20 : decode c_M_reach 20 = .ok (.ishr, 1) := by decide +kernel
theorem d_M_reach_21 : decode c_M_reach 21 = .ok (.iconst 1, 1) := by decide +kernel
theorem d_M_reach_22 : decode c_M_reach 22 = .ok (.iand, 1) := by decide +kernel
theorem d_M_reach_23 : decode c_M_reach 23 = .ok (.iconst 1, 1) := by decide +kernel
theorem d_M_reach_24 : decode c_M_reach 24 = .ok (.if_icmp .ne 32, 3) := by decide +kernel
theorem d_M_reach_27 : decode c_M_reach 27 = .ok (.aload_n 0, 1) := by decide +kernel
theorem d_M_reach_28 : decode c_M_reach 28 = .ok (.getfield 28, 3) := by decide +kernel
theorem d_M_reach_31 : decode c_M_reach 31 = .ok (.bipush 9, 2) := by decide +kernel
theorem d_M_reach_33 : decode c_M_reach 33 = .ok (.iload_n 1, 1) := by decide +kernel
theorem d_M_reach_34 : decode c_M_reach 34 = .ok (.imul, 1) := by decide +kernel
theorem d_M_reach_35 : decode c_M_reach 35 = .ok (.iload 5, 2) := by decide +kernel
theorem d_M_reach_37 : decode c_M_reach 37 = .ok (.iadd, 1) := by decide +kernel
theorem d_M_reach_38 : decode c_M_reach 38 = .ok (.iaload, 1) := by decide +kernel
theorem d_M_reach_39 : decode c_M_reach 39 = .ok (.iload_n 3, 1) := by decide +kernel
theorem d_M_reach_40 : decode c_M_reach 40 = .ok (.ishr, 1) := by decide +kernel
theorem d_M_reach_41 : decode c_M_reach 41 = .ok (.iconst 1, 1) := by decide +kernel
theorem d_M_reach_42 : decode c_M_reach 42 = .ok (.iand, 1) := by decide +kernel
theorem d_M_reach_43 : decode c_M_reach 43 = .ok (.iconst 1, 1) := by decide +kernel
theorem d_M_reach_44 : decode c_M_reach 44 = .ok (.if_icmp .ne 12, 3) := by decide +kernel
theorem d_M_reach_47 : decode c_M_reach 47 = .ok (.iload 4, 2) := by decide +kernel
theorem d_M_reach_49 : decode c_M_reach 49 = .ok (.iconst 1, 1) := by decide +kernel
theorem d_M_reach_50 : decode c_M_reach 50 = .ok (.iload 5, 2) := by decide +kernel
theorem d_M_reach_52 : decode c_M_reach 52 = .ok (.ishl, 1) := by decide +kernel
theorem d_M_reach_53 : decode c_M_reach 53 = .ok (.ior, 1) := by decide +kernel
theorem d_M_reach_54 : decode c_M_reach 54 = .ok (.istore 4, 2) := by decide +kernel
theorem d_M_reach_56 : decode c_M_reach 56 = .ok (.iinc 5 1, 3) := by decide +kernel
theorem d_M_reach_59 : decode c_M_reach 59 = .ok (.goto (-53), 3) := by decide +kernel
theorem d_M_reach_62 : decode c_M_reach 62 = .ok (.iload 4, 2) := by decide +kernel
theorem d_M_reach_64 : decode c_M_reach 64 = .ok (.ireturn, 1) := by decide +kernel
theorem d_M_may_0 : decode c_M_may 0 = .ok (.iconst 0, 1) := by decide +kernel
theorem d_M_may_1 : decode c_M_may 1 = .ok (.istore_n 3, 1) := by decide +kernel
theorem d_M_may_2 : decode c_M_may 2 = .ok (.iload_n 2, 1) := by decide +kernel
theorem d_M_may_3 : decode c_M_may 3 = .ok (.ifCond .ne 48, 3) := by decide +kernel
theorem d_M_may_6 : decode c_M_may 6 = .ok (.iconst 0, 1) := by decide +kernel
theorem d_M_may_7 : decode c_M_may 7 = .ok (.istore 4, 2) := by decide +kernel
theorem d_M_may_9 : decode c_M_may 9 = .ok (.iload 4, 2) := by decide +kernel
theorem d_M_may_11 : decode c_M_may 11 = .ok (.aload_n 0, 1) := by decide +kernel
theorem d_M_may_12 : decode c_M_may 12 = .ok (.getfield 198, 3) := by decide +kernel
theorem d_M_may_15 : decode c_M_may 15 = .ok (.if_icmp .ge 34, 3) := by decide +kernel
theorem d_M_may_18 : decode c_M_may 18 = .ok (.iload_n 3, 1) := by decide +kernel
theorem d_M_may_19 : decode c_M_may 19 = .ok (.aload_n 0, 1) := by decide +kernel
theorem d_M_may_20 : decode c_M_may 20 = .ok (.getfield 13, 3) := by decide +kernel
theorem d_M_may_23 : decode c_M_may 23 = .ok (.iload 4, 2) := by decide +kernel
theorem d_M_may_25 : decode c_M_may 25 = .ok (.iaload, 1) := by decide +kernel
theorem d_M_may_26 : decode c_M_may 26 = .ok (.iload_n 1, 1) := by decide +kernel
theorem d_M_may_27 : decode c_M_may 27 = .ok (.if_icmp .ne 13, 3) := by decide +kernel
theorem d_M_may_30 : decode c_M_may 30 = .ok (.aload_n 0, 1) := by decide +kernel
theorem d_M_may_31 : decode c_M_may 31 = .ok (.getfield 19, 3) := by decide +kernel
theorem d_M_may_34 : decode c_M_may 34 = .ok (.iload 4, 2) := by decide +kernel
theorem d_M_may_36 : decode c_M_may 36 = .ok (.iaload, 1) := by decide +kernel
theorem d_M_may_37 : decode c_M_may 37 = .ok (.goto 4, 3) := by decide +kernel
theorem d_M_may_40 : decode c_M_may 40 = .ok (.iconst 0, 1) := by decide +kernel
theorem d_M_may_41 : decode c_M_may 41 = .ok (.ior, 1) := by decide +kernel
theorem d_M_may_42 : decode c_M_may 42 = .ok (.istore_n 3, 1) := by decide +kernel
theorem d_M_may_43 : decode c_M_may 43 = .ok (.iinc 4 1, 3) := by decide +kernel
theorem d_M_may_46 : decode c_M_may 46 = .ok (.goto (-37), 3) := by decide +kernel
theorem d_M_may_49 : decode c_M_may 49 = .ok (.iload_n 3, 1) := by decide +kernel
theorem d_M_may_50 : decode c_M_may 50 = .ok (.ireturn, 1) := by decide +kernel
theorem d_M_may_51 : decode c_M_may 51 = .ok (.iconst 0, 1) := by decide +kernel
theorem d_M_may_52 : decode c_M_may 52 = .ok (.istore 4, 2) := by decide +kernel
theorem d_M_may_54 : decode c_M_may 54 = .ok (.iload 4, 2) := by decide +kernel
theorem d_M_may_56 : decode c_M_may 56 = .ok (.aload_n 0, 1) := by decide +kernel
theorem d_M_may_57 : decode c_M_may 57 = .ok (.getfield 25, 3) := by decide +kernel
theorem d_M_may_60 : decode c_M_may 60 = .ok (.iload_n 1, 1) := by decide +kernel
theorem d_M_may_61 : decode c_M_may 61 = .ok (.iaload, 1) := by decide +kernel
theorem d_M_may_62 : decode c_M_may 62 = .ok (.if_icmp .ge 45, 3) := by decide +kernel
theorem d_M_may_65 : decode c_M_may 65 = .ok (.aload_n 0, 1) := by decide +kernel
theorem d_M_may_66 : decode c_M_may 66 = .ok (.getfield 77, 3) := by decide +kernel
theorem d_M_may_69 : decode c_M_may 69 = .ok (.sipush 514, 3) := by decide +kernel
theorem d_M_may_72 : decode c_M_may 72 = .ok (.iload_n 1, 1) := by decide +kernel
theorem d_M_may_73 : decode c_M_may 73 = .ok (.imul, 1) := by decide +kernel
theorem d_M_may_74 : decode c_M_may 74 = .ok (.iload_n 2, 1) := by decide +kernel
theorem d_M_may_75 : decode c_M_may 75 = .ok (.iadd, 1) := by decide +kernel
theorem d_M_may_76 : decode c_M_may 76 = .ok (.iaload, 1) := by decide +kernel
theorem d_M_may_77 : decode c_M_may 77 = .ok (.iload 4, 2) := by decide +kernel
theorem d_M_may_79 : decode c_M_may 79 = .ok (.ishr, 1) := by decide +kernel
theorem d_M_may_80 : decode c_M_may 80 = .ok (.iconst 1, 1) := by decide +kernel
theorem d_M_may_81 : decode c_M_may 81 = .ok (.iand, 1) := by decide +kernel
theorem d_M_may_82 : decode c_M_may 82 = .ok (.iconst 1, 1) := by decide +kernel
theorem d_M_may_83 : decode c_M_may 83 = .ok (.if_icmp .ne 18, 3) := by decide +kernel
theorem d_M_may_86 : decode c_M_may 86 = .ok (.iload_n 3, 1) := by decide +kernel
theorem d_M_may_87 : decode c_M_may 87 = .ok (.aload_n 0, 1) := by decide +kernel
theorem d_M_may_88 : decode c_M_may 88 = .ok (.getfield 34, 3) := by decide +kernel
theorem d_M_may_91 : decode c_M_may 91 = .ok (.bipush 9, 2) := by decide +kernel
theorem d_M_may_93 : decode c_M_may 93 = .ok (.iload_n 1, 1) := by decide +kernel
theorem d_M_may_94 : decode c_M_may 94 = .ok (.imul, 1) := by decide +kernel
theorem d_M_may_95 : decode c_M_may 95 = .ok (.iload 4, 2) := by decide +kernel
theorem d_M_may_97 : decode c_M_may 97 = .ok (.iadd, 1) := by decide +kernel
theorem d_M_may_98 : decode c_M_may 98 = .ok (.iaload, 1) := by decide +kernel
theorem d_M_may_99 : decode c_M_may 99 = .ok (.ior, 1) := by decide +kernel
theorem d_M_may_100 : decode c_M_may 100 = .ok (.istore_n 3, 1) := by decide +kernel
theorem d_M_may_101 : decode c_M_may 101 = .ok (.iinc 4 1, 3) := by decide +kernel
theorem d_M_may_104 : decode c_M_may 104 = .ok (.goto (-50), 3) := by decide +kernel
theorem d_M_may_107 : decode c_M_may 107 = .ok (.iload_n 3, 1) := by decide +kernel
theorem d_M_may_108 : decode c_M_may 108 = .ok (.ireturn, 1) := by decide +kernel
theorem d_M_find_0 : decode c_M_find 0 = .ok (.iconst 1, 1) := by decide +kernel
theorem d_M_find_1 : decode c_M_find 1 = .ok (.istore_n 3, 1) := by decide +kernel
theorem d_M_find_2 : decode c_M_find 2 = .ok (.iload_n 3, 1) := by decide +kernel
theorem d_M_find_3 : decode c_M_find 3 = .ok (.aload_n 0, 1) := by decide +kernel
theorem d_M_find_4 : decode c_M_find 4 = .ok (.getfield 74, 3) := by decide +kernel
theorem d_M_find_7 : decode c_M_find 7 = .ok (.iload_n 1, 1) := by decide +kernel
theorem d_M_find_8 : decode c_M_find 8 = .ok (.iaload, 1) := by decide +kernel
theorem d_M_find_9 : decode c_M_find 9 = .ok (.if_icmp .ge 27, 3) := by decide +kernel
theorem d_M_find_12 : decode c_M_find 12 = .ok (.aload_n 0, 1) := by decide +kernel
theorem d_M_find_13 : decode c_M_find 13 = .ok (.getfield 77, 3) := by decide +kernel
theorem d_M_find_16 : decode c_M_find 16 = .ok (.sipush 514, 3) := by decide +kernel
theorem d_M_find_19 : decode c_M_find 19 = .ok (.iload_n 1, 1) := by decide +kernel
theorem d_M_find_20 : decode c_M_find 20 = .ok (.imul, 1) := by decide +kernel
theorem d_M_find_21 : decode c_M_find 21 = .ok (.iload_n 3, 1) := by decide +kernel
theorem d_M_find_22 : decode c_M_find 22 = .ok (.iadd, 1) := by decide +kernel
theorem d_M_find_23 : decode c_M_find 23 = .ok (.iaload, 1) := by decide +kernel
theorem d_M_find_24 : decode c_M_find 24 = .ok (.iload_n 2, 1) := by decide +kernel
theorem d_M_find_25 : decode c_M_find 25 = .ok (.if_icmp .ne 5, 3) := by decide +kernel
theorem d_M_find_28 : decode c_M_find 28 = .ok (.iload_n 3, 1) := by decide +kernel
theorem d_M_find_29 : decode c_M_find 29 = .ok (.ireturn, 1) := by decide +kernel
theorem d_M_find_30 : decode c_M_find 30 = .ok (.iinc 3 1, 3) := by decide +kernel
theorem d_M_find_33 : decode c_M_find 33 = .ok (.goto (-31), 3) := by decide +kernel
theorem d_M_find_36 : decode c_M_find 36 = .ok (.aload_n 0, 1) := by decide +kernel
theorem d_M_find_37 : decode c_M_find 37 = .ok (.getfield 77, 3) := by decide +kernel
theorem d_M_find_40 : decode c_M_find 40 = .ok (.sipush 514, 3) := by decide +kernel
theorem d_M_find_43 : decode c_M_find 43 = .ok (.iload_n 1, 1) := by decide +kernel
theorem d_M_find_44 : decode c_M_find 44 = .ok (.imul, 1) := by decide +kernel
theorem d_M_find_45 : decode c_M_find 45 = .ok (.aload_n 0, 1) := by decide +kernel
theorem d_M_find_46 : decode c_M_find 46 = .ok (.getfield 74, 3) := by decide +kernel
theorem d_M_find_49 : decode c_M_find 49 = .ok (.iload_n 1, 1) := by decide +kernel
theorem d_M_find_50 : decode c_M_find 50 = .ok (.iaload, 1) := by decide +kernel
theorem d_M_find_51 : decode c_M_find 51 = .ok (.iadd, 1) := by decide +kernel
theorem d_M_find_52 : decode c_M_find 52 = .ok (.iload_n 2, 1) := by decide +kernel
theorem d_M_find_53 : decode c_M_find 53 = .ok (.iastore, 1) := by decide +kernel
theorem d_M_find_54 : decode c_M_find 54 = .ok (.aload_n 0, 1) := by decide +kernel
theorem d_M_find_55 : decode c_M_find 55 = .ok (.getfield 74, 3) := by decide +kernel
theorem d_M_find_58 : decode c_M_find 58 = .ok (.iload_n 1, 1) := by decide +kernel
theorem d_M_find_59 : decode c_M_find 59 = .ok (.dup2, 1) := by decide +kernel
theorem d_M_find_60 : decode c_M_find 60 = .ok (.iaload, 1) := by decide +kernel
theorem d_M_find_61 : decode c_M_find 61 = .ok (.iconst 1, 1) := by decide +kernel
theorem d_M_find_62 : decode c_M_find 62 = .ok (.iadd, 1) := by decide +kernel
theorem d_M_find_63 : decode c_M_find 63 = .ok (.iastore, 1) := by decide +kernel
theorem d_M_find_64 : decode c_M_find 64 = .ok (.aload_n 0, 1) := by decide +kernel
theorem d_M_find_65 : decode c_M_find 65 = .ok (.getfield 74, 3) := by decide +kernel
theorem d_M_find_68 : decode c_M_find 68 = .ok (.iload_n 1, 1) := by decide +kernel
theorem d_M_find_69 : decode c_M_find 69 = .ok (.iaload, 1) := by decide +kernel
theorem d_M_find_70 : decode c_M_find 70 = .ok (.iconst 1, 1) := by decide +kernel
theorem d_M_find_71 : decode c_M_find 71 = .ok (.isub, 1) := by decide +kernel
theorem d_M_find_72 : decode c_M_find 72 = .ok (.ireturn, 1) := by decide +kernel
theorem d_M_wins_0 : decode c_M_wins 0 = .ok (.iconst 0, 1) := by decide +kernel
theorem d_M_wins_1 : decode c_M_wins 1 = .ok (.istore_n 3, 1) := by decide +kernel
theorem d_M_wins_2 : decode c_M_wins 2 = .ok (.iload_n 3, 1) := by decide +kernel
theorem d_M_wins_3 : decode c_M_wins 3 = .ok (.aload_n 0, 1) := by decide +kernel
theorem d_M_wins_4 : decode c_M_wins 4 = .ok (.getfield 198, 3) := by decide +kernel
theorem d_M_wins_7 : decode c_M_wins 7 = .ok (.if_icmp .ge 47, 3) := by decide +kernel
theorem d_M_wins_10 : decode c_M_wins 10 = .ok (.iload_n 2, 1) := by decide +kernel
theorem d_M_wins_11 : decode c_M_wins 11 = .ok (.ifCond .le 43, 3) := by decide +kernel
theorem d_M_wins_14 : decode c_M_wins 14 = .ok (.aload_n 0, 1) := by decide +kernel
theorem d_M_wins_15 : decode c_M_wins 15 = .ok (.getfield 13, 3) := by decide +kernel
theorem d_M_wins_18 : decode c_M_wins 18 = .ok (.iload_n 3, 1) := by decide +kernel
theorem d_M_wins_19 : decode c_M_wins 19 = .ok (.iaload, 1) := by decide +kernel
theorem d_M_wins_20 : decode c_M_wins 20 = .ok (.iload_n 1, 1) := by decide +kernel
theorem d_M_wins_21 : decode c_M_wins 21 = .ok (.if_icmp .ne 27, 3) := by decide +kernel
theorem d_M_wins_24 : decode c_M_wins 24 = .ok (.aload_n 0, 1) := by decide +kernel
theorem d_M_wins_25 : decode c_M_wins 25 = .ok (.getfield 77, 3) := by decide +kernel
theorem d_M_wins_28 : decode c_M_wins 28 = .ok (.sipush 514, 3) := by decide +kernel
theorem d_M_wins_31 : decode c_M_wins 31 = .ok (.iload_n 1, 1) := by decide +kernel
theorem d_M_wins_32 : decode c_M_wins 32 = .ok (.imul, 1) := by decide +kernel
theorem d_M_wins_33 : decode c_M_wins 33 = .ok (.iload_n 2, 1) := by decide +kernel
theorem d_M_wins_34 : decode c_M_wins 34 = .ok (.iadd, 1) := by decide +kernel
theorem d_M_wins_35 : decode c_M_wins 35 = .ok (.iaload, 1) := by decide +kernel
theorem d_M_wins_36 : decode c_M_wins 36 = .ok (.aload_n 0, 1) := by decide +kernel
theorem d_M_wins_37 : decode c_M_wins 37 = .ok (.getfield 22, 3) := by decide +kernel
theorem d_M_wins_40 : decode c_M_wins 40 = .ok (.iload_n 3, 1) := by decide +kernel
theorem d_M_wins_41 : decode c_M_wins 41 = .ok (.iaload, 1) := by decide +kernel
theorem d_M_wins_42 : decode c_M_wins 42 = .ok (.iand, 1) := by decide +kernel
theorem d_M_wins_43 : decode c_M_wins 43 = .ok (.ifCond .eq 5, 3) := by decide +kernel
theorem d_M_wins_46 : decode c_M_wins 46 = .ok (.iload_n 3, 1) := by decide +kernel
theorem d_M_wins_47 : decode c_M_wins 47 = .ok (.ireturn, 1) := by decide +kernel
theorem d_M_wins_48 : decode c_M_wins 48 = .ok (.iinc 3 1, 3) := by decide +kernel
theorem d_M_wins_51 : decode c_M_wins 51 = .ok (.goto (-49), 3) := by decide +kernel
theorem d_M_wins_54 : decode c_M_wins 54 = .ok (.iconst (-1), 1) := by decide +kernel
theorem d_M_wins_55 : decode c_M_wins 55 = .ok (.ireturn, 1) := by decide +kernel
theorem d_M_go_0 : decode c_M_go 0 = .ok (.aload_n 0, 1) := by decide +kernel
theorem d_M_go_1 : decode c_M_go 1 = .ok (.getfield 80, 3) := by decide +kernel
theorem d_M_go_4 : decode c_M_go 4 = .ok (.bipush 6, 2) := by decide +kernel
theorem d_M_go_6 : decode c_M_go 6 = .ok (.sipush 514, 3) := by decide +kernel
theorem d_M_go_9 : decode c_M_go 9 = .ok (.iload_n 1, 1) := by decide +kernel
theorem d_M_go_10 : decode c_M_go 10 = .ok (.imul, 1) := by decide +kernel
theorem d_M_go_11 : decode c_M_go 11 = .ok (.iload_n 2, 1) := by decide +kernel
theorem d_M_go_12 : decode c_M_go 12 = .ok (.iadd, 1) := by decide +kernel
theorem d_M_go_13 : decode c_M_go 13 = .ok (.imul, 1) := by decide +kernel
theorem d_M_go_14 : decode c_M_go 14 = .ok (.iload_n 3, 1) := by decide +kernel
theorem d_M_go_15 : decode c_M_go 15 = .ok (.iadd, 1) := by decide +kernel
theorem d_M_go_16 : decode c_M_go 16 = .ok (.iaload, 1) := by decide +kernel
theorem d_M_go_17 : decode c_M_go 17 = .ok (.ireturn, 1) := by decide +kernel
theorem d_M_groupAt_0 : decode c_M_groupAt 0 = .ok (.iload_n 2, 1) := by decide +kernel
theorem d_M_groupAt_1 : decode c_M_groupAt 1 = .ok (.iconst (-1), 1) := by decide +kernel
theorem d_M_groupAt_2 : decode c_M_groupAt 2 = .ok (.if_icmp .ne 7, 3) := by decide +kernel
theorem d_M_groupAt_5 : decode c_M_groupAt 5 = .ok (.iconst (-1), 1) := by decide +kernel
theorem d_M_groupAt_6 : decode c_M_groupAt 6 = .ok (.goto 15, 3) := by decide +kernel
theorem d_M_groupAt_9 : decode c_M_groupAt 9 = .ok (.aload_n 0, 1) := by decide +kernel
theorem d_M_groupAt_10 : decode c_M_groupAt 10 = .ok (.getfield 83, 3) := by decide +kernel
theorem d_M_groupAt_13 : decode c_M_groupAt 13 = .ok (.sipush 514, 3) := by decide +kernel
theorem d_M_groupAt_16 : decode c_M_groupAt 16 = .ok (.iload_n 1, 1) := by decide +kernel
theorem d_M_groupAt_17 : decode c_M_groupAt 17 = .ok (.imul, 1) := by decide +kernel
theorem d_M_groupAt_18 : decode c_M_groupAt 18 = .ok (.iload_n 2, 1) := by decide +kernel
theorem d_M_groupAt_19 : decode c_M_groupAt 19 = .ok (.iadd, 1) := by decide +kernel
theorem d_M_groupAt_20 : decode c_M_groupAt 20 = .ok (.iaload, 1) := by decide +kernel
theorem d_M_groupAt_21 : decode c_M_groupAt 21 = .ok (.ireturn, 1) := by decide +kernel
theorem d_M_alike_0 : decode c_M_alike 0 = .ok (.aload_n 0, 1) := by decide +kernel
theorem d_M_alike_1 : decode c_M_alike 1 = .ok (.iload_n 1, 1) := by decide +kernel
theorem d_M_alike_2 : decode c_M_alike 2 = .ok (.iload_n 2, 1) := by decide +kernel
theorem d_M_alike_3 : decode c_M_alike 3 = .ok (.invokevirtual 229, 3) := by decide +kernel
theorem d_M_alike_6 : decode c_M_alike 6 = .ok (.aload_n 0, 1) := by decide +kernel
theorem d_M_alike_7 : decode c_M_alike 7 = .ok (.iload_n 1, 1) := by decide +kernel
theorem d_M_alike_8 : decode c_M_alike 8 = .ok (.iload_n 3, 1) := by decide +kernel
theorem d_M_alike_9 : decode c_M_alike 9 = .ok (.invokevirtual 229, 3) := by decide +kernel
theorem d_M_alike_12 : decode c_M_alike 12 = .ok (.if_icmp .ne 7, 3) := by decide +kernel
theorem d_M_alike_15 : decode c_M_alike 15 = .ok (.iconst 1, 1) := by decide +kernel
theorem d_M_alike_16 : decode c_M_alike 16 = .ok (.goto 4, 3) := by decide +kernel
theorem d_M_alike_19 : decode c_M_alike 19 = .ok (.iconst 0, 1) := by decide +kernel
theorem d_M_alike_20 : decode c_M_alike 20 = .ok (.istore 4, 2) := by decide +kernel
theorem d_M_alike_22 : decode c_M_alike 22 = .ok (.iconst 0, 1) := by decide +kernel
theorem d_M_alike_23 : decode c_M_alike 23 = .ok (.istore 5, 2) := by decide +kernel
theorem d_M_alike_25 : decode c_M_alike 25 = .ok (.iload 5, 2) := by decide +kernel
theorem d_M_alike_27 : decode c_M_alike 27 = .ok (.bipush 6, 2) := by decide +kernel
theorem d_M_alike_29 : decode c_M_alike 29 = .ok (.if_icmp .ge 85, 3) := by decide +kernel
theorem d_M_alike_32 : decode c_M_alike 32 = .ok (.iload 4, 2) := by decide +kernel
theorem d_M_alike_34 : decode c_M_alike 34 = .ok (.ifCond .eq 80, 3) := by decide +kernel
theorem d_M_alike_37 : decode c_M_alike 37 = .ok (.aload_n 0, 1) := by decide +kernel
theorem d_M_alike_38 : decode c_M_alike 38 = .ok (.iload_n 1, 1) := by decide +kernel
theorem d_M_alike_39 : decode c_M_alike 39 = .ok (.iload_n 2, 1) := by decide +kernel
theorem d_M_alike_40 : decode c_M_alike 40 = .ok (.iload 5, 2) := by decide +kernel
theorem d_M_alike_42 : decode c_M_alike 42 = .ok (.invokevirtual 232, 3) := by decide +kernel
theorem d_M_alike_45 : decode c_M_alike 45 = .ok (.istore 6, 2) := by decide +kernel
theorem d_M_alike_47 : decode c_M_alike 47 = .ok (.aload_n 0, 1) := by decide +kernel
theorem d_M_alike_48 : decode c_M_alike 48 = .ok (.iload_n 1, 1) := by decide +kernel
theorem d_M_alike_49 : decode c_M_alike 49 = .ok (.iload_n 3, 1) := by decide +kernel
theorem d_M_alike_50 : decode c_M_alike 50 = .ok (.iload 5, 2) := by decide +kernel
theorem d_M_alike_52 : decode c_M_alike 52 = .ok (.invokevirtual 232, 3) := by decide +kernel
theorem d_M_alike_55 : decode c_M_alike 55 = .ok (.istore 7, 2) := by decide +kernel
theorem d_M_alike_57 : decode c_M_alike 57 = .ok (.iload 6, 2) := by decide +kernel
theorem d_M_alike_59 : decode c_M_alike 59 = .ok (.iconst (-1), 1) := by decide +kernel
theorem d_M_alike_60 : decode c_M_alike 60 = .ok (.if_icmp .eq 9, 3) := by decide +kernel
theorem d_M_alike_63 : decode c_M_alike 63 = .ok (.iload 7, 2) := by decide +kernel
theorem d_M_alike_65 : decode c_M_alike 65 = .ok (.iconst (-1), 1) := by decide +kernel
theorem d_M_alike_66 : decode c_M_alike 66 = .ok (.if_icmp .ne 18, 3) := by decide +kernel
theorem d_M_alike_69 : decode c_M_alike 69 = .ok (.iload 6, 2) := by decide +kernel
theorem d_M_alike_71 : decode c_M_alike 71 = .ok (.iload 7, 2) := by decide +kernel
theorem d_M_alike_73 : decode c_M_alike 73 = .ok (.if_icmp .ne 7, 3) := by decide +kernel
theorem d_M_alike_76 : decode c_M_alike 76 = .ok (.iconst 1, 1) := by decide +kernel
theorem d_M_alike_77 : decode c_M_alike 77 = .ok (.goto 29, 3) := by decide +kernel
theorem d_M_alike_80 : decode c_M_alike 80 = .ok (.iconst 0, 1) := by decide +kernel
theorem d_M_alike_81 : decode c_M_alike 81 = .ok (.goto 25, 3) := by decide +kernel
theorem d_M_alike_84 : decode c_M_alike 84 = .ok (.aload_n 0, 1) := by decide +kernel
theorem d_M_alike_85 : decode c_M_alike 85 = .ok (.iload_n 1, 1) := by decide +kernel
theorem d_M_alike_86 : decode c_M_alike 86 = .ok (.iload 6, 2) := by decide +kernel
theorem d_M_alike_88 : decode c_M_alike 88 = .ok (.invokevirtual 229, 3) := by decide +kernel
theorem d_M_alike_91 : decode c_M_alike 91 = .ok (.aload_n 0, 1) := by decide +kernel
theorem d_M_alike_92 : decode c_M_alike 92 = .ok (.iload_n 1, 1) := by decide +kernel
theorem d_M_alike_93 : decode c_M_alike 93 = .ok (.iload 7, 2) := by decide +kernel
theorem d_M_alike_95 : decode c_M_alike 95 = .ok (.invokevirtual 229, 3) := by decide +kernel
theorem d_M_alike_98 : decode c_M_alike 98 = .ok (.if_icmp .ne 7, 3) := by decide +kernel
theorem d_M_alike_101 : decode c_M_alike 101 = .ok (.iconst 1, 1) := by decide +kernel
theorem d_M_alike_102 : decode c_M_alike 102 = .ok (.goto 4, 3) := by decide +kernel
theorem d_M_alike_105 : decode c_M_alike 105 = .ok (.iconst 0, 1) := by decide +kernel
theorem d_M_alike_106 : decode c_M_alike 106 = .ok (.istore 4, 2) := by decide +kernel
theorem d_M_alike_108 : decode c_M_alike 108 = .ok (.iinc 5 1, 3) := by decide +kernel
theorem d_M_alike_111 : decode c_M_alike 111 = .ok (.goto (-86), 3) := by decide +kernel
theorem d_M_alike_114 : decode c_M_alike 114 = .ok (.iload 4, 2) := by decide +kernel
theorem d_M_alike_116 : decode c_M_alike 116 = .ok (.ireturn, 1) := by decide +kernel
theorem d_M_split_0 : decode c_M_split 0 = .ok (.iconst 0, 1) := by decide +kernel
theorem d_M_split_1 : decode c_M_split 1 = .ok (.istore_n 2, 1) := by decide +kernel
theorem d_M_split_2 : decode c_M_split 2 = .ok (.iconst 0, 1) := by decide +kernel
theorem d_M_split_3 : decode c_M_split 3 = .ok (.istore_n 3, 1) := by decide +kernel
theorem d_M_split_4 : decode c_M_split 4 = .ok (.iload_n 3, 1) := by decide +kernel
theorem d_M_split_5 : decode c_M_split 5 = .ok (.aload_n 0, 1) := by decide +kernel
theorem d_M_split_6 : decode c_M_split 6 = .ok (.getfield 74, 3) := by decide +kernel
theorem d_M_split_9 : decode c_M_split 9 = .ok (.iload_n 1, 1) := by decide +kernel
theorem d_M_split_10 : decode c_M_split 10 = .ok (.iaload, 1) := by decide +kernel
theorem d_M_split_11 : decode c_M_split 11 = .ok (.if_icmp .ge 77, 3) := by decide +kernel
theorem d_M_split_14 : decode c_M_split 14 = .ok (.iconst 0, 1) := by decide +kernel
theorem d_M_split_15 : decode c_M_split 15 = .ok (.istore 4, 2) := by decide +kernel
theorem d_M_split_17 : decode c_M_split 17 = .ok (.iload 4, 2) := by decide +kernel
theorem d_M_split_19 : decode c_M_split 19 = .ok (.iload_n 2, 1) := by decide +kernel
theorem d_M_split_20 : decode c_M_split 20 = .ok (.if_icmp .ge 31, 3) := by decide +kernel
theorem d_M_split_23 : decode c_M_split 23 = .ok (.aload_n 0, 1) := by decide +kernel
theorem d_M_split_24 : decode c_M_split 24 = .ok (.iload_n 1, 1) := by decide +kernel
theorem d_M_split_25 : decode c_M_split 25 = .ok (.aload_n 0, 1) := by decide +kernel
theorem d_M_split_26 : decode c_M_split 26 = .ok (.getfield 89, 3) := by decide +kernel
theorem d_M_split_29 : decode c_M_split 29 = .ok (.sipush 514, 3) := by decide +kernel
theorem d_M_split_32 : decode c_M_split 32 = .ok (.iload_n 1, 1) := by decide +kernel
theorem d_M_split_33 : decode c_M_split 33 = .ok (.imul, 1) := by decide +kernel
theorem d_M_split_34 : decode c_M_split 34 = .ok (.iload 4, 2) := by decide +kernel
theorem d_M_split_36 : decode c_M_split 36 = .ok (.iadd, 1) := by decide +kernel
theorem d_M_split_37 : decode c_M_split 37 = .ok (.iaload, 1) := by decide +kernel
theorem d_M_split_38 : decode c_M_split 38 = .ok (.iload_n 3, 1) := by decide +kernel
theorem d_M_split_39 : decode c_M_split 39 = .ok (.invokevirtual 235, 3) := by decide +kernel
theorem d_M_split_42 : decode c_M_split 42 = .ok (.ifCond .ne 9, 3) := by decide +kernel
theorem d_M_split_45 : decode c_M_split 45 = .ok (.iinc 4 1, 3) := by decide +kernel
theorem d_M_split_48 : decode c_M_split 48 = .ok (.goto (-31), 3) := by decide +kernel
theorem d_M_split_51 : decode c_M_split 51 = .ok (.iload 4, 2) := by decide +kernel
theorem d_M_split_53 : decode c_M_split 53 = .ok (.iload_n 2, 1) := by decide +kernel
theorem d_M_split_54 : decode c_M_split 54 = .ok (.if_icmp .ne 20, 3) := by decide +kernel
theorem d_M_split_57 : decode c_M_split 57 = .ok (.aload_n 0, 1) := by decide +kernel
theorem d_M_split_58 : decode c_M_split 58 = .ok (.getfield 89, 3) := by decide +kernel
theorem d_M_split_61 : decode c_M_split 61 = .ok (.sipush 514, 3) := by decide +kernel
theorem d_M_split_64 : decode c_M_split 64 = .ok (.iload_n 1, 1) := by decide +kernel
theorem d_M_split_65 : decode c_M_split 65 = .ok (.imul, 1) := by decide +kernel
theorem d_M_split_66 : decode c_M_split 66 = .ok (.iload 4, 2) := by decide +kernel
theorem d_M_split_68 : decode c_M_split 68 = .ok (.iadd, 1) := by decide +kernel
theorem d_M_split_69 : decode c_M_split 69 = .ok (.iload_n 3, 1) := by decide +kernel
theorem d_M_split_70 : decode c_M_split 70 = .ok (.iastore, 1) := by decide +kernel
theorem d_M_split_71 : decode c_M_split 71 = .ok (.iinc 2 1, 3) := by decide +kernel
theorem d_M_split_74 : decode c_M_split 74 = .ok (.aload_n 0, 1) := by decide +kernel
theorem d_M_split_75 : decode c_M_split 75 = .ok (.getfield 113, 3) := by decide +kernel
theorem d_M_split_78 : decode c_M_split 78 = .ok (.iload_n 3, 1) := by decide +kernel
theorem d_M_split_79 : decode c_M_split 79 = .ok (.iload 4, 2) := by decide +kernel
theorem d_M_split_81 : decode c_M_split 81 = .ok (.iastore, 1) := by decide +kernel
theorem d_M_split_82 : decode c_M_split 82 = .ok (.iinc 3 1, 3) := by decide +kernel
theorem d_M_split_85 : decode c_M_split 85 = .ok (.goto (-81), 3) := by decide +kernel
theorem d_M_split_88 : decode c_M_split 88 = .ok (.iconst 0, 1) := by decide +kernel
theorem d_M_split_89 : decode c_M_split 89 = .ok (.istore_n 3, 1) := by decide +kernel
theorem d_M_split_90 : decode c_M_split 90 = .ok (.iload_n 3, 1) := by decide +kernel
theorem d_M_split_91 : decode c_M_split 91 = .ok (.aload_n 0, 1) := by decide +kernel
theorem d_M_split_92 : decode c_M_split 92 = .ok (.getfield 74, 3) := by decide +kernel
theorem d_M_split_95 : decode c_M_split 95 = .ok (.iload_n 1, 1) := by decide +kernel
theorem d_M_split_96 : decode c_M_split 96 = .ok (.iaload, 1) := by decide +kernel
theorem d_M_split_97 : decode c_M_split 97 = .ok (.if_icmp .ge 27, 3) := by decide +kernel
theorem d_M_split_100 : decode c_M_split 100 = .ok (.aload_n 0, 1) := by decide +kernel
theorem d_M_split_101 : decode c_M_split 101 = .ok (.getfield 83, 3) := by decide +kernel
theorem d_M_split_104 : decode c_M_split 104 = .ok (.sipush 514, 3) := by decide +kernel
theorem d_M_split_107 : decode c_M_split 107 = .ok (.iload_n 1, 1) := by decide +kernel
theorem d_M_split_108 : decode c_M_split 108 = .ok (.imul, 1) := by decide +kernel
theorem d_M_split_109 : decode c_M_split 109 = .ok (.iload_n 3, 1) := by decide +kernel
theorem d_M_split_110 : decode c_M_split 110 = .ok (.iadd, 1) := by decide +kernel
theorem d_M_split_111 : decode c_M_split 111 = .ok (.aload_n 0, 1) := by decide +kernel
theorem d_M_split_112 : decode c_M_split 112 = .ok (.getfield 113, 3) := by decide +kernel
theorem d_M_split_115 : decode c_M_split 115 = .ok (.iload_n 3, 1) := by decide +kernel
theorem d_M_split_116 : decode c_M_split 116 = .ok (.iaload, 1) := by decide +kernel
theorem d_M_split_117 : decode c_M_split 117 = .ok (.iastore, 1) := by decide +kernel
theorem d_M_split_118 : decode c_M_split 118 = .ok (.iinc 3 1, 3) := by decide +kernel
theorem d_M_split_121 : decode c_M_split 121 = .ok (.goto (-31), 3) := by decide +kernel
theorem d_M_split_124 : decode c_M_split 124 = .ok (.iload_n 2, 1) := by decide +kernel
theorem d_M_split_125 : decode c_M_split 125 = .ok (.ireturn, 1) := by decide +kernel
def p_M_reach_6 (f_o_many : (Nat → Int32)) (f_o_letters : (Nat → Int32)) (x1 : Int32) (x2 : Int32) (x3 : Int32) (post : Int32 → Prop) : Nat → Int32 → Int32 → Prop
  | 0, _, _ => False
  | n + 1, l4, l5 => (vp_in x1 3 ∧ (((f_o_many x1.toNatClampNeg) ≤ l5 → (post l4)) ∧ (¬ (f_o_many x1.toNatClampNeg) ≤ l5 → ((¬ ((x2 >>> (l5 &&& 31)) &&& (1 : Int32)) = 1 → (p_M_reach_6 f_o_many f_o_letters x1 x2 x3 post n l4 (l5 + 1))) ∧ (((x2 >>> (l5 &&& 31)) &&& (1 : Int32)) = 1 → (vp_in ((9 * x1) + l5) 27 ∧ ((¬ (((f_o_letters ((9 * x1) + l5).toNatClampNeg) >>> (x3 &&& 31)) &&& (1 : Int32)) = 1 → (p_M_reach_6 f_o_many f_o_letters x1 x2 x3 post n l4 (l5 + 1))) ∧ ((((f_o_letters ((9 * x1) + l5).toNatClampNeg) >>> (x3 &&& 31)) &&& (1 : Int32)) = 1 → (p_M_reach_6 f_o_many f_o_letters x1 x2 x3 post n (l4 ||| ((1 : Int32) <<< (l5 &&& 31))) (l5 + 1))))))))))
def p_M_reach (f_o_many : (Nat → Int32)) (f_o_letters : (Nat → Int32)) (x1 : Int32) (x2 : Int32) (x3 : Int32) (post : Int32 → Prop) : Prop := (∃ k, p_M_reach_6 f_o_many f_o_letters x1 x2 x3 post k 0 0)
set_option maxHeartbeats 4000000 in
set_option maxRecDepth 100000 in
theorem k_M_reach (l : Launch) (G : va_G) (K : Nat → ClassId) (a0 : Nat) (ad : Nat → Nat) (v_o_code : Int32) (v_o_typed : Int32) (v_o_rules : Int32) (v_o_at : Int32) (v_o_read : Int32) (v_o_depth : Int32) (v_o_wrong : Int32) (v_o_there : Int32) (v_o_ended : Int32) (v_o_mode : Int32) (v_o_kept : Int32) (v_o_came : Int32) (v_o_pending : Int32) (v_o_looked : Int32) (v_o_tokens : Int32) (v_o_oldest : Int32) (f_o_many : (Nat → Int32)) (f_o_letters : (Nat → Int32)) (x1 : Int32) (x2 : Int32) (x3 : Int32) (post : Int32 → Prop) (h : p_M_reach f_o_many f_o_letters x1 x2 x3 post) : MSi l y_M_reach (.code y_M_reach c_M_reach 6 (some .int)) { frames := 0, cells := 0, slots := 0, locals := 0 } G K [(a0, .inr (12, oM v_o_code v_o_typed v_o_rules v_o_at v_o_read v_o_depth v_o_wrong v_o_there v_o_ended v_o_mode v_o_kept v_o_came v_o_pending v_o_looked v_o_tokens v_o_oldest ad)), ((ad 8), .inl (K 0, 3, .inl f_o_many)), ((ad 9), .inl (K 0, 27, .inl f_o_letters))] [.ref a0, .int x1, .int x2, .int x3] post := by
  refine g_metSi (cc := c_M_reach) (maxL := 6) (ret := some .int) (rt := .int) (by decide) rfl rfl (Nat.le_of_ble_eq_true rfl) ?_
  intro p e s m below meth c Q hx hb hml hown htg hK hN hP hret ls hl
  have hl : lv_has ls 6 [(0, .ref a0), (1, .int x1), (2, .int x2), (3, .int x3)] := hl
  have C_6 : ∀ (n : Nat) (l4 : Int32) (l5 : Int32) (ls : Array Slot), lv_has ls 6 [(0, .ref a0), (1, .int x1), (2, .int x2), (3, .int x3), (4, .int l4), (5, .int l5)] → p_M_reach_6 f_o_many f_o_letters x1 x2 x3 post n l4 l5 → W p l e { frames := 0, cells := 0, slots := 0, locals := 0 } s m ([.ref a0, .int x1, .int x2, .int x3] : List Value).toArray below meth c s.heap [] 0 0 Q (F0 m 6 ls []) := by
    intro n
    induction n with
    | zero =>
      intro l4 l5 ls hl h
      exact False.elim h
    | succ n ih =>
      intro l4 l5 ls hl h
      refine lv_iload hx hb d_M_reach_6 (lv_at hl 5 rfl) ?_
      refine lv_aload_n hx hb d_M_reach_8 rfl (lv_at hl 0 rfl) ?_
      refine va_get (ci := 12) (v := .ref (ad 8)) hx hb htg in_M hown hK hP 0 rfl rfl 8 (by decide) (htg _ m_618) (fun _ h9 => h9) rfl d_M_reach_9 ?_
      refine lv_iload_n hx hb d_M_reach_12 rfl (lv_at hl 1 rfl) ?_
      obtain ⟨hin, h⟩ := h
      refine va_iald hx hb hK hP 1 0 rfl rfl hin d_M_reach_13 ?_
      refine lv_icmp_ge (tgt := 62) hx hb d_M_reach_14 (by decide) (fun hc => ?_) (fun hc => ?_)
      · replace h := h.1 hc
        refine lv_iload hx hb d_M_reach_62 (lv_at hl 4 rfl) ?_
        exact hret _ _ _ h (vp_nar_int _) d_M_reach_64
      · replace h := h.2 hc
        refine lv_iload_n hx hb d_M_reach_17 rfl (lv_at hl 2 rfl) ?_
        refine lv_iload hx hb d_M_reach_18 (lv_at hl 5 rfl) ?_
        refine lv_ishr hx hb d_M_reach_20 ?_
        refine lv_iconst (v := 1) hx hb d_M_reach_21 (by decide) ?_
        refine lv_iand hx hb d_M_reach_22 ?_
        refine lv_iconst (v := 1) hx hb d_M_reach_23 (by decide) ?_
        refine lv_icmp_ne (tgt := 56) hx hb d_M_reach_24 (by decide) (fun hc => ?_) (fun hc => ?_)
        · replace h := h.1 hc
          refine lv_iinc (v := (l5 + 1)) (lv' := [(5, .int (l5 + 1)), (0, .ref a0), (1, .int x1), (2, .int x2), (3, .int x3), (4, .int l4)]) hx hb d_M_reach_56 hl (k := 5) rfl (by first | rfl | decide) (by decide) rfl (fun ls hl => ?_)
          refine lv_goto (tgt := 6) hx hb d_M_reach_59 (by decide) ?_
          exact ih l4 (l5 + 1) _ (lv_sub hl [1, 2, 3, 4, 5, 0] rfl) h
        · replace h := h.2 hc
          refine lv_aload_n hx hb d_M_reach_27 rfl (lv_at hl 0 rfl) ?_
          refine va_get (ci := 12) (v := .ref (ad 9)) hx hb htg in_M hown hK hP 0 rfl rfl 9 (by decide) (htg _ m_619) (fun _ h9 => h9) rfl d_M_reach_28 ?_
          refine lv_bipush (v := 9) hx hb d_M_reach_31 (by decide) ?_
          refine lv_iload_n hx hb d_M_reach_33 rfl (lv_at hl 1 rfl) ?_
          refine lv_imul hx hb d_M_reach_34 ?_
          refine lv_iload hx hb d_M_reach_35 (lv_at hl 5 rfl) ?_
          refine lv_iadd hx hb d_M_reach_37 ?_
          obtain ⟨hin, h⟩ := h
          refine va_iald hx hb hK hP 2 0 rfl rfl hin d_M_reach_38 ?_
          refine lv_iload_n hx hb d_M_reach_39 rfl (lv_at hl 3 rfl) ?_
          refine lv_ishr hx hb d_M_reach_40 ?_
          refine lv_iconst (v := 1) hx hb d_M_reach_41 (by decide) ?_
          refine lv_iand hx hb d_M_reach_42 ?_
          refine lv_iconst (v := 1) hx hb d_M_reach_43 (by decide) ?_
          refine lv_icmp_ne (tgt := 56) hx hb d_M_reach_44 (by decide) (fun hc => ?_) (fun hc => ?_)
          · replace h := h.1 hc
            refine lv_iinc (v := (l5 + 1)) (lv' := [(5, .int (l5 + 1)), (0, .ref a0), (1, .int x1), (2, .int x2), (3, .int x3), (4, .int l4)]) hx hb d_M_reach_56 hl (k := 5) rfl (by first | rfl | decide) (by decide) rfl (fun ls hl => ?_)
            refine lv_goto (tgt := 6) hx hb d_M_reach_59 (by decide) ?_
            exact ih l4 (l5 + 1) _ (lv_sub hl [1, 2, 3, 4, 5, 0] rfl) h
          · replace h := h.2 hc
            refine lv_iload hx hb d_M_reach_47 (lv_at hl 4 rfl) ?_
            refine lv_iconst (v := 1) hx hb d_M_reach_49 (by decide) ?_
            refine lv_iload hx hb d_M_reach_50 (lv_at hl 5 rfl) ?_
            refine lv_ishl hx hb d_M_reach_52 ?_
            refine lv_ior hx hb d_M_reach_53 ?_
            refine lv_istore (lv' := [(4, .int (l4 ||| ((1 : Int32) <<< (l5 &&& 31)))), (0, .ref a0), (1, .int x1), (2, .int x2), (3, .int x3), (5, .int l5)]) hx hb d_M_reach_54 hl (by decide) rfl (fun ls hl => ?_)
            refine lv_iinc (v := (l5 + 1)) (lv' := [(5, .int (l5 + 1)), (4, .int (l4 ||| ((1 : Int32) <<< (l5 &&& 31)))), (0, .ref a0), (1, .int x1), (2, .int x2), (3, .int x3)]) hx hb d_M_reach_56 hl (k := 5) rfl (by first | rfl | decide) (by decide) rfl (fun ls hl => ?_)
            refine lv_goto (tgt := 6) hx hb d_M_reach_59 (by decide) ?_
            exact ih (l4 ||| ((1 : Int32) <<< (l5 &&& 31))) (l5 + 1) _ (lv_sub hl [2, 3, 4, 5, 1, 0] rfl) h
  refine lv_iconst (v := 0) hx hb d_M_reach_0 (by decide) ?_
  refine lv_istore (lv' := [(4, .int 0), (0, .ref a0), (1, .int x1), (2, .int x2), (3, .int x3)]) hx hb d_M_reach_1 hl (by decide) rfl (fun ls hl => ?_)
  refine lv_iconst (v := 0) hx hb d_M_reach_3 (by decide) ?_
  refine lv_istore (lv' := [(5, .int 0), (4, .int 0), (0, .ref a0), (1, .int x1), (2, .int x2), (3, .int x3)]) hx hb d_M_reach_4 hl (by decide) rfl (fun ls hl => ?_)
  obtain ⟨k, h⟩ := h
  exact C_6 k 0 0 _ (lv_sub hl [2, 3, 4, 5, 1, 0] rfl) h
def p_M_may_54 (f_o_many : (Nat → Int32)) (f_o_set : (Nat → Int32)) (f_o_behind : (Nat → Int32)) (x1 : Int32) (x2 : Int32) (post : Int32 → Prop) : Nat → Int32 → Int32 → Prop
  | 0, _, _ => False
  | n + 1, l3, l4 => (vp_in x1 3 ∧ (((f_o_many x1.toNatClampNeg) ≤ l4 → (post l3)) ∧ (¬ (f_o_many x1.toNatClampNeg) ≤ l4 → (vp_in ((514 * x1) + x2) 1542 ∧ ((¬ (((f_o_set ((514 * x1) + x2).toNatClampNeg) >>> (l4 &&& 31)) &&& (1 : Int32)) = 1 → (p_M_may_54 f_o_many f_o_set f_o_behind x1 x2 post n l3 (l4 + 1))) ∧ ((((f_o_set ((514 * x1) + x2).toNatClampNeg) >>> (l4 &&& 31)) &&& (1 : Int32)) = 1 → (vp_in ((9 * x1) + l4) 27 ∧ (p_M_may_54 f_o_many f_o_set f_o_behind x1 x2 post n (l3 ||| (f_o_behind ((9 * x1) + l4).toNatClampNeg)) (l4 + 1)))))))))
def p_M_may_9 (v_o_rules : Int32) (f_o_modeOf : (Nat → Int32)) (f_o_firstOf : (Nat → Int32)) (x1 : Int32) (post : Int32 → Prop) : Nat → Int32 → Int32 → Prop
  | 0, _, _ => False
  | n + 1, l3, l4 => ((v_o_rules ≤ l4 → (post l3)) ∧ (¬ v_o_rules ≤ l4 → (vp_in l4 16 ∧ ((¬ (f_o_modeOf l4.toNatClampNeg) = x1 → (p_M_may_9 v_o_rules f_o_modeOf f_o_firstOf x1 post n (l3 ||| (0 : Int32)) (l4 + 1))) ∧ ((f_o_modeOf l4.toNatClampNeg) = x1 → (vp_in l4 16 ∧ (p_M_may_9 v_o_rules f_o_modeOf f_o_firstOf x1 post n (l3 ||| (f_o_firstOf l4.toNatClampNeg)) (l4 + 1))))))))
def p_M_may (v_o_rules : Int32) (f_o_modeOf : (Nat → Int32)) (f_o_firstOf : (Nat → Int32)) (f_o_many : (Nat → Int32)) (f_o_set : (Nat → Int32)) (f_o_behind : (Nat → Int32)) (x1 : Int32) (x2 : Int32) (post : Int32 → Prop) : Prop := ((¬ x2 = 0 → (∃ k, p_M_may_54 f_o_many f_o_set f_o_behind x1 x2 post k 0 0)) ∧ (x2 = 0 → (∃ k, p_M_may_9 v_o_rules f_o_modeOf f_o_firstOf x1 post k 0 0)))
set_option maxHeartbeats 4000000 in
set_option maxRecDepth 100000 in
theorem k_M_may (l : Launch) (G : va_G) (K : Nat → ClassId) (a0 : Nat) (ad : Nat → Nat) (v_o_code : Int32) (v_o_typed : Int32) (v_o_rules : Int32) (v_o_at : Int32) (v_o_read : Int32) (v_o_depth : Int32) (v_o_wrong : Int32) (v_o_there : Int32) (v_o_ended : Int32) (v_o_mode : Int32) (v_o_kept : Int32) (v_o_came : Int32) (v_o_pending : Int32) (v_o_looked : Int32) (v_o_tokens : Int32) (v_o_oldest : Int32) (f_o_modeOf : (Nat → Int32)) (f_o_firstOf : (Nat → Int32)) (f_o_many : (Nat → Int32)) (f_o_set : (Nat → Int32)) (f_o_behind : (Nat → Int32)) (x1 : Int32) (x2 : Int32) (post : Int32 → Prop) (h : p_M_may v_o_rules f_o_modeOf f_o_firstOf f_o_many f_o_set f_o_behind x1 x2 post) : MSi l y_M_may (.code y_M_may c_M_may 5 (some .int)) { frames := 0, cells := 0, slots := 0, locals := 0 } G K [(a0, .inr (12, oM v_o_code v_o_typed v_o_rules v_o_at v_o_read v_o_depth v_o_wrong v_o_there v_o_ended v_o_mode v_o_kept v_o_came v_o_pending v_o_looked v_o_tokens v_o_oldest ad)), ((ad 4), .inl (K 0, 16, .inl f_o_modeOf)), ((ad 6), .inl (K 0, 16, .inl f_o_firstOf)), ((ad 8), .inl (K 0, 3, .inl f_o_many)), ((ad 29), .inl (K 0, 1542, .inl f_o_set)), ((ad 11), .inl (K 0, 27, .inl f_o_behind))] [.ref a0, .int x1, .int x2] post := by
  refine g_metSi (cc := c_M_may) (maxL := 5) (ret := some .int) (rt := .int) (by decide) rfl rfl (Nat.le_of_ble_eq_true rfl) ?_
  intro p e s m below meth c Q hx hb hml hown htg hK hN hP hret ls hl
  have hl : lv_has ls 5 [(0, .ref a0), (1, .int x1), (2, .int x2)] := hl
  have C_54 : ∀ (n : Nat) (l3 : Int32) (l4 : Int32) (ls : Array Slot), lv_has ls 5 [(0, .ref a0), (1, .int x1), (2, .int x2), (3, .int l3), (4, .int l4)] → p_M_may_54 f_o_many f_o_set f_o_behind x1 x2 post n l3 l4 → W p l e { frames := 0, cells := 0, slots := 0, locals := 0 } s m ([.ref a0, .int x1, .int x2] : List Value).toArray below meth c s.heap [] 0 0 Q (F0 m 54 ls []) := by
    intro n
    induction n with
    | zero =>
      intro l3 l4 ls hl h
      exact False.elim h
    | succ n ih =>
      intro l3 l4 ls hl h
      refine lv_iload hx hb d_M_may_54 (lv_at hl 4 rfl) ?_
      refine lv_aload_n hx hb d_M_may_56 rfl (lv_at hl 0 rfl) ?_
      refine va_get (ci := 12) (v := .ref (ad 8)) hx hb htg in_M hown hK hP 0 rfl rfl 8 (by decide) (htg _ m_618) (fun _ h9 => h9) rfl d_M_may_57 ?_
      refine lv_iload_n hx hb d_M_may_60 rfl (lv_at hl 1 rfl) ?_
      obtain ⟨hin, h⟩ := h
      refine va_iald hx hb hK hP 3 0 rfl rfl hin d_M_may_61 ?_
      refine lv_icmp_ge (tgt := 107) hx hb d_M_may_62 (by decide) (fun hc => ?_) (fun hc => ?_)
      · replace h := h.1 hc
        refine lv_iload_n hx hb d_M_may_107 rfl (lv_at hl 3 rfl) ?_
        exact hret _ _ _ h (vp_nar_int _) d_M_may_108
      · replace h := h.2 hc
        refine lv_aload_n hx hb d_M_may_65 rfl (lv_at hl 0 rfl) ?_
        refine va_get (ci := 12) (v := .ref (ad 29)) hx hb htg in_M hown hK hP 0 rfl rfl 29 (by decide) (htg _ m_639) (fun _ h9 => h9) rfl d_M_may_66 ?_
        refine lv_sipush (v := 514) hx hb d_M_may_69 (by decide) ?_
        refine lv_iload_n hx hb d_M_may_72 rfl (lv_at hl 1 rfl) ?_
        refine lv_imul hx hb d_M_may_73 ?_
        refine lv_iload_n hx hb d_M_may_74 rfl (lv_at hl 2 rfl) ?_
        refine lv_iadd hx hb d_M_may_75 ?_
        obtain ⟨hin, h⟩ := h
        refine va_iald hx hb hK hP 4 0 rfl rfl hin d_M_may_76 ?_
        refine lv_iload hx hb d_M_may_77 (lv_at hl 4 rfl) ?_
        refine lv_ishr hx hb d_M_may_79 ?_
        refine lv_iconst (v := 1) hx hb d_M_may_80 (by decide) ?_
        refine lv_iand hx hb d_M_may_81 ?_
        refine lv_iconst (v := 1) hx hb d_M_may_82 (by decide) ?_
        refine lv_icmp_ne (tgt := 101) hx hb d_M_may_83 (by decide) (fun hc => ?_) (fun hc => ?_)
        · replace h := h.1 hc
          refine lv_iinc (v := (l4 + 1)) (lv' := [(4, .int (l4 + 1)), (0, .ref a0), (1, .int x1), (2, .int x2), (3, .int l3)]) hx hb d_M_may_101 hl (k := 4) rfl (by first | rfl | decide) (by decide) rfl (fun ls hl => ?_)
          refine lv_goto (tgt := 54) hx hb d_M_may_104 (by decide) ?_
          exact ih l3 (l4 + 1) _ (lv_sub hl [1, 2, 3, 4, 0] rfl) h
        · replace h := h.2 hc
          refine lv_iload_n hx hb d_M_may_86 rfl (lv_at hl 3 rfl) ?_
          refine lv_aload_n hx hb d_M_may_87 rfl (lv_at hl 0 rfl) ?_
          refine va_get (ci := 12) (v := .ref (ad 11)) hx hb htg in_M hown hK hP 0 rfl rfl 11 (by decide) (htg _ m_621) (fun _ h9 => h9) rfl d_M_may_88 ?_
          refine lv_bipush (v := 9) hx hb d_M_may_91 (by decide) ?_
          refine lv_iload_n hx hb d_M_may_93 rfl (lv_at hl 1 rfl) ?_
          refine lv_imul hx hb d_M_may_94 ?_
          refine lv_iload hx hb d_M_may_95 (lv_at hl 4 rfl) ?_
          refine lv_iadd hx hb d_M_may_97 ?_
          obtain ⟨hin, h⟩ := h
          refine va_iald hx hb hK hP 5 0 rfl rfl hin d_M_may_98 ?_
          refine lv_ior hx hb d_M_may_99 ?_
          refine lv_istore_n (lv' := [(3, .int (l3 ||| (f_o_behind ((9 * x1) + l4).toNatClampNeg))), (0, .ref a0), (1, .int x1), (2, .int x2), (4, .int l4)]) hx hb d_M_may_100 rfl hl (by decide) rfl (fun ls hl => ?_)
          refine lv_iinc (v := (l4 + 1)) (lv' := [(4, .int (l4 + 1)), (3, .int (l3 ||| (f_o_behind ((9 * x1) + l4).toNatClampNeg))), (0, .ref a0), (1, .int x1), (2, .int x2)]) hx hb d_M_may_101 hl (k := 4) rfl (by first | rfl | decide) (by decide) rfl (fun ls hl => ?_)
          refine lv_goto (tgt := 54) hx hb d_M_may_104 (by decide) ?_
          exact ih (l3 ||| (f_o_behind ((9 * x1) + l4).toNatClampNeg)) (l4 + 1) _ (lv_sub hl [2, 3, 4, 1, 0] rfl) h
  have C_9 : ∀ (n : Nat) (l3 : Int32) (l4 : Int32) (ls : Array Slot), lv_has ls 5 [(0, .ref a0), (1, .int x1), (3, .int l3), (4, .int l4)] → p_M_may_9 v_o_rules f_o_modeOf f_o_firstOf x1 post n l3 l4 → W p l e { frames := 0, cells := 0, slots := 0, locals := 0 } s m ([.ref a0, .int x1, .int x2] : List Value).toArray below meth c s.heap [] 0 0 Q (F0 m 9 ls []) := by
    intro n
    induction n with
    | zero =>
      intro l3 l4 ls hl h
      exact False.elim h
    | succ n ih =>
      intro l3 l4 ls hl h
      refine lv_iload hx hb d_M_may_9 (lv_at hl 3 rfl) ?_
      refine lv_aload_n hx hb d_M_may_11 rfl (lv_at hl 0 rfl) ?_
      refine va_get (ci := 12) (v := .int v_o_rules) hx hb htg in_M hown hK hP 0 rfl rfl 3 (by decide) (htg _ m_613) (fun _ h9 => h9) rfl d_M_may_12 ?_
      refine lv_icmp_ge (tgt := 49) hx hb d_M_may_15 (by decide) (fun hc => ?_) (fun hc => ?_)
      · replace h := h.1 hc
        refine lv_iload_n hx hb d_M_may_49 rfl (lv_at hl 2 rfl) ?_
        exact hret _ _ _ h (vp_nar_int _) d_M_may_50
      · replace h := h.2 hc
        refine lv_iload_n hx hb d_M_may_18 rfl (lv_at hl 2 rfl) ?_
        refine lv_aload_n hx hb d_M_may_19 rfl (lv_at hl 0 rfl) ?_
        refine va_get (ci := 12) (v := .ref (ad 4)) hx hb htg in_M hown hK hP 0 rfl rfl 4 (by decide) (htg _ m_614) (fun _ h9 => h9) rfl d_M_may_20 ?_
        refine lv_iload hx hb d_M_may_23 (lv_at hl 3 rfl) ?_
        obtain ⟨hin, h⟩ := h
        refine va_iald hx hb hK hP 1 0 rfl rfl hin d_M_may_25 ?_
        refine lv_iload_n hx hb d_M_may_26 rfl (lv_at hl 1 rfl) ?_
        refine lv_icmp_ne (tgt := 40) hx hb d_M_may_27 (by decide) (fun hc => ?_) (fun hc => ?_)
        · replace h := h.1 hc
          refine lv_iconst (v := 0) hx hb d_M_may_40 (by decide) ?_
          refine lv_ior hx hb d_M_may_41 ?_
          refine lv_istore_n (lv' := [(3, .int (l3 ||| (0 : Int32))), (0, .ref a0), (1, .int x1), (4, .int l4)]) hx hb d_M_may_42 rfl hl (by decide) rfl (fun ls hl => ?_)
          refine lv_iinc (v := (l4 + 1)) (lv' := [(4, .int (l4 + 1)), (3, .int (l3 ||| (0 : Int32))), (0, .ref a0), (1, .int x1)]) hx hb d_M_may_43 hl (k := 3) rfl (by first | rfl | decide) (by decide) rfl (fun ls hl => ?_)
          refine lv_goto (tgt := 9) hx hb d_M_may_46 (by decide) ?_
          exact ih (l3 ||| (0 : Int32)) (l4 + 1) _ (lv_sub hl [2, 3, 1, 0] rfl) h
        · replace h := h.2 hc
          refine lv_aload_n hx hb d_M_may_30 rfl (lv_at hl 0 rfl) ?_
          refine va_get (ci := 12) (v := .ref (ad 6)) hx hb htg in_M hown hK hP 0 rfl rfl 6 (by decide) (htg _ m_616) (fun _ h9 => h9) rfl d_M_may_31 ?_
          refine lv_iload hx hb d_M_may_34 (lv_at hl 3 rfl) ?_
          obtain ⟨hin, h⟩ := h
          refine va_iald hx hb hK hP 2 0 rfl rfl hin d_M_may_36 ?_
          refine lv_goto (tgt := 41) hx hb d_M_may_37 (by decide) ?_
          refine lv_ior hx hb d_M_may_41 ?_
          refine lv_istore_n (lv' := [(3, .int (l3 ||| (f_o_firstOf l4.toNatClampNeg))), (0, .ref a0), (1, .int x1), (4, .int l4)]) hx hb d_M_may_42 rfl hl (by decide) rfl (fun ls hl => ?_)
          refine lv_iinc (v := (l4 + 1)) (lv' := [(4, .int (l4 + 1)), (3, .int (l3 ||| (f_o_firstOf l4.toNatClampNeg))), (0, .ref a0), (1, .int x1)]) hx hb d_M_may_43 hl (k := 3) rfl (by first | rfl | decide) (by decide) rfl (fun ls hl => ?_)
          refine lv_goto (tgt := 9) hx hb d_M_may_46 (by decide) ?_
          exact ih (l3 ||| (f_o_firstOf l4.toNatClampNeg)) (l4 + 1) _ (lv_sub hl [2, 3, 1, 0] rfl) h
  refine lv_iconst (v := 0) hx hb d_M_may_0 (by decide) ?_
  refine lv_istore_n (lv' := [(3, .int 0), (0, .ref a0), (1, .int x1), (2, .int x2)]) hx hb d_M_may_1 rfl hl (by decide) rfl (fun ls hl => ?_)
  refine lv_iload_n hx hb d_M_may_2 rfl (lv_at hl 3 rfl) ?_
  refine lv_if_ne (tgt := 51) hx hb d_M_may_3 (by decide) (fun hc => ?_) (fun hc => ?_)
  · replace h := h.1 hc
    refine lv_iconst (v := 0) hx hb d_M_may_51 (by decide) ?_
    refine lv_istore (lv' := [(4, .int 0), (3, .int 0), (0, .ref a0), (1, .int x1), (2, .int x2)]) hx hb d_M_may_52 hl (by decide) rfl (fun ls hl => ?_)
    obtain ⟨k, h⟩ := h
    exact C_54 k 0 0 _ (lv_sub hl [2, 3, 4, 1, 0] rfl) h
  · replace h := h.2 hc
    refine lv_iconst (v := 0) hx hb d_M_may_6 (by decide) ?_
    refine lv_istore (lv' := [(4, .int 0), (3, .int 0), (0, .ref a0), (1, .int x1), (2, .int x2)]) hx hb d_M_may_7 hl (by decide) rfl (fun ls hl => ?_)
    obtain ⟨k, h⟩ := h
    exact C_9 k 0 0 _ (lv_sub hl [2, 3, 1, 0] rfl) h
def p_M_find_36 (x1 : Int32) (x2 : Int32) (post : Int32 → (Nat → Int32) → (Nat → Int32) → Prop) (f_o_nodes : (Nat → Int32)) (f_o_set : (Nat → Int32)) : Prop := (vp_in x1 3 ∧ (vp_in ((514 * x1) + (f_o_nodes x1.toNatClampNeg)) 1542 ∧ (vp_in x1 3 ∧ (vp_in x1 3 ∧ (vp_in x1 3 ∧ (post (((upd f_o_nodes x1.toNatClampNeg ((f_o_nodes x1.toNatClampNeg) + 1)) x1.toNatClampNeg) - 1) (upd f_o_nodes x1.toNatClampNeg ((f_o_nodes x1.toNatClampNeg) + 1)) (upd f_o_set ((514 * x1) + (f_o_nodes x1.toNatClampNeg)).toNatClampNeg x2)))))))
def p_M_find_2 (x1 : Int32) (x2 : Int32) (post : Int32 → (Nat → Int32) → (Nat → Int32) → Prop) : Nat → Int32 → (Nat → Int32) → (Nat → Int32) → Prop
  | 0, _, _, _ => False
  | n + 1, l3, f_o_nodes, f_o_set => (vp_in x1 3 ∧ (((f_o_nodes x1.toNatClampNeg) ≤ l3 → (p_M_find_36 x1 x2 post f_o_nodes f_o_set)) ∧ (¬ (f_o_nodes x1.toNatClampNeg) ≤ l3 → (vp_in ((514 * x1) + l3) 1542 ∧ ((¬ (f_o_set ((514 * x1) + l3).toNatClampNeg) = x2 → (p_M_find_2 x1 x2 post n (l3 + 1) f_o_nodes f_o_set)) ∧ ((f_o_set ((514 * x1) + l3).toNatClampNeg) = x2 → (post l3 f_o_nodes f_o_set)))))))
def p_M_find (f_o_nodes : (Nat → Int32)) (f_o_set : (Nat → Int32)) (x1 : Int32) (x2 : Int32) (post : Int32 → (Nat → Int32) → (Nat → Int32) → Prop) : Prop := (∃ k, p_M_find_2 x1 x2 post k 1 f_o_nodes f_o_set)
set_option maxHeartbeats 4000000 in
set_option maxRecDepth 100000 in
theorem k_M_find (l : Launch) (G : va_G) (K : Nat → ClassId) (a0 : Nat) (ad : Nat → Nat) (sz : Nat) (v_o_code : Int32) (v_o_typed : Int32) (v_o_rules : Int32) (v_o_at : Int32) (v_o_read : Int32) (v_o_depth : Int32) (v_o_wrong : Int32) (v_o_there : Int32) (v_o_ended : Int32) (v_o_mode : Int32) (v_o_kept : Int32) (v_o_came : Int32) (v_o_pending : Int32) (v_o_looked : Int32) (v_o_tokens : Int32) (v_o_oldest : Int32) (f_o_nodes : (Nat → Int32)) (f_o_set : (Nat → Int32)) (x1 : Int32) (x2 : Int32) (post : Int32 → (Nat → Int32) → (Nat → Int32) → Prop) (h : p_M_find f_o_nodes f_o_set x1 x2 post) : MWi l y_M_find (.code y_M_find c_M_find 4 (some .int)) { frames := 0, cells := 0, slots := 0, locals := 0 } G K [((ad 28), .inl (K 0, 3, .inl f_o_nodes)), ((ad 29), .inl (K 0, 1542, .inl f_o_set))] [(a0, .inr (12, oM v_o_code v_o_typed v_o_rules v_o_at v_o_read v_o_depth v_o_wrong v_o_there v_o_ended v_o_mode v_o_kept v_o_came v_o_pending v_o_looked v_o_tokens v_o_oldest ad))] [.ref a0, .int x1, .int x2] sz (fun r (u : (Nat → Int32) × (Nat → Int32)) => post r u.1 u.2) (fun u => [((ad 28), .inl (K 0, 3, .inl u.1)), ((ad 29), .inl (K 0, 1542, .inl u.2))]) 0 0 := by
  refine g_metWi (cc := c_M_find) (maxL := 4) (ret := some .int) (rt := .int) (by decide) rfl rfl (Nat.le_of_ble_eq_true rfl) ?_
  intro p e s m below meth c A Q hx hb hml hown hname htg hK hN hP hD hA hS hR rN hret ls hl
  have hl : lv_has ls 4 [(0, .ref a0), (1, .int x1), (2, .int x2)] := hl
  have C_36 : ∀ (f_o_nodes : (Nat → Int32)) (f_o_set : (Nat → Int32)) (H : Heap) (locs : List Loc), va_P G vwCl [((ad 28), .inl (K 0, 3, .inl f_o_nodes)), ((ad 29), .inl (K 0, 1542, .inl f_o_set))] H → va_D A [((ad 28), .inl (K 0, 3, .inl f_o_nodes)), ((ad 29), .inl (K 0, 1542, .inl f_o_set))] → va_S A s.heap H locs → ∀ (ls : Array Slot), lv_has ls 4 [(0, .ref a0), (1, .int x1), (2, .int x2)] → p_M_find_36 x1 x2 post f_o_nodes f_o_set → W p l e { frames := 0, cells := 0, slots := 0, locals := 0 } s m ([.ref a0, .int x1, .int x2] : List Value).toArray below meth c H locs 0 0 Q (F0 m 36 ls []) := by
    intro  f_o_nodes f_o_set  H locs hP hD hS ls hl h
    refine lv_aload_n hx hb d_M_find_36 rfl (lv_at hl 0 rfl) ?_
    refine va_get (ci := 12) (v := .ref (ad 29)) hx hb htg in_M hown hK (gR hR rN hS) 0 rfl rfl 29 (by decide) (htg _ m_639) (fun _ h9 => h9) rfl d_M_find_37 ?_
    refine lv_sipush (v := 514) hx hb d_M_find_40 (by decide) ?_
    refine lv_iload_n hx hb d_M_find_43 rfl (lv_at hl 1 rfl) ?_
    refine lv_imul hx hb d_M_find_44 ?_
    refine lv_aload_n hx hb d_M_find_45 rfl (lv_at hl 0 rfl) ?_
    refine va_get (ci := 12) (v := .ref (ad 28)) hx hb htg in_M hown hK (gR hR rN hS) 0 rfl rfl 28 (by decide) (htg _ m_638) (fun _ h9 => h9) rfl d_M_find_46 ?_
    refine lv_iload_n hx hb d_M_find_49 rfl (lv_at hl 1 rfl) ?_
    obtain ⟨hin, h⟩ := h
    refine va_iald hx hb hK hP 0 0 rfl rfl hin d_M_find_50 ?_
    refine lv_iadd hx hb d_M_find_51 ?_
    refine lv_iload_n hx hb d_M_find_52 rfl (lv_at hl 2 rfl) ?_
    obtain ⟨hin, h⟩ := h
    refine va_iast hx hb hK hP hD hS 1 0 rfl rfl hin d_M_find_53 (fun H locs hP hD hS => ?_)
    have hP : va_P G vwCl [((ad 28), .inl (K 0, 3, .inl f_o_nodes)), ((ad 29), .inl (K 0, 1542, .inl (upd f_o_set ((514 * x1) + (f_o_nodes x1.toNatClampNeg)).toNatClampNeg x2)))] H := hP
    have hD : va_D A [((ad 28), .inl (K 0, 3, .inl f_o_nodes)), ((ad 29), .inl (K 0, 1542, .inl (upd f_o_set ((514 * x1) + (f_o_nodes x1.toNatClampNeg)).toNatClampNeg x2)))] := hD
    refine lv_aload_n hx hb d_M_find_54 rfl (lv_at hl 0 rfl) ?_
    refine va_get (ci := 12) (v := .ref (ad 28)) hx hb htg in_M hown hK (gR hR rN hS) 0 rfl rfl 28 (by decide) (htg _ m_638) (fun _ h9 => h9) rfl d_M_find_55 ?_
    refine lv_iload_n hx hb d_M_find_58 rfl (lv_at hl 1 rfl) ?_
    refine lv_dup2_11 hx hb d_M_find_59 rfl rfl ?_
    obtain ⟨hin, h⟩ := h
    refine va_iald hx hb hK hP 0 0 rfl rfl hin d_M_find_60 ?_
    refine lv_iconst (v := 1) hx hb d_M_find_61 (by decide) ?_
    refine lv_iadd hx hb d_M_find_62 ?_
    obtain ⟨hin, h⟩ := h
    refine va_iast hx hb hK hP hD hS 0 0 rfl rfl hin d_M_find_63 (fun H locs hP hD hS => ?_)
    have hP : va_P G vwCl [((ad 28), .inl (K 0, 3, .inl (upd f_o_nodes x1.toNatClampNeg ((f_o_nodes x1.toNatClampNeg) + 1)))), ((ad 29), .inl (K 0, 1542, .inl (upd f_o_set ((514 * x1) + (f_o_nodes x1.toNatClampNeg)).toNatClampNeg x2)))] H := hP
    have hD : va_D A [((ad 28), .inl (K 0, 3, .inl (upd f_o_nodes x1.toNatClampNeg ((f_o_nodes x1.toNatClampNeg) + 1)))), ((ad 29), .inl (K 0, 1542, .inl (upd f_o_set ((514 * x1) + (f_o_nodes x1.toNatClampNeg)).toNatClampNeg x2)))] := hD
    refine lv_aload_n hx hb d_M_find_64 rfl (lv_at hl 0 rfl) ?_
    refine va_get (ci := 12) (v := .ref (ad 28)) hx hb htg in_M hown hK (gR hR rN hS) 0 rfl rfl 28 (by decide) (htg _ m_638) (fun _ h9 => h9) rfl d_M_find_65 ?_
    refine lv_iload_n hx hb d_M_find_68 rfl (lv_at hl 1 rfl) ?_
    obtain ⟨hin, h⟩ := h
    refine va_iald hx hb hK hP 0 0 rfl rfl hin d_M_find_69 ?_
    refine lv_iconst (v := 1) hx hb d_M_find_70 (by decide) ?_
    refine lv_isub hx hb d_M_find_71 ?_
    exact hret _ ((upd f_o_nodes x1.toNatClampNeg ((f_o_nodes x1.toNatClampNeg) + 1)), (upd f_o_set ((514 * x1) + (f_o_nodes x1.toNatClampNeg)).toNatClampNeg x2)) _ _ _ _ h (vp_nar_int _) (hP.sub [0, 1] rfl) (hD.sub [0, 1] (by decide) rfl) hS d_M_find_72
  have C_2 : ∀ (n : Nat) (l3 : Int32) (f_o_nodes : (Nat → Int32)) (f_o_set : (Nat → Int32)) (H : Heap) (locs : List Loc), va_P G vwCl [((ad 28), .inl (K 0, 3, .inl f_o_nodes)), ((ad 29), .inl (K 0, 1542, .inl f_o_set))] H → va_D A [((ad 28), .inl (K 0, 3, .inl f_o_nodes)), ((ad 29), .inl (K 0, 1542, .inl f_o_set))] → va_S A s.heap H locs → ∀ (ls : Array Slot), lv_has ls 4 [(0, .ref a0), (1, .int x1), (2, .int x2), (3, .int l3)] → p_M_find_2 x1 x2 post n l3 f_o_nodes f_o_set → W p l e { frames := 0, cells := 0, slots := 0, locals := 0 } s m ([.ref a0, .int x1, .int x2] : List Value).toArray below meth c H locs 0 0 Q (F0 m 2 ls []) := by
    intro n
    induction n with
    | zero =>
      intro l3 f_o_nodes f_o_set  H locs hP hD hS ls hl h
      exact False.elim h
    | succ n ih =>
      intro l3 f_o_nodes f_o_set  H locs hP hD hS ls hl h
      refine lv_iload_n hx hb d_M_find_2 rfl (lv_at hl 3 rfl) ?_
      refine lv_aload_n hx hb d_M_find_3 rfl (lv_at hl 0 rfl) ?_
      refine va_get (ci := 12) (v := .ref (ad 28)) hx hb htg in_M hown hK (gR hR rN hS) 0 rfl rfl 28 (by decide) (htg _ m_638) (fun _ h9 => h9) rfl d_M_find_4 ?_
      refine lv_iload_n hx hb d_M_find_7 rfl (lv_at hl 1 rfl) ?_
      obtain ⟨hin, h⟩ := h
      refine va_iald hx hb hK hP 0 0 rfl rfl hin d_M_find_8 ?_
      refine lv_icmp_ge (tgt := 36) hx hb d_M_find_9 (by decide) (fun hc => ?_) (fun hc => ?_)
      · replace h := h.1 hc
        exact C_36 f_o_nodes f_o_set  _ _ (hP.sub [0, 1] rfl) (hD.sub [0, 1] (by decide) rfl) hS _ (lv_sub hl [0, 1, 2] rfl) h
      · replace h := h.2 hc
        refine lv_aload_n hx hb d_M_find_12 rfl (lv_at hl 0 rfl) ?_
        refine va_get (ci := 12) (v := .ref (ad 29)) hx hb htg in_M hown hK (gR hR rN hS) 0 rfl rfl 29 (by decide) (htg _ m_639) (fun _ h9 => h9) rfl d_M_find_13 ?_
        refine lv_sipush (v := 514) hx hb d_M_find_16 (by decide) ?_
        refine lv_iload_n hx hb d_M_find_19 rfl (lv_at hl 1 rfl) ?_
        refine lv_imul hx hb d_M_find_20 ?_
        refine lv_iload_n hx hb d_M_find_21 rfl (lv_at hl 3 rfl) ?_
        refine lv_iadd hx hb d_M_find_22 ?_
        obtain ⟨hin, h⟩ := h
        refine va_iald hx hb hK hP 1 0 rfl rfl hin d_M_find_23 ?_
        refine lv_iload_n hx hb d_M_find_24 rfl (lv_at hl 2 rfl) ?_
        refine lv_icmp_ne (tgt := 30) hx hb d_M_find_25 (by decide) (fun hc => ?_) (fun hc => ?_)
        · replace h := h.1 hc
          refine lv_iinc (v := (l3 + 1)) (lv' := [(3, .int (l3 + 1)), (0, .ref a0), (1, .int x1), (2, .int x2)]) hx hb d_M_find_30 hl (k := 3) rfl (by first | rfl | decide) (by decide) rfl (fun ls hl => ?_)
          refine lv_goto (tgt := 2) hx hb d_M_find_33 (by decide) ?_
          exact ih (l3 + 1) f_o_nodes f_o_set  _ _ (hP.sub [0, 1] rfl) (hD.sub [0, 1] (by decide) rfl) hS _ (lv_sub hl [1, 2, 3, 0] rfl) h
        · replace h := h.2 hc
          refine lv_iload_n hx hb d_M_find_28 rfl (lv_at hl 3 rfl) ?_
          exact hret _ (f_o_nodes, f_o_set) _ _ _ _ h (vp_nar_int _) (hP.sub [0, 1] rfl) (hD.sub [0, 1] (by decide) rfl) hS d_M_find_29
  refine lv_iconst (v := 1) hx hb d_M_find_0 (by decide) ?_
  refine lv_istore_n (lv' := [(3, .int 1), (0, .ref a0), (1, .int x1), (2, .int x2)]) hx hb d_M_find_1 rfl hl (by decide) rfl (fun ls hl => ?_)
  obtain ⟨k, h⟩ := h
  exact C_2 k 1 f_o_nodes f_o_set  _ _ (hP.sub [0, 1] rfl) (hD.sub [0, 1] (by decide) rfl) hS _ (lv_sub hl [1, 2, 3, 0] rfl) h
def p_M_wins_2 (v_o_rules : Int32) (f_o_modeOf : (Nat → Int32)) (f_o_set : (Nat → Int32)) (f_o_lastOf : (Nat → Int32)) (x1 : Int32) (x2 : Int32) (post : Int32 → Prop) : Nat → Int32 → Prop
  | 0, _ => False
  | n + 1, l3 => ((v_o_rules ≤ l3 → (post (-1))) ∧ (¬ v_o_rules ≤ l3 → ((x2 ≤ 0 → (post (-1))) ∧ (¬ x2 ≤ 0 → (vp_in l3 16 ∧ ((¬ (f_o_modeOf l3.toNatClampNeg) = x1 → (p_M_wins_2 v_o_rules f_o_modeOf f_o_set f_o_lastOf x1 x2 post n (l3 + 1))) ∧ ((f_o_modeOf l3.toNatClampNeg) = x1 → (vp_in ((514 * x1) + x2) 1542 ∧ (vp_in l3 16 ∧ ((((f_o_set ((514 * x1) + x2).toNatClampNeg) &&& (f_o_lastOf l3.toNatClampNeg)) = 0 → (p_M_wins_2 v_o_rules f_o_modeOf f_o_set f_o_lastOf x1 x2 post n (l3 + 1))) ∧ (¬ ((f_o_set ((514 * x1) + x2).toNatClampNeg) &&& (f_o_lastOf l3.toNatClampNeg)) = 0 → (post l3))))))))))))
def p_M_wins (v_o_rules : Int32) (f_o_modeOf : (Nat → Int32)) (f_o_set : (Nat → Int32)) (f_o_lastOf : (Nat → Int32)) (x1 : Int32) (x2 : Int32) (post : Int32 → Prop) : Prop := (∃ k, p_M_wins_2 v_o_rules f_o_modeOf f_o_set f_o_lastOf x1 x2 post k 0)
set_option maxHeartbeats 4000000 in
set_option maxRecDepth 100000 in
theorem k_M_wins (l : Launch) (G : va_G) (K : Nat → ClassId) (a0 : Nat) (ad : Nat → Nat) (v_o_code : Int32) (v_o_typed : Int32) (v_o_rules : Int32) (v_o_at : Int32) (v_o_read : Int32) (v_o_depth : Int32) (v_o_wrong : Int32) (v_o_there : Int32) (v_o_ended : Int32) (v_o_mode : Int32) (v_o_kept : Int32) (v_o_came : Int32) (v_o_pending : Int32) (v_o_looked : Int32) (v_o_tokens : Int32) (v_o_oldest : Int32) (f_o_modeOf : (Nat → Int32)) (f_o_set : (Nat → Int32)) (f_o_lastOf : (Nat → Int32)) (x1 : Int32) (x2 : Int32) (post : Int32 → Prop) (h : p_M_wins v_o_rules f_o_modeOf f_o_set f_o_lastOf x1 x2 post) : MSi l y_M_wins (.code y_M_wins c_M_wins 4 (some .int)) { frames := 0, cells := 0, slots := 0, locals := 0 } G K [(a0, .inr (12, oM v_o_code v_o_typed v_o_rules v_o_at v_o_read v_o_depth v_o_wrong v_o_there v_o_ended v_o_mode v_o_kept v_o_came v_o_pending v_o_looked v_o_tokens v_o_oldest ad)), ((ad 4), .inl (K 0, 16, .inl f_o_modeOf)), ((ad 29), .inl (K 0, 1542, .inl f_o_set)), ((ad 7), .inl (K 0, 16, .inl f_o_lastOf))] [.ref a0, .int x1, .int x2] post := by
  refine g_metSi (cc := c_M_wins) (maxL := 4) (ret := some .int) (rt := .int) (by decide) rfl rfl (Nat.le_of_ble_eq_true rfl) ?_
  intro p e s m below meth c Q hx hb hml hown htg hK hN hP hret ls hl
  have hl : lv_has ls 4 [(0, .ref a0), (1, .int x1), (2, .int x2)] := hl
  have C_2 : ∀ (n : Nat) (l3 : Int32) (ls : Array Slot), lv_has ls 4 [(0, .ref a0), (1, .int x1), (2, .int x2), (3, .int l3)] → p_M_wins_2 v_o_rules f_o_modeOf f_o_set f_o_lastOf x1 x2 post n l3 → W p l e { frames := 0, cells := 0, slots := 0, locals := 0 } s m ([.ref a0, .int x1, .int x2] : List Value).toArray below meth c s.heap [] 0 0 Q (F0 m 2 ls []) := by
    intro n
    induction n with
    | zero =>
      intro l3 ls hl h
      exact False.elim h
    | succ n ih =>
      intro l3 ls hl h
      refine lv_iload_n hx hb d_M_wins_2 rfl (lv_at hl 3 rfl) ?_
      refine lv_aload_n hx hb d_M_wins_3 rfl (lv_at hl 0 rfl) ?_
      refine va_get (ci := 12) (v := .int v_o_rules) hx hb htg in_M hown hK hP 0 rfl rfl 3 (by decide) (htg _ m_613) (fun _ h9 => h9) rfl d_M_wins_4 ?_
      refine lv_icmp_ge (tgt := 54) hx hb d_M_wins_7 (by decide) (fun hc => ?_) (fun hc => ?_)
      · replace h := h.1 hc
        refine lv_iconst (v := (-1)) hx hb d_M_wins_54 (by decide) ?_
        exact hret _ _ _ h (vp_nar_int _) d_M_wins_55
      · replace h := h.2 hc
        refine lv_iload_n hx hb d_M_wins_10 rfl (lv_at hl 2 rfl) ?_
        refine lv_if_le (tgt := 54) hx hb d_M_wins_11 (by decide) (fun hc => ?_) (fun hc => ?_)
        · replace h := h.1 hc
          refine lv_iconst (v := (-1)) hx hb d_M_wins_54 (by decide) ?_
          exact hret _ _ _ h (vp_nar_int _) d_M_wins_55
        · replace h := h.2 hc
          refine lv_aload_n hx hb d_M_wins_14 rfl (lv_at hl 0 rfl) ?_
          refine va_get (ci := 12) (v := .ref (ad 4)) hx hb htg in_M hown hK hP 0 rfl rfl 4 (by decide) (htg _ m_614) (fun _ h9 => h9) rfl d_M_wins_15 ?_
          refine lv_iload_n hx hb d_M_wins_18 rfl (lv_at hl 3 rfl) ?_
          obtain ⟨hin, h⟩ := h
          refine va_iald hx hb hK hP 1 0 rfl rfl hin d_M_wins_19 ?_
          refine lv_iload_n hx hb d_M_wins_20 rfl (lv_at hl 1 rfl) ?_
          refine lv_icmp_ne (tgt := 48) hx hb d_M_wins_21 (by decide) (fun hc => ?_) (fun hc => ?_)
          · replace h := h.1 hc
            refine lv_iinc (v := (l3 + 1)) (lv' := [(3, .int (l3 + 1)), (0, .ref a0), (1, .int x1), (2, .int x2)]) hx hb d_M_wins_48 hl (k := 3) rfl (by first | rfl | decide) (by decide) rfl (fun ls hl => ?_)
            refine lv_goto (tgt := 2) hx hb d_M_wins_51 (by decide) ?_
            exact ih (l3 + 1) _ (lv_sub hl [1, 2, 3, 0] rfl) h
          · replace h := h.2 hc
            refine lv_aload_n hx hb d_M_wins_24 rfl (lv_at hl 0 rfl) ?_
            refine va_get (ci := 12) (v := .ref (ad 29)) hx hb htg in_M hown hK hP 0 rfl rfl 29 (by decide) (htg _ m_639) (fun _ h9 => h9) rfl d_M_wins_25 ?_
            refine lv_sipush (v := 514) hx hb d_M_wins_28 (by decide) ?_
            refine lv_iload_n hx hb d_M_wins_31 rfl (lv_at hl 1 rfl) ?_
            refine lv_imul hx hb d_M_wins_32 ?_
            refine lv_iload_n hx hb d_M_wins_33 rfl (lv_at hl 2 rfl) ?_
            refine lv_iadd hx hb d_M_wins_34 ?_
            obtain ⟨hin, h⟩ := h
            refine va_iald hx hb hK hP 2 0 rfl rfl hin d_M_wins_35 ?_
            refine lv_aload_n hx hb d_M_wins_36 rfl (lv_at hl 0 rfl) ?_
            refine va_get (ci := 12) (v := .ref (ad 7)) hx hb htg in_M hown hK hP 0 rfl rfl 7 (by decide) (htg _ m_617) (fun _ h9 => h9) rfl d_M_wins_37 ?_
            refine lv_iload_n hx hb d_M_wins_40 rfl (lv_at hl 3 rfl) ?_
            obtain ⟨hin, h⟩ := h
            refine va_iald hx hb hK hP 3 0 rfl rfl hin d_M_wins_41 ?_
            refine lv_iand hx hb d_M_wins_42 ?_
            refine lv_if_eq (tgt := 48) hx hb d_M_wins_43 (by decide) (fun hc => ?_) (fun hc => ?_)
            · replace h := h.1 hc
              refine lv_iinc (v := (l3 + 1)) (lv' := [(3, .int (l3 + 1)), (0, .ref a0), (1, .int x1), (2, .int x2)]) hx hb d_M_wins_48 hl (k := 3) rfl (by first | rfl | decide) (by decide) rfl (fun ls hl => ?_)
              refine lv_goto (tgt := 2) hx hb d_M_wins_51 (by decide) ?_
              exact ih (l3 + 1) _ (lv_sub hl [1, 2, 3, 0] rfl) h
            · replace h := h.2 hc
              refine lv_iload_n hx hb d_M_wins_46 rfl (lv_at hl 3 rfl) ?_
              exact hret _ _ _ h (vp_nar_int _) d_M_wins_47
  refine lv_iconst (v := 0) hx hb d_M_wins_0 (by decide) ?_
  refine lv_istore_n (lv' := [(3, .int 0), (0, .ref a0), (1, .int x1), (2, .int x2)]) hx hb d_M_wins_1 rfl hl (by decide) rfl (fun ls hl => ?_)
  obtain ⟨k, h⟩ := h
  exact C_2 k 0 _ (lv_sub hl [1, 2, 3, 0] rfl) h
def p_M_go (f_o_step : (Nat → Int32)) (x1 : Int32) (x2 : Int32) (x3 : Int32) (post : Int32 → Prop) : Prop := (vp_in ((6 * ((514 * x1) + x2)) + x3) 9252 ∧ (post (f_o_step ((6 * ((514 * x1) + x2)) + x3).toNatClampNeg)))
set_option maxHeartbeats 4000000 in
set_option maxRecDepth 100000 in
theorem k_M_go (l : Launch) (G : va_G) (K : Nat → ClassId) (a0 : Nat) (ad : Nat → Nat) (v_o_code : Int32) (v_o_typed : Int32) (v_o_rules : Int32) (v_o_at : Int32) (v_o_read : Int32) (v_o_depth : Int32) (v_o_wrong : Int32) (v_o_there : Int32) (v_o_ended : Int32) (v_o_mode : Int32) (v_o_kept : Int32) (v_o_came : Int32) (v_o_pending : Int32) (v_o_looked : Int32) (v_o_tokens : Int32) (v_o_oldest : Int32) (f_o_step : (Nat → Int32)) (x1 : Int32) (x2 : Int32) (x3 : Int32) (post : Int32 → Prop) (h : p_M_go f_o_step x1 x2 x3 post) : MSi l y_M_go (.code y_M_go c_M_go 4 (some .int)) { frames := 0, cells := 0, slots := 0, locals := 0 } G K [(a0, .inr (12, oM v_o_code v_o_typed v_o_rules v_o_at v_o_read v_o_depth v_o_wrong v_o_there v_o_ended v_o_mode v_o_kept v_o_came v_o_pending v_o_looked v_o_tokens v_o_oldest ad)), ((ad 30), .inl (K 0, 9252, .inl f_o_step))] [.ref a0, .int x1, .int x2, .int x3] post := by
  refine g_metSi (cc := c_M_go) (maxL := 4) (ret := some .int) (rt := .int) (by decide) rfl rfl (Nat.le_of_ble_eq_true rfl) ?_
  intro p e s m below meth c Q hx hb hml hown htg hK hN hP hret ls hl
  have hl : lv_has ls 4 [(0, .ref a0), (1, .int x1), (2, .int x2), (3, .int x3)] := hl
  refine lv_aload_n hx hb d_M_go_0 rfl (lv_at hl 0 rfl) ?_
  refine va_get (ci := 12) (v := .ref (ad 30)) hx hb htg in_M hown hK hP 0 rfl rfl 30 (by decide) (htg _ m_640) (fun _ h9 => h9) rfl d_M_go_1 ?_
  refine lv_bipush (v := 6) hx hb d_M_go_4 (by decide) ?_
  refine lv_sipush (v := 514) hx hb d_M_go_6 (by decide) ?_
  refine lv_iload_n hx hb d_M_go_9 rfl (lv_at hl 1 rfl) ?_
  refine lv_imul hx hb d_M_go_10 ?_
  refine lv_iload_n hx hb d_M_go_11 rfl (lv_at hl 2 rfl) ?_
  refine lv_iadd hx hb d_M_go_12 ?_
  refine lv_imul hx hb d_M_go_13 ?_
  refine lv_iload_n hx hb d_M_go_14 rfl (lv_at hl 3 rfl) ?_
  refine lv_iadd hx hb d_M_go_15 ?_
  obtain ⟨hin, h⟩ := h
  refine va_iald hx hb hK hP 1 0 rfl rfl hin d_M_go_16 ?_
  exact hret _ _ _ h (vp_nar_int _) d_M_go_17
def p_M_groupAt (f_o_group : (Nat → Int32)) (x1 : Int32) (x2 : Int32) (post : Int32 → Prop) : Prop := ((¬ x2 = (-1) → (vp_in ((514 * x1) + x2) 1542 ∧ (post (f_o_group ((514 * x1) + x2).toNatClampNeg)))) ∧ (x2 = (-1) → (post (-1))))
set_option maxHeartbeats 4000000 in
set_option maxRecDepth 100000 in
theorem k_M_groupAt (l : Launch) (G : va_G) (K : Nat → ClassId) (a0 : Nat) (ad : Nat → Nat) (v_o_code : Int32) (v_o_typed : Int32) (v_o_rules : Int32) (v_o_at : Int32) (v_o_read : Int32) (v_o_depth : Int32) (v_o_wrong : Int32) (v_o_there : Int32) (v_o_ended : Int32) (v_o_mode : Int32) (v_o_kept : Int32) (v_o_came : Int32) (v_o_pending : Int32) (v_o_looked : Int32) (v_o_tokens : Int32) (v_o_oldest : Int32) (f_o_group : (Nat → Int32)) (x1 : Int32) (x2 : Int32) (post : Int32 → Prop) (h : p_M_groupAt f_o_group x1 x2 post) : MSi l y_M_groupAt (.code y_M_groupAt c_M_groupAt 3 (some .int)) { frames := 0, cells := 0, slots := 0, locals := 0 } G K [(a0, .inr (12, oM v_o_code v_o_typed v_o_rules v_o_at v_o_read v_o_depth v_o_wrong v_o_there v_o_ended v_o_mode v_o_kept v_o_came v_o_pending v_o_looked v_o_tokens v_o_oldest ad)), ((ad 31), .inl (K 0, 1542, .inl f_o_group))] [.ref a0, .int x1, .int x2] post := by
  refine g_metSi (cc := c_M_groupAt) (maxL := 3) (ret := some .int) (rt := .int) (by decide) rfl rfl (Nat.le_of_ble_eq_true rfl) ?_
  intro p e s m below meth c Q hx hb hml hown htg hK hN hP hret ls hl
  have hl : lv_has ls 3 [(0, .ref a0), (1, .int x1), (2, .int x2)] := hl
  refine lv_iload_n hx hb d_M_groupAt_0 rfl (lv_at hl 2 rfl) ?_
  refine lv_iconst (v := (-1)) hx hb d_M_groupAt_1 (by decide) ?_
  refine lv_icmp_ne (tgt := 9) hx hb d_M_groupAt_2 (by decide) (fun hc => ?_) (fun hc => ?_)
  · replace h := h.1 hc
    refine lv_aload_n hx hb d_M_groupAt_9 rfl (lv_at hl 0 rfl) ?_
    refine va_get (ci := 12) (v := .ref (ad 31)) hx hb htg in_M hown hK hP 0 rfl rfl 31 (by decide) (htg _ m_641) (fun _ h9 => h9) rfl d_M_groupAt_10 ?_
    refine lv_sipush (v := 514) hx hb d_M_groupAt_13 (by decide) ?_
    refine lv_iload_n hx hb d_M_groupAt_16 rfl (lv_at hl 1 rfl) ?_
    refine lv_imul hx hb d_M_groupAt_17 ?_
    refine lv_iload_n hx hb d_M_groupAt_18 rfl (lv_at hl 2 rfl) ?_
    refine lv_iadd hx hb d_M_groupAt_19 ?_
    obtain ⟨hin, h⟩ := h
    refine va_iald hx hb hK hP 1 0 rfl rfl hin d_M_groupAt_20 ?_
    exact hret _ _ _ h (vp_nar_int _) d_M_groupAt_21
  · replace h := h.2 hc
    refine lv_iconst (v := (-1)) hx hb d_M_groupAt_5 (by decide) ?_
    refine lv_goto (tgt := 21) hx hb d_M_groupAt_6 (by decide) ?_
    exact hret _ _ _ h (vp_nar_int _) d_M_groupAt_21
def p_M_alike_25 (f_o_group : (Nat → Int32)) (f_o_step : (Nat → Int32)) (x1 : Int32) (x2 : Int32) (x3 : Int32) (post : Int32 → Prop) : Nat → Int32 → Int32 → Prop
  | 0, _, _ => False
  | n + 1, l4, l5 => ((6 ≤ l5 → (bz l4 ∧ post l4)) ∧ (¬ 6 ≤ l5 → ((l4 = 0 → (bz l4 ∧ post l4)) ∧ (¬ l4 = 0 → (p_M_go f_o_step x1 x2 l5 (fun r3501 => (p_M_go f_o_step x1 x3 l5 (fun r3502 => ((r3501 = (-1) → ((¬ r3501 = r3502 → (p_M_alike_25 f_o_group f_o_step x1 x2 x3 post n 0 (l5 + 1))) ∧ (r3501 = r3502 → (p_M_alike_25 f_o_group f_o_step x1 x2 x3 post n 1 (l5 + 1))))) ∧ (¬ r3501 = (-1) → ((¬ r3502 = (-1) → (p_M_groupAt f_o_group x1 r3501 (fun r3503 => (p_M_groupAt f_o_group x1 r3502 (fun r3504 => ((¬ r3503 = r3504 → (p_M_alike_25 f_o_group f_o_step x1 x2 x3 post n 0 (l5 + 1))) ∧ (r3503 = r3504 → (p_M_alike_25 f_o_group f_o_step x1 x2 x3 post n 1 (l5 + 1))))))))) ∧ (r3502 = (-1) → ((¬ r3501 = r3502 → (p_M_alike_25 f_o_group f_o_step x1 x2 x3 post n 0 (l5 + 1))) ∧ (r3501 = r3502 → (p_M_alike_25 f_o_group f_o_step x1 x2 x3 post n 1 (l5 + 1))))))))))))))))
def p_M_alike (f_o_group : (Nat → Int32)) (f_o_step : (Nat → Int32)) (x1 : Int32) (x2 : Int32) (x3 : Int32) (post : Int32 → Prop) : Prop := (p_M_groupAt f_o_group x1 x2 (fun r1 => (p_M_groupAt f_o_group x1 x3 (fun r2 => ((¬ r1 = r2 → (∃ k, p_M_alike_25 f_o_group f_o_step x1 x2 x3 post k 0 0)) ∧ (r1 = r2 → (∃ k, p_M_alike_25 f_o_group f_o_step x1 x2 x3 post k 1 0)))))))
set_option maxHeartbeats 4000000 in
set_option maxRecDepth 100000 in
theorem k_M_alike (l : Launch) (G : va_G) (K : Nat → ClassId) (a0 : Nat) (ad : Nat → Nat) (v_o_code : Int32) (v_o_typed : Int32) (v_o_rules : Int32) (v_o_at : Int32) (v_o_read : Int32) (v_o_depth : Int32) (v_o_wrong : Int32) (v_o_there : Int32) (v_o_ended : Int32) (v_o_mode : Int32) (v_o_kept : Int32) (v_o_came : Int32) (v_o_pending : Int32) (v_o_looked : Int32) (v_o_tokens : Int32) (v_o_oldest : Int32) (f_o_group : (Nat → Int32)) (f_o_step : (Nat → Int32)) (x1 : Int32) (x2 : Int32) (x3 : Int32) (post : Int32 → Prop) (h : p_M_alike f_o_group f_o_step x1 x2 x3 post) : MSi l y_M_alike (.code y_M_alike c_M_alike 8 (some .boolean)) { frames := 1, cells := 0, slots := 0, locals := 23 } G K [(a0, .inr (12, oM v_o_code v_o_typed v_o_rules v_o_at v_o_read v_o_depth v_o_wrong v_o_there v_o_ended v_o_mode v_o_kept v_o_came v_o_pending v_o_looked v_o_tokens v_o_oldest ad)), ((ad 31), .inl (K 0, 1542, .inl f_o_group)), ((ad 30), .inl (K 0, 9252, .inl f_o_step))] [.ref a0, .int x1, .int x2, .int x3] post := by
  refine g_metSi (cc := c_M_alike) (maxL := 8) (ret := some .boolean) (rt := .boolean) (by decide) rfl rfl (Nat.le_of_ble_eq_true rfl) ?_
  intro p e s m below meth c Q hx hb hml hown htg hK hN hP hret ls hl
  have hl : lv_has ls 8 [(0, .ref a0), (1, .int x1), (2, .int x2), (3, .int x3)] := hl
  have C_25 : ∀ (n : Nat) (l4 : Int32) (l5 : Int32) (ls : Array Slot), lv_has ls 8 [(0, .ref a0), (1, .int x1), (2, .int x2), (3, .int x3), (4, .int l4), (5, .int l5)] → p_M_alike_25 f_o_group f_o_step x1 x2 x3 post n l4 l5 → W p l e { frames := 1, cells := 0, slots := 0, locals := 23 } s m ([.ref a0, .int x1, .int x2, .int x3] : List Value).toArray below meth c s.heap [] 0 0 Q (F0 m 25 ls []) := by
    intro n
    induction n with
    | zero =>
      intro l4 l5 ls hl h
      exact False.elim h
    | succ n ih =>
      intro l4 l5 ls hl h
      refine lv_iload hx hb d_M_alike_25 (lv_at hl 5 rfl) ?_
      refine lv_bipush (v := 6) hx hb d_M_alike_27 (by decide) ?_
      refine lv_icmp_ge (tgt := 114) hx hb d_M_alike_29 (by decide) (fun hc => ?_) (fun hc => ?_)
      · replace h := h.1 hc
        refine lv_iload hx hb d_M_alike_114 (lv_at hl 4 rfl) ?_
        obtain ⟨hz, h⟩ := h
        exact hret _ _ _ h (bz_nar hz) d_M_alike_116
      · replace h := h.2 hc
        refine lv_iload hx hb d_M_alike_32 (lv_at hl 4 rfl) ?_
        refine lv_if_eq (tgt := 114) hx hb d_M_alike_34 (by decide) (fun hc => ?_) (fun hc => ?_)
        · replace h := h.1 hc
          refine lv_iload hx hb d_M_alike_114 (lv_at hl 4 rfl) ?_
          obtain ⟨hz, h⟩ := h
          exact hret _ _ _ h (bz_nar hz) d_M_alike_116
        · replace h := h.2 hc
          refine lv_aload_n hx hb d_M_alike_37 rfl (lv_at hl 0 rfl) ?_
          refine lv_iload_n hx hb d_M_alike_38 rfl (lv_at hl 1 rfl) ?_
          refine lv_iload_n hx hb d_M_alike_39 rfl (lv_at hl 2 rfl) ?_
          refine lv_iload hx hb d_M_alike_40 (lv_at hl 5 rfl) ?_
          have hPc : va_P G vwCl [(a0, .inr (12, oM v_o_code v_o_typed v_o_rules v_o_at v_o_read v_o_depth v_o_wrong v_o_there v_o_ended v_o_mode v_o_kept v_o_came v_o_pending v_o_looked v_o_tokens v_o_oldest ad)), ((ad 30), .inl (K 0, 9252, .inl f_o_step))] _ := hP.sub [0, 2] rfl
          refine vp_callSi (va_Run.run (va_runV (As := [.int x1, .int x2, .int l5]) (rest := []) ⟨hx, hb, hml, hown, htg⟩ (k_M_go l G K a0 ad v_o_code v_o_typed v_o_rules v_o_at v_o_read v_o_depth v_o_wrong v_o_there v_o_ended v_o_mode v_o_kept v_o_came v_o_pending v_o_looked v_o_tokens v_o_oldest f_o_step x1 x2 l5 _ h) (cwV 3 htg (gGoodV m_752 m_753 m_885 m_13 m_754) rfl rfl rfl (by decide +kernel) ⟨(Nat.le_of_ble_eq_true rfl), (Nat.le_of_ble_eq_true rfl)⟩) (gS_preV (ci := 12) (q0 := 0) hK hN hPc rfl rfl) rfl rfl hl.1 rfl (lv_room (Nat.le_of_ble_eq_true rfl)) d_M_alike_42 ⟨(Nat.le_of_ble_eq_true rfl), (Nat.le_of_ble_eq_true rfl)⟩)) (fun r3501 h => ?_)
          refine lv_istore (lv' := [(6, .int r3501), (0, .ref a0), (1, .int x1), (2, .int x2), (3, .int x3), (4, .int l4), (5, .int l5)]) hx hb d_M_alike_45 hl (by decide) rfl (fun ls hl => ?_)
          refine lv_aload_n hx hb d_M_alike_47 rfl (lv_at hl 1 rfl) ?_
          refine lv_iload_n hx hb d_M_alike_48 rfl (lv_at hl 2 rfl) ?_
          refine lv_iload_n hx hb d_M_alike_49 rfl (lv_at hl 4 rfl) ?_
          refine lv_iload hx hb d_M_alike_50 (lv_at hl 6 rfl) ?_
          have hPc : va_P G vwCl [(a0, .inr (12, oM v_o_code v_o_typed v_o_rules v_o_at v_o_read v_o_depth v_o_wrong v_o_there v_o_ended v_o_mode v_o_kept v_o_came v_o_pending v_o_looked v_o_tokens v_o_oldest ad)), ((ad 30), .inl (K 0, 9252, .inl f_o_step))] _ := hP.sub [0, 2] rfl
          refine vp_callSi (va_Run.run (va_runV (As := [.int x1, .int x3, .int l5]) (rest := []) ⟨hx, hb, hml, hown, htg⟩ (k_M_go l G K a0 ad v_o_code v_o_typed v_o_rules v_o_at v_o_read v_o_depth v_o_wrong v_o_there v_o_ended v_o_mode v_o_kept v_o_came v_o_pending v_o_looked v_o_tokens v_o_oldest f_o_step x1 x3 l5 _ h) (cwV 3 htg (gGoodV m_752 m_753 m_885 m_13 m_754) rfl rfl rfl (by decide +kernel) ⟨(Nat.le_of_ble_eq_true rfl), (Nat.le_of_ble_eq_true rfl)⟩) (gS_preV (ci := 12) (q0 := 0) hK hN hPc rfl rfl) rfl rfl hl.1 rfl (lv_room (Nat.le_of_ble_eq_true rfl)) d_M_alike_52 ⟨(Nat.le_of_ble_eq_true rfl), (Nat.le_of_ble_eq_true rfl)⟩)) (fun r3502 h => ?_)
          refine lv_istore (lv' := [(7, .int r3502), (6, .int r3501), (0, .ref a0), (1, .int x1), (2, .int x2), (3, .int x3), (4, .int l4), (5, .int l5)]) hx hb d_M_alike_55 hl (by decide) rfl (fun ls hl => ?_)
          refine lv_iload hx hb d_M_alike_57 (lv_at hl 1 rfl) ?_
          refine lv_iconst (v := (-1)) hx hb d_M_alike_59 (by decide) ?_
          refine lv_icmp_eq (tgt := 69) hx hb d_M_alike_60 (by decide) (fun hc => ?_) (fun hc => ?_)
          · replace h := h.1 hc
            refine lv_iload hx hb d_M_alike_69 (lv_at hl 1 rfl) ?_
            refine lv_iload hx hb d_M_alike_71 (lv_at hl 0 rfl) ?_
            refine lv_icmp_ne (tgt := 80) hx hb d_M_alike_73 (by decide) (fun hc => ?_) (fun hc => ?_)
            · replace h := h.1 hc
              refine lv_iconst (v := 0) hx hb d_M_alike_80 (by decide) ?_
              refine lv_goto (tgt := 106) hx hb d_M_alike_81 (by decide) ?_
              refine lv_istore (lv' := [(4, .int 0), (7, .int r3502), (6, .int r3501), (0, .ref a0), (1, .int x1), (2, .int x2), (3, .int x3), (5, .int l5)]) hx hb d_M_alike_106 hl (by decide) rfl (fun ls hl => ?_)
              refine lv_iinc (v := (l5 + 1)) (lv' := [(5, .int (l5 + 1)), (4, .int 0), (7, .int r3502), (6, .int r3501), (0, .ref a0), (1, .int x1), (2, .int x2), (3, .int x3)]) hx hb d_M_alike_108 hl (k := 7) rfl (by first | rfl | decide) (by decide) rfl (fun ls hl => ?_)
              refine lv_goto (tgt := 25) hx hb d_M_alike_111 (by decide) ?_
              exact ih 0 (l5 + 1) _ (lv_sub hl [4, 5, 6, 7, 1, 0] rfl) h
            · replace h := h.2 hc
              refine lv_iconst (v := 1) hx hb d_M_alike_76 (by decide) ?_
              refine lv_goto (tgt := 106) hx hb d_M_alike_77 (by decide) ?_
              refine lv_istore (lv' := [(4, .int 1), (7, .int r3502), (6, .int r3501), (0, .ref a0), (1, .int x1), (2, .int x2), (3, .int x3), (5, .int l5)]) hx hb d_M_alike_106 hl (by decide) rfl (fun ls hl => ?_)
              refine lv_iinc (v := (l5 + 1)) (lv' := [(5, .int (l5 + 1)), (4, .int 1), (7, .int r3502), (6, .int r3501), (0, .ref a0), (1, .int x1), (2, .int x2), (3, .int x3)]) hx hb d_M_alike_108 hl (k := 7) rfl (by first | rfl | decide) (by decide) rfl (fun ls hl => ?_)
              refine lv_goto (tgt := 25) hx hb d_M_alike_111 (by decide) ?_
              exact ih 1 (l5 + 1) _ (lv_sub hl [4, 5, 6, 7, 1, 0] rfl) h
          · replace h := h.2 hc
            refine lv_iload hx hb d_M_alike_63 (lv_at hl 0 rfl) ?_
            refine lv_iconst (v := (-1)) hx hb d_M_alike_65 (by decide) ?_
            refine lv_icmp_ne (tgt := 84) hx hb d_M_alike_66 (by decide) (fun hc => ?_) (fun hc => ?_)
            · replace h := h.1 hc
              refine lv_aload_n hx hb d_M_alike_84 rfl (lv_at hl 2 rfl) ?_
              refine lv_iload_n hx hb d_M_alike_85 rfl (lv_at hl 3 rfl) ?_
              refine lv_iload hx hb d_M_alike_86 (lv_at hl 1 rfl) ?_
              have hPc : va_P G vwCl [(a0, .inr (12, oM v_o_code v_o_typed v_o_rules v_o_at v_o_read v_o_depth v_o_wrong v_o_there v_o_ended v_o_mode v_o_kept v_o_came v_o_pending v_o_looked v_o_tokens v_o_oldest ad)), ((ad 31), .inl (K 0, 1542, .inl f_o_group))] _ := hP.sub [0, 1] rfl
              refine vp_callSi (va_Run.run (va_runV (As := [.int x1, .int r3501]) (rest := []) ⟨hx, hb, hml, hown, htg⟩ (k_M_groupAt l G K a0 ad v_o_code v_o_typed v_o_rules v_o_at v_o_read v_o_depth v_o_wrong v_o_there v_o_ended v_o_mode v_o_kept v_o_came v_o_pending v_o_looked v_o_tokens v_o_oldest f_o_group x1 r3501 _ h) (cwV 2 htg (gGoodV m_749 m_750 m_886 m_13 m_751) rfl rfl rfl (by decide +kernel) ⟨(Nat.le_of_ble_eq_true rfl), (Nat.le_of_ble_eq_true rfl)⟩) (gS_preV (ci := 12) (q0 := 0) hK hN hPc rfl rfl) rfl rfl hl.1 rfl (lv_room (Nat.le_of_ble_eq_true rfl)) d_M_alike_88 ⟨(Nat.le_of_ble_eq_true rfl), (Nat.le_of_ble_eq_true rfl)⟩)) (fun r3503 h => ?_)
              refine lv_aload_n hx hb d_M_alike_91 rfl (lv_at hl 2 rfl) ?_
              refine lv_iload_n hx hb d_M_alike_92 rfl (lv_at hl 3 rfl) ?_
              refine lv_iload hx hb d_M_alike_93 (lv_at hl 0 rfl) ?_
              have hPc : va_P G vwCl [(a0, .inr (12, oM v_o_code v_o_typed v_o_rules v_o_at v_o_read v_o_depth v_o_wrong v_o_there v_o_ended v_o_mode v_o_kept v_o_came v_o_pending v_o_looked v_o_tokens v_o_oldest ad)), ((ad 31), .inl (K 0, 1542, .inl f_o_group))] _ := hP.sub [0, 1] rfl
              refine vp_callSi (va_Run.run (va_runV (As := [.int x1, .int r3502]) (rest := [.int r3503]) ⟨hx, hb, hml, hown, htg⟩ (k_M_groupAt l G K a0 ad v_o_code v_o_typed v_o_rules v_o_at v_o_read v_o_depth v_o_wrong v_o_there v_o_ended v_o_mode v_o_kept v_o_came v_o_pending v_o_looked v_o_tokens v_o_oldest f_o_group x1 r3502 _ h) (cwV 2 htg (gGoodV m_749 m_750 m_886 m_13 m_751) rfl rfl rfl (by decide +kernel) ⟨(Nat.le_of_ble_eq_true rfl), (Nat.le_of_ble_eq_true rfl)⟩) (gS_preV (ci := 12) (q0 := 0) hK hN hPc rfl rfl) rfl rfl hl.1 rfl (lv_room (Nat.le_of_ble_eq_true rfl)) d_M_alike_95 ⟨(Nat.le_of_ble_eq_true rfl), (Nat.le_of_ble_eq_true rfl)⟩)) (fun r3504 h => ?_)
              refine lv_icmp_ne (tgt := 105) hx hb d_M_alike_98 (by decide) (fun hc => ?_) (fun hc => ?_)
              · replace h := h.1 hc
                refine lv_iconst (v := 0) hx hb d_M_alike_105 (by decide) ?_
                refine lv_istore (lv' := [(4, .int 0), (7, .int r3502), (6, .int r3501), (0, .ref a0), (1, .int x1), (2, .int x2), (3, .int x3), (5, .int l5)]) hx hb d_M_alike_106 hl (by decide) rfl (fun ls hl => ?_)
                refine lv_iinc (v := (l5 + 1)) (lv' := [(5, .int (l5 + 1)), (4, .int 0), (7, .int r3502), (6, .int r3501), (0, .ref a0), (1, .int x1), (2, .int x2), (3, .int x3)]) hx hb d_M_alike_108 hl (k := 7) rfl (by first | rfl | decide) (by decide) rfl (fun ls hl => ?_)
                refine lv_goto (tgt := 25) hx hb d_M_alike_111 (by decide) ?_
                exact ih 0 (l5 + 1) _ (lv_sub hl [4, 5, 6, 7, 1, 0] rfl) h
              · replace h := h.2 hc
                refine lv_iconst (v := 1) hx hb d_M_alike_101 (by decide) ?_
                refine lv_goto (tgt := 106) hx hb d_M_alike_102 (by decide) ?_
                refine lv_istore (lv' := [(4, .int 1), (7, .int r3502), (6, .int r3501), (0, .ref a0), (1, .int x1), (2, .int x2), (3, .int x3), (5, .int l5)]) hx hb d_M_alike_106 hl (by decide) rfl (fun ls hl => ?_)
                refine lv_iinc (v := (l5 + 1)) (lv' := [(5, .int (l5 + 1)), (4, .int 1), (7, .int r3502), (6, .int r3501), (0, .ref a0), (1, .int x1), (2, .int x2), (3, .int x3)]) hx hb d_M_alike_108 hl (k := 7) rfl (by first | rfl | decide) (by decide) rfl (fun ls hl => ?_)
                refine lv_goto (tgt := 25) hx hb d_M_alike_111 (by decide) ?_
                exact ih 1 (l5 + 1) _ (lv_sub hl [4, 5, 6, 7, 1, 0] rfl) h
            · replace h := h.2 hc
              refine lv_iload hx hb d_M_alike_69 (lv_at hl 1 rfl) ?_
              refine lv_iload hx hb d_M_alike_71 (lv_at hl 0 rfl) ?_
              refine lv_icmp_ne (tgt := 80) hx hb d_M_alike_73 (by decide) (fun hc => ?_) (fun hc => ?_)
              · replace h := h.1 hc
                refine lv_iconst (v := 0) hx hb d_M_alike_80 (by decide) ?_
                refine lv_goto (tgt := 106) hx hb d_M_alike_81 (by decide) ?_
                refine lv_istore (lv' := [(4, .int 0), (7, .int r3502), (6, .int r3501), (0, .ref a0), (1, .int x1), (2, .int x2), (3, .int x3), (5, .int l5)]) hx hb d_M_alike_106 hl (by decide) rfl (fun ls hl => ?_)
                refine lv_iinc (v := (l5 + 1)) (lv' := [(5, .int (l5 + 1)), (4, .int 0), (7, .int r3502), (6, .int r3501), (0, .ref a0), (1, .int x1), (2, .int x2), (3, .int x3)]) hx hb d_M_alike_108 hl (k := 7) rfl (by first | rfl | decide) (by decide) rfl (fun ls hl => ?_)
                refine lv_goto (tgt := 25) hx hb d_M_alike_111 (by decide) ?_
                exact ih 0 (l5 + 1) _ (lv_sub hl [4, 5, 6, 7, 1, 0] rfl) h
              · replace h := h.2 hc
                refine lv_iconst (v := 1) hx hb d_M_alike_76 (by decide) ?_
                refine lv_goto (tgt := 106) hx hb d_M_alike_77 (by decide) ?_
                refine lv_istore (lv' := [(4, .int 1), (7, .int r3502), (6, .int r3501), (0, .ref a0), (1, .int x1), (2, .int x2), (3, .int x3), (5, .int l5)]) hx hb d_M_alike_106 hl (by decide) rfl (fun ls hl => ?_)
                refine lv_iinc (v := (l5 + 1)) (lv' := [(5, .int (l5 + 1)), (4, .int 1), (7, .int r3502), (6, .int r3501), (0, .ref a0), (1, .int x1), (2, .int x2), (3, .int x3)]) hx hb d_M_alike_108 hl (k := 7) rfl (by first | rfl | decide) (by decide) rfl (fun ls hl => ?_)
                refine lv_goto (tgt := 25) hx hb d_M_alike_111 (by decide) ?_
                exact ih 1 (l5 + 1) _ (lv_sub hl [4, 5, 6, 7, 1, 0] rfl) h
  refine lv_aload_n hx hb d_M_alike_0 rfl (lv_at hl 0 rfl) ?_
  refine lv_iload_n hx hb d_M_alike_1 rfl (lv_at hl 1 rfl) ?_
  refine lv_iload_n hx hb d_M_alike_2 rfl (lv_at hl 2 rfl) ?_
  have hPc : va_P G vwCl [(a0, .inr (12, oM v_o_code v_o_typed v_o_rules v_o_at v_o_read v_o_depth v_o_wrong v_o_there v_o_ended v_o_mode v_o_kept v_o_came v_o_pending v_o_looked v_o_tokens v_o_oldest ad)), ((ad 31), .inl (K 0, 1542, .inl f_o_group))] _ := hP.sub [0, 1] rfl
  refine vp_callSi (va_Run.run (va_runV (As := [.int x1, .int x2]) (rest := []) ⟨hx, hb, hml, hown, htg⟩ (k_M_groupAt l G K a0 ad v_o_code v_o_typed v_o_rules v_o_at v_o_read v_o_depth v_o_wrong v_o_there v_o_ended v_o_mode v_o_kept v_o_came v_o_pending v_o_looked v_o_tokens v_o_oldest f_o_group x1 x2 _ h) (cwV 2 htg (gGoodV m_749 m_750 m_886 m_13 m_751) rfl rfl rfl (by decide +kernel) ⟨(Nat.le_of_ble_eq_true rfl), (Nat.le_of_ble_eq_true rfl)⟩) (gS_preV (ci := 12) (q0 := 0) hK hN hPc rfl rfl) rfl rfl hl.1 rfl (lv_room (Nat.le_of_ble_eq_true rfl)) d_M_alike_3 ⟨(Nat.le_of_ble_eq_true rfl), (Nat.le_of_ble_eq_true rfl)⟩)) (fun r1 h => ?_)
  refine lv_aload_n hx hb d_M_alike_6 rfl (lv_at hl 0 rfl) ?_
  refine lv_iload_n hx hb d_M_alike_7 rfl (lv_at hl 1 rfl) ?_
  refine lv_iload_n hx hb d_M_alike_8 rfl (lv_at hl 3 rfl) ?_
  have hPc : va_P G vwCl [(a0, .inr (12, oM v_o_code v_o_typed v_o_rules v_o_at v_o_read v_o_depth v_o_wrong v_o_there v_o_ended v_o_mode v_o_kept v_o_came v_o_pending v_o_looked v_o_tokens v_o_oldest ad)), ((ad 31), .inl (K 0, 1542, .inl f_o_group))] _ := hP.sub [0, 1] rfl
  refine vp_callSi (va_Run.run (va_runV (As := [.int x1, .int x3]) (rest := [.int r1]) ⟨hx, hb, hml, hown, htg⟩ (k_M_groupAt l G K a0 ad v_o_code v_o_typed v_o_rules v_o_at v_o_read v_o_depth v_o_wrong v_o_there v_o_ended v_o_mode v_o_kept v_o_came v_o_pending v_o_looked v_o_tokens v_o_oldest f_o_group x1 x3 _ h) (cwV 2 htg (gGoodV m_749 m_750 m_886 m_13 m_751) rfl rfl rfl (by decide +kernel) ⟨(Nat.le_of_ble_eq_true rfl), (Nat.le_of_ble_eq_true rfl)⟩) (gS_preV (ci := 12) (q0 := 0) hK hN hPc rfl rfl) rfl rfl hl.1 rfl (lv_room (Nat.le_of_ble_eq_true rfl)) d_M_alike_9 ⟨(Nat.le_of_ble_eq_true rfl), (Nat.le_of_ble_eq_true rfl)⟩)) (fun r2 h => ?_)
  refine lv_icmp_ne (tgt := 19) hx hb d_M_alike_12 (by decide) (fun hc => ?_) (fun hc => ?_)
  · replace h := h.1 hc
    refine lv_iconst (v := 0) hx hb d_M_alike_19 (by decide) ?_
    refine lv_istore (lv' := [(4, .int 0), (0, .ref a0), (1, .int x1), (2, .int x2), (3, .int x3)]) hx hb d_M_alike_20 hl (by decide) rfl (fun ls hl => ?_)
    refine lv_iconst (v := 0) hx hb d_M_alike_22 (by decide) ?_
    refine lv_istore (lv' := [(5, .int 0), (4, .int 0), (0, .ref a0), (1, .int x1), (2, .int x2), (3, .int x3)]) hx hb d_M_alike_23 hl (by decide) rfl (fun ls hl => ?_)
    obtain ⟨k, h⟩ := h
    exact C_25 k 0 0 _ (lv_sub hl [2, 3, 4, 5, 1, 0] rfl) h
  · replace h := h.2 hc
    refine lv_iconst (v := 1) hx hb d_M_alike_15 (by decide) ?_
    refine lv_goto (tgt := 20) hx hb d_M_alike_16 (by decide) ?_
    refine lv_istore (lv' := [(4, .int 1), (0, .ref a0), (1, .int x1), (2, .int x2), (3, .int x3)]) hx hb d_M_alike_20 hl (by decide) rfl (fun ls hl => ?_)
    refine lv_iconst (v := 0) hx hb d_M_alike_22 (by decide) ?_
    refine lv_istore (lv' := [(5, .int 0), (4, .int 1), (0, .ref a0), (1, .int x1), (2, .int x2), (3, .int x3)]) hx hb d_M_alike_23 hl (by decide) rfl (fun ls hl => ?_)
    obtain ⟨k, h⟩ := h
    exact C_25 k 1 0 _ (lv_sub hl [2, 3, 4, 5, 1, 0] rfl) h
def p_M_split_90 (f_o_nodes : (Nat → Int32)) (x1 : Int32) (post : Int32 → (Nat → Int32) → (Nat → Int32) → (Nat → Int32) → Prop) : Nat → Int32 → Int32 → (Nat → Int32) → (Nat → Int32) → (Nat → Int32) → Prop
  | 0, _, _, _, _, _ => False
  | n + 1, l2, l3, f_o_sample, f_o_group, f_o_fresh => (vp_in x1 3 ∧ (((f_o_nodes x1.toNatClampNeg) ≤ l3 → (post l2 f_o_sample f_o_group f_o_fresh)) ∧ (¬ (f_o_nodes x1.toNatClampNeg) ≤ l3 → (vp_in l3 514 ∧ (vp_in ((514 * x1) + l3) 1542 ∧ (p_M_split_90 f_o_nodes x1 post n l2 (l3 + 1) f_o_sample (upd f_o_group ((514 * x1) + l3).toNatClampNeg (f_o_fresh l3.toNatClampNeg)) f_o_fresh))))))
def p_M_split_88 (f_o_nodes : (Nat → Int32)) (x1 : Int32) (post : Int32 → (Nat → Int32) → (Nat → Int32) → (Nat → Int32) → Prop) (l2 : Int32) (f_o_sample : (Nat → Int32)) (f_o_group : (Nat → Int32)) (f_o_fresh : (Nat → Int32)) : Prop := (∃ k, p_M_split_90 f_o_nodes x1 post k l2 0 f_o_sample f_o_group f_o_fresh)
def p_M_split_51 (x1 : Int32) (post : Int32 → (Nat → Int32) → (Nat → Int32) → (Nat → Int32) → Prop) (K_4 : Int32 → Int32 → (Nat → Int32) → (Nat → Int32) → (Nat → Int32) → Prop) (l2 : Int32) (l3 : Int32) (l4 : Int32) (f_o_sample : (Nat → Int32)) (f_o_group : (Nat → Int32)) (f_o_fresh : (Nat → Int32)) : Prop := ((¬ l4 = l2 → (vp_in l3 514 ∧ (K_4 l2 (l3 + 1) f_o_sample f_o_group (upd f_o_fresh l3.toNatClampNeg l4)))) ∧ (l4 = l2 → (vp_in ((514 * x1) + l4) 1542 ∧ (vp_in l3 514 ∧ (K_4 (l2 + 1) (l3 + 1) (upd f_o_sample ((514 * x1) + l4).toNatClampNeg l3) f_o_group (upd f_o_fresh l3.toNatClampNeg l4))))))
def p_M_split_17 (f_o_step : (Nat → Int32)) (x1 : Int32) (post : Int32 → (Nat → Int32) → (Nat → Int32) → (Nat → Int32) → Prop) (K_4 : Int32 → Int32 → (Nat → Int32) → (Nat → Int32) → (Nat → Int32) → Prop) : Nat → Int32 → Int32 → Int32 → (Nat → Int32) → (Nat → Int32) → (Nat → Int32) → Prop
  | 0, _, _, _, _, _, _ => False
  | n + 1, l2, l3, l4, f_o_sample, f_o_group, f_o_fresh => ((l2 ≤ l4 → (p_M_split_51 x1 post K_4 l2 l3 l4 f_o_sample f_o_group f_o_fresh)) ∧ (¬ l2 ≤ l4 → (vp_in ((514 * x1) + l4) 1542 ∧ (p_M_alike f_o_group f_o_step x1 (f_o_sample ((514 * x1) + l4).toNatClampNeg) l3 (fun r2701 => ((¬ r2701 = 0 → (p_M_split_51 x1 post K_4 l2 l3 l4 f_o_sample f_o_group f_o_fresh)) ∧ (r2701 = 0 → (p_M_split_17 f_o_step x1 post K_4 n l2 l3 (l4 + 1) f_o_sample f_o_group f_o_fresh))))))))
def p_M_split_4 (f_o_nodes : (Nat → Int32)) (f_o_step : (Nat → Int32)) (x1 : Int32) (post : Int32 → (Nat → Int32) → (Nat → Int32) → (Nat → Int32) → Prop) : Nat → Int32 → Int32 → (Nat → Int32) → (Nat → Int32) → (Nat → Int32) → Prop
  | 0, _, _, _, _, _ => False
  | n + 1, l2, l3, f_o_sample, f_o_group, f_o_fresh => (vp_in x1 3 ∧ (((f_o_nodes x1.toNatClampNeg) ≤ l3 → (p_M_split_88 f_o_nodes x1 post l2 f_o_sample f_o_group f_o_fresh)) ∧ (¬ (f_o_nodes x1.toNatClampNeg) ≤ l3 → (∃ k, p_M_split_17 f_o_step x1 post (p_M_split_4 f_o_nodes f_o_step x1 post n) k l2 l3 0 f_o_sample f_o_group f_o_fresh))))
def p_M_split (f_o_nodes : (Nat → Int32)) (f_o_sample : (Nat → Int32)) (f_o_group : (Nat → Int32)) (f_o_step : (Nat → Int32)) (f_o_fresh : (Nat → Int32)) (x1 : Int32) (post : Int32 → (Nat → Int32) → (Nat → Int32) → (Nat → Int32) → Prop) : Prop := (∃ k, p_M_split_4 f_o_nodes f_o_step x1 post k 0 0 f_o_sample f_o_group f_o_fresh)
set_option maxHeartbeats 4000000 in
set_option maxRecDepth 100000 in
theorem k_M_split (l : Launch) (G : va_G) (K : Nat → ClassId) (a0 : Nat) (ad : Nat → Nat) (sz : Nat) (v_o_code : Int32) (v_o_typed : Int32) (v_o_rules : Int32) (v_o_at : Int32) (v_o_read : Int32) (v_o_depth : Int32) (v_o_wrong : Int32) (v_o_there : Int32) (v_o_ended : Int32) (v_o_mode : Int32) (v_o_kept : Int32) (v_o_came : Int32) (v_o_pending : Int32) (v_o_looked : Int32) (v_o_tokens : Int32) (v_o_oldest : Int32) (f_o_nodes : (Nat → Int32)) (f_o_sample : (Nat → Int32)) (f_o_group : (Nat → Int32)) (f_o_step : (Nat → Int32)) (f_o_fresh : (Nat → Int32)) (x1 : Int32) (post : Int32 → (Nat → Int32) → (Nat → Int32) → (Nat → Int32) → Prop) (h : p_M_split f_o_nodes f_o_sample f_o_group f_o_step f_o_fresh x1 post) : MWi l y_M_split (.code y_M_split c_M_split 5 (some .int)) { frames := 2, cells := 0, slots := 0, locals := 50 } G K [((ad 33), .inl (K 0, 1542, .inl f_o_sample)), ((ad 31), .inl (K 0, 1542, .inl f_o_group)), ((ad 50), .inl (K 0, 514, .inl f_o_fresh))] [(a0, .inr (12, oM v_o_code v_o_typed v_o_rules v_o_at v_o_read v_o_depth v_o_wrong v_o_there v_o_ended v_o_mode v_o_kept v_o_came v_o_pending v_o_looked v_o_tokens v_o_oldest ad)), ((ad 28), .inl (K 0, 3, .inl f_o_nodes)), ((ad 30), .inl (K 0, 9252, .inl f_o_step))] [.ref a0, .int x1] sz (fun r (u : (Nat → Int32) × (Nat → Int32) × (Nat → Int32)) => post r u.1 u.2.1 u.2.2) (fun u => [((ad 33), .inl (K 0, 1542, .inl u.1)), ((ad 31), .inl (K 0, 1542, .inl u.2.1)), ((ad 50), .inl (K 0, 514, .inl u.2.2))]) 0 0 := by
  refine g_metWi (cc := c_M_split) (maxL := 5) (ret := some .int) (rt := .int) (by decide) rfl rfl (Nat.le_of_ble_eq_true rfl) ?_
  intro p e s m below meth c A Q hx hb hml hown hname htg hK hN hP hD hA hS hR rN hret ls hl
  have hl : lv_has ls 5 [(0, .ref a0), (1, .int x1)] := hl
  have C_90 : ∀ (n : Nat) (l2 : Int32) (l3 : Int32) (f_o_sample : (Nat → Int32)) (f_o_group : (Nat → Int32)) (f_o_fresh : (Nat → Int32)) (H : Heap) (locs : List Loc), va_P G vwCl [((ad 33), .inl (K 0, 1542, .inl f_o_sample)), ((ad 31), .inl (K 0, 1542, .inl f_o_group)), ((ad 50), .inl (K 0, 514, .inl f_o_fresh))] H → va_D A [((ad 33), .inl (K 0, 1542, .inl f_o_sample)), ((ad 31), .inl (K 0, 1542, .inl f_o_group)), ((ad 50), .inl (K 0, 514, .inl f_o_fresh))] → va_S A s.heap H locs → ∀ (ls : Array Slot), lv_has ls 5 [(0, .ref a0), (1, .int x1), (2, .int l2), (3, .int l3)] → p_M_split_90 f_o_nodes x1 post n l2 l3 f_o_sample f_o_group f_o_fresh → W p l e { frames := 2, cells := 0, slots := 0, locals := 50 } s m ([.ref a0, .int x1] : List Value).toArray below meth c H locs 0 0 Q (F0 m 90 ls []) := by
    intro n
    induction n with
    | zero =>
      intro l2 l3 f_o_sample f_o_group f_o_fresh  H locs hP hD hS ls hl h
      exact False.elim h
    | succ n ih =>
      intro l2 l3 f_o_sample f_o_group f_o_fresh  H locs hP hD hS ls hl h
      refine lv_iload_n hx hb d_M_split_90 rfl (lv_at hl 3 rfl) ?_
      refine lv_aload_n hx hb d_M_split_91 rfl (lv_at hl 0 rfl) ?_
      refine va_get (ci := 12) (v := .ref (ad 28)) hx hb htg in_M hown hK (gR hR rN hS) 0 rfl rfl 28 (by decide) (htg _ m_638) (fun _ h9 => h9) rfl d_M_split_92 ?_
      refine lv_iload_n hx hb d_M_split_95 rfl (lv_at hl 1 rfl) ?_
      obtain ⟨hin, h⟩ := h
      refine va_iald hx hb hK (gR hR rN hS) 1 0 rfl rfl hin d_M_split_96 ?_
      refine lv_icmp_ge (tgt := 124) hx hb d_M_split_97 (by decide) (fun hc => ?_) (fun hc => ?_)
      · replace h := h.1 hc
        refine lv_iload_n hx hb d_M_split_124 rfl (lv_at hl 2 rfl) ?_
        exact hret _ (f_o_sample, f_o_group, f_o_fresh) _ _ _ _ h (vp_nar_int _) (hP.sub [0, 1, 2] rfl) (hD.sub [0, 1, 2] (by decide) rfl) hS d_M_split_125
      · replace h := h.2 hc
        refine lv_aload_n hx hb d_M_split_100 rfl (lv_at hl 0 rfl) ?_
        refine va_get (ci := 12) (v := .ref (ad 31)) hx hb htg in_M hown hK (gR hR rN hS) 0 rfl rfl 31 (by decide) (htg _ m_641) (fun _ h9 => h9) rfl d_M_split_101 ?_
        refine lv_sipush (v := 514) hx hb d_M_split_104 (by decide) ?_
        refine lv_iload_n hx hb d_M_split_107 rfl (lv_at hl 1 rfl) ?_
        refine lv_imul hx hb d_M_split_108 ?_
        refine lv_iload_n hx hb d_M_split_109 rfl (lv_at hl 3 rfl) ?_
        refine lv_iadd hx hb d_M_split_110 ?_
        refine lv_aload_n hx hb d_M_split_111 rfl (lv_at hl 0 rfl) ?_
        refine va_get (ci := 12) (v := .ref (ad 50)) hx hb htg in_M hown hK (gR hR rN hS) 0 rfl rfl 50 (by decide) (htg _ m_660) (fun _ h9 => h9) rfl d_M_split_112 ?_
        refine lv_iload_n hx hb d_M_split_115 rfl (lv_at hl 3 rfl) ?_
        obtain ⟨hin, h⟩ := h
        refine va_iald hx hb hK hP 2 0 rfl rfl hin d_M_split_116 ?_
        obtain ⟨hin, h⟩ := h
        refine va_iast hx hb hK hP hD hS 1 0 rfl rfl hin d_M_split_117 (fun H locs hP hD hS => ?_)
        have hP : va_P G vwCl [((ad 33), .inl (K 0, 1542, .inl f_o_sample)), ((ad 31), .inl (K 0, 1542, .inl (upd f_o_group ((514 * x1) + l3).toNatClampNeg (f_o_fresh l3.toNatClampNeg)))), ((ad 50), .inl (K 0, 514, .inl f_o_fresh))] H := hP
        have hD : va_D A [((ad 33), .inl (K 0, 1542, .inl f_o_sample)), ((ad 31), .inl (K 0, 1542, .inl (upd f_o_group ((514 * x1) + l3).toNatClampNeg (f_o_fresh l3.toNatClampNeg)))), ((ad 50), .inl (K 0, 514, .inl f_o_fresh))] := hD
        refine lv_iinc (v := (l3 + 1)) (lv' := [(3, .int (l3 + 1)), (0, .ref a0), (1, .int x1), (2, .int l2)]) hx hb d_M_split_118 hl (k := 3) rfl (by first | rfl | decide) (by decide) rfl (fun ls hl => ?_)
        refine lv_goto (tgt := 90) hx hb d_M_split_121 (by decide) ?_
        exact ih l2 (l3 + 1) f_o_sample (upd f_o_group ((514 * x1) + l3).toNatClampNeg (f_o_fresh l3.toNatClampNeg)) f_o_fresh  _ _ (hP.sub [0, 1, 2] rfl) (hD.sub [0, 1, 2] (by decide) rfl) hS _ (lv_sub hl [1, 2, 3, 0] rfl) h
  have C_88 : ∀ (l2 : Int32) (f_o_sample : (Nat → Int32)) (f_o_group : (Nat → Int32)) (f_o_fresh : (Nat → Int32)) (H : Heap) (locs : List Loc), va_P G vwCl [((ad 33), .inl (K 0, 1542, .inl f_o_sample)), ((ad 31), .inl (K 0, 1542, .inl f_o_group)), ((ad 50), .inl (K 0, 514, .inl f_o_fresh))] H → va_D A [((ad 33), .inl (K 0, 1542, .inl f_o_sample)), ((ad 31), .inl (K 0, 1542, .inl f_o_group)), ((ad 50), .inl (K 0, 514, .inl f_o_fresh))] → va_S A s.heap H locs → ∀ (ls : Array Slot), lv_has ls 5 [(0, .ref a0), (1, .int x1), (2, .int l2)] → p_M_split_88 f_o_nodes x1 post l2 f_o_sample f_o_group f_o_fresh → W p l e { frames := 2, cells := 0, slots := 0, locals := 50 } s m ([.ref a0, .int x1] : List Value).toArray below meth c H locs 0 0 Q (F0 m 88 ls []) := by
    intro  l2 f_o_sample f_o_group f_o_fresh  H locs hP hD hS ls hl h
    refine lv_iconst (v := 0) hx hb d_M_split_88 (by decide) ?_
    refine lv_istore_n (lv' := [(3, .int 0), (0, .ref a0), (1, .int x1), (2, .int l2)]) hx hb d_M_split_89 rfl hl (by decide) rfl (fun ls hl => ?_)
    obtain ⟨k, h⟩ := h
    exact C_90 k l2 0 f_o_sample f_o_group f_o_fresh  _ _ (hP.sub [0, 1, 2] rfl) (hD.sub [0, 1, 2] (by decide) rfl) hS _ (lv_sub hl [1, 2, 3, 0] rfl) h
  have C_51 : ∀ (K_4 : Int32 → Int32 → (Nat → Int32) → (Nat → Int32) → (Nat → Int32) → Prop) (hK_4 : ∀ (l2 : Int32) (l3 : Int32) (f_o_sample : (Nat → Int32)) (f_o_group : (Nat → Int32)) (f_o_fresh : (Nat → Int32)) (H : Heap) (locs : List Loc), va_P G vwCl [((ad 33), .inl (K 0, 1542, .inl f_o_sample)), ((ad 31), .inl (K 0, 1542, .inl f_o_group)), ((ad 50), .inl (K 0, 514, .inl f_o_fresh))] H → va_D A [((ad 33), .inl (K 0, 1542, .inl f_o_sample)), ((ad 31), .inl (K 0, 1542, .inl f_o_group)), ((ad 50), .inl (K 0, 514, .inl f_o_fresh))] → va_S A s.heap H locs → ∀ (ls : Array Slot), lv_has ls 5 [(0, .ref a0), (1, .int x1), (2, .int l2), (3, .int l3)] → K_4 l2 l3 f_o_sample f_o_group f_o_fresh → W p l e { frames := 2, cells := 0, slots := 0, locals := 50 } s m ([.ref a0, .int x1] : List Value).toArray below meth c H locs 0 0 Q (F0 m 4 ls [])) (l2 : Int32) (l3 : Int32) (l4 : Int32) (f_o_sample : (Nat → Int32)) (f_o_group : (Nat → Int32)) (f_o_fresh : (Nat → Int32)) (H : Heap) (locs : List Loc), va_P G vwCl [((ad 33), .inl (K 0, 1542, .inl f_o_sample)), ((ad 31), .inl (K 0, 1542, .inl f_o_group)), ((ad 50), .inl (K 0, 514, .inl f_o_fresh))] H → va_D A [((ad 33), .inl (K 0, 1542, .inl f_o_sample)), ((ad 31), .inl (K 0, 1542, .inl f_o_group)), ((ad 50), .inl (K 0, 514, .inl f_o_fresh))] → va_S A s.heap H locs → ∀ (ls : Array Slot), lv_has ls 5 [(0, .ref a0), (1, .int x1), (2, .int l2), (3, .int l3), (4, .int l4)] → p_M_split_51 x1 post K_4 l2 l3 l4 f_o_sample f_o_group f_o_fresh → W p l e { frames := 2, cells := 0, slots := 0, locals := 50 } s m ([.ref a0, .int x1] : List Value).toArray below meth c H locs 0 0 Q (F0 m 51 ls []) := by
    intro K_4 hK_4 l2 l3 l4 f_o_sample f_o_group f_o_fresh  H locs hP hD hS ls hl h
    refine lv_iload hx hb d_M_split_51 (lv_at hl 4 rfl) ?_
    refine lv_iload_n hx hb d_M_split_53 rfl (lv_at hl 2 rfl) ?_
    refine lv_icmp_ne (tgt := 74) hx hb d_M_split_54 (by decide) (fun hc => ?_) (fun hc => ?_)
    · replace h := h.1 hc
      refine lv_aload_n hx hb d_M_split_74 rfl (lv_at hl 0 rfl) ?_
      refine va_get (ci := 12) (v := .ref (ad 50)) hx hb htg in_M hown hK (gR hR rN hS) 0 rfl rfl 50 (by decide) (htg _ m_660) (fun _ h9 => h9) rfl d_M_split_75 ?_
      refine lv_iload_n hx hb d_M_split_78 rfl (lv_at hl 3 rfl) ?_
      refine lv_iload hx hb d_M_split_79 (lv_at hl 4 rfl) ?_
      obtain ⟨hin, h⟩ := h
      refine va_iast hx hb hK hP hD hS 2 0 rfl rfl hin d_M_split_81 (fun H locs hP hD hS => ?_)
      have hP : va_P G vwCl [((ad 33), .inl (K 0, 1542, .inl f_o_sample)), ((ad 31), .inl (K 0, 1542, .inl f_o_group)), ((ad 50), .inl (K 0, 514, .inl (upd f_o_fresh l3.toNatClampNeg l4)))] H := hP
      have hD : va_D A [((ad 33), .inl (K 0, 1542, .inl f_o_sample)), ((ad 31), .inl (K 0, 1542, .inl f_o_group)), ((ad 50), .inl (K 0, 514, .inl (upd f_o_fresh l3.toNatClampNeg l4)))] := hD
      refine lv_iinc (v := (l3 + 1)) (lv' := [(3, .int (l3 + 1)), (0, .ref a0), (1, .int x1), (2, .int l2), (4, .int l4)]) hx hb d_M_split_82 hl (k := 3) rfl (by first | rfl | decide) (by decide) rfl (fun ls hl => ?_)
      refine lv_goto (tgt := 4) hx hb d_M_split_85 (by decide) ?_
      exact hK_4 l2 (l3 + 1) f_o_sample f_o_group (upd f_o_fresh l3.toNatClampNeg l4)  _ _ (hP.sub [0, 1, 2] rfl) (hD.sub [0, 1, 2] (by decide) rfl) hS _ (lv_sub hl [1, 2, 3, 0] rfl) h
    · replace h := h.2 hc
      refine lv_aload_n hx hb d_M_split_57 rfl (lv_at hl 0 rfl) ?_
      refine va_get (ci := 12) (v := .ref (ad 33)) hx hb htg in_M hown hK (gR hR rN hS) 0 rfl rfl 33 (by decide) (htg _ m_643) (fun _ h9 => h9) rfl d_M_split_58 ?_
      refine lv_sipush (v := 514) hx hb d_M_split_61 (by decide) ?_
      refine lv_iload_n hx hb d_M_split_64 rfl (lv_at hl 1 rfl) ?_
      refine lv_imul hx hb d_M_split_65 ?_
      refine lv_iload hx hb d_M_split_66 (lv_at hl 4 rfl) ?_
      refine lv_iadd hx hb d_M_split_68 ?_
      refine lv_iload_n hx hb d_M_split_69 rfl (lv_at hl 3 rfl) ?_
      obtain ⟨hin, h⟩ := h
      refine va_iast hx hb hK hP hD hS 0 0 rfl rfl hin d_M_split_70 (fun H locs hP hD hS => ?_)
      have hP : va_P G vwCl [((ad 33), .inl (K 0, 1542, .inl (upd f_o_sample ((514 * x1) + l4).toNatClampNeg l3))), ((ad 31), .inl (K 0, 1542, .inl f_o_group)), ((ad 50), .inl (K 0, 514, .inl f_o_fresh))] H := hP
      have hD : va_D A [((ad 33), .inl (K 0, 1542, .inl (upd f_o_sample ((514 * x1) + l4).toNatClampNeg l3))), ((ad 31), .inl (K 0, 1542, .inl f_o_group)), ((ad 50), .inl (K 0, 514, .inl f_o_fresh))] := hD
      refine lv_iinc (v := (l2 + 1)) (lv' := [(2, .int (l2 + 1)), (0, .ref a0), (1, .int x1), (3, .int l3), (4, .int l4)]) hx hb d_M_split_71 hl (k := 2) rfl (by first | rfl | decide) (by decide) rfl (fun ls hl => ?_)
      refine lv_aload_n hx hb d_M_split_74 rfl (lv_at hl 1 rfl) ?_
      refine va_get (ci := 12) (v := .ref (ad 50)) hx hb htg in_M hown hK (gR hR rN hS) 0 rfl rfl 50 (by decide) (htg _ m_660) (fun _ h9 => h9) rfl d_M_split_75 ?_
      refine lv_iload_n hx hb d_M_split_78 rfl (lv_at hl 3 rfl) ?_
      refine lv_iload hx hb d_M_split_79 (lv_at hl 4 rfl) ?_
      obtain ⟨hin, h⟩ := h
      refine va_iast hx hb hK hP hD hS 2 0 rfl rfl hin d_M_split_81 (fun H locs hP hD hS => ?_)
      have hP : va_P G vwCl [((ad 33), .inl (K 0, 1542, .inl (upd f_o_sample ((514 * x1) + l4).toNatClampNeg l3))), ((ad 31), .inl (K 0, 1542, .inl f_o_group)), ((ad 50), .inl (K 0, 514, .inl (upd f_o_fresh l3.toNatClampNeg l4)))] H := hP
      have hD : va_D A [((ad 33), .inl (K 0, 1542, .inl (upd f_o_sample ((514 * x1) + l4).toNatClampNeg l3))), ((ad 31), .inl (K 0, 1542, .inl f_o_group)), ((ad 50), .inl (K 0, 514, .inl (upd f_o_fresh l3.toNatClampNeg l4)))] := hD
      refine lv_iinc (v := (l3 + 1)) (lv' := [(3, .int (l3 + 1)), (2, .int (l2 + 1)), (0, .ref a0), (1, .int x1), (4, .int l4)]) hx hb d_M_split_82 hl (k := 3) rfl (by first | rfl | decide) (by decide) rfl (fun ls hl => ?_)
      refine lv_goto (tgt := 4) hx hb d_M_split_85 (by decide) ?_
      exact hK_4 (l2 + 1) (l3 + 1) (upd f_o_sample ((514 * x1) + l4).toNatClampNeg l3) f_o_group (upd f_o_fresh l3.toNatClampNeg l4)  _ _ (hP.sub [0, 1, 2] rfl) (hD.sub [0, 1, 2] (by decide) rfl) hS _ (lv_sub hl [2, 3, 1, 0] rfl) h
  have C_17 : ∀ (K_4 : Int32 → Int32 → (Nat → Int32) → (Nat → Int32) → (Nat → Int32) → Prop) (hK_4 : ∀ (l2 : Int32) (l3 : Int32) (f_o_sample : (Nat → Int32)) (f_o_group : (Nat → Int32)) (f_o_fresh : (Nat → Int32)) (H : Heap) (locs : List Loc), va_P G vwCl [((ad 33), .inl (K 0, 1542, .inl f_o_sample)), ((ad 31), .inl (K 0, 1542, .inl f_o_group)), ((ad 50), .inl (K 0, 514, .inl f_o_fresh))] H → va_D A [((ad 33), .inl (K 0, 1542, .inl f_o_sample)), ((ad 31), .inl (K 0, 1542, .inl f_o_group)), ((ad 50), .inl (K 0, 514, .inl f_o_fresh))] → va_S A s.heap H locs → ∀ (ls : Array Slot), lv_has ls 5 [(0, .ref a0), (1, .int x1), (2, .int l2), (3, .int l3)] → K_4 l2 l3 f_o_sample f_o_group f_o_fresh → W p l e { frames := 2, cells := 0, slots := 0, locals := 50 } s m ([.ref a0, .int x1] : List Value).toArray below meth c H locs 0 0 Q (F0 m 4 ls [])) (n : Nat) (l2 : Int32) (l3 : Int32) (l4 : Int32) (f_o_sample : (Nat → Int32)) (f_o_group : (Nat → Int32)) (f_o_fresh : (Nat → Int32)) (H : Heap) (locs : List Loc), va_P G vwCl [((ad 33), .inl (K 0, 1542, .inl f_o_sample)), ((ad 31), .inl (K 0, 1542, .inl f_o_group)), ((ad 50), .inl (K 0, 514, .inl f_o_fresh))] H → va_D A [((ad 33), .inl (K 0, 1542, .inl f_o_sample)), ((ad 31), .inl (K 0, 1542, .inl f_o_group)), ((ad 50), .inl (K 0, 514, .inl f_o_fresh))] → va_S A s.heap H locs → ∀ (ls : Array Slot), lv_has ls 5 [(0, .ref a0), (1, .int x1), (2, .int l2), (3, .int l3), (4, .int l4)] → p_M_split_17 f_o_step x1 post K_4 n l2 l3 l4 f_o_sample f_o_group f_o_fresh → W p l e { frames := 2, cells := 0, slots := 0, locals := 50 } s m ([.ref a0, .int x1] : List Value).toArray below meth c H locs 0 0 Q (F0 m 17 ls []) := by
    intro K_4 hK_4
    intro n
    induction n with
    | zero =>
      intro l2 l3 l4 f_o_sample f_o_group f_o_fresh  H locs hP hD hS ls hl h
      exact False.elim h
    | succ n ih =>
      intro l2 l3 l4 f_o_sample f_o_group f_o_fresh  H locs hP hD hS ls hl h
      refine lv_iload hx hb d_M_split_17 (lv_at hl 4 rfl) ?_
      refine lv_iload_n hx hb d_M_split_19 rfl (lv_at hl 2 rfl) ?_
      refine lv_icmp_ge (tgt := 51) hx hb d_M_split_20 (by decide) (fun hc => ?_) (fun hc => ?_)
      · replace h := h.1 hc
        exact C_51 _ hK_4 l2 l3 l4 f_o_sample f_o_group f_o_fresh  _ _ (hP.sub [0, 1, 2] rfl) (hD.sub [0, 1, 2] (by decide) rfl) hS _ (lv_sub hl [0, 1, 2, 3, 4] rfl) h
      · replace h := h.2 hc
        refine lv_aload_n hx hb d_M_split_23 rfl (lv_at hl 0 rfl) ?_
        refine lv_iload_n hx hb d_M_split_24 rfl (lv_at hl 1 rfl) ?_
        refine lv_aload_n hx hb d_M_split_25 rfl (lv_at hl 0 rfl) ?_
        refine va_get (ci := 12) (v := .ref (ad 33)) hx hb htg in_M hown hK (gR hR rN hS) 0 rfl rfl 33 (by decide) (htg _ m_643) (fun _ h9 => h9) rfl d_M_split_26 ?_
        refine lv_sipush (v := 514) hx hb d_M_split_29 (by decide) ?_
        refine lv_iload_n hx hb d_M_split_32 rfl (lv_at hl 1 rfl) ?_
        refine lv_imul hx hb d_M_split_33 ?_
        refine lv_iload hx hb d_M_split_34 (lv_at hl 4 rfl) ?_
        refine lv_iadd hx hb d_M_split_36 ?_
        obtain ⟨hin, h⟩ := h
        refine va_iald hx hb hK hP 0 0 rfl rfl hin d_M_split_37 ?_
        refine lv_iload_n hx hb d_M_split_38 rfl (lv_at hl 3 rfl) ?_
        have hPc : va_P G vwCl [(a0, .inr (12, oM v_o_code v_o_typed v_o_rules v_o_at v_o_read v_o_depth v_o_wrong v_o_there v_o_ended v_o_mode v_o_kept v_o_came v_o_pending v_o_looked v_o_tokens v_o_oldest ad)), ((ad 31), .inl (K 0, 1542, .inl f_o_group)), ((ad 30), .inl (K 0, 9252, .inl f_o_step))] _ := (hP.app (gR hR rN hS)).sub [3, 1, 5] rfl
        refine vp_callSi (va_Run.run (va_runV (As := [.int x1, .int (f_o_sample ((514 * x1) + l4).toNatClampNeg), .int l3]) (rest := []) ⟨hx, hb, hml, hown, htg⟩ (k_M_alike l G K a0 ad v_o_code v_o_typed v_o_rules v_o_at v_o_read v_o_depth v_o_wrong v_o_there v_o_ended v_o_mode v_o_kept v_o_came v_o_pending v_o_looked v_o_tokens v_o_oldest f_o_group f_o_step x1 (f_o_sample ((514 * x1) + l4).toNatClampNeg) l3 _ h) (cwV 3 htg (gGoodV m_746 m_747 m_876 m_13 m_748) rfl rfl rfl (by decide +kernel) ⟨(Nat.le_of_ble_eq_true rfl), (Nat.le_of_ble_eq_true rfl)⟩) (gS_preV (ci := 12) (q0 := 0) hK hN hPc rfl rfl) rfl rfl hl.1 rfl (lv_room (Nat.le_of_ble_eq_true rfl)) d_M_split_39 ⟨(Nat.le_of_ble_eq_true rfl), (Nat.le_of_ble_eq_true rfl)⟩)) (fun r2701 h => ?_)
        refine lv_if_ne (tgt := 51) hx hb d_M_split_42 (by decide) (fun hc => ?_) (fun hc => ?_)
        · replace h := h.1 hc
          exact C_51 _ hK_4 l2 l3 l4 f_o_sample f_o_group f_o_fresh  _ _ (hP.sub [0, 1, 2] rfl) (hD.sub [0, 1, 2] (by decide) rfl) hS _ (lv_sub hl [0, 1, 2, 3, 4] rfl) h
        · replace h := h.2 hc
          refine lv_iinc (v := (l4 + 1)) (lv' := [(4, .int (l4 + 1)), (0, .ref a0), (1, .int x1), (2, .int l2), (3, .int l3)]) hx hb d_M_split_45 hl (k := 4) rfl (by first | rfl | decide) (by decide) rfl (fun ls hl => ?_)
          refine lv_goto (tgt := 17) hx hb d_M_split_48 (by decide) ?_
          exact ih l2 l3 (l4 + 1) f_o_sample f_o_group f_o_fresh  _ _ (hP.sub [0, 1, 2] rfl) (hD.sub [0, 1, 2] (by decide) rfl) hS _ (lv_sub hl [1, 2, 3, 4, 0] rfl) h
  have C_4 : ∀ (n : Nat) (l2 : Int32) (l3 : Int32) (f_o_sample : (Nat → Int32)) (f_o_group : (Nat → Int32)) (f_o_fresh : (Nat → Int32)) (H : Heap) (locs : List Loc), va_P G vwCl [((ad 33), .inl (K 0, 1542, .inl f_o_sample)), ((ad 31), .inl (K 0, 1542, .inl f_o_group)), ((ad 50), .inl (K 0, 514, .inl f_o_fresh))] H → va_D A [((ad 33), .inl (K 0, 1542, .inl f_o_sample)), ((ad 31), .inl (K 0, 1542, .inl f_o_group)), ((ad 50), .inl (K 0, 514, .inl f_o_fresh))] → va_S A s.heap H locs → ∀ (ls : Array Slot), lv_has ls 5 [(0, .ref a0), (1, .int x1), (2, .int l2), (3, .int l3)] → p_M_split_4 f_o_nodes f_o_step x1 post n l2 l3 f_o_sample f_o_group f_o_fresh → W p l e { frames := 2, cells := 0, slots := 0, locals := 50 } s m ([.ref a0, .int x1] : List Value).toArray below meth c H locs 0 0 Q (F0 m 4 ls []) := by
    intro n
    induction n with
    | zero =>
      intro l2 l3 f_o_sample f_o_group f_o_fresh  H locs hP hD hS ls hl h
      exact False.elim h
    | succ n ih =>
      intro l2 l3 f_o_sample f_o_group f_o_fresh  H locs hP hD hS ls hl h
      refine lv_iload_n hx hb d_M_split_4 rfl (lv_at hl 3 rfl) ?_
      refine lv_aload_n hx hb d_M_split_5 rfl (lv_at hl 0 rfl) ?_
      refine va_get (ci := 12) (v := .ref (ad 28)) hx hb htg in_M hown hK (gR hR rN hS) 0 rfl rfl 28 (by decide) (htg _ m_638) (fun _ h9 => h9) rfl d_M_split_6 ?_
      refine lv_iload_n hx hb d_M_split_9 rfl (lv_at hl 1 rfl) ?_
      obtain ⟨hin, h⟩ := h
      refine va_iald hx hb hK (gR hR rN hS) 1 0 rfl rfl hin d_M_split_10 ?_
      refine lv_icmp_ge (tgt := 88) hx hb d_M_split_11 (by decide) (fun hc => ?_) (fun hc => ?_)
      · replace h := h.1 hc
        exact C_88 l2 f_o_sample f_o_group f_o_fresh  _ _ (hP.sub [0, 1, 2] rfl) (hD.sub [0, 1, 2] (by decide) rfl) hS _ (lv_sub hl [0, 1, 2] rfl) h
      · replace h := h.2 hc
        refine lv_iconst (v := 0) hx hb d_M_split_14 (by decide) ?_
        refine lv_istore (lv' := [(4, .int 0), (0, .ref a0), (1, .int x1), (2, .int l2), (3, .int l3)]) hx hb d_M_split_15 hl (by decide) rfl (fun ls hl => ?_)
        obtain ⟨k, h⟩ := h
        exact C_17 _ ih k l2 l3 0 f_o_sample f_o_group f_o_fresh  _ _ (hP.sub [0, 1, 2] rfl) (hD.sub [0, 1, 2] (by decide) rfl) hS _ (lv_sub hl [1, 2, 3, 4, 0] rfl) h
  refine lv_iconst (v := 0) hx hb d_M_split_0 (by decide) ?_
  refine lv_istore_n (lv' := [(2, .int 0), (0, .ref a0), (1, .int x1)]) hx hb d_M_split_1 rfl hl (by decide) rfl (fun ls hl => ?_)
  refine lv_iconst (v := 0) hx hb d_M_split_2 (by decide) ?_
  refine lv_istore_n (lv' := [(3, .int 0), (2, .int 0), (0, .ref a0), (1, .int x1)]) hx hb d_M_split_3 rfl hl (by decide) rfl (fun ls hl => ?_)
  obtain ⟨k, h⟩ := h
  exact C_4 k 0 0 f_o_sample f_o_group f_o_fresh  _ _ (hP.sub [0, 1, 2] rfl) (hD.sub [0, 1, 2] (by decide) rfl) hS _ (lv_sub hl [2, 3, 1, 0] rfl) h
