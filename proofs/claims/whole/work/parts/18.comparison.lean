theorem d_Comparison_init_0 : decode c_Comparison_init 0 = .ok (.aload_n 0, 1) := by decide +kernel
theorem d_Comparison_init_1 : decode c_Comparison_init 1 = .ok (.invokespecial 5, 3) := by decide +kernel
theorem d_Comparison_init_4 : decode c_Comparison_init 4 = .ok (.aload_n 0, 1) := by decide +kernel
theorem d_Comparison_init_5 : decode c_Comparison_init 5 = .ok (.sipush 1026, 3) := by decide +kernel
theorem d_Comparison_init_8 : decode c_Comparison_init 8 = .ok (.newarray .int, 2) := by decide +kernel
theorem d_Comparison_init_10 : decode c_Comparison_init 10 = .ok (.putfield 11, 3) := by decide +kernel
theorem d_Comparison_init_13 : decode c_Comparison_init 13 = .ok (.aload_n 0, 1) := by decide +kernel
theorem d_Comparison_init_14 : decode c_Comparison_init 14 = .ok (.sipush 1027, 3) := by decide +kernel
theorem d_Comparison_init_17 : decode c_Comparison_init 17 = .ok (.newarray .int, 2) := by decide +kernel
theorem d_Comparison_init_19 : decode c_Comparison_init 19 = .ok (.putfield 15, 3) := by decide +kernel
theorem d_Comparison_init_22 : decode c_Comparison_init 22 = .ok (.aload_n 0, 1) := by decide +kernel
theorem d_Comparison_init_23 : decode c_Comparison_init 23 = .ok (.sipush 1027, 3) := by decide +kernel
theorem d_Comparison_init_26 : decode c_Comparison_init 26 = .ok (.newarray .int, 2) := by decide +kernel
theorem d_Comparison_init_28 : decode c_Comparison_init 28 = .ok (.putfield 18, 3) := by decide +kernel
theorem d_Comparison_init_31 : decode c_Comparison_init 31 = .ok (.aload_n 0, 1) := by decide +kernel
theorem d_Comparison_init_32 : decode c_Comparison_init 32 = .ok (.sipush 1027, 3) := by decide +kernel
theorem d_Comparison_init_35 : decode c_Comparison_init 35 = .ok (.newarray .int, 2) := by decide +kernel
theorem d_Comparison_init_37 : decode c_Comparison_init 37 = .ok (.putfield 21, 3) := by decide +kernel
theorem d_Comparison_init_40 : decode c_Comparison_init 40 = .ok (.aload_n 0, 1) := by decide +kernel
theorem d_Comparison_init_41 : decode c_Comparison_init 41 = .ok (.sipush 1027, 3) := by decide +kernel
theorem d_Comparison_init_44 : decode c_Comparison_init 44 = .ok (.newarray .int, 2) := by decide +kernel
theorem d_Comparison_init_46 : decode c_Comparison_init 46 = .ok (.putfield 24, 3) := by decide +kernel
theorem d_Comparison_init_49 : decode c_Comparison_init 49 = .ok (.aload_n 0, 1) := by decide +kernel
theorem d_Comparison_init_50 : decode c_Comparison_init 50 = .ok (.iconst 0, 1) := by decide +kernel
theorem d_Comparison_init_51 : decode c_Comparison_init 51 = .ok (.putfield 27, 3) := by decide +kernel
theorem d_Comparison_init_54 : decode c_Comparison_init 54 = .ok (.aload_n 0, 1) := by decide +kernel
theorem d_Comparison_init_55 : decode c_Comparison_init 55 = .ok (.iconst (-1), 1) := by decide +kernel
theorem d_Comparison_init_56 : decode c_Comparison_init 56 = .ok (.putfield 31, 3) := by decide +kernel
theorem d_Comparison_init_59 : decode c_Comparison_init 59 = .ok (.aload_n 0, 1) := by decide +kernel
theorem d_Comparison_init_60 : decode c_Comparison_init 60 = .ok (.iconst (-1), 1) := by decide +kernel
theorem d_Comparison_init_61 : decode c_Comparison_init 61 = .ok (.putfield 34, 3) := by decide +kernel
theorem d_Comparison_init_64 : decode c_Comparison_init 64 = .ok (.aload_n 0, 1) := by decide +kernel
theorem d_Comparison_init_65 : decode c_Comparison_init 65 = .ok (.iconst (-1), 1) := by decide +kernel
theorem d_Comparison_init_66 : decode c_Comparison_init 66 = .ok (.putfield 37, 3) := by decide +kernel
theorem d_Comparison_init_69 : decode c_Comparison_init 69 = .ok (.return_, 1) := by decide +kernel
theorem d_Comparison_isOf_0 : decode c_Comparison_isOf 0 = .ok (.aload_n 0, 1) := by decide +kernel
theorem d_Comparison_isOf_1 : decode c_Comparison_isOf 1 = .ok (.getfield 34, 3) := by decide +kernel
theorem d_Comparison_isOf_4 : decode c_Comparison_isOf 4 = .ok (.iload_n 1, 1) := by decide +kernel
theorem d_Comparison_isOf_5 : decode c_Comparison_isOf 5 = .ok (.if_icmp .ne 15, 3) := by decide +kernel
theorem d_Comparison_isOf_8 : decode c_Comparison_isOf 8 = .ok (.aload_n 0, 1) := by decide +kernel
theorem d_Comparison_isOf_9 : decode c_Comparison_isOf 9 = .ok (.getfield 37, 3) := by decide +kernel
theorem d_Comparison_isOf_12 : decode c_Comparison_isOf 12 = .ok (.iload_n 2, 1) := by decide +kernel
theorem d_Comparison_isOf_13 : decode c_Comparison_isOf 13 = .ok (.if_icmp .ne 7, 3) := by decide +kernel
theorem d_Comparison_isOf_16 : decode c_Comparison_isOf 16 = .ok (.iconst 1, 1) := by decide +kernel
theorem d_Comparison_isOf_17 : decode c_Comparison_isOf 17 = .ok (.goto 4, 3) := by decide +kernel
theorem d_Comparison_isOf_20 : decode c_Comparison_isOf 20 = .ok (.iconst 0, 1) := by decide +kernel
theorem d_Comparison_isOf_21 : decode c_Comparison_isOf 21 = .ok (.ireturn, 1) := by decide +kernel
theorem d_Comparison_keepFor_0 : decode c_Comparison_keepFor 0 = .ok (.aload_n 0, 1) := by decide +kernel
theorem d_Comparison_keepFor_1 : decode c_Comparison_keepFor 1 = .ok (.iload_n 1, 1) := by decide +kernel
theorem d_Comparison_keepFor_2 : decode c_Comparison_keepFor 2 = .ok (.putfield 34, 3) := by decide +kernel
theorem d_Comparison_keepFor_5 : decode c_Comparison_keepFor 5 = .ok (.aload_n 0, 1) := by decide +kernel
theorem d_Comparison_keepFor_6 : decode c_Comparison_keepFor 6 = .ok (.iload_n 2, 1) := by decide +kernel
theorem d_Comparison_keepFor_7 : decode c_Comparison_keepFor 7 = .ok (.putfield 37, 3) := by decide +kernel
theorem d_Comparison_keepFor_10 : decode c_Comparison_keepFor 10 = .ok (.return_, 1) := by decide +kernel
theorem d_Comparison_forget_0 : decode c_Comparison_forget 0 = .ok (.aload_n 0, 1) := by decide +kernel
theorem d_Comparison_forget_1 : decode c_Comparison_forget 1 = .ok (.iconst (-1), 1) := by decide +kernel
theorem d_Comparison_forget_2 : decode c_Comparison_forget 2 = .ok (.iconst (-1), 1) := by decide +kernel
theorem d_Comparison_forget_3 : decode c_Comparison_forget 3 = .ok (.invokevirtual 40, 3) := by decide +kernel
theorem d_Comparison_forget_6 : decode c_Comparison_forget 6 = .ok (.return_, 1) := by decide +kernel
theorem d_Comparison_length_0 : decode c_Comparison_length 0 = .ok (.aload_n 0, 1) := by decide +kernel
theorem d_Comparison_length_1 : decode c_Comparison_length 1 = .ok (.getfield 31, 3) := by decide +kernel
theorem d_Comparison_length_4 : decode c_Comparison_length 4 = .ok (.ireturn, 1) := by decide +kernel
theorem d_Comparison_letterAt_0 : decode c_Comparison_letterAt 0 = .ok (.iload_n 1, 1) := by decide +kernel
theorem d_Comparison_letterAt_1 : decode c_Comparison_letterAt 1 = .ok (.ifCond .lt 11, 3) := by decide +kernel
theorem d_Comparison_letterAt_4 : decode c_Comparison_letterAt 4 = .ok (.iload_n 1, 1) := by decide +kernel
theorem d_Comparison_letterAt_5 : decode c_Comparison_letterAt 5 = .ok (.aload_n 0, 1) := by decide +kernel
theorem d_Comparison_letterAt_6 : decode c_Comparison_letterAt 6 = .ok (.getfield 31, 3) := by decide +kernel
theorem d_Comparison_letterAt_9 : decode c_Comparison_letterAt 9 = .ok (.if_icmp .lt 5, 3) := by decide +kernel
theorem d_Comparison_letterAt_12 : decode c_Comparison_letterAt 12 = .ok (.iconst (-1), 1) := by decide +kernel
theorem d_Comparison_letterAt_13 : decode c_Comparison_letterAt 13 = .ok (.ireturn, 1) := by decide +kernel
theorem d_Comparison_letterAt_14 : decode c_Comparison_letterAt 14 = .ok (.aload_n 0, 1) := by decide +kernel
theorem d_Comparison_letterAt_15 : decode c_Comparison_letterAt 15 = .ok (.getfield 27, 3) := by decide +kernel
theorem d_Comparison_letterAt_18 : decode c_Comparison_letterAt 18 = .ok (.iconst 1, 1) := by decide +kernel
theorem d_Comparison_letterAt_19 : decode c_Comparison_letterAt 19 = .ok (.isub, 1) := by decide +kernel
theorem d_Comparison_letterAt_20 : decode c_Comparison_letterAt 20 = .ok (.istore_n 2, 1) := by decide +kernel
theorem d_Comparison_letterAt_21 : decode c_Comparison_letterAt 21 = .ok (.aload_n 0, 1) := by decide +kernel
theorem d_Comparison_letterAt_22 : decode c_Comparison_letterAt 22 = .ok (.getfield 31, 3) := by decide +kernel
theorem d_Comparison_letterAt_25 : decode c_Comparison_letterAt 25 = .ok (.iconst 1, 1) := by decide +kernel
theorem d_Comparison_letterAt_26 : decode c_Comparison_letterAt 26 = .ok (.isub, 1) := by decide +kernel
theorem d_Comparison_letterAt_27 : decode c_Comparison_letterAt 27 = .ok (.istore_n 3, 1) := by decide +kernel
theorem d_Comparison_letterAt_28 : decode c_Comparison_letterAt 28 = .ok (.iload_n 3, 1) := by decide +kernel
theorem d_Comparison_letterAt_29 : decode c_Comparison_letterAt 29 = .ok (.iload_n 1, 1) := by decide +kernel
theorem d_Comparison_letterAt_30 : decode c_Comparison_letterAt 30 = .ok (.if_icmp .le 16, 3) := by decide +kernel
theorem d_Comparison_letterAt_33 : decode c_Comparison_letterAt 33 = .ok (.aload_n 0, 1) := by decide +kernel
theorem d_Comparison_letterAt_34 : decode c_Comparison_letterAt 34 = .ok (.getfield 21, 3) := by decide +kernel
theorem d_Comparison_letterAt_37 : decode c_Comparison_letterAt 37 = .ok (.iload_n 2, 1) := by decide +kernel
theorem d_Comparison_letterAt_38 : decode c_Comparison_letterAt 38 = .ok (.iaload, 1) := by decide +kernel
theorem d_Comparison_letterAt_39 : decode c_Comparison_letterAt 39 = .ok (.istore_n 2, 1) := by decide +kernel
theorem d_Comparison_letterAt_40 : decode c_Comparison_letterAt 40 = .ok (.iinc 3 (-1), 3) := by decide +kernel
theorem d_Comparison_letterAt_43 : decode c_Comparison_letterAt 43 = .ok (.goto (-15), 3) := by decide +kernel
theorem d_Comparison_letterAt_46 : decode c_Comparison_letterAt 46 = .ok (.aload_n 0, 1) := by decide +kernel
theorem d_Comparison_letterAt_47 : decode c_Comparison_letterAt 47 = .ok (.getfield 24, 3) := by decide +kernel
theorem d_Comparison_letterAt_50 : decode c_Comparison_letterAt 50 = .ok (.iload_n 2, 1) := by decide +kernel
theorem d_Comparison_letterAt_51 : decode c_Comparison_letterAt 51 = .ok (.iaload, 1) := by decide +kernel
theorem d_Comparison_letterAt_52 : decode c_Comparison_letterAt 52 = .ok (.ireturn, 1) := by decide +kernel
theorem d_Comparison_leftNode_0 : decode c_Comparison_leftNode 0 = .ok (.iload_n 0, 1) := by decide +kernel
theorem d_Comparison_leftNode_1 : decode c_Comparison_leftNode 1 = .ok (.iconst 1, 1) := by decide +kernel
theorem d_Comparison_leftNode_2 : decode c_Comparison_leftNode 2 = .ok (.iadd, 1) := by decide +kernel
theorem d_Comparison_leftNode_3 : decode c_Comparison_leftNode 3 = .ok (.ireturn, 1) := by decide +kernel
theorem d_Comparison_rightNode_0 : decode c_Comparison_rightNode 0 = .ok (.iload_n 0, 1) := by decide +kernel
theorem d_Comparison_rightNode_1 : decode c_Comparison_rightNode 1 = .ok (.iconst 1, 1) := by decide +kernel
theorem d_Comparison_rightNode_2 : decode c_Comparison_rightNode 2 = .ok (.iadd, 1) := by decide +kernel
theorem d_Comparison_rightNode_3 : decode c_Comparison_rightNode 3 = .ok (.sipush 512, 3) := by decide +kernel
theorem d_Comparison_rightNode_6 : decode c_Comparison_rightNode 6 = .ok (.iadd, 1) := by decide +kernel
theorem d_Comparison_rightNode_7 : decode c_Comparison_rightNode 7 = .ok (.iconst 1, 1) := by decide +kernel
theorem d_Comparison_rightNode_8 : decode c_Comparison_rightNode 8 = .ok (.iadd, 1) := by decide +kernel
theorem d_Comparison_rightNode_9 : decode c_Comparison_rightNode 9 = .ok (.ireturn, 1) := by decide +kernel
theorem d_Comparison_leaderOf_0 : decode c_Comparison_leaderOf 0 = .ok (.iload_n 1, 1) := by decide +kernel
theorem d_Comparison_leaderOf_1 : decode c_Comparison_leaderOf 1 = .ok (.istore_n 2, 1) := by decide +kernel
theorem d_Comparison_leaderOf_2 : decode c_Comparison_leaderOf 2 = .ok (.iconst 0, 1) := by decide +kernel
theorem d_Comparison_leaderOf_3 : decode c_Comparison_leaderOf 3 = .ok (.istore_n 3, 1) := by decide +kernel
theorem d_Comparison_leaderOf_4 : decode c_Comparison_leaderOf 4 = .ok (.iload_n 3, 1) := by decide +kernel
theorem d_Comparison_leaderOf_5 : decode c_Comparison_leaderOf 5 = .ok (.sipush 1026, 3) := by decide +kernel
theorem d_Comparison_leaderOf_8 : decode c_Comparison_leaderOf 8 = .ok (.if_icmp .ge 43, 3) := by decide +kernel
theorem d_Comparison_leaderOf_11 : decode c_Comparison_leaderOf 11 = .ok (.aload_n 0, 1) := by decide +kernel
theorem d_Comparison_leaderOf_12 : decode c_Comparison_leaderOf 12 = .ok (.getfield 11, 3) := by decide +kernel
theorem d_Comparison_leaderOf_15 : decode c_Comparison_leaderOf 15 = .ok (.iload_n 2, 1) := by decide +kernel
theorem d_Comparison_leaderOf_16 : decode c_Comparison_leaderOf 16 = .ok (.iaload, 1) := by decide +kernel
theorem d_Comparison_leaderOf_17 : decode c_Comparison_leaderOf 17 = .ok (.iload_n 2, 1) := by decide +kernel
theorem d_Comparison_leaderOf_18 : decode c_Comparison_leaderOf 18 = .ok (.if_icmp .eq 33, 3) := by decide +kernel
theorem d_Comparison_leaderOf_21 : decode c_Comparison_leaderOf 21 = .ok (.aload_n 0, 1) := by decide +kernel
theorem d_Comparison_leaderOf_22 : decode c_Comparison_leaderOf 22 = .ok (.getfield 11, 3) := by decide +kernel
theorem d_Comparison_leaderOf_25 : decode c_Comparison_leaderOf 25 = .ok (.iload_n 2, 1) := by decide +kernel
theorem d_Comparison_leaderOf_26 : decode c_Comparison_leaderOf 26 = .ok (.aload_n 0, 1) := by decide +kernel
theorem d_Comparison_leaderOf_27 : decode c_Comparison_leaderOf 27 = .ok (.getfield 11, 3) := by decide +kernel
theorem d_Comparison_leaderOf_30 : decode c_Comparison_leaderOf 30 = .ok (.aload_n 0, 1) := by decide +kernel
theorem d_Comparison_leaderOf_31 : decode c_Comparison_leaderOf 31 = .ok (.getfield 11, 3) := by decide +kernel
theorem d_Comparison_leaderOf_34 : decode c_Comparison_leaderOf 34 = .ok (.iload_n 2, 1) := by decide +kernel
theorem d_Comparison_leaderOf_35 : decode c_Comparison_leaderOf 35 = .ok (.iaload, 1) := by decide +kernel
theorem d_Comparison_leaderOf_36 : decode c_Comparison_leaderOf 36 = .ok (.iaload, 1) := by decide +kernel
theorem d_Comparison_leaderOf_37 : decode c_Comparison_leaderOf 37 = .ok (.iastore, 1) := by decide +kernel
theorem d_Comparison_leaderOf_38 : decode c_Comparison_leaderOf 38 = .ok (.aload_n 0, 1) := by decide +kernel
theorem d_Comparison_leaderOf_39 : decode c_Comparison_leaderOf 39 = .ok (.getfield 11, 3) := by decide +kernel
theorem d_Comparison_leaderOf_42 : decode c_Comparison_leaderOf 42 = .ok (.iload_n 2, 1) := by decide +kernel
theorem d_Comparison_leaderOf_43 : decode c_Comparison_leaderOf 43 = .ok (.iaload, 1) := by decide +kernel
theorem d_Comparison_leaderOf_44 : decode c_Comparison_leaderOf 44 = .ok (.istore_n 2, 1) := by decide +kernel
theorem d_Comparison_leaderOf_45 : decode c_Comparison_leaderOf 45 = .ok (.iinc 3 1, 3) := by decide +kernel
theorem d_Comparison_leaderOf_48 : decode c_Comparison_leaderOf 48 = .ok (.goto (-44), 3) := by decide +kernel
theorem d_Comparison_leaderOf_51 : decode c_Comparison_leaderOf 51 = .ok (.iload_n 2, 1) := by decide +kernel
theorem d_Comparison_leaderOf_52 : decode c_Comparison_leaderOf 52 = .ok (.ireturn, 1) := by decide +kernel
theorem d_Comparison_tie_0 : decode c_Comparison_tie 0 = .ok (.aload_n 0, 1) := by decide +kernel
theorem d_Comparison_tie_1 : decode c_Comparison_tie 1 = .ok (.iload_n 1, 1) := by decide +kernel
theorem d_Comparison_tie_2 : decode c_Comparison_tie 2 = .ok (.invokevirtual 77, 3) := by decide +kernel
theorem d_Comparison_tie_5 : decode c_Comparison_tie 5 = .ok (.istore_n 3, 1) := by decide +kernel
theorem d_Comparison_tie_6 : decode c_Comparison_tie 6 = .ok (.aload_n 0, 1) := by decide +kernel
theorem d_Comparison_tie_7 : decode c_Comparison_tie 7 = .ok (.iload_n 2, 1) := by decide +kernel
theorem d_Comparison_tie_8 : decode c_Comparison_tie 8 = .ok (.invokevirtual 77, 3) := by decide +kernel
theorem d_Comparison_tie_11 : decode c_Comparison_tie 11 = .ok (.istore 4, 2) := by decide +kernel
theorem d_Comparison_tie_13 : decode c_Comparison_tie 13 = .ok (.aload_n 0, 1) := by decide +kernel
theorem d_Comparison_tie_14 : decode c_Comparison_tie 14 = .ok (.getfield 11, 3) := by decide +kernel
theorem d_Comparison_tie_17 : decode c_Comparison_tie 17 = .ok (.iload_n 3, 1) := by decide +kernel
theorem d_Comparison_tie_18 : decode c_Comparison_tie 18 = .ok (.iload 4, 2) := by decide +kernel
theorem d_Comparison_tie_20 : decode c_Comparison_tie 20 = .ok (.iastore, 1) := by decide +kernel
theorem d_Comparison_tie_21 : decode c_Comparison_tie 21 = .ok (.iload_n 3, 1) := by decide +kernel
theorem d_Comparison_tie_22 : decode c_Comparison_tie 22 = .ok (.iload 4, 2) := by decide +kernel
theorem d_Comparison_tie_24 : decode c_Comparison_tie 24 = .ok (.if_icmp .eq 7, 3) := by decide +kernel
theorem d_Comparison_tie_27 : decode c_Comparison_tie 27 = .ok (.iconst 1, 1) := by decide +kernel
theorem d_Comparison_tie_28 : decode c_Comparison_tie 28 = .ok (.goto 4, 3) := by decide +kernel
theorem d_Comparison_tie_31 : decode c_Comparison_tie 31 = .ok (.iconst 0, 1) := by decide +kernel
theorem d_Comparison_tie_32 : decode c_Comparison_tie 32 = .ok (.ireturn, 1) := by decide +kernel
theorem d_Comparison_add_0 : decode c_Comparison_add 0 = .ok (.aload_n 0, 1) := by decide +kernel
theorem d_Comparison_add_1 : decode c_Comparison_add 1 = .ok (.getfield 15, 3) := by decide +kernel
theorem d_Comparison_add_4 : decode c_Comparison_add 4 = .ok (.aload_n 0, 1) := by decide +kernel
theorem d_Comparison_add_5 : decode c_Comparison_add 5 = .ok (.getfield 27, 3) := by decide +kernel
theorem d_Comparison_add_8 : decode c_Comparison_add 8 = .ok (.iload_n 1, 1) := by decide +kernel
theorem d_Comparison_add_9 : decode c_Comparison_add 9 = .ok (.iastore, 1) := by decide +kernel
theorem d_Comparison_add_10 : decode c_Comparison_add 10 = .ok (.aload_n 0, 1) := by decide +kernel
theorem d_Comparison_add_11 : decode c_Comparison_add 11 = .ok (.getfield 18, 3) := by decide +kernel
theorem d_Comparison_add_14 : decode c_Comparison_add 14 = .ok (.aload_n 0, 1) := by decide +kernel
theorem d_Comparison_add_15 : decode c_Comparison_add 15 = .ok (.getfield 27, 3) := by decide +kernel
theorem d_Comparison_add_18 : decode c_Comparison_add 18 = .ok (.iload_n 2, 1) := by decide +kernel
theorem d_Comparison_add_19 : decode c_Comparison_add 19 = .ok (.iastore, 1) := by decide +kernel
theorem d_Comparison_add_20 : decode c_Comparison_add 20 = .ok (.aload_n 0, 1) := by decide +kernel
theorem d_Comparison_add_21 : decode c_Comparison_add 21 = .ok (.getfield 21, 3) := by decide +kernel
theorem d_Comparison_add_24 : decode c_Comparison_add 24 = .ok (.aload_n 0, 1) := by decide +kernel
theorem d_Comparison_add_25 : decode c_Comparison_add 25 = .ok (.getfield 27, 3) := by decide +kernel
theorem d_Comparison_add_28 : decode c_Comparison_add 28 = .ok (.iload_n 3, 1) := by decide +kernel
theorem d_Comparison_add_29 : decode c_Comparison_add 29 = .ok (.iastore, 1) := by decide +kernel
theorem d_Comparison_add_30 : decode c_Comparison_add 30 = .ok (.aload_n 0, 1) := by decide +kernel
theorem d_Comparison_add_31 : decode c_Comparison_add 31 = .ok (.getfield 24, 3) := by decide +kernel
theorem d_Comparison_add_34 : decode c_Comparison_add 34 = .ok (.aload_n 0, 1) := by decide +kernel
theorem d_Comparison_add_35 : decode c_Comparison_add 35 = .ok (.getfield 27, 3) := by decide +kernel
theorem d_Comparison_add_38 : decode c_Comparison_add 38 = .ok (.iload 4, 2) := by decide +kernel
theorem d_Comparison_add_40 : decode c_Comparison_add 40 = .ok (.iastore, 1) := by decide +kernel
theorem d_Comparison_add_41 : decode c_Comparison_add 41 = .ok (.aload_n 0, 1) := by decide +kernel
theorem d_Comparison_add_42 : decode c_Comparison_add 42 = .ok (.dup, 1) := by decide +kernel
theorem d_Comparison_add_43 : decode c_Comparison_add 43 = .ok (.getfield 27, 3) := by decide +kernel
theorem d_Comparison_add_46 : decode c_Comparison_add 46 = .ok (.iconst 1, 1) := by decide +kernel
theorem d_Comparison_add_47 : decode c_Comparison_add 47 = .ok (.iadd, 1) := by decide +kernel
theorem d_Comparison_add_48 : decode c_Comparison_add 48 = .ok (.putfield 27, 3) := by decide +kernel
theorem d_Comparison_add_51 : decode c_Comparison_add 51 = .ok (.return_, 1) := by decide +kernel
theorem d_Comparison_lengthOfLast_0 : decode c_Comparison_lengthOfLast 0 = .ok (.iconst 0, 1) := by decide +kernel
theorem d_Comparison_lengthOfLast_1 : decode c_Comparison_lengthOfLast 1 = .ok (.istore_n 1, 1) := by decide +kernel
theorem d_Comparison_lengthOfLast_2 : decode c_Comparison_lengthOfLast 2 = .ok (.aload_n 0, 1) := by decide +kernel
theorem d_Comparison_lengthOfLast_3 : decode c_Comparison_lengthOfLast 3 = .ok (.getfield 27, 3) := by decide +kernel
theorem d_Comparison_lengthOfLast_6 : decode c_Comparison_lengthOfLast 6 = .ok (.iconst 1, 1) := by decide +kernel
theorem d_Comparison_lengthOfLast_7 : decode c_Comparison_lengthOfLast 7 = .ok (.isub, 1) := by decide +kernel
theorem d_Comparison_lengthOfLast_8 : decode c_Comparison_lengthOfLast 8 = .ok (.istore_n 2, 1) := by decide +kernel
theorem d_Comparison_lengthOfLast_9 : decode c_Comparison_lengthOfLast 9 = .ok (.iload_n 2, 1) := by decide +kernel
theorem d_Comparison_lengthOfLast_10 : decode c_Comparison_lengthOfLast 10 = .ok (.ifCond .le 23, 3) := by decide +kernel
theorem d_Comparison_lengthOfLast_13 : decode c_Comparison_lengthOfLast 13 = .ok (.iload_n 1, 1) := by decide +kernel
theorem d_Comparison_lengthOfLast_14 : decode c_Comparison_lengthOfLast 14 = .ok (.sipush 1027, 3) := by decide +kernel
theorem d_Comparison_lengthOfLast_17 : decode c_Comparison_lengthOfLast 17 = .ok (.if_icmp .ge 16, 3) := by decide +kernel
theorem d_Comparison_lengthOfLast_20 : decode c_Comparison_lengthOfLast 20 = .ok (.iinc 1 1, 3) := by decide +kernel
theorem d_Comparison_lengthOfLast_23 : decode c_Comparison_lengthOfLast 23 = .ok (.aload_n 0, 1) := by decide +kernel
theorem d_Comparison_lengthOfLast_24 : decode c_Comparison_lengthOfLast 24 = .ok (.getfield 21, 3) := by decide +kernel
theorem d_Comparison_lengthOfLast_27 : decode c_Comparison_lengthOfLast 27 = .ok (.iload_n 2, 1) := by decide +kernel
theorem d_Comparison_lengthOfLast_28 : decode c_Comparison_lengthOfLast 28 = .ok (.iaload, 1) := by decide +kernel
theorem d_Comparison_lengthOfLast_29 : decode c_Comparison_lengthOfLast 29 = .ok (.istore_n 2, 1) := by decide +kernel
theorem d_Comparison_lengthOfLast_30 : decode c_Comparison_lengthOfLast 30 = .ok (.goto (-21), 3) := by decide +kernel
theorem d_Comparison_lengthOfLast_33 : decode c_Comparison_lengthOfLast 33 = .ok (.iload_n 1, 1) := by decide +kernel
theorem d_Comparison_lengthOfLast_34 : decode c_Comparison_lengthOfLast 34 = .ok (.ireturn, 1) := by decide +kernel
theorem d_Comparison_findsDifference_0 : decode c_Comparison_findsDifference 0 = .ok (.iconst 0, 1) := by decide +kernel
theorem d_Comparison_findsDifference_1 : decode c_Comparison_findsDifference 1 = .ok (.istore 4, 2) := by decide +kernel
theorem d_Comparison_findsDifference_3 : decode c_Comparison_findsDifference 3 = .ok (.iload 4, 2) := by decide +kernel
theorem d_Comparison_findsDifference_5 : decode c_Comparison_findsDifference 5 = .ok (.bipush 6, 2) := by decide +kernel
theorem d_Comparison_findsDifference_7 : decode c_Comparison_findsDifference 7 = .ok (.if_icmp .ge 99, 3) := by decide +kernel
theorem d_Comparison_findsDifference_10 : decode c_Comparison_findsDifference 10 = .ok (.aload_n 1, 1) := by decide +kernel
theorem d_Comparison_findsDifference_11 : decode c_Comparison_findsDifference 11 = .ok (.aload_n 0, 1) := by decide +kernel
theorem d_Comparison_findsDifference_12 : decode c_Comparison_findsDifference 12 = .ok (.getfield 15, 3) := by decide +kernel
theorem d_Comparison_findsDifference_15 : decode c_Comparison_findsDifference 15 = .ok (.iload_n 3, 1) := by decide +kernel
theorem d_Comparison_findsDifference_16 : decode c_Comparison_findsDifference 16 = .ok (.iaload, 1) := by decide +kernel
theorem d_Comparison_findsDifference_17 : decode c_Comparison_findsDifference 17 = .ok (.iload 4, 2) := by decide +kernel
theorem d_Comparison_findsDifference_19 : decode c_Comparison_findsDifference 19 = .ok (.invokevirtual 67, 3) := by decide +kernel
theorem d_Comparison_findsDifference_22 : decode c_Comparison_findsDifference 22 = .ok (.istore 5, 2) := by decide +kernel
theorem d_Comparison_findsDifference_24 : decode c_Comparison_findsDifference 24 = .ok (.aload_n 2, 1) := by decide +kernel
theorem d_Comparison_findsDifference_25 : decode c_Comparison_findsDifference 25 = .ok (.aload_n 0, 1) := by decide +kernel
theorem d_Comparison_findsDifference_26 : decode c_Comparison_findsDifference 26 = .ok (.getfield 18, 3) := by decide +kernel
theorem d_Comparison_findsDifference_29 : decode c_Comparison_findsDifference 29 = .ok (.iload_n 3, 1) := by decide +kernel
theorem d_Comparison_findsDifference_30 : decode c_Comparison_findsDifference 30 = .ok (.iaload, 1) := by decide +kernel
theorem d_Comparison_findsDifference_31 : decode c_Comparison_findsDifference 31 = .ok (.iload 4, 2) := by decide +kernel
theorem d_Comparison_findsDifference_33 : decode c_Comparison_findsDifference 33 = .ok (.invokevirtual 67, 3) := by decide +kernel
theorem d_Comparison_findsDifference_36 : decode c_Comparison_findsDifference 36 = .ok (.istore 6, 2) := by decide +kernel
theorem d_Comparison_findsDifference_38 : decode c_Comparison_findsDifference 38 = .ok (.aload_n 1, 1) := by decide +kernel
theorem d_Comparison_findsDifference_39 : decode c_Comparison_findsDifference 39 = .ok (.iload 5, 2) := by decide +kernel
theorem d_Comparison_findsDifference_41 : decode c_Comparison_findsDifference 41 = .ok (.invokevirtual 73, 3) := by decide +kernel
theorem d_Comparison_findsDifference_44 : decode c_Comparison_findsDifference 44 = .ok (.aload_n 2, 1) := by decide +kernel
theorem d_Comparison_findsDifference_45 : decode c_Comparison_findsDifference 45 = .ok (.iload 6, 2) := by decide +kernel
theorem d_Comparison_findsDifference_47 : decode c_Comparison_findsDifference 47 = .ok (.invokevirtual 73, 3) := by decide +kernel
theorem d_Comparison_findsDifference_50 : decode c_Comparison_findsDifference 50 = .ok (.if_icmp .eq 7, 3) := by decide +kernel
theorem d_Comparison_findsDifference_53 : decode c_Comparison_findsDifference 53 = .ok (.iconst 1, 1) := by decide +kernel
theorem d_Comparison_findsDifference_54 : decode c_Comparison_findsDifference 54 = .ok (.goto 4, 3) := by decide +kernel
theorem d_Comparison_findsDifference_57 : decode c_Comparison_findsDifference 57 = .ok (.iconst 0, 1) := by decide +kernel
theorem d_Comparison_findsDifference_58 : decode c_Comparison_findsDifference 58 = .ok (.istore 7, 2) := by decide +kernel
theorem d_Comparison_findsDifference_60 : decode c_Comparison_findsDifference 60 = .ok (.iload 7, 2) := by decide +kernel
theorem d_Comparison_findsDifference_62 : decode c_Comparison_findsDifference 62 = .ok (.ifCond .ne 20, 3) := by decide +kernel
theorem d_Comparison_findsDifference_65 : decode c_Comparison_findsDifference 65 = .ok (.aload_n 0, 1) := by decide +kernel
theorem d_Comparison_findsDifference_66 : decode c_Comparison_findsDifference 66 = .ok (.iload 5, 2) := by decide +kernel
theorem d_Comparison_findsDifference_68 : decode c_Comparison_findsDifference 68 = .ok (.invokestatic 44, 3) := by decide +kernel
theorem d_Comparison_findsDifference_71 : decode c_Comparison_findsDifference 71 = .ok (.iload 6, 2) := by decide +kernel
theorem d_Comparison_findsDifference_73 : decode c_Comparison_findsDifference 73 = .ok (.invokestatic 48, 3) := by decide +kernel
theorem d_Comparison_findsDifference_76 : decode c_Comparison_findsDifference 76 = .ok (.invokevirtual 51, 3) := by decide +kernel
theorem d_Comparison_findsDifference_79 : decode c_Comparison_findsDifference 79 = .ok (.ifCond .eq 14, 3) := by decide +kernel
theorem d_Comparison_findsDifference_82 : decode c_Comparison_findsDifference 82 = .ok (.aload_n 0, 1) := by decide +kernel
theorem d_Comparison_findsDifference_83 : decode c_Comparison_findsDifference 83 = .ok (.iload 5, 2) := by decide +kernel
theorem d_Comparison_findsDifference_85 : decode c_Comparison_findsDifference 85 = .ok (.iload 6, 2) := by decide +kernel
theorem d_Comparison_findsDifference_87 : decode c_Comparison_findsDifference 87 = .ok (.iload_n 3, 1) := by decide +kernel
theorem d_Comparison_findsDifference_88 : decode c_Comparison_findsDifference 88 = .ok (.iload 4, 2) := by decide +kernel
theorem d_Comparison_findsDifference_90 : decode c_Comparison_findsDifference 90 = .ok (.invokevirtual 55, 3) := by decide +kernel
theorem d_Comparison_findsDifference_93 : decode c_Comparison_findsDifference 93 = .ok (.iload 7, 2) := by decide +kernel
theorem d_Comparison_findsDifference_95 : decode c_Comparison_findsDifference 95 = .ok (.ifCond .eq 5, 3) := by decide +kernel
theorem d_Comparison_findsDifference_98 : decode c_Comparison_findsDifference 98 = .ok (.iconst 1, 1) := by decide +kernel
theorem d_Comparison_findsDifference_99 : decode c_Comparison_findsDifference 99 = .ok (.ireturn, 1) := by decide +kernel
theorem d_Comparison_findsDifference_100 : decode c_Comparison_findsDifference 100 = .ok (.iinc 4 1, 3) := by decide +kernel
theorem d_Comparison_findsDifference_103 : decode c_Comparison_findsDifference 103 = .ok (.goto (-100), 3) := by decide +kernel
theorem d_Comparison_findsDifference_106 : decode c_Comparison_findsDifference 106 = .ok (.iconst 0, 1) := by decide +kernel
theorem d_Comparison_findsDifference_107 : decode c_Comparison_findsDifference 107 = .ok (.ireturn, 1) := by decide +kernel
theorem d_Comparison_compare_0 : decode c_Comparison_compare 0 = .ok (.iconst 0, 1) := by decide +kernel
theorem d_Comparison_compare_1 : decode c_Comparison_compare 1 = .ok (.istore_n 3, 1) := by decide +kernel
theorem d_Comparison_compare_2 : decode c_Comparison_compare 2 = .ok (.iload_n 3, 1) := by decide +kernel
theorem d_Comparison_compare_3 : decode c_Comparison_compare 3 = .ok (.sipush 1026, 3) := by decide +kernel
theorem d_Comparison_compare_6 : decode c_Comparison_compare 6 = .ok (.if_icmp .ge 16, 3) := by decide +kernel
theorem d_Comparison_compare_9 : decode c_Comparison_compare 9 = .ok (.aload_n 0, 1) := by decide +kernel
theorem d_Comparison_compare_10 : decode c_Comparison_compare 10 = .ok (.getfield 11, 3) := by decide +kernel
theorem d_Comparison_compare_13 : decode c_Comparison_compare 13 = .ok (.iload_n 3, 1) := by decide +kernel
theorem d_Comparison_compare_14 : decode c_Comparison_compare 14 = .ok (.iload_n 3, 1) := by decide +kernel
theorem d_Comparison_compare_15 : decode c_Comparison_compare 15 = .ok (.iastore, 1) := by decide +kernel
theorem d_Comparison_compare_16 : decode c_Comparison_compare 16 = .ok (.iinc 3 1, 3) := by decide +kernel
theorem d_Comparison_compare_19 : decode c_Comparison_compare 19 = .ok (.goto (-17), 3) := by decide +kernel
theorem d_Comparison_compare_22 : decode c_Comparison_compare 22 = .ok (.aload_n 0, 1) := by decide +kernel
theorem d_Comparison_compare_23 : decode c_Comparison_compare 23 = .ok (.iconst 0, 1) := by decide +kernel
theorem d_Comparison_compare_24 : decode c_Comparison_compare 24 = .ok (.putfield 27, 3) := by decide +kernel
theorem d_Comparison_compare_27 : decode c_Comparison_compare 27 = .ok (.aload_n 0, 1) := by decide +kernel
theorem d_Comparison_compare_28 : decode c_Comparison_compare 28 = .ok (.iconst (-1), 1) := by decide +kernel
theorem d_Comparison_compare_29 : decode c_Comparison_compare 29 = .ok (.putfield 31, 3) := by decide +kernel
theorem d_Comparison_compare_32 : decode c_Comparison_compare 32 = .ok (.aload_n 0, 1) := by decide +kernel
theorem d_Comparison_compare_33 : decode c_Comparison_compare 33 = .ok (.iconst 0, 1) := by decide +kernel
theorem d_Comparison_compare_34 : decode c_Comparison_compare 34 = .ok (.invokestatic 44, 3) := by decide +kernel
theorem d_Comparison_compare_37 : decode c_Comparison_compare 37 = .ok (.iconst 0, 1) := by decide +kernel
theorem d_Comparison_compare_38 : decode c_Comparison_compare 38 = .ok (.invokestatic 48, 3) := by decide +kernel
theorem d_Comparison_compare_41 : decode c_Comparison_compare 41 = .ok (.invokevirtual 51, 3) := by decide +kernel
theorem d_Comparison_compare_44 : decode c_Comparison_compare 44 = .ok (.pop, 1) := by decide +kernel
theorem d_Comparison_compare_45 : decode c_Comparison_compare 45 = .ok (.aload_n 0, 1) := by decide +kernel
theorem d_Comparison_compare_46 : decode c_Comparison_compare 46 = .ok (.iconst 0, 1) := by decide +kernel
theorem d_Comparison_compare_47 : decode c_Comparison_compare 47 = .ok (.iconst 0, 1) := by decide +kernel
theorem d_Comparison_compare_48 : decode c_Comparison_compare 48 = .ok (.iconst 0, 1) := by decide +kernel
theorem d_Comparison_compare_49 : decode c_Comparison_compare 49 = .ok (.iconst (-1), 1) := by decide +kernel
theorem d_Comparison_compare_50 : decode c_Comparison_compare 50 = .ok (.invokevirtual 55, 3) := by decide +kernel
theorem d_Comparison_compare_53 : decode c_Comparison_compare 53 = .ok (.iconst 0, 1) := by decide +kernel
theorem d_Comparison_compare_54 : decode c_Comparison_compare 54 = .ok (.istore_n 3, 1) := by decide +kernel
theorem d_Comparison_compare_55 : decode c_Comparison_compare 55 = .ok (.iload_n 3, 1) := by decide +kernel
theorem d_Comparison_compare_56 : decode c_Comparison_compare 56 = .ok (.aload_n 0, 1) := by decide +kernel
theorem d_Comparison_compare_57 : decode c_Comparison_compare 57 = .ok (.getfield 27, 3) := by decide +kernel
theorem d_Comparison_compare_60 : decode c_Comparison_compare 60 = .ok (.if_icmp .ge 37, 3) := by decide +kernel
theorem d_Comparison_compare_63 : decode c_Comparison_compare 63 = .ok (.iload_n 3, 1) := by decide +kernel
theorem d_Comparison_compare_64 : decode c_Comparison_compare 64 = .ok (.sipush 1027, 3) := by decide +kernel
theorem d_Comparison_compare_67 : decode c_Comparison_compare 67 = .ok (.if_icmp .ge 30, 3) := by decide +kernel
theorem d_Comparison_compare_70 : decode c_Comparison_compare 70 = .ok (.aload_n 0, 1) := by decide +kernel
theorem d_Comparison_compare_71 : decode c_Comparison_compare 71 = .ok (.aload_n 1, 1) := by decide +kernel
theorem d_Comparison_compare_72 : decode c_Comparison_compare 72 = .ok (.aload_n 2, 1) := by decide +kernel
theorem d_Comparison_compare_73 : decode c_Comparison_compare 73 = .ok (.iload_n 3, 1) := by decide +kernel
theorem d_Comparison_compare_74 : decode c_Comparison_compare 74 = .ok (.invokevirtual 59, 3) := by decide +kernel
theorem d_Comparison_compare_77 : decode c_Comparison_compare 77 = .ok (.ifCond .eq 14, 3) := by decide +kernel
theorem d_Comparison_compare_80 : decode c_Comparison_compare 80 = .ok (.aload_n 0, 1) := by decide +kernel
theorem d_Comparison_compare_81 : decode c_Comparison_compare 81 = .ok (.aload_n 0, 1) := by decide +kernel
theorem d_Comparison_compare_82 : decode c_Comparison_compare 82 = .ok (.invokevirtual 63, 3) := by decide +kernel
theorem d_Comparison_compare_85 : decode c_Comparison_compare 85 = .ok (.putfield 31, 3) := by decide +kernel
theorem d_Comparison_compare_88 : decode c_Comparison_compare 88 = .ok (.goto 9, 3) := by decide +kernel
theorem d_Comparison_compare_91 : decode c_Comparison_compare 91 = .ok (.iinc 3 1, 3) := by decide +kernel
theorem d_Comparison_compare_94 : decode c_Comparison_compare 94 = .ok (.goto (-39), 3) := by decide +kernel
theorem d_Comparison_compare_97 : decode c_Comparison_compare 97 = .ok (.return_, 1) := by decide +kernel
def p_Comparison_init  (post : Int32 → Int32 → Int32 → Int32 → (Nat → Int32) → (Nat → Int32) → (Nat → Int32) → (Nat → Int32) → (Nat → Int32) → Prop) : Prop := (post 0 (-1) (-1) (-1) (fun _ => 0) (fun _ => 0) (fun _ => 0) (fun _ => 0) (fun _ => 0))
set_option maxHeartbeats 4000000 in
set_option maxRecDepth 100000 in
theorem k_Comparison_init (l : Launch) (G : va_G) (K : Nat → ClassId) (a0 : Nat) (sz : Nat)  (post : Int32 → Int32 → Int32 → Int32 → (Nat → Int32) → (Nat → Int32) → (Nat → Int32) → (Nat → Int32) → (Nat → Int32) → Prop) (h : p_Comparison_init  post) : MWv l y_Comparison_init (.code y_Comparison_init c_Comparison_init 1 none) { frames := 1, cells := 5, slots := 5134, locals := 20 } G K [(a0, .inr (1, [.null, .null, .null, .null, .null, .int 0, .int 0, .int 0, .int 0]))] [] [.ref a0] sz (fun (u : Int32 × Int32 × Int32 × Int32 × (Nat → Int32) × (Nat → Int32) × (Nat → Int32) × (Nat → Int32) × (Nat → Int32) × Nat × Nat × Nat × Nat × Nat) => post u.1 u.2.1 u.2.2.1 u.2.2.2.1 u.2.2.2.2.1 u.2.2.2.2.2.1 u.2.2.2.2.2.2.1 u.2.2.2.2.2.2.2.1 u.2.2.2.2.2.2.2.2.1) (fun u => [(a0, .inr (1, [.ref u.2.2.2.2.2.2.2.2.2.1, .ref u.2.2.2.2.2.2.2.2.2.2.1, .ref u.2.2.2.2.2.2.2.2.2.2.2.1, .ref u.2.2.2.2.2.2.2.2.2.2.2.2.1, .ref u.2.2.2.2.2.2.2.2.2.2.2.2.2, .int u.1, .int u.2.1, .int u.2.2.1, .int u.2.2.2.1])), (u.2.2.2.2.2.2.2.2.2.1, .inl (K 0, 1026, .inl u.2.2.2.2.1)), (u.2.2.2.2.2.2.2.2.2.2.1, .inl (K 0, 1027, .inl u.2.2.2.2.2.1)), (u.2.2.2.2.2.2.2.2.2.2.2.1, .inl (K 0, 1027, .inl u.2.2.2.2.2.2.1)), (u.2.2.2.2.2.2.2.2.2.2.2.2.1, .inl (K 0, 1027, .inl u.2.2.2.2.2.2.2.1)), (u.2.2.2.2.2.2.2.2.2.2.2.2.2, .inl (K 0, 1027, .inl u.2.2.2.2.2.2.2.2.1))]) 5 5134 := by
  refine g_metWv (cc := c_Comparison_init) (maxL := 1) (ret := none) (by decide) rfl rfl (Nat.le_of_ble_eq_true rfl) ?_
  intro p e s m below meth c A Q hx hb hml hown hname htg hK hN hP hD hA hS hR rN hret ls hl
  have hl : lv_has ls 1 [(0, .ref a0)] := hl
  refine lv_aload_n hx hb d_Comparison_init_0 rfl (lv_at hl 0 rfl) ?_
  refine W.objInit hx hb hown (htg _ m_155) (htg _ m_23) (htg _ m_24) rfl (by rw [hml]; exact hl.1) rfl d_Comparison_init_1 (Nat.le_of_ble_eq_true rfl) (Nat.le_of_ble_eq_true rfl) ?_
  refine W.eq (g2 := F0 m 4 ls []) rfl ?_
  refine lv_aload_n hx hb d_Comparison_init_4 rfl (lv_at hl 0 rfl) ?_
  refine lv_sipush (v := 1026) hx hb d_Comparison_init_5 (by decide) ?_
  refine g_newi (N := 1026) hx hb (htg _ m_39) hK hP hD hS hA (by decide) (by decide) (by decide) (Nat.le_of_ble_eq_true rfl) (Nat.le_of_ble_eq_true rfl) d_Comparison_init_8 (fun q1 H hP hD hS => ?_)
  have hP : va_P G vwCl [(a0, .inr (1, [.null, .null, .null, .null, .null, .int 0, .int 0, .int 0, .int 0])), (q1, .inl (K 0, 1026, .inl (fun _ => 0)))] H := hP
  have hD : va_D A [(a0, .inr (1, [.null, .null, .null, .null, .null, .int 0, .int 0, .int 0, .int 0])), (q1, .inl (K 0, 1026, .inl (fun _ => 0)))] := hD
  refine va_putF (ci := 1) (v := .ref q1) (ty := (.array .int)) hx hb htg in_Comparison t_Comparison tok_Comparison nm_Comparison hown hK hP hD hS 0 rfl rfl 0 (by decide) (htg _ m_156) (fun _ h9 => h9) rfl hname rfl (by decide +kernel) rfl rfl (Nat.le_of_ble_eq_true rfl) d_Comparison_init_10 (fun H locs hP hD hS => ?_)
  have hP : va_P G vwCl [(a0, .inr (1, [.ref q1, .null, .null, .null, .null, .int 0, .int 0, .int 0, .int 0])), (q1, .inl (K 0, 1026, .inl (fun _ => 0)))] H := hP
  have hD : va_D A [(a0, .inr (1, [.ref q1, .null, .null, .null, .null, .int 0, .int 0, .int 0, .int 0])), (q1, .inl (K 0, 1026, .inl (fun _ => 0)))] := hD
  refine lv_aload_n hx hb d_Comparison_init_13 rfl (lv_at hl 0 rfl) ?_
  refine lv_sipush (v := 1027) hx hb d_Comparison_init_14 (by decide) ?_
  refine g_newi (N := 1027) hx hb (htg _ m_39) hK hP hD hS hA (by decide) (by decide) (by decide) (Nat.le_of_ble_eq_true rfl) (Nat.le_of_ble_eq_true rfl) d_Comparison_init_17 (fun q2 H hP hD hS => ?_)
  have hP : va_P G vwCl [(a0, .inr (1, [.ref q1, .null, .null, .null, .null, .int 0, .int 0, .int 0, .int 0])), (q1, .inl (K 0, 1026, .inl (fun _ => 0))), (q2, .inl (K 0, 1027, .inl (fun _ => 0)))] H := hP
  have hD : va_D A [(a0, .inr (1, [.ref q1, .null, .null, .null, .null, .int 0, .int 0, .int 0, .int 0])), (q1, .inl (K 0, 1026, .inl (fun _ => 0))), (q2, .inl (K 0, 1027, .inl (fun _ => 0)))] := hD
  refine va_putF (ci := 1) (v := .ref q2) (ty := (.array .int)) hx hb htg in_Comparison t_Comparison tok_Comparison nm_Comparison hown hK hP hD hS 0 rfl rfl 1 (by decide) (htg _ m_157) (fun _ h9 => h9) rfl hname rfl (by decide +kernel) rfl rfl (Nat.le_of_ble_eq_true rfl) d_Comparison_init_19 (fun H locs hP hD hS => ?_)
  have hP : va_P G vwCl [(a0, .inr (1, [.ref q1, .ref q2, .null, .null, .null, .int 0, .int 0, .int 0, .int 0])), (q1, .inl (K 0, 1026, .inl (fun _ => 0))), (q2, .inl (K 0, 1027, .inl (fun _ => 0)))] H := hP
  have hD : va_D A [(a0, .inr (1, [.ref q1, .ref q2, .null, .null, .null, .int 0, .int 0, .int 0, .int 0])), (q1, .inl (K 0, 1026, .inl (fun _ => 0))), (q2, .inl (K 0, 1027, .inl (fun _ => 0)))] := hD
  refine lv_aload_n hx hb d_Comparison_init_22 rfl (lv_at hl 0 rfl) ?_
  refine lv_sipush (v := 1027) hx hb d_Comparison_init_23 (by decide) ?_
  refine g_newi (N := 1027) hx hb (htg _ m_39) hK hP hD hS hA (by decide) (by decide) (by decide) (Nat.le_of_ble_eq_true rfl) (Nat.le_of_ble_eq_true rfl) d_Comparison_init_26 (fun q3 H hP hD hS => ?_)
  have hP : va_P G vwCl [(a0, .inr (1, [.ref q1, .ref q2, .null, .null, .null, .int 0, .int 0, .int 0, .int 0])), (q1, .inl (K 0, 1026, .inl (fun _ => 0))), (q2, .inl (K 0, 1027, .inl (fun _ => 0))), (q3, .inl (K 0, 1027, .inl (fun _ => 0)))] H := hP
  have hD : va_D A [(a0, .inr (1, [.ref q1, .ref q2, .null, .null, .null, .int 0, .int 0, .int 0, .int 0])), (q1, .inl (K 0, 1026, .inl (fun _ => 0))), (q2, .inl (K 0, 1027, .inl (fun _ => 0))), (q3, .inl (K 0, 1027, .inl (fun _ => 0)))] := hD
  refine va_putF (ci := 1) (v := .ref q3) (ty := (.array .int)) hx hb htg in_Comparison t_Comparison tok_Comparison nm_Comparison hown hK hP hD hS 0 rfl rfl 2 (by decide) (htg _ m_158) (fun _ h9 => h9) rfl hname rfl (by decide +kernel) rfl rfl (Nat.le_of_ble_eq_true rfl) d_Comparison_init_28 (fun H locs hP hD hS => ?_)
  have hP : va_P G vwCl [(a0, .inr (1, [.ref q1, .ref q2, .ref q3, .null, .null, .int 0, .int 0, .int 0, .int 0])), (q1, .inl (K 0, 1026, .inl (fun _ => 0))), (q2, .inl (K 0, 1027, .inl (fun _ => 0))), (q3, .inl (K 0, 1027, .inl (fun _ => 0)))] H := hP
  have hD : va_D A [(a0, .inr (1, [.ref q1, .ref q2, .ref q3, .null, .null, .int 0, .int 0, .int 0, .int 0])), (q1, .inl (K 0, 1026, .inl (fun _ => 0))), (q2, .inl (K 0, 1027, .inl (fun _ => 0))), (q3, .inl (K 0, 1027, .inl (fun _ => 0)))] := hD
  refine lv_aload_n hx hb d_Comparison_init_31 rfl (lv_at hl 0 rfl) ?_
  refine lv_sipush (v := 1027) hx hb d_Comparison_init_32 (by decide) ?_
  refine g_newi (N := 1027) hx hb (htg _ m_39) hK hP hD hS hA (by decide) (by decide) (by decide) (Nat.le_of_ble_eq_true rfl) (Nat.le_of_ble_eq_true rfl) d_Comparison_init_35 (fun q4 H hP hD hS => ?_)
  have hP : va_P G vwCl [(a0, .inr (1, [.ref q1, .ref q2, .ref q3, .null, .null, .int 0, .int 0, .int 0, .int 0])), (q1, .inl (K 0, 1026, .inl (fun _ => 0))), (q2, .inl (K 0, 1027, .inl (fun _ => 0))), (q3, .inl (K 0, 1027, .inl (fun _ => 0))), (q4, .inl (K 0, 1027, .inl (fun _ => 0)))] H := hP
  have hD : va_D A [(a0, .inr (1, [.ref q1, .ref q2, .ref q3, .null, .null, .int 0, .int 0, .int 0, .int 0])), (q1, .inl (K 0, 1026, .inl (fun _ => 0))), (q2, .inl (K 0, 1027, .inl (fun _ => 0))), (q3, .inl (K 0, 1027, .inl (fun _ => 0))), (q4, .inl (K 0, 1027, .inl (fun _ => 0)))] := hD
  refine va_putF (ci := 1) (v := .ref q4) (ty := (.array .int)) hx hb htg in_Comparison t_Comparison tok_Comparison nm_Comparison hown hK hP hD hS 0 rfl rfl 3 (by decide) (htg _ m_159) (fun _ h9 => h9) rfl hname rfl (by decide +kernel) rfl rfl (Nat.le_of_ble_eq_true rfl) d_Comparison_init_37 (fun H locs hP hD hS => ?_)
  have hP : va_P G vwCl [(a0, .inr (1, [.ref q1, .ref q2, .ref q3, .ref q4, .null, .int 0, .int 0, .int 0, .int 0])), (q1, .inl (K 0, 1026, .inl (fun _ => 0))), (q2, .inl (K 0, 1027, .inl (fun _ => 0))), (q3, .inl (K 0, 1027, .inl (fun _ => 0))), (q4, .inl (K 0, 1027, .inl (fun _ => 0)))] H := hP
  have hD : va_D A [(a0, .inr (1, [.ref q1, .ref q2, .ref q3, .ref q4, .null, .int 0, .int 0, .int 0, .int 0])), (q1, .inl (K 0, 1026, .inl (fun _ => 0))), (q2, .inl (K 0, 1027, .inl (fun _ => 0))), (q3, .inl (K 0, 1027, .inl (fun _ => 0))), (q4, .inl (K 0, 1027, .inl (fun _ => 0)))] := hD
  refine lv_aload_n hx hb d_Comparison_init_40 rfl (lv_at hl 0 rfl) ?_
  refine lv_sipush (v := 1027) hx hb d_Comparison_init_41 (by decide) ?_
  refine g_newi (N := 1027) hx hb (htg _ m_39) hK hP hD hS hA (by decide) (by decide) (by decide) (Nat.le_of_ble_eq_true rfl) (Nat.le_of_ble_eq_true rfl) d_Comparison_init_44 (fun q5 H hP hD hS => ?_)
  have hP : va_P G vwCl [(a0, .inr (1, [.ref q1, .ref q2, .ref q3, .ref q4, .null, .int 0, .int 0, .int 0, .int 0])), (q1, .inl (K 0, 1026, .inl (fun _ => 0))), (q2, .inl (K 0, 1027, .inl (fun _ => 0))), (q3, .inl (K 0, 1027, .inl (fun _ => 0))), (q4, .inl (K 0, 1027, .inl (fun _ => 0))), (q5, .inl (K 0, 1027, .inl (fun _ => 0)))] H := hP
  have hD : va_D A [(a0, .inr (1, [.ref q1, .ref q2, .ref q3, .ref q4, .null, .int 0, .int 0, .int 0, .int 0])), (q1, .inl (K 0, 1026, .inl (fun _ => 0))), (q2, .inl (K 0, 1027, .inl (fun _ => 0))), (q3, .inl (K 0, 1027, .inl (fun _ => 0))), (q4, .inl (K 0, 1027, .inl (fun _ => 0))), (q5, .inl (K 0, 1027, .inl (fun _ => 0)))] := hD
  refine va_putF (ci := 1) (v := .ref q5) (ty := (.array .int)) hx hb htg in_Comparison t_Comparison tok_Comparison nm_Comparison hown hK hP hD hS 0 rfl rfl 4 (by decide) (htg _ m_160) (fun _ h9 => h9) rfl hname rfl (by decide +kernel) rfl rfl (Nat.le_of_ble_eq_true rfl) d_Comparison_init_46 (fun H locs hP hD hS => ?_)
  have hP : va_P G vwCl [(a0, .inr (1, [.ref q1, .ref q2, .ref q3, .ref q4, .ref q5, .int 0, .int 0, .int 0, .int 0])), (q1, .inl (K 0, 1026, .inl (fun _ => 0))), (q2, .inl (K 0, 1027, .inl (fun _ => 0))), (q3, .inl (K 0, 1027, .inl (fun _ => 0))), (q4, .inl (K 0, 1027, .inl (fun _ => 0))), (q5, .inl (K 0, 1027, .inl (fun _ => 0)))] H := hP
  have hD : va_D A [(a0, .inr (1, [.ref q1, .ref q2, .ref q3, .ref q4, .ref q5, .int 0, .int 0, .int 0, .int 0])), (q1, .inl (K 0, 1026, .inl (fun _ => 0))), (q2, .inl (K 0, 1027, .inl (fun _ => 0))), (q3, .inl (K 0, 1027, .inl (fun _ => 0))), (q4, .inl (K 0, 1027, .inl (fun _ => 0))), (q5, .inl (K 0, 1027, .inl (fun _ => 0)))] := hD
  refine lv_aload_n hx hb d_Comparison_init_49 rfl (lv_at hl 0 rfl) ?_
  refine lv_iconst (v := 0) hx hb d_Comparison_init_50 (by decide) ?_
  refine va_put (ci := 1) (v := .int 0) (ty := .int) hx hb htg in_Comparison t_Comparison tok_Comparison nm_Comparison hown hK hP hD hS 0 rfl rfl 5 (by decide) (htg _ m_161) (fun _ h9 => h9) rfl (by decide +kernel) rfl rfl (Nat.le_of_ble_eq_true rfl) d_Comparison_init_51 (fun H locs hP hD hS => ?_)
  have hP : va_P G vwCl [(a0, .inr (1, [.ref q1, .ref q2, .ref q3, .ref q4, .ref q5, .int 0, .int 0, .int 0, .int 0])), (q1, .inl (K 0, 1026, .inl (fun _ => 0))), (q2, .inl (K 0, 1027, .inl (fun _ => 0))), (q3, .inl (K 0, 1027, .inl (fun _ => 0))), (q4, .inl (K 0, 1027, .inl (fun _ => 0))), (q5, .inl (K 0, 1027, .inl (fun _ => 0)))] H := hP
  have hD : va_D A [(a0, .inr (1, [.ref q1, .ref q2, .ref q3, .ref q4, .ref q5, .int 0, .int 0, .int 0, .int 0])), (q1, .inl (K 0, 1026, .inl (fun _ => 0))), (q2, .inl (K 0, 1027, .inl (fun _ => 0))), (q3, .inl (K 0, 1027, .inl (fun _ => 0))), (q4, .inl (K 0, 1027, .inl (fun _ => 0))), (q5, .inl (K 0, 1027, .inl (fun _ => 0)))] := hD
  refine lv_aload_n hx hb d_Comparison_init_54 rfl (lv_at hl 0 rfl) ?_
  refine lv_iconst (v := (-1)) hx hb d_Comparison_init_55 (by decide) ?_
  refine va_put (ci := 1) (v := .int (-1)) (ty := .int) hx hb htg in_Comparison t_Comparison tok_Comparison nm_Comparison hown hK hP hD hS 0 rfl rfl 6 (by decide) (htg _ m_162) (fun _ h9 => h9) rfl (by decide +kernel) rfl rfl (Nat.le_of_ble_eq_true rfl) d_Comparison_init_56 (fun H locs hP hD hS => ?_)
  have hP : va_P G vwCl [(a0, .inr (1, [.ref q1, .ref q2, .ref q3, .ref q4, .ref q5, .int 0, .int (-1), .int 0, .int 0])), (q1, .inl (K 0, 1026, .inl (fun _ => 0))), (q2, .inl (K 0, 1027, .inl (fun _ => 0))), (q3, .inl (K 0, 1027, .inl (fun _ => 0))), (q4, .inl (K 0, 1027, .inl (fun _ => 0))), (q5, .inl (K 0, 1027, .inl (fun _ => 0)))] H := hP
  have hD : va_D A [(a0, .inr (1, [.ref q1, .ref q2, .ref q3, .ref q4, .ref q5, .int 0, .int (-1), .int 0, .int 0])), (q1, .inl (K 0, 1026, .inl (fun _ => 0))), (q2, .inl (K 0, 1027, .inl (fun _ => 0))), (q3, .inl (K 0, 1027, .inl (fun _ => 0))), (q4, .inl (K 0, 1027, .inl (fun _ => 0))), (q5, .inl (K 0, 1027, .inl (fun _ => 0)))] := hD
  refine lv_aload_n hx hb d_Comparison_init_59 rfl (lv_at hl 0 rfl) ?_
  refine lv_iconst (v := (-1)) hx hb d_Comparison_init_60 (by decide) ?_
  refine va_put (ci := 1) (v := .int (-1)) (ty := .int) hx hb htg in_Comparison t_Comparison tok_Comparison nm_Comparison hown hK hP hD hS 0 rfl rfl 7 (by decide) (htg _ m_163) (fun _ h9 => h9) rfl (by decide +kernel) rfl rfl (Nat.le_of_ble_eq_true rfl) d_Comparison_init_61 (fun H locs hP hD hS => ?_)
  have hP : va_P G vwCl [(a0, .inr (1, [.ref q1, .ref q2, .ref q3, .ref q4, .ref q5, .int 0, .int (-1), .int (-1), .int 0])), (q1, .inl (K 0, 1026, .inl (fun _ => 0))), (q2, .inl (K 0, 1027, .inl (fun _ => 0))), (q3, .inl (K 0, 1027, .inl (fun _ => 0))), (q4, .inl (K 0, 1027, .inl (fun _ => 0))), (q5, .inl (K 0, 1027, .inl (fun _ => 0)))] H := hP
  have hD : va_D A [(a0, .inr (1, [.ref q1, .ref q2, .ref q3, .ref q4, .ref q5, .int 0, .int (-1), .int (-1), .int 0])), (q1, .inl (K 0, 1026, .inl (fun _ => 0))), (q2, .inl (K 0, 1027, .inl (fun _ => 0))), (q3, .inl (K 0, 1027, .inl (fun _ => 0))), (q4, .inl (K 0, 1027, .inl (fun _ => 0))), (q5, .inl (K 0, 1027, .inl (fun _ => 0)))] := hD
  refine lv_aload_n hx hb d_Comparison_init_64 rfl (lv_at hl 0 rfl) ?_
  refine lv_iconst (v := (-1)) hx hb d_Comparison_init_65 (by decide) ?_
  refine va_put (ci := 1) (v := .int (-1)) (ty := .int) hx hb htg in_Comparison t_Comparison tok_Comparison nm_Comparison hown hK hP hD hS 0 rfl rfl 8 (by decide) (htg _ m_164) (fun _ h9 => h9) rfl (by decide +kernel) rfl rfl (Nat.le_of_ble_eq_true rfl) d_Comparison_init_66 (fun H locs hP hD hS => ?_)
  have hP : va_P G vwCl [(a0, .inr (1, [.ref q1, .ref q2, .ref q3, .ref q4, .ref q5, .int 0, .int (-1), .int (-1), .int (-1)])), (q1, .inl (K 0, 1026, .inl (fun _ => 0))), (q2, .inl (K 0, 1027, .inl (fun _ => 0))), (q3, .inl (K 0, 1027, .inl (fun _ => 0))), (q4, .inl (K 0, 1027, .inl (fun _ => 0))), (q5, .inl (K 0, 1027, .inl (fun _ => 0)))] H := hP
  have hD : va_D A [(a0, .inr (1, [.ref q1, .ref q2, .ref q3, .ref q4, .ref q5, .int 0, .int (-1), .int (-1), .int (-1)])), (q1, .inl (K 0, 1026, .inl (fun _ => 0))), (q2, .inl (K 0, 1027, .inl (fun _ => 0))), (q3, .inl (K 0, 1027, .inl (fun _ => 0))), (q4, .inl (K 0, 1027, .inl (fun _ => 0))), (q5, .inl (K 0, 1027, .inl (fun _ => 0)))] := hD
  exact hret (0, (-1), (-1), (-1), (fun _ => 0), (fun _ => 0), (fun _ => 0), (fun _ => 0), (fun _ => 0), q1, q2, q3, q4, q5) _ _ _ _ h (hP.sub [0, 1, 2, 3, 4, 5] rfl) (hD.sub [0, 1, 2, 3, 4, 5] (by decide) rfl) hS d_Comparison_init_69
def p_Comparison_isOf (v_o_one : Int32) (v_o_other : Int32) (x1 : Int32) (x2 : Int32) (post : Int32 → Prop) : Prop := ((¬ v_o_one = x1 → (post 0)) ∧ (v_o_one = x1 → ((¬ v_o_other = x2 → (post 0)) ∧ (v_o_other = x2 → (post 1)))))
set_option maxHeartbeats 4000000 in
set_option maxRecDepth 100000 in
theorem k_Comparison_isOf (l : Launch) (G : va_G) (K : Nat → ClassId) (a0 a0_leader a0_left a0_right a0_before a0_letters : Nat) (v_o_pairs : Int32) (v_o_length : Int32) (v_o_one : Int32) (v_o_other : Int32) (x1 : Int32) (x2 : Int32) (post : Int32 → Prop) (h : p_Comparison_isOf v_o_one v_o_other x1 x2 post) : MSi l y_Comparison_isOf (.code y_Comparison_isOf c_Comparison_isOf 3 (some .boolean)) { frames := 0, cells := 0, slots := 0, locals := 0 } G K [(a0, .inr (1, [.ref a0_leader, .ref a0_left, .ref a0_right, .ref a0_before, .ref a0_letters, .int v_o_pairs, .int v_o_length, .int v_o_one, .int v_o_other]))] [.ref a0, .int x1, .int x2] post := by
  refine g_metSi (cc := c_Comparison_isOf) (maxL := 3) (ret := some .boolean) (rt := .boolean) (by decide) rfl rfl (Nat.le_of_ble_eq_true rfl) ?_
  intro p e s m below meth c Q hx hb hml hown htg hK hN hP hret ls hl
  have hl : lv_has ls 3 [(0, .ref a0), (1, .int x1), (2, .int x2)] := hl
  refine lv_aload_n hx hb d_Comparison_isOf_0 rfl (lv_at hl 0 rfl) ?_
  refine va_get (ci := 1) (v := .int v_o_one) hx hb htg in_Comparison hown hK hP 0 rfl rfl 7 (by decide) (htg _ m_163) (fun _ h9 => h9) rfl d_Comparison_isOf_1 ?_
  refine lv_iload_n hx hb d_Comparison_isOf_4 rfl (lv_at hl 1 rfl) ?_
  refine lv_icmp_ne (tgt := 20) hx hb d_Comparison_isOf_5 (by decide) (fun hc => ?_) (fun hc => ?_)
  · replace h := h.1 hc
    refine lv_iconst (v := 0) hx hb d_Comparison_isOf_20 (by decide) ?_
    exact hret _ _ _ h (by decide +kernel) d_Comparison_isOf_21
  · replace h := h.2 hc
    refine lv_aload_n hx hb d_Comparison_isOf_8 rfl (lv_at hl 0 rfl) ?_
    refine va_get (ci := 1) (v := .int v_o_other) hx hb htg in_Comparison hown hK hP 0 rfl rfl 8 (by decide) (htg _ m_164) (fun _ h9 => h9) rfl d_Comparison_isOf_9 ?_
    refine lv_iload_n hx hb d_Comparison_isOf_12 rfl (lv_at hl 2 rfl) ?_
    refine lv_icmp_ne (tgt := 20) hx hb d_Comparison_isOf_13 (by decide) (fun hc => ?_) (fun hc => ?_)
    · replace h := h.1 hc
      refine lv_iconst (v := 0) hx hb d_Comparison_isOf_20 (by decide) ?_
      exact hret _ _ _ h (by decide +kernel) d_Comparison_isOf_21
    · replace h := h.2 hc
      refine lv_iconst (v := 1) hx hb d_Comparison_isOf_16 (by decide) ?_
      refine lv_goto (tgt := 21) hx hb d_Comparison_isOf_17 (by decide) ?_
      exact hret _ _ _ h (by decide +kernel) d_Comparison_isOf_21
def p_Comparison_keepFor (x1 : Int32) (x2 : Int32) (post : Int32 → Int32 → Prop) : Prop := (post x1 x2)
set_option maxHeartbeats 4000000 in
set_option maxRecDepth 100000 in
theorem k_Comparison_keepFor (l : Launch) (G : va_G) (K : Nat → ClassId) (a0 a0_leader a0_left a0_right a0_before a0_letters : Nat) (sz : Nat) (v_o_pairs : Int32) (v_o_length : Int32) (v_o_one : Int32) (v_o_other : Int32) (x1 : Int32) (x2 : Int32) (post : Int32 → Int32 → Prop) (h : p_Comparison_keepFor x1 x2 post) : MWv l y_Comparison_keepFor (.code y_Comparison_keepFor c_Comparison_keepFor 3 none) { frames := 0, cells := 0, slots := 0, locals := 0 } G K [(a0, .inr (1, [.ref a0_leader, .ref a0_left, .ref a0_right, .ref a0_before, .ref a0_letters, .int v_o_pairs, .int v_o_length, .int v_o_one, .int v_o_other]))] [] [.ref a0, .int x1, .int x2] sz (fun (u : Int32 × Int32) => post u.1 u.2) (fun u => [(a0, .inr (1, [.ref a0_leader, .ref a0_left, .ref a0_right, .ref a0_before, .ref a0_letters, .int v_o_pairs, .int v_o_length, .int u.1, .int u.2]))]) 0 0 := by
  refine g_metWv (cc := c_Comparison_keepFor) (maxL := 3) (ret := none) (by decide) rfl rfl (Nat.le_of_ble_eq_true rfl) ?_
  intro p e s m below meth c A Q hx hb hml hown hname htg hK hN hP hD hA hS hR rN hret ls hl
  have hl : lv_has ls 3 [(0, .ref a0), (1, .int x1), (2, .int x2)] := hl
  refine lv_aload_n hx hb d_Comparison_keepFor_0 rfl (lv_at hl 0 rfl) ?_
  refine lv_iload_n hx hb d_Comparison_keepFor_1 rfl (lv_at hl 1 rfl) ?_
  refine va_put (ci := 1) (v := .int x1) (ty := .int) hx hb htg in_Comparison t_Comparison tok_Comparison nm_Comparison hown hK hP hD hS 0 rfl rfl 7 (by decide) (htg _ m_163) (fun _ h9 => h9) rfl (by decide +kernel) rfl rfl (Nat.le_of_ble_eq_true rfl) d_Comparison_keepFor_2 (fun H locs hP hD hS => ?_)
  have hP : va_P G vwCl [(a0, .inr (1, [.ref a0_leader, .ref a0_left, .ref a0_right, .ref a0_before, .ref a0_letters, .int v_o_pairs, .int v_o_length, .int x1, .int v_o_other]))] H := hP
  have hD : va_D A [(a0, .inr (1, [.ref a0_leader, .ref a0_left, .ref a0_right, .ref a0_before, .ref a0_letters, .int v_o_pairs, .int v_o_length, .int x1, .int v_o_other]))] := hD
  refine lv_aload_n hx hb d_Comparison_keepFor_5 rfl (lv_at hl 0 rfl) ?_
  refine lv_iload_n hx hb d_Comparison_keepFor_6 rfl (lv_at hl 2 rfl) ?_
  refine va_put (ci := 1) (v := .int x2) (ty := .int) hx hb htg in_Comparison t_Comparison tok_Comparison nm_Comparison hown hK hP hD hS 0 rfl rfl 8 (by decide) (htg _ m_164) (fun _ h9 => h9) rfl (by decide +kernel) rfl rfl (Nat.le_of_ble_eq_true rfl) d_Comparison_keepFor_7 (fun H locs hP hD hS => ?_)
  have hP : va_P G vwCl [(a0, .inr (1, [.ref a0_leader, .ref a0_left, .ref a0_right, .ref a0_before, .ref a0_letters, .int v_o_pairs, .int v_o_length, .int x1, .int x2]))] H := hP
  have hD : va_D A [(a0, .inr (1, [.ref a0_leader, .ref a0_left, .ref a0_right, .ref a0_before, .ref a0_letters, .int v_o_pairs, .int v_o_length, .int x1, .int x2]))] := hD
  exact hret (x1, x2) _ _ _ _ h (hP.sub [0] rfl) (hD.sub [0] (by decide) rfl) hS d_Comparison_keepFor_10
def p_Comparison_forget  (post : Int32 → Int32 → Prop) : Prop := (p_Comparison_keepFor (-1) (-1) (fun u1 u2 => (post u1 u2)))
set_option maxHeartbeats 4000000 in
set_option maxRecDepth 100000 in
theorem k_Comparison_forget (l : Launch) (G : va_G) (K : Nat → ClassId) (a0 a0_leader a0_left a0_right a0_before a0_letters : Nat) (sz : Nat) (v_o_pairs : Int32) (v_o_length : Int32) (v_o_one : Int32) (v_o_other : Int32) (post : Int32 → Int32 → Prop) (h : p_Comparison_forget  post) : MWv l y_Comparison_forget (.code y_Comparison_forget c_Comparison_forget 1 none) { frames := 1, cells := 0, slots := 0, locals := 22 } G K [(a0, .inr (1, [.ref a0_leader, .ref a0_left, .ref a0_right, .ref a0_before, .ref a0_letters, .int v_o_pairs, .int v_o_length, .int v_o_one, .int v_o_other]))] [] [.ref a0] sz (fun (u : Int32 × Int32) => post u.1 u.2) (fun u => [(a0, .inr (1, [.ref a0_leader, .ref a0_left, .ref a0_right, .ref a0_before, .ref a0_letters, .int v_o_pairs, .int v_o_length, .int u.1, .int u.2]))]) 0 0 := by
  refine g_metWv (cc := c_Comparison_forget) (maxL := 1) (ret := none) (by decide) rfl rfl (Nat.le_of_ble_eq_true rfl) ?_
  intro p e s m below meth c A Q hx hb hml hown hname htg hK hN hP hD hA hS hR rN hret ls hl
  have hl : lv_has ls 1 [(0, .ref a0)] := hl
  refine lv_aload_n hx hb d_Comparison_forget_0 rfl (lv_at hl 0 rfl) ?_
  refine lv_iconst (v := (-1)) hx hb d_Comparison_forget_1 (by decide) ?_
  refine lv_iconst (v := (-1)) hx hb d_Comparison_forget_2 (by decide) ?_
  have hPc : va_P G vwCl [(a0, .inr (1, [.ref a0_leader, .ref a0_left, .ref a0_right, .ref a0_before, .ref a0_letters, .int v_o_pairs, .int v_o_length, .int v_o_one, .int v_o_other]))] _ := hP.sub [0] rfl
  have hDc : va_D A [(a0, .inr (1, [.ref a0_leader, .ref a0_left, .ref a0_right, .ref a0_before, .ref a0_letters, .int v_o_pairs, .int v_o_length, .int v_o_one, .int v_o_other]))] := hD.sub [0] (by decide) rfl
  have hRc : va_P G vwCl [] _ := hP.sub [] rfl
  have hJc : gJ [(a0, .inr (1, [.ref a0_leader, .ref a0_left, .ref a0_right, .ref a0_before, .ref a0_letters, .int v_o_pairs, .int v_o_length, .int v_o_one, .int v_o_other]))] [] := gJ_nil
  refine g_callv (wr := []) (va_runV (As := [.int (-1), .int (-1)]) (rest := []) ⟨hx, hb, hml, hown, htg⟩ (k_Comparison_keepFor l G K a0 a0_leader a0_left a0_right a0_before a0_letters _ v_o_pairs v_o_length v_o_one v_o_other (-1) (-1) _ h) (cwV 2 htg (gGoodV m_314 m_315 m_316 m_10 m_317) rfl rfl rfl (by decide +kernel) ⟨(Nat.le_of_ble_eq_true rfl), (Nat.le_of_ble_eq_true rfl)⟩) (gW_preV (ci := 1) (q0 := 0) hK hN hPc hDc hRc hJc hPc rfl rfl) rfl rfl hl.1 rfl (lv_room (Nat.le_of_ble_eq_true rfl)) d_Comparison_forget_3 ⟨(Nat.le_of_ble_eq_true rfl), (Nat.le_of_ble_eq_true rfl)⟩) hP hD hS hA [0] [] rfl rfl (by decide) (by decide) (fun u H locs h hP hD hS => ?_)
  obtain ⟨u1, u2⟩ := u
  try dsimp only at h
  have hP : va_P G vwCl [(a0, .inr (1, [.ref a0_leader, .ref a0_left, .ref a0_right, .ref a0_before, .ref a0_letters, .int v_o_pairs, .int v_o_length, .int u1, .int u2]))] H := hP
  have hD : va_D A [(a0, .inr (1, [.ref a0_leader, .ref a0_left, .ref a0_right, .ref a0_before, .ref a0_letters, .int v_o_pairs, .int v_o_length, .int u1, .int u2]))] := hD
  exact hret (u1, u2) _ _ _ _ h (hP.sub [0] rfl) (hD.sub [0] (by decide) rfl) hS d_Comparison_forget_6
def p_Comparison_length (v_o_length : Int32) (post : Int32 → Prop) : Prop := (post v_o_length)
set_option maxHeartbeats 4000000 in
set_option maxRecDepth 100000 in
theorem k_Comparison_length (l : Launch) (G : va_G) (K : Nat → ClassId) (a0 a0_leader a0_left a0_right a0_before a0_letters : Nat) (v_o_pairs : Int32) (v_o_length : Int32) (v_o_one : Int32) (v_o_other : Int32) (post : Int32 → Prop) (h : p_Comparison_length v_o_length post) : MSi l y_Comparison_length (.code y_Comparison_length c_Comparison_length 1 (some .int)) { frames := 0, cells := 0, slots := 0, locals := 0 } G K [(a0, .inr (1, [.ref a0_leader, .ref a0_left, .ref a0_right, .ref a0_before, .ref a0_letters, .int v_o_pairs, .int v_o_length, .int v_o_one, .int v_o_other]))] [.ref a0] post := by
  refine g_metSi (cc := c_Comparison_length) (maxL := 1) (ret := some .int) (rt := .int) (by decide) rfl rfl (Nat.le_of_ble_eq_true rfl) ?_
  intro p e s m below meth c Q hx hb hml hown htg hK hN hP hret ls hl
  have hl : lv_has ls 1 [(0, .ref a0)] := hl
  refine lv_aload_n hx hb d_Comparison_length_0 rfl (lv_at hl 0 rfl) ?_
  refine va_get (ci := 1) (v := .int v_o_length) hx hb htg in_Comparison hown hK hP 0 rfl rfl 6 (by decide) (htg _ m_162) (fun _ h9 => h9) rfl d_Comparison_length_1 ?_
  exact hret _ _ _ h (vp_nar_int _) d_Comparison_length_4
def p_Comparison_letterAt_46 (f_o_letters : (Nat → Int32)) (post : Int32 → Prop) (l2 : Int32) : Prop := (vp_in l2 1027 ∧ (post (f_o_letters l2.toNatClampNeg)))
def p_Comparison_letterAt_28 (f_o_before : (Nat → Int32)) (f_o_letters : (Nat → Int32)) (x1 : Int32) (post : Int32 → Prop) : Nat → Int32 → Int32 → Prop
  | 0, _, _ => False
  | n + 1, l2, l3 => ((l3 ≤ x1 → (p_Comparison_letterAt_46 f_o_letters post l2)) ∧ (¬ l3 ≤ x1 → (vp_in l2 1027 ∧ (p_Comparison_letterAt_28 f_o_before f_o_letters x1 post n (f_o_before l2.toNatClampNeg) (l3 + (-1))))))
def p_Comparison_letterAt (v_o_pairs : Int32) (v_o_length : Int32) (f_o_before : (Nat → Int32)) (f_o_letters : (Nat → Int32)) (x1 : Int32) (post : Int32 → Prop) : Prop := ((x1 < 0 → (post (-1))) ∧ (¬ x1 < 0 → ((x1 < v_o_length → (∃ k, p_Comparison_letterAt_28 f_o_before f_o_letters x1 post k (v_o_pairs - 1) (v_o_length - 1))) ∧ (¬ x1 < v_o_length → (post (-1))))))
set_option maxHeartbeats 4000000 in
set_option maxRecDepth 100000 in
theorem k_Comparison_letterAt (l : Launch) (G : va_G) (K : Nat → ClassId) (a0 a0_before a0_letters a0_leader a0_left a0_right : Nat) (v_o_pairs : Int32) (v_o_length : Int32) (v_o_one : Int32) (v_o_other : Int32) (f_o_before : (Nat → Int32)) (f_o_letters : (Nat → Int32)) (x1 : Int32) (post : Int32 → Prop) (h : p_Comparison_letterAt v_o_pairs v_o_length f_o_before f_o_letters x1 post) : MSi l y_Comparison_letterAt (.code y_Comparison_letterAt c_Comparison_letterAt 4 (some .int)) { frames := 0, cells := 0, slots := 0, locals := 0 } G K [(a0, .inr (1, [.ref a0_leader, .ref a0_left, .ref a0_right, .ref a0_before, .ref a0_letters, .int v_o_pairs, .int v_o_length, .int v_o_one, .int v_o_other])), (a0_before, .inl (K 0, 1027, .inl f_o_before)), (a0_letters, .inl (K 0, 1027, .inl f_o_letters))] [.ref a0, .int x1] post := by
  refine g_metSi (cc := c_Comparison_letterAt) (maxL := 4) (ret := some .int) (rt := .int) (by decide) rfl rfl (Nat.le_of_ble_eq_true rfl) ?_
  intro p e s m below meth c Q hx hb hml hown htg hK hN hP hret ls hl
  have hl : lv_has ls 4 [(0, .ref a0), (1, .int x1)] := hl
  have C_46 : ∀ (l2 : Int32) (ls : Array Slot), lv_has ls 4 [(0, .ref a0), (2, .int l2)] → p_Comparison_letterAt_46 f_o_letters post l2 → W p l e { frames := 0, cells := 0, slots := 0, locals := 0 } s m ([.ref a0, .int x1] : List Value).toArray below meth c s.heap [] 0 0 Q (F0 m 46 ls []) := by
    intro  l2 ls hl h
    refine lv_aload_n hx hb d_Comparison_letterAt_46 rfl (lv_at hl 0 rfl) ?_
    refine va_get (ci := 1) (v := .ref a0_letters) hx hb htg in_Comparison hown hK hP 0 rfl rfl 4 (by decide) (htg _ m_160) (fun _ h9 => h9) rfl d_Comparison_letterAt_47 ?_
    refine lv_iload_n hx hb d_Comparison_letterAt_50 rfl (lv_at hl 1 rfl) ?_
    obtain ⟨hin, h⟩ := h
    refine va_iald hx hb hK hP 2 0 rfl rfl hin d_Comparison_letterAt_51 ?_
    exact hret _ _ _ h (vp_nar_int _) d_Comparison_letterAt_52
  have C_28 : ∀ (n : Nat) (l2 : Int32) (l3 : Int32) (ls : Array Slot), lv_has ls 4 [(0, .ref a0), (1, .int x1), (2, .int l2), (3, .int l3)] → p_Comparison_letterAt_28 f_o_before f_o_letters x1 post n l2 l3 → W p l e { frames := 0, cells := 0, slots := 0, locals := 0 } s m ([.ref a0, .int x1] : List Value).toArray below meth c s.heap [] 0 0 Q (F0 m 28 ls []) := by
    intro n
    induction n with
    | zero =>
      intro l2 l3 ls hl h
      exact False.elim h
    | succ n ih =>
      intro l2 l3 ls hl h
      refine lv_iload_n hx hb d_Comparison_letterAt_28 rfl (lv_at hl 3 rfl) ?_
      refine lv_iload_n hx hb d_Comparison_letterAt_29 rfl (lv_at hl 1 rfl) ?_
      refine lv_icmp_le (tgt := 46) hx hb d_Comparison_letterAt_30 (by decide) (fun hc => ?_) (fun hc => ?_)
      · replace h := h.1 hc
        exact C_46 l2 _ (lv_sub hl [0, 2] rfl) h
      · replace h := h.2 hc
        refine lv_aload_n hx hb d_Comparison_letterAt_33 rfl (lv_at hl 0 rfl) ?_
        refine va_get (ci := 1) (v := .ref a0_before) hx hb htg in_Comparison hown hK hP 0 rfl rfl 3 (by decide) (htg _ m_159) (fun _ h9 => h9) rfl d_Comparison_letterAt_34 ?_
        refine lv_iload_n hx hb d_Comparison_letterAt_37 rfl (lv_at hl 2 rfl) ?_
        obtain ⟨hin, h⟩ := h
        refine va_iald hx hb hK hP 1 0 rfl rfl hin d_Comparison_letterAt_38 ?_
        refine lv_istore_n (lv' := [(2, .int (f_o_before l2.toNatClampNeg)), (0, .ref a0), (1, .int x1), (3, .int l3)]) hx hb d_Comparison_letterAt_39 rfl hl (by decide) rfl (fun ls hl => ?_)
        refine lv_iinc (v := (l3 + (-1))) (lv' := [(3, .int (l3 + (-1))), (2, .int (f_o_before l2.toNatClampNeg)), (0, .ref a0), (1, .int x1)]) hx hb d_Comparison_letterAt_40 hl (k := 3) rfl (by first | rfl | decide) (by decide) rfl (fun ls hl => ?_)
        refine lv_goto (tgt := 28) hx hb d_Comparison_letterAt_43 (by decide) ?_
        exact ih (f_o_before l2.toNatClampNeg) (l3 + (-1)) _ (lv_sub hl [2, 3, 1, 0] rfl) h
  refine lv_iload_n hx hb d_Comparison_letterAt_0 rfl (lv_at hl 1 rfl) ?_
  refine lv_if_lt (tgt := 12) hx hb d_Comparison_letterAt_1 (by decide) (fun hc => ?_) (fun hc => ?_)
  · replace h := h.1 hc
    refine lv_iconst (v := (-1)) hx hb d_Comparison_letterAt_12 (by decide) ?_
    exact hret _ _ _ h (vp_nar_int _) d_Comparison_letterAt_13
  · replace h := h.2 hc
    refine lv_iload_n hx hb d_Comparison_letterAt_4 rfl (lv_at hl 1 rfl) ?_
    refine lv_aload_n hx hb d_Comparison_letterAt_5 rfl (lv_at hl 0 rfl) ?_
    refine va_get (ci := 1) (v := .int v_o_length) hx hb htg in_Comparison hown hK hP 0 rfl rfl 6 (by decide) (htg _ m_162) (fun _ h9 => h9) rfl d_Comparison_letterAt_6 ?_
    refine lv_icmp_lt (tgt := 14) hx hb d_Comparison_letterAt_9 (by decide) (fun hc => ?_) (fun hc => ?_)
    · replace h := h.1 hc
      refine lv_aload_n hx hb d_Comparison_letterAt_14 rfl (lv_at hl 0 rfl) ?_
      refine va_get (ci := 1) (v := .int v_o_pairs) hx hb htg in_Comparison hown hK hP 0 rfl rfl 5 (by decide) (htg _ m_161) (fun _ h9 => h9) rfl d_Comparison_letterAt_15 ?_
      refine lv_iconst (v := 1) hx hb d_Comparison_letterAt_18 (by decide) ?_
      refine lv_isub hx hb d_Comparison_letterAt_19 ?_
      refine lv_istore_n (lv' := [(2, .int (v_o_pairs - 1)), (0, .ref a0), (1, .int x1)]) hx hb d_Comparison_letterAt_20 rfl hl (by decide) rfl (fun ls hl => ?_)
      refine lv_aload_n hx hb d_Comparison_letterAt_21 rfl (lv_at hl 1 rfl) ?_
      refine va_get (ci := 1) (v := .int v_o_length) hx hb htg in_Comparison hown hK hP 0 rfl rfl 6 (by decide) (htg _ m_162) (fun _ h9 => h9) rfl d_Comparison_letterAt_22 ?_
      refine lv_iconst (v := 1) hx hb d_Comparison_letterAt_25 (by decide) ?_
      refine lv_isub hx hb d_Comparison_letterAt_26 ?_
      refine lv_istore_n (lv' := [(3, .int (v_o_length - 1)), (2, .int (v_o_pairs - 1)), (0, .ref a0), (1, .int x1)]) hx hb d_Comparison_letterAt_27 rfl hl (by decide) rfl (fun ls hl => ?_)
      obtain ⟨k, h⟩ := h
      exact C_28 k (v_o_pairs - 1) (v_o_length - 1) _ (lv_sub hl [2, 3, 1, 0] rfl) h
    · replace h := h.2 hc
      refine lv_iconst (v := (-1)) hx hb d_Comparison_letterAt_12 (by decide) ?_
      exact hret _ _ _ h (vp_nar_int _) d_Comparison_letterAt_13
def p_Comparison_leftNode (x0 : Int32) (post : Int32 → Prop) : Prop := (post (x0 + 1))
set_option maxHeartbeats 4000000 in
set_option maxRecDepth 100000 in
theorem k_Comparison_leftNode (l : Launch) (G : va_G) (K : Nat → ClassId)  (x0 : Int32) (post : Int32 → Prop) (h : p_Comparison_leftNode x0 post) : MSi l y_Comparison_leftNode (.code y_Comparison_leftNode c_Comparison_leftNode 1 (some .int)) { frames := 0, cells := 0, slots := 0, locals := 0 } G K [] [.int x0] post := by
  refine g_metSi (cc := c_Comparison_leftNode) (maxL := 1) (ret := some .int) (rt := .int) (by decide) rfl rfl (Nat.le_of_ble_eq_true rfl) ?_
  intro p e s m below meth c Q hx hb hml hown htg hK hN hP hret ls hl
  have hl : lv_has ls 1 [(0, .int x0)] := hl
  refine lv_iload_n hx hb d_Comparison_leftNode_0 rfl (lv_at hl 0 rfl) ?_
  refine lv_iconst (v := 1) hx hb d_Comparison_leftNode_1 (by decide) ?_
  refine lv_iadd hx hb d_Comparison_leftNode_2 ?_
  exact hret _ _ _ h (vp_nar_int _) d_Comparison_leftNode_3
def p_Comparison_rightNode (x0 : Int32) (post : Int32 → Prop) : Prop := (post (((x0 + 1) + 512) + 1))
set_option maxHeartbeats 4000000 in
set_option maxRecDepth 100000 in
theorem k_Comparison_rightNode (l : Launch) (G : va_G) (K : Nat → ClassId)  (x0 : Int32) (post : Int32 → Prop) (h : p_Comparison_rightNode x0 post) : MSi l y_Comparison_rightNode (.code y_Comparison_rightNode c_Comparison_rightNode 1 (some .int)) { frames := 0, cells := 0, slots := 0, locals := 0 } G K [] [.int x0] post := by
  refine g_metSi (cc := c_Comparison_rightNode) (maxL := 1) (ret := some .int) (rt := .int) (by decide) rfl rfl (Nat.le_of_ble_eq_true rfl) ?_
  intro p e s m below meth c Q hx hb hml hown htg hK hN hP hret ls hl
  have hl : lv_has ls 1 [(0, .int x0)] := hl
  refine lv_iload_n hx hb d_Comparison_rightNode_0 rfl (lv_at hl 0 rfl) ?_
  refine lv_iconst (v := 1) hx hb d_Comparison_rightNode_1 (by decide) ?_
  refine lv_iadd hx hb d_Comparison_rightNode_2 ?_
  refine lv_sipush (v := 512) hx hb d_Comparison_rightNode_3 (by decide) ?_
  refine lv_iadd hx hb d_Comparison_rightNode_6 ?_
  refine lv_iconst (v := 1) hx hb d_Comparison_rightNode_7 (by decide) ?_
  refine lv_iadd hx hb d_Comparison_rightNode_8 ?_
  exact hret _ _ _ h (vp_nar_int _) d_Comparison_rightNode_9
def p_Comparison_leaderOf_4  (post : Int32 → (Nat → Int32) → Prop) : Nat → Int32 → Int32 → (Nat → Int32) → Prop
  | 0, _, _, _ => False
  | n + 1, l2, l3, f_o_leader => ((1026 ≤ l3 → (post l2 f_o_leader)) ∧ (¬ 1026 ≤ l3 → (vp_in l2 1026 ∧ (((f_o_leader l2.toNatClampNeg) = l2 → (post l2 f_o_leader)) ∧ (¬ (f_o_leader l2.toNatClampNeg) = l2 → (vp_in l2 1026 ∧ (vp_in (f_o_leader l2.toNatClampNeg) 1026 ∧ (vp_in l2 1026 ∧ (vp_in l2 1026 ∧ (p_Comparison_leaderOf_4 post n ((upd f_o_leader l2.toNatClampNeg (f_o_leader (f_o_leader l2.toNatClampNeg).toNatClampNeg)) l2.toNatClampNeg) (l3 + 1) (upd f_o_leader l2.toNatClampNeg (f_o_leader (f_o_leader l2.toNatClampNeg).toNatClampNeg))))))))))))
def p_Comparison_leaderOf (f_o_leader : (Nat → Int32)) (x1 : Int32) (post : Int32 → (Nat → Int32) → Prop) : Prop := (∃ k, p_Comparison_leaderOf_4 post k x1 0 f_o_leader)
set_option maxHeartbeats 4000000 in
set_option maxRecDepth 100000 in
theorem k_Comparison_leaderOf (l : Launch) (G : va_G) (K : Nat → ClassId) (a0 a0_leader a0_left a0_right a0_before a0_letters : Nat) (sz : Nat) (v_o_pairs : Int32) (v_o_length : Int32) (v_o_one : Int32) (v_o_other : Int32) (f_o_leader : (Nat → Int32)) (x1 : Int32) (post : Int32 → (Nat → Int32) → Prop) (h : p_Comparison_leaderOf f_o_leader x1 post) : MWi l y_Comparison_leaderOf (.code y_Comparison_leaderOf c_Comparison_leaderOf 4 (some .int)) { frames := 0, cells := 0, slots := 0, locals := 0 } G K [(a0_leader, .inl (K 0, 1026, .inl f_o_leader))] [(a0, .inr (1, [.ref a0_leader, .ref a0_left, .ref a0_right, .ref a0_before, .ref a0_letters, .int v_o_pairs, .int v_o_length, .int v_o_one, .int v_o_other]))] [.ref a0, .int x1] sz (fun r (u : (Nat → Int32)) => post r u) (fun u => [(a0_leader, .inl (K 0, 1026, .inl u))]) 0 0 := by
  refine g_metWi (cc := c_Comparison_leaderOf) (maxL := 4) (ret := some .int) (rt := .int) (by decide) rfl rfl (Nat.le_of_ble_eq_true rfl) ?_
  intro p e s m below meth c A Q hx hb hml hown hname htg hK hN hP hD hA hS hR rN hret ls hl
  have hl : lv_has ls 4 [(0, .ref a0), (1, .int x1)] := hl
  have C_4 : ∀ (n : Nat) (l2 : Int32) (l3 : Int32) (f_o_leader : (Nat → Int32)) (H : Heap) (locs : List Loc), va_P G vwCl [(a0_leader, .inl (K 0, 1026, .inl f_o_leader))] H → va_D A [(a0_leader, .inl (K 0, 1026, .inl f_o_leader))] → va_S A s.heap H locs → ∀ (ls : Array Slot), lv_has ls 4 [(0, .ref a0), (2, .int l2), (3, .int l3)] → p_Comparison_leaderOf_4 post n l2 l3 f_o_leader → W p l e { frames := 0, cells := 0, slots := 0, locals := 0 } s m ([.ref a0, .int x1] : List Value).toArray below meth c H locs 0 0 Q (F0 m 4 ls []) := by
    intro n
    induction n with
    | zero =>
      intro l2 l3 f_o_leader  H locs hP hD hS ls hl h
      exact False.elim h
    | succ n ih =>
      intro l2 l3 f_o_leader  H locs hP hD hS ls hl h
      refine lv_iload_n hx hb d_Comparison_leaderOf_4 rfl (lv_at hl 2 rfl) ?_
      refine lv_sipush (v := 1026) hx hb d_Comparison_leaderOf_5 (by decide) ?_
      refine lv_icmp_ge (tgt := 51) hx hb d_Comparison_leaderOf_8 (by decide) (fun hc => ?_) (fun hc => ?_)
      · replace h := h.1 hc
        refine lv_iload_n hx hb d_Comparison_leaderOf_51 rfl (lv_at hl 1 rfl) ?_
        exact hret _ f_o_leader _ _ _ _ h (vp_nar_int _) (hP.sub [0] rfl) (hD.sub [0] (by decide) rfl) hS d_Comparison_leaderOf_52
      · replace h := h.2 hc
        refine lv_aload_n hx hb d_Comparison_leaderOf_11 rfl (lv_at hl 0 rfl) ?_
        refine va_get (ci := 1) (v := .ref a0_leader) hx hb htg in_Comparison hown hK (gR hR rN hS) 0 rfl rfl 0 (by decide) (htg _ m_156) (fun _ h9 => h9) rfl d_Comparison_leaderOf_12 ?_
        refine lv_iload_n hx hb d_Comparison_leaderOf_15 rfl (lv_at hl 1 rfl) ?_
        obtain ⟨hin, h⟩ := h
        refine va_iald hx hb hK hP 0 0 rfl rfl hin d_Comparison_leaderOf_16 ?_
        refine lv_iload_n hx hb d_Comparison_leaderOf_17 rfl (lv_at hl 1 rfl) ?_
        refine lv_icmp_eq (tgt := 51) hx hb d_Comparison_leaderOf_18 (by decide) (fun hc => ?_) (fun hc => ?_)
        · replace h := h.1 hc
          refine lv_iload_n hx hb d_Comparison_leaderOf_51 rfl (lv_at hl 1 rfl) ?_
          exact hret _ f_o_leader _ _ _ _ h (vp_nar_int _) (hP.sub [0] rfl) (hD.sub [0] (by decide) rfl) hS d_Comparison_leaderOf_52
        · replace h := h.2 hc
          refine lv_aload_n hx hb d_Comparison_leaderOf_21 rfl (lv_at hl 0 rfl) ?_
          refine va_get (ci := 1) (v := .ref a0_leader) hx hb htg in_Comparison hown hK (gR hR rN hS) 0 rfl rfl 0 (by decide) (htg _ m_156) (fun _ h9 => h9) rfl d_Comparison_leaderOf_22 ?_
          refine lv_iload_n hx hb d_Comparison_leaderOf_25 rfl (lv_at hl 1 rfl) ?_
          refine lv_aload_n hx hb d_Comparison_leaderOf_26 rfl (lv_at hl 0 rfl) ?_
          refine va_get (ci := 1) (v := .ref a0_leader) hx hb htg in_Comparison hown hK (gR hR rN hS) 0 rfl rfl 0 (by decide) (htg _ m_156) (fun _ h9 => h9) rfl d_Comparison_leaderOf_27 ?_
          refine lv_aload_n hx hb d_Comparison_leaderOf_30 rfl (lv_at hl 0 rfl) ?_
          refine va_get (ci := 1) (v := .ref a0_leader) hx hb htg in_Comparison hown hK (gR hR rN hS) 0 rfl rfl 0 (by decide) (htg _ m_156) (fun _ h9 => h9) rfl d_Comparison_leaderOf_31 ?_
          refine lv_iload_n hx hb d_Comparison_leaderOf_34 rfl (lv_at hl 1 rfl) ?_
          obtain ⟨hin, h⟩ := h
          refine va_iald hx hb hK hP 0 0 rfl rfl hin d_Comparison_leaderOf_35 ?_
          obtain ⟨hin, h⟩ := h
          refine va_iald hx hb hK hP 0 0 rfl rfl hin d_Comparison_leaderOf_36 ?_
          obtain ⟨hin, h⟩ := h
          refine va_iast hx hb hK hP hD hS 0 0 rfl rfl hin d_Comparison_leaderOf_37 (fun H locs hP hD hS => ?_)
          have hP : va_P G vwCl [(a0_leader, .inl (K 0, 1026, .inl (upd f_o_leader l2.toNatClampNeg (f_o_leader (f_o_leader l2.toNatClampNeg).toNatClampNeg))))] H := hP
          have hD : va_D A [(a0_leader, .inl (K 0, 1026, .inl (upd f_o_leader l2.toNatClampNeg (f_o_leader (f_o_leader l2.toNatClampNeg).toNatClampNeg))))] := hD
          refine lv_aload_n hx hb d_Comparison_leaderOf_38 rfl (lv_at hl 0 rfl) ?_
          refine va_get (ci := 1) (v := .ref a0_leader) hx hb htg in_Comparison hown hK (gR hR rN hS) 0 rfl rfl 0 (by decide) (htg _ m_156) (fun _ h9 => h9) rfl d_Comparison_leaderOf_39 ?_
          refine lv_iload_n hx hb d_Comparison_leaderOf_42 rfl (lv_at hl 1 rfl) ?_
          obtain ⟨hin, h⟩ := h
          refine va_iald hx hb hK hP 0 0 rfl rfl hin d_Comparison_leaderOf_43 ?_
          refine lv_istore_n (lv' := [(2, .int ((upd f_o_leader l2.toNatClampNeg (f_o_leader (f_o_leader l2.toNatClampNeg).toNatClampNeg)) l2.toNatClampNeg)), (0, .ref a0), (3, .int l3)]) hx hb d_Comparison_leaderOf_44 rfl hl (by decide) rfl (fun ls hl => ?_)
          refine lv_iinc (v := (l3 + 1)) (lv' := [(3, .int (l3 + 1)), (2, .int ((upd f_o_leader l2.toNatClampNeg (f_o_leader (f_o_leader l2.toNatClampNeg).toNatClampNeg)) l2.toNatClampNeg)), (0, .ref a0)]) hx hb d_Comparison_leaderOf_45 hl (k := 2) rfl (by first | rfl | decide) (by decide) rfl (fun ls hl => ?_)
          refine lv_goto (tgt := 4) hx hb d_Comparison_leaderOf_48 (by decide) ?_
          exact ih ((upd f_o_leader l2.toNatClampNeg (f_o_leader (f_o_leader l2.toNatClampNeg).toNatClampNeg)) l2.toNatClampNeg) (l3 + 1) (upd f_o_leader l2.toNatClampNeg (f_o_leader (f_o_leader l2.toNatClampNeg).toNatClampNeg))  _ _ (hP.sub [0] rfl) (hD.sub [0] (by decide) rfl) hS _ (lv_sub hl [2, 1, 0] rfl) h
  refine lv_iload_n hx hb d_Comparison_leaderOf_0 rfl (lv_at hl 1 rfl) ?_
  refine lv_istore_n (lv' := [(2, .int x1), (0, .ref a0), (1, .int x1)]) hx hb d_Comparison_leaderOf_1 rfl hl (by decide) rfl (fun ls hl => ?_)
  refine lv_iconst (v := 0) hx hb d_Comparison_leaderOf_2 (by decide) ?_
  refine lv_istore_n (lv' := [(3, .int 0), (2, .int x1), (0, .ref a0), (1, .int x1)]) hx hb d_Comparison_leaderOf_3 rfl hl (by decide) rfl (fun ls hl => ?_)
  obtain ⟨k, h⟩ := h
  exact C_4 k x1 0 f_o_leader  _ _ (hP.sub [0] rfl) (hD.sub [0] (by decide) rfl) hS _ (lv_sub hl [2, 1, 0] rfl) h
def p_Comparison_tie (f_o_leader : (Nat → Int32)) (x1 : Int32) (x2 : Int32) (post : Int32 → (Nat → Int32) → Prop) : Prop := (p_Comparison_leaderOf f_o_leader x1 (fun r2 u1 => (p_Comparison_leaderOf u1 x2 (fun r4 u3 => (vp_in r2 1026 ∧ ((r2 = r4 → (post 0 (upd u3 r2.toNatClampNeg r4))) ∧ (¬ r2 = r4 → (post 1 (upd u3 r2.toNatClampNeg r4)))))))))
set_option maxHeartbeats 4000000 in
set_option maxRecDepth 100000 in
theorem k_Comparison_tie (l : Launch) (G : va_G) (K : Nat → ClassId) (a0 a0_leader a0_left a0_right a0_before a0_letters : Nat) (sz : Nat) (v_o_pairs : Int32) (v_o_length : Int32) (v_o_one : Int32) (v_o_other : Int32) (f_o_leader : (Nat → Int32)) (x1 : Int32) (x2 : Int32) (post : Int32 → (Nat → Int32) → Prop) (h : p_Comparison_tie f_o_leader x1 x2 post) : MWi l y_Comparison_tie (.code y_Comparison_tie c_Comparison_tie 5 (some .boolean)) { frames := 1, cells := 0, slots := 0, locals := 23 } G K [(a0_leader, .inl (K 0, 1026, .inl f_o_leader))] [(a0, .inr (1, [.ref a0_leader, .ref a0_left, .ref a0_right, .ref a0_before, .ref a0_letters, .int v_o_pairs, .int v_o_length, .int v_o_one, .int v_o_other]))] [.ref a0, .int x1, .int x2] sz (fun r (u : (Nat → Int32)) => post r u) (fun u => [(a0_leader, .inl (K 0, 1026, .inl u))]) 0 0 := by
  refine g_metWi (cc := c_Comparison_tie) (maxL := 5) (ret := some .boolean) (rt := .boolean) (by decide) rfl rfl (Nat.le_of_ble_eq_true rfl) ?_
  intro p e s m below meth c A Q hx hb hml hown hname htg hK hN hP hD hA hS hR rN hret ls hl
  have hl : lv_has ls 5 [(0, .ref a0), (1, .int x1), (2, .int x2)] := hl
  refine lv_aload_n hx hb d_Comparison_tie_0 rfl (lv_at hl 0 rfl) ?_
  refine lv_iload_n hx hb d_Comparison_tie_1 rfl (lv_at hl 1 rfl) ?_
  have hPc : va_P G vwCl [(a0_leader, .inl (K 0, 1026, .inl f_o_leader))] _ := hP.sub [0] rfl
  have hDc : va_D A [(a0_leader, .inl (K 0, 1026, .inl f_o_leader))] := hD.sub [0] (by decide) rfl
  have hRc : va_P G vwCl [(a0, .inr (1, [.ref a0_leader, .ref a0_left, .ref a0_right, .ref a0_before, .ref a0_letters, .int v_o_pairs, .int v_o_length, .int v_o_one, .int v_o_other]))] _ := (gR hR rN hS).sub [0] rfl
  have hJc : gJ [(a0_leader, .inl (K 0, 1026, .inl f_o_leader))] [(a0, .inr (1, [.ref a0_leader, .ref a0_left, .ref a0_right, .ref a0_before, .ref a0_letters, .int v_o_pairs, .int v_o_length, .int v_o_one, .int v_o_other]))] := gJ_A hDc (gN_sub rN [0] rfl)
  refine g_calli (wr := []) (va_runV (As := [.int x1]) (rest := []) ⟨hx, hb, hml, hown, htg⟩ (k_Comparison_leaderOf l G K a0 a0_leader a0_left a0_right a0_before a0_letters _ v_o_pairs v_o_length v_o_one v_o_other f_o_leader x1 _ h) (cwV 1 htg (gGoodV m_464 m_465 m_842 m_10 m_466) rfl rfl rfl (by decide +kernel) ⟨(Nat.le_of_ble_eq_true rfl), (Nat.le_of_ble_eq_true rfl)⟩) (gW_preV (ci := 1) (q0 := 0) hK hN hPc hDc hRc hJc hRc rfl rfl) rfl rfl hl.1 rfl (lv_room (Nat.le_of_ble_eq_true rfl)) d_Comparison_tie_2 ⟨(Nat.le_of_ble_eq_true rfl), (Nat.le_of_ble_eq_true rfl)⟩) hP hD hS hA [0] [] rfl rfl (by decide) (by decide) (fun r2 u H locs h hP hD hS => ?_)
  obtain ⟨u1, rfl⟩ : ∃ z, z = u := ⟨_, rfl⟩
  try dsimp only at h
  have hP : va_P G vwCl [(a0_leader, .inl (K 0, 1026, .inl u1))] H := hP
  have hD : va_D A [(a0_leader, .inl (K 0, 1026, .inl u1))] := hD
  refine lv_istore_n (lv' := [(3, .int r2), (0, .ref a0), (1, .int x1), (2, .int x2)]) hx hb d_Comparison_tie_5 rfl hl (by decide) rfl (fun ls hl => ?_)
  refine lv_aload_n hx hb d_Comparison_tie_6 rfl (lv_at hl 1 rfl) ?_
  refine lv_iload_n hx hb d_Comparison_tie_7 rfl (lv_at hl 3 rfl) ?_
  have hPc : va_P G vwCl [(a0_leader, .inl (K 0, 1026, .inl u1))] _ := hP.sub [0] rfl
  have hDc : va_D A [(a0_leader, .inl (K 0, 1026, .inl u1))] := hD.sub [0] (by decide) rfl
  have hRc : va_P G vwCl [(a0, .inr (1, [.ref a0_leader, .ref a0_left, .ref a0_right, .ref a0_before, .ref a0_letters, .int v_o_pairs, .int v_o_length, .int v_o_one, .int v_o_other]))] _ := (gR hR rN hS).sub [0] rfl
  have hJc : gJ [(a0_leader, .inl (K 0, 1026, .inl u1))] [(a0, .inr (1, [.ref a0_leader, .ref a0_left, .ref a0_right, .ref a0_before, .ref a0_letters, .int v_o_pairs, .int v_o_length, .int v_o_one, .int v_o_other]))] := gJ_A hDc (gN_sub rN [0] rfl)
  refine g_calli (wr := []) (va_runV (As := [.int x2]) (rest := []) ⟨hx, hb, hml, hown, htg⟩ (k_Comparison_leaderOf l G K a0 a0_leader a0_left a0_right a0_before a0_letters _ v_o_pairs v_o_length v_o_one v_o_other u1 x2 _ h) (cwV 1 htg (gGoodV m_464 m_465 m_842 m_10 m_466) rfl rfl rfl (by decide +kernel) ⟨(Nat.le_of_ble_eq_true rfl), (Nat.le_of_ble_eq_true rfl)⟩) (gW_preV (ci := 1) (q0 := 0) hK hN hPc hDc hRc hJc hRc rfl rfl) rfl rfl hl.1 rfl (lv_room (Nat.le_of_ble_eq_true rfl)) d_Comparison_tie_8 ⟨(Nat.le_of_ble_eq_true rfl), (Nat.le_of_ble_eq_true rfl)⟩) hP hD hS hA [0] [] rfl rfl (by decide) (by decide) (fun r4 u H locs h hP hD hS => ?_)
  obtain ⟨u3, rfl⟩ : ∃ z, z = u := ⟨_, rfl⟩
  try dsimp only at h
  have hP : va_P G vwCl [(a0_leader, .inl (K 0, 1026, .inl u3))] H := hP
  have hD : va_D A [(a0_leader, .inl (K 0, 1026, .inl u3))] := hD
  refine lv_istore (lv' := [(4, .int r4), (3, .int r2), (0, .ref a0), (1, .int x1), (2, .int x2)]) hx hb d_Comparison_tie_11 hl (by decide) rfl (fun ls hl => ?_)
  refine lv_aload_n hx hb d_Comparison_tie_13 rfl (lv_at hl 2 rfl) ?_
  refine va_get (ci := 1) (v := .ref a0_leader) hx hb htg in_Comparison hown hK (gR hR rN hS) 0 rfl rfl 0 (by decide) (htg _ m_156) (fun _ h9 => h9) rfl d_Comparison_tie_14 ?_
  refine lv_iload_n hx hb d_Comparison_tie_17 rfl (lv_at hl 1 rfl) ?_
  refine lv_iload hx hb d_Comparison_tie_18 (lv_at hl 0 rfl) ?_
  obtain ⟨hin, h⟩ := h
  refine va_iast hx hb hK hP hD hS 0 0 rfl rfl hin d_Comparison_tie_20 (fun H locs hP hD hS => ?_)
  have hP : va_P G vwCl [(a0_leader, .inl (K 0, 1026, .inl (upd u3 r2.toNatClampNeg r4)))] H := hP
  have hD : va_D A [(a0_leader, .inl (K 0, 1026, .inl (upd u3 r2.toNatClampNeg r4)))] := hD
  refine lv_iload_n hx hb d_Comparison_tie_21 rfl (lv_at hl 1 rfl) ?_
  refine lv_iload hx hb d_Comparison_tie_22 (lv_at hl 0 rfl) ?_
  refine lv_icmp_eq (tgt := 31) hx hb d_Comparison_tie_24 (by decide) (fun hc => ?_) (fun hc => ?_)
  · replace h := h.1 hc
    refine lv_iconst (v := 0) hx hb d_Comparison_tie_31 (by decide) ?_
    exact hret _ (upd u3 r2.toNatClampNeg r4) _ _ _ _ h (by decide +kernel) (hP.sub [0] rfl) (hD.sub [0] (by decide) rfl) hS d_Comparison_tie_32
  · replace h := h.2 hc
    refine lv_iconst (v := 1) hx hb d_Comparison_tie_27 (by decide) ?_
    refine lv_goto (tgt := 32) hx hb d_Comparison_tie_28 (by decide) ?_
    exact hret _ (upd u3 r2.toNatClampNeg r4) _ _ _ _ h (by decide +kernel) (hP.sub [0] rfl) (hD.sub [0] (by decide) rfl) hS d_Comparison_tie_32
def p_Comparison_add (v_o_pairs : Int32) (f_o_left : (Nat → Int32)) (f_o_right : (Nat → Int32)) (f_o_before : (Nat → Int32)) (f_o_letters : (Nat → Int32)) (x1 : Int32) (x2 : Int32) (x3 : Int32) (x4 : Int32) (post : Int32 → (Nat → Int32) → (Nat → Int32) → (Nat → Int32) → (Nat → Int32) → Prop) : Prop := (vp_in v_o_pairs 1027 ∧ (vp_in v_o_pairs 1027 ∧ (vp_in v_o_pairs 1027 ∧ (vp_in v_o_pairs 1027 ∧ (post (v_o_pairs + 1) (upd f_o_left v_o_pairs.toNatClampNeg x1) (upd f_o_right v_o_pairs.toNatClampNeg x2) (upd f_o_before v_o_pairs.toNatClampNeg x3) (upd f_o_letters v_o_pairs.toNatClampNeg x4))))))
set_option maxHeartbeats 4000000 in
set_option maxRecDepth 100000 in
theorem k_Comparison_add (l : Launch) (G : va_G) (K : Nat → ClassId) (a0 a0_left a0_right a0_before a0_letters a0_leader : Nat) (sz : Nat) (v_o_pairs : Int32) (v_o_length : Int32) (v_o_one : Int32) (v_o_other : Int32) (f_o_left : (Nat → Int32)) (f_o_right : (Nat → Int32)) (f_o_before : (Nat → Int32)) (f_o_letters : (Nat → Int32)) (x1 : Int32) (x2 : Int32) (x3 : Int32) (x4 : Int32) (post : Int32 → (Nat → Int32) → (Nat → Int32) → (Nat → Int32) → (Nat → Int32) → Prop) (h : p_Comparison_add v_o_pairs f_o_left f_o_right f_o_before f_o_letters x1 x2 x3 x4 post) : MWv l y_Comparison_add (.code y_Comparison_add c_Comparison_add 5 none) { frames := 0, cells := 0, slots := 0, locals := 0 } G K [(a0, .inr (1, [.ref a0_leader, .ref a0_left, .ref a0_right, .ref a0_before, .ref a0_letters, .int v_o_pairs, .int v_o_length, .int v_o_one, .int v_o_other])), (a0_left, .inl (K 0, 1027, .inl f_o_left)), (a0_right, .inl (K 0, 1027, .inl f_o_right)), (a0_before, .inl (K 0, 1027, .inl f_o_before)), (a0_letters, .inl (K 0, 1027, .inl f_o_letters))] [] [.ref a0, .int x1, .int x2, .int x3, .int x4] sz (fun (u : Int32 × (Nat → Int32) × (Nat → Int32) × (Nat → Int32) × (Nat → Int32)) => post u.1 u.2.1 u.2.2.1 u.2.2.2.1 u.2.2.2.2) (fun u => [(a0, .inr (1, [.ref a0_leader, .ref a0_left, .ref a0_right, .ref a0_before, .ref a0_letters, .int u.1, .int v_o_length, .int v_o_one, .int v_o_other])), (a0_left, .inl (K 0, 1027, .inl u.2.1)), (a0_right, .inl (K 0, 1027, .inl u.2.2.1)), (a0_before, .inl (K 0, 1027, .inl u.2.2.2.1)), (a0_letters, .inl (K 0, 1027, .inl u.2.2.2.2))]) 0 0 := by
  refine g_metWv (cc := c_Comparison_add) (maxL := 5) (ret := none) (by decide) rfl rfl (Nat.le_of_ble_eq_true rfl) ?_
  intro p e s m below meth c A Q hx hb hml hown hname htg hK hN hP hD hA hS hR rN hret ls hl
  have hl : lv_has ls 5 [(0, .ref a0), (1, .int x1), (2, .int x2), (3, .int x3), (4, .int x4)] := hl
  refine lv_aload_n hx hb d_Comparison_add_0 rfl (lv_at hl 0 rfl) ?_
  refine va_get (ci := 1) (v := .ref a0_left) hx hb htg in_Comparison hown hK hP 0 rfl rfl 1 (by decide) (htg _ m_157) (fun _ h9 => h9) rfl d_Comparison_add_1 ?_
  refine lv_aload_n hx hb d_Comparison_add_4 rfl (lv_at hl 0 rfl) ?_
  refine va_get (ci := 1) (v := .int v_o_pairs) hx hb htg in_Comparison hown hK hP 0 rfl rfl 5 (by decide) (htg _ m_161) (fun _ h9 => h9) rfl d_Comparison_add_5 ?_
  refine lv_iload_n hx hb d_Comparison_add_8 rfl (lv_at hl 1 rfl) ?_
  obtain ⟨hin, h⟩ := h
  refine va_iast hx hb hK hP hD hS 1 0 rfl rfl hin d_Comparison_add_9 (fun H locs hP hD hS => ?_)
  have hP : va_P G vwCl [(a0, .inr (1, [.ref a0_leader, .ref a0_left, .ref a0_right, .ref a0_before, .ref a0_letters, .int v_o_pairs, .int v_o_length, .int v_o_one, .int v_o_other])), (a0_left, .inl (K 0, 1027, .inl (upd f_o_left v_o_pairs.toNatClampNeg x1))), (a0_right, .inl (K 0, 1027, .inl f_o_right)), (a0_before, .inl (K 0, 1027, .inl f_o_before)), (a0_letters, .inl (K 0, 1027, .inl f_o_letters))] H := hP
  have hD : va_D A [(a0, .inr (1, [.ref a0_leader, .ref a0_left, .ref a0_right, .ref a0_before, .ref a0_letters, .int v_o_pairs, .int v_o_length, .int v_o_one, .int v_o_other])), (a0_left, .inl (K 0, 1027, .inl (upd f_o_left v_o_pairs.toNatClampNeg x1))), (a0_right, .inl (K 0, 1027, .inl f_o_right)), (a0_before, .inl (K 0, 1027, .inl f_o_before)), (a0_letters, .inl (K 0, 1027, .inl f_o_letters))] := hD
  refine lv_aload_n hx hb d_Comparison_add_10 rfl (lv_at hl 0 rfl) ?_
  refine va_get (ci := 1) (v := .ref a0_right) hx hb htg in_Comparison hown hK hP 0 rfl rfl 2 (by decide) (htg _ m_158) (fun _ h9 => h9) rfl d_Comparison_add_11 ?_
  refine lv_aload_n hx hb d_Comparison_add_14 rfl (lv_at hl 0 rfl) ?_
  refine va_get (ci := 1) (v := .int v_o_pairs) hx hb htg in_Comparison hown hK hP 0 rfl rfl 5 (by decide) (htg _ m_161) (fun _ h9 => h9) rfl d_Comparison_add_15 ?_
  refine lv_iload_n hx hb d_Comparison_add_18 rfl (lv_at hl 2 rfl) ?_
  obtain ⟨hin, h⟩ := h
  refine va_iast hx hb hK hP hD hS 2 0 rfl rfl hin d_Comparison_add_19 (fun H locs hP hD hS => ?_)
  have hP : va_P G vwCl [(a0, .inr (1, [.ref a0_leader, .ref a0_left, .ref a0_right, .ref a0_before, .ref a0_letters, .int v_o_pairs, .int v_o_length, .int v_o_one, .int v_o_other])), (a0_left, .inl (K 0, 1027, .inl (upd f_o_left v_o_pairs.toNatClampNeg x1))), (a0_right, .inl (K 0, 1027, .inl (upd f_o_right v_o_pairs.toNatClampNeg x2))), (a0_before, .inl (K 0, 1027, .inl f_o_before)), (a0_letters, .inl (K 0, 1027, .inl f_o_letters))] H := hP
  have hD : va_D A [(a0, .inr (1, [.ref a0_leader, .ref a0_left, .ref a0_right, .ref a0_before, .ref a0_letters, .int v_o_pairs, .int v_o_length, .int v_o_one, .int v_o_other])), (a0_left, .inl (K 0, 1027, .inl (upd f_o_left v_o_pairs.toNatClampNeg x1))), (a0_right, .inl (K 0, 1027, .inl (upd f_o_right v_o_pairs.toNatClampNeg x2))), (a0_before, .inl (K 0, 1027, .inl f_o_before)), (a0_letters, .inl (K 0, 1027, .inl f_o_letters))] := hD
  refine lv_aload_n hx hb d_Comparison_add_20 rfl (lv_at hl 0 rfl) ?_
  refine va_get (ci := 1) (v := .ref a0_before) hx hb htg in_Comparison hown hK hP 0 rfl rfl 3 (by decide) (htg _ m_159) (fun _ h9 => h9) rfl d_Comparison_add_21 ?_
  refine lv_aload_n hx hb d_Comparison_add_24 rfl (lv_at hl 0 rfl) ?_
  refine va_get (ci := 1) (v := .int v_o_pairs) hx hb htg in_Comparison hown hK hP 0 rfl rfl 5 (by decide) (htg _ m_161) (fun _ h9 => h9) rfl d_Comparison_add_25 ?_
  refine lv_iload_n hx hb d_Comparison_add_28 rfl (lv_at hl 3 rfl) ?_
  obtain ⟨hin, h⟩ := h
  refine va_iast hx hb hK hP hD hS 3 0 rfl rfl hin d_Comparison_add_29 (fun H locs hP hD hS => ?_)
  have hP : va_P G vwCl [(a0, .inr (1, [.ref a0_leader, .ref a0_left, .ref a0_right, .ref a0_before, .ref a0_letters, .int v_o_pairs, .int v_o_length, .int v_o_one, .int v_o_other])), (a0_left, .inl (K 0, 1027, .inl (upd f_o_left v_o_pairs.toNatClampNeg x1))), (a0_right, .inl (K 0, 1027, .inl (upd f_o_right v_o_pairs.toNatClampNeg x2))), (a0_before, .inl (K 0, 1027, .inl (upd f_o_before v_o_pairs.toNatClampNeg x3))), (a0_letters, .inl (K 0, 1027, .inl f_o_letters))] H := hP
  have hD : va_D A [(a0, .inr (1, [.ref a0_leader, .ref a0_left, .ref a0_right, .ref a0_before, .ref a0_letters, .int v_o_pairs, .int v_o_length, .int v_o_one, .int v_o_other])), (a0_left, .inl (K 0, 1027, .inl (upd f_o_left v_o_pairs.toNatClampNeg x1))), (a0_right, .inl (K 0, 1027, .inl (upd f_o_right v_o_pairs.toNatClampNeg x2))), (a0_before, .inl (K 0, 1027, .inl (upd f_o_before v_o_pairs.toNatClampNeg x3))), (a0_letters, .inl (K 0, 1027, .inl f_o_letters))] := hD
  refine lv_aload_n hx hb d_Comparison_add_30 rfl (lv_at hl 0 rfl) ?_
  refine va_get (ci := 1) (v := .ref a0_letters) hx hb htg in_Comparison hown hK hP 0 rfl rfl 4 (by decide) (htg _ m_160) (fun _ h9 => h9) rfl d_Comparison_add_31 ?_
  refine lv_aload_n hx hb d_Comparison_add_34 rfl (lv_at hl 0 rfl) ?_
  refine va_get (ci := 1) (v := .int v_o_pairs) hx hb htg in_Comparison hown hK hP 0 rfl rfl 5 (by decide) (htg _ m_161) (fun _ h9 => h9) rfl d_Comparison_add_35 ?_
  refine lv_iload hx hb d_Comparison_add_38 (lv_at hl 4 rfl) ?_
  obtain ⟨hin, h⟩ := h
  refine va_iast hx hb hK hP hD hS 4 0 rfl rfl hin d_Comparison_add_40 (fun H locs hP hD hS => ?_)
  have hP : va_P G vwCl [(a0, .inr (1, [.ref a0_leader, .ref a0_left, .ref a0_right, .ref a0_before, .ref a0_letters, .int v_o_pairs, .int v_o_length, .int v_o_one, .int v_o_other])), (a0_left, .inl (K 0, 1027, .inl (upd f_o_left v_o_pairs.toNatClampNeg x1))), (a0_right, .inl (K 0, 1027, .inl (upd f_o_right v_o_pairs.toNatClampNeg x2))), (a0_before, .inl (K 0, 1027, .inl (upd f_o_before v_o_pairs.toNatClampNeg x3))), (a0_letters, .inl (K 0, 1027, .inl (upd f_o_letters v_o_pairs.toNatClampNeg x4)))] H := hP
  have hD : va_D A [(a0, .inr (1, [.ref a0_leader, .ref a0_left, .ref a0_right, .ref a0_before, .ref a0_letters, .int v_o_pairs, .int v_o_length, .int v_o_one, .int v_o_other])), (a0_left, .inl (K 0, 1027, .inl (upd f_o_left v_o_pairs.toNatClampNeg x1))), (a0_right, .inl (K 0, 1027, .inl (upd f_o_right v_o_pairs.toNatClampNeg x2))), (a0_before, .inl (K 0, 1027, .inl (upd f_o_before v_o_pairs.toNatClampNeg x3))), (a0_letters, .inl (K 0, 1027, .inl (upd f_o_letters v_o_pairs.toNatClampNeg x4)))] := hD
  refine lv_aload_n hx hb d_Comparison_add_41 rfl (lv_at hl 0 rfl) ?_
  refine lv_dup hx hb d_Comparison_add_42 rfl ?_
  refine va_get (ci := 1) (v := .int v_o_pairs) hx hb htg in_Comparison hown hK hP 0 rfl rfl 5 (by decide) (htg _ m_161) (fun _ h9 => h9) rfl d_Comparison_add_43 ?_
  refine lv_iconst (v := 1) hx hb d_Comparison_add_46 (by decide) ?_
  refine lv_iadd hx hb d_Comparison_add_47 ?_
  refine va_put (ci := 1) (v := .int (v_o_pairs + 1)) (ty := .int) hx hb htg in_Comparison t_Comparison tok_Comparison nm_Comparison hown hK hP hD hS 0 rfl rfl 5 (by decide) (htg _ m_161) (fun _ h9 => h9) rfl (by decide +kernel) rfl rfl (Nat.le_of_ble_eq_true rfl) d_Comparison_add_48 (fun H locs hP hD hS => ?_)
  have hP : va_P G vwCl [(a0, .inr (1, [.ref a0_leader, .ref a0_left, .ref a0_right, .ref a0_before, .ref a0_letters, .int (v_o_pairs + 1), .int v_o_length, .int v_o_one, .int v_o_other])), (a0_left, .inl (K 0, 1027, .inl (upd f_o_left v_o_pairs.toNatClampNeg x1))), (a0_right, .inl (K 0, 1027, .inl (upd f_o_right v_o_pairs.toNatClampNeg x2))), (a0_before, .inl (K 0, 1027, .inl (upd f_o_before v_o_pairs.toNatClampNeg x3))), (a0_letters, .inl (K 0, 1027, .inl (upd f_o_letters v_o_pairs.toNatClampNeg x4)))] H := hP
  have hD : va_D A [(a0, .inr (1, [.ref a0_leader, .ref a0_left, .ref a0_right, .ref a0_before, .ref a0_letters, .int (v_o_pairs + 1), .int v_o_length, .int v_o_one, .int v_o_other])), (a0_left, .inl (K 0, 1027, .inl (upd f_o_left v_o_pairs.toNatClampNeg x1))), (a0_right, .inl (K 0, 1027, .inl (upd f_o_right v_o_pairs.toNatClampNeg x2))), (a0_before, .inl (K 0, 1027, .inl (upd f_o_before v_o_pairs.toNatClampNeg x3))), (a0_letters, .inl (K 0, 1027, .inl (upd f_o_letters v_o_pairs.toNatClampNeg x4)))] := hD
  exact hret ((v_o_pairs + 1), (upd f_o_left v_o_pairs.toNatClampNeg x1), (upd f_o_right v_o_pairs.toNatClampNeg x2), (upd f_o_before v_o_pairs.toNatClampNeg x3), (upd f_o_letters v_o_pairs.toNatClampNeg x4)) _ _ _ _ h (hP.sub [0, 1, 2, 3, 4] rfl) (hD.sub [0, 1, 2, 3, 4] (by decide) rfl) hS d_Comparison_add_51
def p_Comparison_lengthOfLast_9 (f_o_before : (Nat → Int32)) (post : Int32 → Prop) : Nat → Int32 → Int32 → Prop
  | 0, _, _ => False
  | n + 1, l1, l2 => ((l2 ≤ 0 → (post l1)) ∧ (¬ l2 ≤ 0 → ((1027 ≤ l1 → (post l1)) ∧ (¬ 1027 ≤ l1 → (vp_in l2 1027 ∧ (p_Comparison_lengthOfLast_9 f_o_before post n (l1 + 1) (f_o_before l2.toNatClampNeg)))))))
def p_Comparison_lengthOfLast (v_o_pairs : Int32) (f_o_before : (Nat → Int32)) (post : Int32 → Prop) : Prop := (∃ k, p_Comparison_lengthOfLast_9 f_o_before post k 0 (v_o_pairs - 1))
set_option maxHeartbeats 4000000 in
set_option maxRecDepth 100000 in
theorem k_Comparison_lengthOfLast (l : Launch) (G : va_G) (K : Nat → ClassId) (a0 a0_before a0_leader a0_left a0_right a0_letters : Nat) (v_o_pairs : Int32) (v_o_length : Int32) (v_o_one : Int32) (v_o_other : Int32) (f_o_before : (Nat → Int32)) (post : Int32 → Prop) (h : p_Comparison_lengthOfLast v_o_pairs f_o_before post) : MSi l y_Comparison_lengthOfLast (.code y_Comparison_lengthOfLast c_Comparison_lengthOfLast 3 (some .int)) { frames := 0, cells := 0, slots := 0, locals := 0 } G K [(a0, .inr (1, [.ref a0_leader, .ref a0_left, .ref a0_right, .ref a0_before, .ref a0_letters, .int v_o_pairs, .int v_o_length, .int v_o_one, .int v_o_other])), (a0_before, .inl (K 0, 1027, .inl f_o_before))] [.ref a0] post := by
  refine g_metSi (cc := c_Comparison_lengthOfLast) (maxL := 3) (ret := some .int) (rt := .int) (by decide) rfl rfl (Nat.le_of_ble_eq_true rfl) ?_
  intro p e s m below meth c Q hx hb hml hown htg hK hN hP hret ls hl
  have hl : lv_has ls 3 [(0, .ref a0)] := hl
  have C_9 : ∀ (n : Nat) (l1 : Int32) (l2 : Int32) (ls : Array Slot), lv_has ls 3 [(0, .ref a0), (1, .int l1), (2, .int l2)] → p_Comparison_lengthOfLast_9 f_o_before post n l1 l2 → W p l e { frames := 0, cells := 0, slots := 0, locals := 0 } s m ([.ref a0] : List Value).toArray below meth c s.heap [] 0 0 Q (F0 m 9 ls []) := by
    intro n
    induction n with
    | zero =>
      intro l1 l2 ls hl h
      exact False.elim h
    | succ n ih =>
      intro l1 l2 ls hl h
      refine lv_iload_n hx hb d_Comparison_lengthOfLast_9 rfl (lv_at hl 2 rfl) ?_
      refine lv_if_le (tgt := 33) hx hb d_Comparison_lengthOfLast_10 (by decide) (fun hc => ?_) (fun hc => ?_)
      · replace h := h.1 hc
        refine lv_iload_n hx hb d_Comparison_lengthOfLast_33 rfl (lv_at hl 1 rfl) ?_
        exact hret _ _ _ h (vp_nar_int _) d_Comparison_lengthOfLast_34
      · replace h := h.2 hc
        refine lv_iload_n hx hb d_Comparison_lengthOfLast_13 rfl (lv_at hl 1 rfl) ?_
        refine lv_sipush (v := 1027) hx hb d_Comparison_lengthOfLast_14 (by decide) ?_
        refine lv_icmp_ge (tgt := 33) hx hb d_Comparison_lengthOfLast_17 (by decide) (fun hc => ?_) (fun hc => ?_)
        · replace h := h.1 hc
          refine lv_iload_n hx hb d_Comparison_lengthOfLast_33 rfl (lv_at hl 1 rfl) ?_
          exact hret _ _ _ h (vp_nar_int _) d_Comparison_lengthOfLast_34
        · replace h := h.2 hc
          refine lv_iinc (v := (l1 + 1)) (lv' := [(1, .int (l1 + 1)), (0, .ref a0), (2, .int l2)]) hx hb d_Comparison_lengthOfLast_20 hl (k := 1) rfl (by first | rfl | decide) (by decide) rfl (fun ls hl => ?_)
          refine lv_aload_n hx hb d_Comparison_lengthOfLast_23 rfl (lv_at hl 1 rfl) ?_
          refine va_get (ci := 1) (v := .ref a0_before) hx hb htg in_Comparison hown hK hP 0 rfl rfl 3 (by decide) (htg _ m_159) (fun _ h9 => h9) rfl d_Comparison_lengthOfLast_24 ?_
          refine lv_iload_n hx hb d_Comparison_lengthOfLast_27 rfl (lv_at hl 2 rfl) ?_
          obtain ⟨hin, h⟩ := h
          refine va_iald hx hb hK hP 1 0 rfl rfl hin d_Comparison_lengthOfLast_28 ?_
          refine lv_istore_n (lv' := [(2, .int (f_o_before l2.toNatClampNeg)), (1, .int (l1 + 1)), (0, .ref a0)]) hx hb d_Comparison_lengthOfLast_29 rfl hl (by decide) rfl (fun ls hl => ?_)
          refine lv_goto (tgt := 9) hx hb d_Comparison_lengthOfLast_30 (by decide) ?_
          exact ih (l1 + 1) (f_o_before l2.toNatClampNeg) _ (lv_sub hl [2, 1, 0] rfl) h
  refine lv_iconst (v := 0) hx hb d_Comparison_lengthOfLast_0 (by decide) ?_
  refine lv_istore_n (lv' := [(1, .int 0), (0, .ref a0)]) hx hb d_Comparison_lengthOfLast_1 rfl hl (by decide) rfl (fun ls hl => ?_)
  refine lv_aload_n hx hb d_Comparison_lengthOfLast_2 rfl (lv_at hl 1 rfl) ?_
  refine va_get (ci := 1) (v := .int v_o_pairs) hx hb htg in_Comparison hown hK hP 0 rfl rfl 5 (by decide) (htg _ m_161) (fun _ h9 => h9) rfl d_Comparison_lengthOfLast_3 ?_
  refine lv_iconst (v := 1) hx hb d_Comparison_lengthOfLast_6 (by decide) ?_
  refine lv_isub hx hb d_Comparison_lengthOfLast_7 ?_
  refine lv_istore_n (lv' := [(2, .int (v_o_pairs - 1)), (1, .int 0), (0, .ref a0)]) hx hb d_Comparison_lengthOfLast_8 rfl hl (by decide) rfl (fun ls hl => ?_)
  obtain ⟨k, h⟩ := h
  exact C_9 k 0 (v_o_pairs - 1) _ (lv_sub hl [2, 1, 0] rfl) h
def p_Comparison_findsDifference_3 (n_p1_winners : Nat) (f_p1_winners : (Nat → Int32)) (n_p1_after : Nat) (f_p1_after : (Nat → Int32)) (n_p2_winners : Nat) (f_p2_winners : (Nat → Int32)) (n_p2_after : Nat) (f_p2_after : (Nat → Int32)) (x3 : Int32) (post : Int32 → Int32 → (Nat → Int32) → (Nat → Int32) → (Nat → Int32) → (Nat → Int32) → (Nat → Int32) → Prop) : Nat → Int32 → Int32 → (Nat → Int32) → (Nat → Int32) → (Nat → Int32) → (Nat → Int32) → (Nat → Int32) → Prop
  | 0, _, _, _, _, _, _, _ => False
  | n + 1, l4, v_o_pairs, f_o_left, f_o_right, f_o_leader, f_o_before, f_o_letters => ((6 ≤ l4 → (post 0 v_o_pairs f_o_left f_o_right f_o_leader f_o_before f_o_letters)) ∧ (¬ 6 ≤ l4 → (vp_in x3 1027 ∧ (p_Machine_after n_p1_winners n_p1_after f_p1_after (f_o_left x3.toNatClampNeg) l4 (fun r1301 => (vp_in x3 1027 ∧ (p_Machine_after n_p2_winners n_p2_after f_p2_after (f_o_right x3.toNatClampNeg) l4 (fun r1302 => (p_Machine_hasWinner n_p1_winners f_p1_winners r1301 (fun r1303 => (p_Machine_hasWinner n_p2_winners f_p2_winners r1302 (fun r1304 => ((r1303 = r1304 → (p_Comparison_leftNode r1301 (fun r1305 => (p_Comparison_rightNode r1302 (fun r1306 => (p_Comparison_tie f_o_leader r1305 r1306 (fun r1308 u1307 => ((r1308 = 0 → (p_Comparison_findsDifference_3 n_p1_winners f_p1_winners n_p1_after f_p1_after n_p2_winners f_p2_winners n_p2_after f_p2_after x3 post n (l4 + 1) v_o_pairs f_o_left f_o_right u1307 f_o_before f_o_letters)) ∧ (¬ r1308 = 0 → (p_Comparison_add v_o_pairs f_o_left f_o_right f_o_before f_o_letters r1301 r1302 x3 l4 (fun u1309 u1310 u1311 u1312 u1313 => (p_Comparison_findsDifference_3 n_p1_winners f_p1_winners n_p1_after f_p1_after n_p2_winners f_p2_winners n_p2_after f_p2_after x3 post n (l4 + 1) u1309 u1310 u1311 u1307 u1312 u1313)))))))))))) ∧ (¬ r1303 = r1304 → (p_Comparison_add v_o_pairs f_o_left f_o_right f_o_before f_o_letters r1301 r1302 x3 l4 (fun u1315 u1316 u1317 u1318 u1319 => (post 1 u1315 u1316 u1317 f_o_leader u1318 u1319)))))))))))))))))
def p_Comparison_findsDifference (v_o_pairs : Int32) (f_o_left : (Nat → Int32)) (n_p1_winners : Nat) (f_p1_winners : (Nat → Int32)) (n_p1_after : Nat) (f_p1_after : (Nat → Int32)) (f_o_right : (Nat → Int32)) (n_p2_winners : Nat) (f_p2_winners : (Nat → Int32)) (n_p2_after : Nat) (f_p2_after : (Nat → Int32)) (f_o_leader : (Nat → Int32)) (f_o_before : (Nat → Int32)) (f_o_letters : (Nat → Int32)) (x3 : Int32) (post : Int32 → Int32 → (Nat → Int32) → (Nat → Int32) → (Nat → Int32) → (Nat → Int32) → (Nat → Int32) → Prop) : Prop := (∃ k, p_Comparison_findsDifference_3 n_p1_winners f_p1_winners n_p1_after f_p1_after n_p2_winners f_p2_winners n_p2_after f_p2_after x3 post k 0 v_o_pairs f_o_left f_o_right f_o_leader f_o_before f_o_letters)
set_option maxHeartbeats 4000000 in
set_option maxRecDepth 100000 in
theorem k_Comparison_findsDifference (l : Launch) (G : va_G) (K : Nat → ClassId) (a0 a0_left a1 a1_winners a1_after a0_right a2 a2_winners a2_after a0_leader a0_before a0_letters : Nat) (sz : Nat) (v_o_pairs : Int32) (v_o_length : Int32) (v_o_one : Int32) (v_o_other : Int32) (f_o_left : (Nat → Int32)) (v_p1_gap : Int32) (v_p1_isGapKnown : Int32) (n_p1_winners : Nat) (f_p1_winners : (Nat → Int32)) (n_p1_after : Nat) (f_p1_after : (Nat → Int32)) (f_o_right : (Nat → Int32)) (v_p2_gap : Int32) (v_p2_isGapKnown : Int32) (n_p2_winners : Nat) (f_p2_winners : (Nat → Int32)) (n_p2_after : Nat) (f_p2_after : (Nat → Int32)) (f_o_leader : (Nat → Int32)) (f_o_before : (Nat → Int32)) (f_o_letters : (Nat → Int32)) (x3 : Int32) (post : Int32 → Int32 → (Nat → Int32) → (Nat → Int32) → (Nat → Int32) → (Nat → Int32) → (Nat → Int32) → Prop) (h : p_Comparison_findsDifference v_o_pairs f_o_left n_p1_winners f_p1_winners n_p1_after f_p1_after f_o_right n_p2_winners f_p2_winners n_p2_after f_p2_after f_o_leader f_o_before f_o_letters x3 post) : MWi l y_Comparison_findsDifference (.code y_Comparison_findsDifference c_Comparison_findsDifference 8 (some .boolean)) { frames := 3, cells := 0, slots := 0, locals := 63 } G K [(a0, .inr (1, [.ref a0_leader, .ref a0_left, .ref a0_right, .ref a0_before, .ref a0_letters, .int v_o_pairs, .int v_o_length, .int v_o_one, .int v_o_other])), (a0_left, .inl (K 0, 1027, .inl f_o_left)), (a0_right, .inl (K 0, 1027, .inl f_o_right)), (a0_leader, .inl (K 0, 1026, .inl f_o_leader)), (a0_before, .inl (K 0, 1027, .inl f_o_before)), (a0_letters, .inl (K 0, 1027, .inl f_o_letters))] [(a1, .inr (4, [.ref a1_after, .ref a1_winners, .int v_p1_gap, .int v_p1_isGapKnown])), (a1_winners, .inl (K 0, n_p1_winners, .inl f_p1_winners)), (a1_after, .inl (K 0, n_p1_after, .inl f_p1_after)), (a2, .inr (4, [.ref a2_after, .ref a2_winners, .int v_p2_gap, .int v_p2_isGapKnown])), (a2_winners, .inl (K 0, n_p2_winners, .inl f_p2_winners)), (a2_after, .inl (K 0, n_p2_after, .inl f_p2_after))] [.ref a0, .ref a1, .ref a2, .int x3] sz (fun r (u : Int32 × (Nat → Int32) × (Nat → Int32) × (Nat → Int32) × (Nat → Int32) × (Nat → Int32)) => post r u.1 u.2.1 u.2.2.1 u.2.2.2.1 u.2.2.2.2.1 u.2.2.2.2.2) (fun u => [(a0, .inr (1, [.ref a0_leader, .ref a0_left, .ref a0_right, .ref a0_before, .ref a0_letters, .int u.1, .int v_o_length, .int v_o_one, .int v_o_other])), (a0_left, .inl (K 0, 1027, .inl u.2.1)), (a0_right, .inl (K 0, 1027, .inl u.2.2.1)), (a0_leader, .inl (K 0, 1026, .inl u.2.2.2.1)), (a0_before, .inl (K 0, 1027, .inl u.2.2.2.2.1)), (a0_letters, .inl (K 0, 1027, .inl u.2.2.2.2.2))]) 0 0 := by
  refine g_metWi (cc := c_Comparison_findsDifference) (maxL := 8) (ret := some .boolean) (rt := .boolean) (by decide) rfl rfl (Nat.le_of_ble_eq_true rfl) ?_
  intro p e s m below meth c A Q hx hb hml hown hname htg hK hN hP hD hA hS hR rN hret ls hl
  have hl : lv_has ls 8 [(0, .ref a0), (1, .ref a1), (2, .ref a2), (3, .int x3)] := hl
  have C_3 : ∀ (n : Nat) (l4 : Int32) (v_o_pairs : Int32) (f_o_left : (Nat → Int32)) (f_o_right : (Nat → Int32)) (f_o_leader : (Nat → Int32)) (f_o_before : (Nat → Int32)) (f_o_letters : (Nat → Int32)) (H : Heap) (locs : List Loc), va_P G vwCl [(a0, .inr (1, [.ref a0_leader, .ref a0_left, .ref a0_right, .ref a0_before, .ref a0_letters, .int v_o_pairs, .int v_o_length, .int v_o_one, .int v_o_other])), (a0_left, .inl (K 0, 1027, .inl f_o_left)), (a0_right, .inl (K 0, 1027, .inl f_o_right)), (a0_leader, .inl (K 0, 1026, .inl f_o_leader)), (a0_before, .inl (K 0, 1027, .inl f_o_before)), (a0_letters, .inl (K 0, 1027, .inl f_o_letters))] H → va_D A [(a0, .inr (1, [.ref a0_leader, .ref a0_left, .ref a0_right, .ref a0_before, .ref a0_letters, .int v_o_pairs, .int v_o_length, .int v_o_one, .int v_o_other])), (a0_left, .inl (K 0, 1027, .inl f_o_left)), (a0_right, .inl (K 0, 1027, .inl f_o_right)), (a0_leader, .inl (K 0, 1026, .inl f_o_leader)), (a0_before, .inl (K 0, 1027, .inl f_o_before)), (a0_letters, .inl (K 0, 1027, .inl f_o_letters))] → va_S A s.heap H locs → ∀ (ls : Array Slot), lv_has ls 8 [(0, .ref a0), (1, .ref a1), (2, .ref a2), (3, .int x3), (4, .int l4)] → p_Comparison_findsDifference_3 n_p1_winners f_p1_winners n_p1_after f_p1_after n_p2_winners f_p2_winners n_p2_after f_p2_after x3 post n l4 v_o_pairs f_o_left f_o_right f_o_leader f_o_before f_o_letters → W p l e { frames := 3, cells := 0, slots := 0, locals := 63 } s m ([.ref a0, .ref a1, .ref a2, .int x3] : List Value).toArray below meth c H locs 0 0 Q (F0 m 3 ls []) := by
    intro n
    induction n with
    | zero =>
      intro l4 v_o_pairs f_o_left f_o_right f_o_leader f_o_before f_o_letters  H locs hP hD hS ls hl h
      exact False.elim h
    | succ n ih =>
      intro l4 v_o_pairs f_o_left f_o_right f_o_leader f_o_before f_o_letters  H locs hP hD hS ls hl h
      refine lv_iload hx hb d_Comparison_findsDifference_3 (lv_at hl 4 rfl) ?_
      refine lv_bipush (v := 6) hx hb d_Comparison_findsDifference_5 (by decide) ?_
      refine lv_icmp_ge (tgt := 106) hx hb d_Comparison_findsDifference_7 (by decide) (fun hc => ?_) (fun hc => ?_)
      · replace h := h.1 hc
        refine lv_iconst (v := 0) hx hb d_Comparison_findsDifference_106 (by decide) ?_
        exact hret _ (v_o_pairs, f_o_left, f_o_right, f_o_leader, f_o_before, f_o_letters) _ _ _ _ h (by decide +kernel) (hP.sub [0, 1, 2, 3, 4, 5] rfl) (hD.sub [0, 1, 2, 3, 4, 5] (by decide) rfl) hS d_Comparison_findsDifference_107
      · replace h := h.2 hc
        refine lv_aload_n hx hb d_Comparison_findsDifference_10 rfl (lv_at hl 1 rfl) ?_
        refine lv_aload_n hx hb d_Comparison_findsDifference_11 rfl (lv_at hl 0 rfl) ?_
        refine va_get (ci := 1) (v := .ref a0_left) hx hb htg in_Comparison hown hK hP 0 rfl rfl 1 (by decide) (htg _ m_157) (fun _ h9 => h9) rfl d_Comparison_findsDifference_12 ?_
        refine lv_iload_n hx hb d_Comparison_findsDifference_15 rfl (lv_at hl 3 rfl) ?_
        obtain ⟨hin, h⟩ := h
        refine va_iald hx hb hK hP 1 0 rfl rfl hin d_Comparison_findsDifference_16 ?_
        refine lv_iload hx hb d_Comparison_findsDifference_17 (lv_at hl 4 rfl) ?_
        have hPc : va_P G vwCl [(a1, .inr (4, [.ref a1_after, .ref a1_winners, .int v_p1_gap, .int v_p1_isGapKnown])), (a1_winners, .inl (K 0, n_p1_winners, .inl f_p1_winners)), (a1_after, .inl (K 0, n_p1_after, .inl f_p1_after))] _ := (gR hR rN hS).sub [0, 1, 2] rfl
        refine vp_callSi (va_Run.run (va_runV (As := [.int (f_o_left x3.toNatClampNeg), .int l4]) (rest := []) ⟨hx, hb, hml, hown, htg⟩ (k_Machine_after l G K a1 a1_winners a1_after v_p1_gap v_p1_isGapKnown n_p1_winners f_p1_winners n_p1_after f_p1_after (f_o_left x3.toNatClampNeg) l4 _ h) (cwV 2 htg (gGoodV m_473 m_360 m_361 m_9 m_362) rfl rfl rfl (by decide +kernel) ⟨(Nat.le_of_ble_eq_true rfl), (Nat.le_of_ble_eq_true rfl)⟩) (gS_preV (ci := 4) (q0 := 0) hK hN hPc rfl rfl) rfl rfl hl.1 rfl (lv_room (Nat.le_of_ble_eq_true rfl)) d_Comparison_findsDifference_19 ⟨(Nat.le_of_ble_eq_true rfl), (Nat.le_of_ble_eq_true rfl)⟩)) (fun r1301 h => ?_)
        refine lv_istore (lv' := [(5, .int r1301), (0, .ref a0), (1, .ref a1), (2, .ref a2), (3, .int x3), (4, .int l4)]) hx hb d_Comparison_findsDifference_22 hl (by decide) rfl (fun ls hl => ?_)
        refine lv_aload_n hx hb d_Comparison_findsDifference_24 rfl (lv_at hl 3 rfl) ?_
        refine lv_aload_n hx hb d_Comparison_findsDifference_25 rfl (lv_at hl 1 rfl) ?_
        refine va_get (ci := 1) (v := .ref a0_right) hx hb htg in_Comparison hown hK hP 0 rfl rfl 2 (by decide) (htg _ m_158) (fun _ h9 => h9) rfl d_Comparison_findsDifference_26 ?_
        refine lv_iload_n hx hb d_Comparison_findsDifference_29 rfl (lv_at hl 4 rfl) ?_
        obtain ⟨hin, h⟩ := h
        refine va_iald hx hb hK hP 2 0 rfl rfl hin d_Comparison_findsDifference_30 ?_
        refine lv_iload hx hb d_Comparison_findsDifference_31 (lv_at hl 5 rfl) ?_
        have hPc : va_P G vwCl [(a2, .inr (4, [.ref a2_after, .ref a2_winners, .int v_p2_gap, .int v_p2_isGapKnown])), (a2_winners, .inl (K 0, n_p2_winners, .inl f_p2_winners)), (a2_after, .inl (K 0, n_p2_after, .inl f_p2_after))] _ := (gR hR rN hS).sub [3, 4, 5] rfl
        refine vp_callSi (va_Run.run (va_runV (As := [.int (f_o_right x3.toNatClampNeg), .int l4]) (rest := []) ⟨hx, hb, hml, hown, htg⟩ (k_Machine_after l G K a2 a2_winners a2_after v_p2_gap v_p2_isGapKnown n_p2_winners f_p2_winners n_p2_after f_p2_after (f_o_right x3.toNatClampNeg) l4 _ h) (cwV 2 htg (gGoodV m_473 m_360 m_361 m_9 m_362) rfl rfl rfl (by decide +kernel) ⟨(Nat.le_of_ble_eq_true rfl), (Nat.le_of_ble_eq_true rfl)⟩) (gS_preV (ci := 4) (q0 := 0) hK hN hPc rfl rfl) rfl rfl hl.1 rfl (lv_room (Nat.le_of_ble_eq_true rfl)) d_Comparison_findsDifference_33 ⟨(Nat.le_of_ble_eq_true rfl), (Nat.le_of_ble_eq_true rfl)⟩)) (fun r1302 h => ?_)
        refine lv_istore (lv' := [(6, .int r1302), (5, .int r1301), (0, .ref a0), (1, .ref a1), (2, .ref a2), (3, .int x3), (4, .int l4)]) hx hb d_Comparison_findsDifference_36 hl (by decide) rfl (fun ls hl => ?_)
        refine lv_aload_n hx hb d_Comparison_findsDifference_38 rfl (lv_at hl 3 rfl) ?_
        refine lv_iload hx hb d_Comparison_findsDifference_39 (lv_at hl 1 rfl) ?_
        have hPc : va_P G vwCl [(a1, .inr (4, [.ref a1_after, .ref a1_winners, .int v_p1_gap, .int v_p1_isGapKnown])), (a1_winners, .inl (K 0, n_p1_winners, .inl f_p1_winners))] _ := (gR hR rN hS).sub [0, 1] rfl
        refine vp_callSi (va_Run.run (va_runV (As := [.int r1301]) (rest := []) ⟨hx, hb, hml, hown, htg⟩ (k_Machine_hasWinner l G K a1 a1_winners a1_after v_p1_gap v_p1_isGapKnown n_p1_winners f_p1_winners r1301 _ h) (cwV 1 htg (gGoodV m_474 m_404 m_405 m_9 m_406) rfl rfl rfl (by decide +kernel) ⟨(Nat.le_of_ble_eq_true rfl), (Nat.le_of_ble_eq_true rfl)⟩) (gS_preV (ci := 4) (q0 := 0) hK hN hPc rfl rfl) rfl rfl hl.1 rfl (lv_room (Nat.le_of_ble_eq_true rfl)) d_Comparison_findsDifference_41 ⟨(Nat.le_of_ble_eq_true rfl), (Nat.le_of_ble_eq_true rfl)⟩)) (fun r1303 h => ?_)
        refine lv_aload_n hx hb d_Comparison_findsDifference_44 rfl (lv_at hl 4 rfl) ?_
        refine lv_iload hx hb d_Comparison_findsDifference_45 (lv_at hl 0 rfl) ?_
        have hPc : va_P G vwCl [(a2, .inr (4, [.ref a2_after, .ref a2_winners, .int v_p2_gap, .int v_p2_isGapKnown])), (a2_winners, .inl (K 0, n_p2_winners, .inl f_p2_winners))] _ := (gR hR rN hS).sub [3, 4] rfl
        refine vp_callSi (va_Run.run (va_runV (As := [.int r1302]) (rest := [.int r1303]) ⟨hx, hb, hml, hown, htg⟩ (k_Machine_hasWinner l G K a2 a2_winners a2_after v_p2_gap v_p2_isGapKnown n_p2_winners f_p2_winners r1302 _ h) (cwV 1 htg (gGoodV m_474 m_404 m_405 m_9 m_406) rfl rfl rfl (by decide +kernel) ⟨(Nat.le_of_ble_eq_true rfl), (Nat.le_of_ble_eq_true rfl)⟩) (gS_preV (ci := 4) (q0 := 0) hK hN hPc rfl rfl) rfl rfl hl.1 rfl (lv_room (Nat.le_of_ble_eq_true rfl)) d_Comparison_findsDifference_47 ⟨(Nat.le_of_ble_eq_true rfl), (Nat.le_of_ble_eq_true rfl)⟩)) (fun r1304 h => ?_)
        refine lv_icmp_eq (tgt := 57) hx hb d_Comparison_findsDifference_50 (by decide) (fun hc => ?_) (fun hc => ?_)
        · replace h := h.1 hc
          refine lv_iconst (v := 0) hx hb d_Comparison_findsDifference_57 (by decide) ?_
          refine lv_istore (lv' := [(7, .int 0), (6, .int r1302), (5, .int r1301), (0, .ref a0), (1, .ref a1), (2, .ref a2), (3, .int x3), (4, .int l4)]) hx hb d_Comparison_findsDifference_58 hl (by decide) rfl (fun ls hl => ?_)
          refine lv_iload hx hb d_Comparison_findsDifference_60 (lv_at hl 0 rfl) ?_
          refine lv_if_ne (tgt := 82) hx hb d_Comparison_findsDifference_62 (by decide) (fun hc => absurd (by decide) hc) (fun _ => ?_)
          refine lv_aload_n hx hb d_Comparison_findsDifference_65 rfl (lv_at hl 3 rfl) ?_
          refine lv_iload hx hb d_Comparison_findsDifference_66 (lv_at hl 2 rfl) ?_
          have hPc : va_P G vwCl [] _ := hP.sub [] rfl
          refine vp_callSi (va_Run.run (va_runS (As := [.int r1301]) (rest := [.ref a0]) ⟨hx, hb, hml, hown, htg⟩ (k_Comparison_leftNode l G K  r1301 _ h) (va_cwS 1 htg (gGoodS m_455 m_456 m_10 m_457) rfl rfl rfl (by decide +kernel) ⟨(Nat.le_of_ble_eq_true rfl), (Nat.le_of_ble_eq_true rfl)⟩) (gS_pre hK hN hPc) rfl rfl hl.1 rfl (lv_room (Nat.le_of_ble_eq_true rfl)) d_Comparison_findsDifference_68 ⟨(Nat.le_of_ble_eq_true rfl), (Nat.le_of_ble_eq_true rfl)⟩)) (fun r1305 h => ?_)
          refine lv_iload hx hb d_Comparison_findsDifference_71 (lv_at hl 1 rfl) ?_
          have hPc : va_P G vwCl [] _ := hP.sub [] rfl
          refine vp_callSi (va_Run.run (va_runS (As := [.int r1302]) (rest := [.int r1305, .ref a0]) ⟨hx, hb, hml, hown, htg⟩ (k_Comparison_rightNode l G K  r1302 _ h) (va_cwS 1 htg (gGoodS m_458 m_459 m_10 m_460) rfl rfl rfl (by decide +kernel) ⟨(Nat.le_of_ble_eq_true rfl), (Nat.le_of_ble_eq_true rfl)⟩) (gS_pre hK hN hPc) rfl rfl hl.1 rfl (lv_room (Nat.le_of_ble_eq_true rfl)) d_Comparison_findsDifference_73 ⟨(Nat.le_of_ble_eq_true rfl), (Nat.le_of_ble_eq_true rfl)⟩)) (fun r1306 h => ?_)
          have hPc : va_P G vwCl [(a0_leader, .inl (K 0, 1026, .inl f_o_leader))] _ := hP.sub [3] rfl
          have hDc : va_D A [(a0_leader, .inl (K 0, 1026, .inl f_o_leader))] := hD.sub [3] (by decide) rfl
          have hRc : va_P G vwCl [(a0, .inr (1, [.ref a0_leader, .ref a0_left, .ref a0_right, .ref a0_before, .ref a0_letters, .int v_o_pairs, .int v_o_length, .int v_o_one, .int v_o_other]))] _ := hP.sub [0] rfl
          have hJc : gJ [(a0_leader, .inl (K 0, 1026, .inl f_o_leader))] [(a0, .inr (1, [.ref a0_leader, .ref a0_left, .ref a0_right, .ref a0_before, .ref a0_letters, .int v_o_pairs, .int v_o_length, .int v_o_one, .int v_o_other]))] := gJ_sub hD rN [3] [0] rfl rfl (by decide)
          refine g_calli (wr := [(a0, .inr (1, [.ref a0_leader, .ref a0_left, .ref a0_right, .ref a0_before, .ref a0_letters, .int v_o_pairs, .int v_o_length, .int v_o_one, .int v_o_other])), (a0_left, .inl (K 0, 1027, .inl f_o_left)), (a0_right, .inl (K 0, 1027, .inl f_o_right)), (a0_before, .inl (K 0, 1027, .inl f_o_before)), (a0_letters, .inl (K 0, 1027, .inl f_o_letters))]) (va_runV (As := [.int r1305, .int r1306]) (rest := []) ⟨hx, hb, hml, hown, htg⟩ (k_Comparison_tie l G K a0 a0_leader a0_left a0_right a0_before a0_letters _ v_o_pairs v_o_length v_o_one v_o_other f_o_leader r1305 r1306 _ h) (cwV 2 htg (gGoodV m_461 m_462 m_844 m_10 m_463) rfl rfl rfl (by decide +kernel) ⟨(Nat.le_of_ble_eq_true rfl), (Nat.le_of_ble_eq_true rfl)⟩) (gW_preV (ci := 1) (q0 := 0) hK hN hPc hDc hRc hJc hRc rfl rfl) rfl rfl hl.1 rfl (lv_room (Nat.le_of_ble_eq_true rfl)) d_Comparison_findsDifference_76 ⟨(Nat.le_of_ble_eq_true rfl), (Nat.le_of_ble_eq_true rfl)⟩) hP hD hS hA [3] [0, 1, 2, 4, 5] rfl rfl (by decide) (by decide) (fun r1308 u H locs h hP hD hS => ?_)
          obtain ⟨u1307, rfl⟩ : ∃ z, z = u := ⟨_, rfl⟩
          try dsimp only at h
          have hP : va_P G vwCl [(a0, .inr (1, [.ref a0_leader, .ref a0_left, .ref a0_right, .ref a0_before, .ref a0_letters, .int v_o_pairs, .int v_o_length, .int v_o_one, .int v_o_other])), (a0_left, .inl (K 0, 1027, .inl f_o_left)), (a0_right, .inl (K 0, 1027, .inl f_o_right)), (a0_before, .inl (K 0, 1027, .inl f_o_before)), (a0_letters, .inl (K 0, 1027, .inl f_o_letters)), (a0_leader, .inl (K 0, 1026, .inl u1307))] H := hP
          have hD : va_D A [(a0, .inr (1, [.ref a0_leader, .ref a0_left, .ref a0_right, .ref a0_before, .ref a0_letters, .int v_o_pairs, .int v_o_length, .int v_o_one, .int v_o_other])), (a0_left, .inl (K 0, 1027, .inl f_o_left)), (a0_right, .inl (K 0, 1027, .inl f_o_right)), (a0_before, .inl (K 0, 1027, .inl f_o_before)), (a0_letters, .inl (K 0, 1027, .inl f_o_letters)), (a0_leader, .inl (K 0, 1026, .inl u1307))] := hD
          refine lv_if_eq (tgt := 93) hx hb d_Comparison_findsDifference_79 (by decide) (fun hc => ?_) (fun hc => ?_)
          · replace h := h.1 hc
            refine lv_iload hx hb d_Comparison_findsDifference_93 (lv_at hl 0 rfl) ?_
            refine lv_if_eq (tgt := 100) hx hb d_Comparison_findsDifference_95 (by decide) (fun _ => ?_) (fun hc => absurd (by decide) hc)
            refine lv_iinc (v := (l4 + 1)) (lv' := [(4, .int (l4 + 1)), (7, .int 0), (6, .int r1302), (5, .int r1301), (0, .ref a0), (1, .ref a1), (2, .ref a2), (3, .int x3)]) hx hb d_Comparison_findsDifference_100 hl (k := 7) rfl (by first | rfl | decide) (by decide) rfl (fun ls hl => ?_)
            refine lv_goto (tgt := 3) hx hb d_Comparison_findsDifference_103 (by decide) ?_
            exact ih (l4 + 1) v_o_pairs f_o_left f_o_right u1307 f_o_before f_o_letters  _ _ (hP.sub [0, 1, 2, 5, 3, 4] rfl) (hD.sub [0, 1, 2, 5, 3, 4] (by decide) rfl) hS _ (lv_sub hl [4, 5, 6, 7, 0] rfl) h
          · replace h := h.2 hc
            refine lv_aload_n hx hb d_Comparison_findsDifference_82 rfl (lv_at hl 3 rfl) ?_
            refine lv_iload hx hb d_Comparison_findsDifference_83 (lv_at hl 2 rfl) ?_
            refine lv_iload hx hb d_Comparison_findsDifference_85 (lv_at hl 1 rfl) ?_
            refine lv_iload_n hx hb d_Comparison_findsDifference_87 rfl (lv_at hl 6 rfl) ?_
            refine lv_iload hx hb d_Comparison_findsDifference_88 (lv_at hl 7 rfl) ?_
            have hPc : va_P G vwCl [(a0, .inr (1, [.ref a0_leader, .ref a0_left, .ref a0_right, .ref a0_before, .ref a0_letters, .int v_o_pairs, .int v_o_length, .int v_o_one, .int v_o_other])), (a0_left, .inl (K 0, 1027, .inl f_o_left)), (a0_right, .inl (K 0, 1027, .inl f_o_right)), (a0_before, .inl (K 0, 1027, .inl f_o_before)), (a0_letters, .inl (K 0, 1027, .inl f_o_letters))] _ := hP.sub [0, 1, 2, 3, 4] rfl
            have hDc : va_D A [(a0, .inr (1, [.ref a0_leader, .ref a0_left, .ref a0_right, .ref a0_before, .ref a0_letters, .int v_o_pairs, .int v_o_length, .int v_o_one, .int v_o_other])), (a0_left, .inl (K 0, 1027, .inl f_o_left)), (a0_right, .inl (K 0, 1027, .inl f_o_right)), (a0_before, .inl (K 0, 1027, .inl f_o_before)), (a0_letters, .inl (K 0, 1027, .inl f_o_letters))] := hD.sub [0, 1, 2, 3, 4] (by decide) rfl
            have hRc : va_P G vwCl [] _ := hP.sub [] rfl
            have hJc : gJ [(a0, .inr (1, [.ref a0_leader, .ref a0_left, .ref a0_right, .ref a0_before, .ref a0_letters, .int v_o_pairs, .int v_o_length, .int v_o_one, .int v_o_other])), (a0_left, .inl (K 0, 1027, .inl f_o_left)), (a0_right, .inl (K 0, 1027, .inl f_o_right)), (a0_before, .inl (K 0, 1027, .inl f_o_before)), (a0_letters, .inl (K 0, 1027, .inl f_o_letters))] [] := gJ_nil
            refine g_callv (wr := [(a0_leader, .inl (K 0, 1026, .inl u1307))]) (va_runV (As := [.int r1301, .int r1302, .int x3, .int l4]) (rest := []) ⟨hx, hb, hml, hown, htg⟩ (k_Comparison_add l G K a0 a0_left a0_right a0_before a0_letters a0_leader _ v_o_pairs v_o_length v_o_one v_o_other f_o_left f_o_right f_o_before f_o_letters r1301 r1302 x3 l4 _ h) (cwV 4 htg (gGoodV m_467 m_468 m_840 m_10 m_469) rfl rfl rfl (by decide +kernel) ⟨(Nat.le_of_ble_eq_true rfl), (Nat.le_of_ble_eq_true rfl)⟩) (gW_preV (ci := 1) (q0 := 0) hK hN hPc hDc hRc hJc hPc rfl rfl) rfl rfl hl.1 rfl (lv_room (Nat.le_of_ble_eq_true rfl)) d_Comparison_findsDifference_90 ⟨(Nat.le_of_ble_eq_true rfl), (Nat.le_of_ble_eq_true rfl)⟩) hP hD hS hA [0, 1, 2, 3, 4] [5] rfl rfl (by decide) (by decide) (fun u H locs h hP hD hS => ?_)
            obtain ⟨u1309, u1310, u1311, u1312, u1313⟩ := u
            try dsimp only at h
            have hP : va_P G vwCl [(a0_leader, .inl (K 0, 1026, .inl u1307)), (a0, .inr (1, [.ref a0_leader, .ref a0_left, .ref a0_right, .ref a0_before, .ref a0_letters, .int u1309, .int v_o_length, .int v_o_one, .int v_o_other])), (a0_left, .inl (K 0, 1027, .inl u1310)), (a0_right, .inl (K 0, 1027, .inl u1311)), (a0_before, .inl (K 0, 1027, .inl u1312)), (a0_letters, .inl (K 0, 1027, .inl u1313))] H := hP
            have hD : va_D A [(a0_leader, .inl (K 0, 1026, .inl u1307)), (a0, .inr (1, [.ref a0_leader, .ref a0_left, .ref a0_right, .ref a0_before, .ref a0_letters, .int u1309, .int v_o_length, .int v_o_one, .int v_o_other])), (a0_left, .inl (K 0, 1027, .inl u1310)), (a0_right, .inl (K 0, 1027, .inl u1311)), (a0_before, .inl (K 0, 1027, .inl u1312)), (a0_letters, .inl (K 0, 1027, .inl u1313))] := hD
            refine lv_iload hx hb d_Comparison_findsDifference_93 (lv_at hl 0 rfl) ?_
            refine lv_if_eq (tgt := 100) hx hb d_Comparison_findsDifference_95 (by decide) (fun _ => ?_) (fun hc => absurd (by decide) hc)
            refine lv_iinc (v := (l4 + 1)) (lv' := [(4, .int (l4 + 1)), (7, .int 0), (6, .int r1302), (5, .int r1301), (0, .ref a0), (1, .ref a1), (2, .ref a2), (3, .int x3)]) hx hb d_Comparison_findsDifference_100 hl (k := 7) rfl (by first | rfl | decide) (by decide) rfl (fun ls hl => ?_)
            refine lv_goto (tgt := 3) hx hb d_Comparison_findsDifference_103 (by decide) ?_
            exact ih (l4 + 1) u1309 u1310 u1311 u1307 u1312 u1313  _ _ (hP.sub [1, 2, 3, 0, 4, 5] rfl) (hD.sub [1, 2, 3, 0, 4, 5] (by decide) rfl) hS _ (lv_sub hl [4, 5, 6, 7, 0] rfl) h
        · replace h := h.2 hc
          refine lv_iconst (v := 1) hx hb d_Comparison_findsDifference_53 (by decide) ?_
          refine lv_goto (tgt := 58) hx hb d_Comparison_findsDifference_54 (by decide) ?_
          refine lv_istore (lv' := [(7, .int 1), (6, .int r1302), (5, .int r1301), (0, .ref a0), (1, .ref a1), (2, .ref a2), (3, .int x3), (4, .int l4)]) hx hb d_Comparison_findsDifference_58 hl (by decide) rfl (fun ls hl => ?_)
          refine lv_iload hx hb d_Comparison_findsDifference_60 (lv_at hl 0 rfl) ?_
          refine lv_if_ne (tgt := 82) hx hb d_Comparison_findsDifference_62 (by decide) (fun _ => ?_) (fun hc => absurd hc (by decide))
          refine lv_aload_n hx hb d_Comparison_findsDifference_82 rfl (lv_at hl 3 rfl) ?_
          refine lv_iload hx hb d_Comparison_findsDifference_83 (lv_at hl 2 rfl) ?_
          refine lv_iload hx hb d_Comparison_findsDifference_85 (lv_at hl 1 rfl) ?_
          refine lv_iload_n hx hb d_Comparison_findsDifference_87 rfl (lv_at hl 6 rfl) ?_
          refine lv_iload hx hb d_Comparison_findsDifference_88 (lv_at hl 7 rfl) ?_
          have hPc : va_P G vwCl [(a0, .inr (1, [.ref a0_leader, .ref a0_left, .ref a0_right, .ref a0_before, .ref a0_letters, .int v_o_pairs, .int v_o_length, .int v_o_one, .int v_o_other])), (a0_left, .inl (K 0, 1027, .inl f_o_left)), (a0_right, .inl (K 0, 1027, .inl f_o_right)), (a0_before, .inl (K 0, 1027, .inl f_o_before)), (a0_letters, .inl (K 0, 1027, .inl f_o_letters))] _ := hP.sub [0, 1, 2, 4, 5] rfl
          have hDc : va_D A [(a0, .inr (1, [.ref a0_leader, .ref a0_left, .ref a0_right, .ref a0_before, .ref a0_letters, .int v_o_pairs, .int v_o_length, .int v_o_one, .int v_o_other])), (a0_left, .inl (K 0, 1027, .inl f_o_left)), (a0_right, .inl (K 0, 1027, .inl f_o_right)), (a0_before, .inl (K 0, 1027, .inl f_o_before)), (a0_letters, .inl (K 0, 1027, .inl f_o_letters))] := hD.sub [0, 1, 2, 4, 5] (by decide) rfl
          have hRc : va_P G vwCl [] _ := hP.sub [] rfl
          have hJc : gJ [(a0, .inr (1, [.ref a0_leader, .ref a0_left, .ref a0_right, .ref a0_before, .ref a0_letters, .int v_o_pairs, .int v_o_length, .int v_o_one, .int v_o_other])), (a0_left, .inl (K 0, 1027, .inl f_o_left)), (a0_right, .inl (K 0, 1027, .inl f_o_right)), (a0_before, .inl (K 0, 1027, .inl f_o_before)), (a0_letters, .inl (K 0, 1027, .inl f_o_letters))] [] := gJ_nil
          refine g_callv (wr := [(a0_leader, .inl (K 0, 1026, .inl f_o_leader))]) (va_runV (As := [.int r1301, .int r1302, .int x3, .int l4]) (rest := []) ⟨hx, hb, hml, hown, htg⟩ (k_Comparison_add l G K a0 a0_left a0_right a0_before a0_letters a0_leader _ v_o_pairs v_o_length v_o_one v_o_other f_o_left f_o_right f_o_before f_o_letters r1301 r1302 x3 l4 _ h) (cwV 4 htg (gGoodV m_467 m_468 m_840 m_10 m_469) rfl rfl rfl (by decide +kernel) ⟨(Nat.le_of_ble_eq_true rfl), (Nat.le_of_ble_eq_true rfl)⟩) (gW_preV (ci := 1) (q0 := 0) hK hN hPc hDc hRc hJc hPc rfl rfl) rfl rfl hl.1 rfl (lv_room (Nat.le_of_ble_eq_true rfl)) d_Comparison_findsDifference_90 ⟨(Nat.le_of_ble_eq_true rfl), (Nat.le_of_ble_eq_true rfl)⟩) hP hD hS hA [0, 1, 2, 4, 5] [3] rfl rfl (by decide) (by decide) (fun u H locs h hP hD hS => ?_)
          obtain ⟨u1315, u1316, u1317, u1318, u1319⟩ := u
          try dsimp only at h
          have hP : va_P G vwCl [(a0_leader, .inl (K 0, 1026, .inl f_o_leader)), (a0, .inr (1, [.ref a0_leader, .ref a0_left, .ref a0_right, .ref a0_before, .ref a0_letters, .int u1315, .int v_o_length, .int v_o_one, .int v_o_other])), (a0_left, .inl (K 0, 1027, .inl u1316)), (a0_right, .inl (K 0, 1027, .inl u1317)), (a0_before, .inl (K 0, 1027, .inl u1318)), (a0_letters, .inl (K 0, 1027, .inl u1319))] H := hP
          have hD : va_D A [(a0_leader, .inl (K 0, 1026, .inl f_o_leader)), (a0, .inr (1, [.ref a0_leader, .ref a0_left, .ref a0_right, .ref a0_before, .ref a0_letters, .int u1315, .int v_o_length, .int v_o_one, .int v_o_other])), (a0_left, .inl (K 0, 1027, .inl u1316)), (a0_right, .inl (K 0, 1027, .inl u1317)), (a0_before, .inl (K 0, 1027, .inl u1318)), (a0_letters, .inl (K 0, 1027, .inl u1319))] := hD
          refine lv_iload hx hb d_Comparison_findsDifference_93 (lv_at hl 0 rfl) ?_
          refine lv_if_eq (tgt := 100) hx hb d_Comparison_findsDifference_95 (by decide) (fun hc => absurd hc (by decide)) (fun _ => ?_)
          refine lv_iconst (v := 1) hx hb d_Comparison_findsDifference_98 (by decide) ?_
          exact hret _ (u1315, u1316, u1317, f_o_leader, u1318, u1319) _ _ _ _ h (by decide +kernel) (hP.sub [1, 2, 3, 0, 4, 5] rfl) (hD.sub [1, 2, 3, 0, 4, 5] (by decide) rfl) hS d_Comparison_findsDifference_99
  refine lv_iconst (v := 0) hx hb d_Comparison_findsDifference_0 (by decide) ?_
  refine lv_istore (lv' := [(4, .int 0), (0, .ref a0), (1, .ref a1), (2, .ref a2), (3, .int x3)]) hx hb d_Comparison_findsDifference_1 hl (by decide) rfl (fun ls hl => ?_)
  obtain ⟨k, h⟩ := h
  exact C_3 k 0 v_o_pairs f_o_left f_o_right f_o_leader f_o_before f_o_letters  _ _ (hP.sub [0, 1, 2, 3, 4, 5] rfl) (hD.sub [0, 1, 2, 3, 4, 5] (by decide) rfl) hS _ (lv_sub hl [1, 2, 3, 4, 0] rfl) h
def p_Comparison_compare_80  (post : Int32 → Int32 → (Nat → Int32) → (Nat → Int32) → (Nat → Int32) → (Nat → Int32) → (Nat → Int32) → Prop) (v_o_pairs : Int32) (v_o_length : Int32) (f_o_leader : (Nat → Int32)) (f_o_left : (Nat → Int32)) (f_o_right : (Nat → Int32)) (f_o_before : (Nat → Int32)) (f_o_letters : (Nat → Int32)) : Prop := (p_Comparison_lengthOfLast v_o_pairs f_o_before (fun r9001 => (post v_o_pairs r9001 f_o_leader f_o_left f_o_right f_o_before f_o_letters)))
def p_Comparison_compare_55 (n_p1_winners : Nat) (f_p1_winners : (Nat → Int32)) (n_p1_after : Nat) (f_p1_after : (Nat → Int32)) (n_p2_winners : Nat) (f_p2_winners : (Nat → Int32)) (n_p2_after : Nat) (f_p2_after : (Nat → Int32)) (post : Int32 → Int32 → (Nat → Int32) → (Nat → Int32) → (Nat → Int32) → (Nat → Int32) → (Nat → Int32) → Prop) : Nat → Int32 → Int32 → Int32 → (Nat → Int32) → (Nat → Int32) → (Nat → Int32) → (Nat → Int32) → (Nat → Int32) → Prop
  | 0, _, _, _, _, _, _, _, _ => False
  | n + 1, l3, v_o_pairs, v_o_length, f_o_leader, f_o_left, f_o_right, f_o_before, f_o_letters => ((v_o_pairs ≤ l3 → (post v_o_pairs v_o_length f_o_leader f_o_left f_o_right f_o_before f_o_letters)) ∧ (¬ v_o_pairs ≤ l3 → ((1027 ≤ l3 → (post v_o_pairs v_o_length f_o_leader f_o_left f_o_right f_o_before f_o_letters)) ∧ (¬ 1027 ≤ l3 → (p_Comparison_findsDifference v_o_pairs f_o_left n_p1_winners f_p1_winners n_p1_after f_p1_after f_o_right n_p2_winners f_p2_winners n_p2_after f_p2_after f_o_leader f_o_before f_o_letters l3 (fun r6507 u6501 u6502 u6503 u6504 u6505 u6506 => ((r6507 = 0 → (p_Comparison_compare_55 n_p1_winners f_p1_winners n_p1_after f_p1_after n_p2_winners f_p2_winners n_p2_after f_p2_after post n (l3 + 1) u6501 v_o_length u6504 u6502 u6503 u6505 u6506)) ∧ (¬ r6507 = 0 → (p_Comparison_compare_80 post u6501 v_o_length u6504 u6502 u6503 u6505 u6506)))))))))
def p_Comparison_compare_22 (n_p1_winners : Nat) (f_p1_winners : (Nat → Int32)) (n_p1_after : Nat) (f_p1_after : (Nat → Int32)) (n_p2_winners : Nat) (f_p2_winners : (Nat → Int32)) (n_p2_after : Nat) (f_p2_after : (Nat → Int32)) (post : Int32 → Int32 → (Nat → Int32) → (Nat → Int32) → (Nat → Int32) → (Nat → Int32) → (Nat → Int32) → Prop) (v_o_pairs : Int32) (v_o_length : Int32) (f_o_leader : (Nat → Int32)) (f_o_left : (Nat → Int32)) (f_o_right : (Nat → Int32)) (f_o_before : (Nat → Int32)) (f_o_letters : (Nat → Int32)) : Prop := (p_Comparison_leftNode 0 (fun r3201 => (p_Comparison_rightNode 0 (fun r3202 => (p_Comparison_tie f_o_leader r3201 r3202 (fun r3204 u3203 => (p_Comparison_add 0 f_o_left f_o_right f_o_before f_o_letters 0 0 0 (-1) (fun u3205 u3206 u3207 u3208 u3209 => (∃ k, p_Comparison_compare_55 n_p1_winners f_p1_winners n_p1_after f_p1_after n_p2_winners f_p2_winners n_p2_after f_p2_after post k 0 u3205 (-1) u3203 u3206 u3207 u3208 u3209)))))))))
def p_Comparison_compare_2 (n_p1_winners : Nat) (f_p1_winners : (Nat → Int32)) (n_p1_after : Nat) (f_p1_after : (Nat → Int32)) (n_p2_winners : Nat) (f_p2_winners : (Nat → Int32)) (n_p2_after : Nat) (f_p2_after : (Nat → Int32)) (post : Int32 → Int32 → (Nat → Int32) → (Nat → Int32) → (Nat → Int32) → (Nat → Int32) → (Nat → Int32) → Prop) : Nat → Int32 → Int32 → Int32 → (Nat → Int32) → (Nat → Int32) → (Nat → Int32) → (Nat → Int32) → (Nat → Int32) → Prop
  | 0, _, _, _, _, _, _, _, _ => False
  | n + 1, l3, v_o_pairs, v_o_length, f_o_leader, f_o_left, f_o_right, f_o_before, f_o_letters => ((1026 ≤ l3 → (p_Comparison_compare_22 n_p1_winners f_p1_winners n_p1_after f_p1_after n_p2_winners f_p2_winners n_p2_after f_p2_after post v_o_pairs v_o_length f_o_leader f_o_left f_o_right f_o_before f_o_letters)) ∧ (¬ 1026 ≤ l3 → (vp_in l3 1026 ∧ (p_Comparison_compare_2 n_p1_winners f_p1_winners n_p1_after f_p1_after n_p2_winners f_p2_winners n_p2_after f_p2_after post n (l3 + 1) v_o_pairs v_o_length (upd f_o_leader l3.toNatClampNeg l3) f_o_left f_o_right f_o_before f_o_letters))))
def p_Comparison_compare (v_o_pairs : Int32) (v_o_length : Int32) (f_o_leader : (Nat → Int32)) (f_o_left : (Nat → Int32)) (f_o_right : (Nat → Int32)) (f_o_before : (Nat → Int32)) (f_o_letters : (Nat → Int32)) (n_p1_winners : Nat) (f_p1_winners : (Nat → Int32)) (n_p1_after : Nat) (f_p1_after : (Nat → Int32)) (n_p2_winners : Nat) (f_p2_winners : (Nat → Int32)) (n_p2_after : Nat) (f_p2_after : (Nat → Int32)) (post : Int32 → Int32 → (Nat → Int32) → (Nat → Int32) → (Nat → Int32) → (Nat → Int32) → (Nat → Int32) → Prop) : Prop := (∃ k, p_Comparison_compare_2 n_p1_winners f_p1_winners n_p1_after f_p1_after n_p2_winners f_p2_winners n_p2_after f_p2_after post k 0 v_o_pairs v_o_length f_o_leader f_o_left f_o_right f_o_before f_o_letters)
set_option maxHeartbeats 4000000 in
set_option maxRecDepth 100000 in
theorem k_Comparison_compare (l : Launch) (G : va_G) (K : Nat → ClassId) (a0 a0_leader a0_left a0_right a0_before a0_letters a1 a1_winners a1_after a2 a2_winners a2_after : Nat) (sz : Nat) (v_o_pairs : Int32) (v_o_length : Int32) (v_o_one : Int32) (v_o_other : Int32) (f_o_leader : (Nat → Int32)) (f_o_left : (Nat → Int32)) (f_o_right : (Nat → Int32)) (f_o_before : (Nat → Int32)) (f_o_letters : (Nat → Int32)) (v_p1_gap : Int32) (v_p1_isGapKnown : Int32) (n_p1_winners : Nat) (f_p1_winners : (Nat → Int32)) (n_p1_after : Nat) (f_p1_after : (Nat → Int32)) (v_p2_gap : Int32) (v_p2_isGapKnown : Int32) (n_p2_winners : Nat) (f_p2_winners : (Nat → Int32)) (n_p2_after : Nat) (f_p2_after : (Nat → Int32)) (post : Int32 → Int32 → (Nat → Int32) → (Nat → Int32) → (Nat → Int32) → (Nat → Int32) → (Nat → Int32) → Prop) (h : p_Comparison_compare v_o_pairs v_o_length f_o_leader f_o_left f_o_right f_o_before f_o_letters n_p1_winners f_p1_winners n_p1_after f_p1_after n_p2_winners f_p2_winners n_p2_after f_p2_after post) : MWv l y_Comparison_compare (.code y_Comparison_compare c_Comparison_compare 4 none) { frames := 4, cells := 0, slots := 0, locals := 90 } G K [(a0, .inr (1, [.ref a0_leader, .ref a0_left, .ref a0_right, .ref a0_before, .ref a0_letters, .int v_o_pairs, .int v_o_length, .int v_o_one, .int v_o_other])), (a0_leader, .inl (K 0, 1026, .inl f_o_leader)), (a0_left, .inl (K 0, 1027, .inl f_o_left)), (a0_right, .inl (K 0, 1027, .inl f_o_right)), (a0_before, .inl (K 0, 1027, .inl f_o_before)), (a0_letters, .inl (K 0, 1027, .inl f_o_letters))] [(a1, .inr (4, [.ref a1_after, .ref a1_winners, .int v_p1_gap, .int v_p1_isGapKnown])), (a1_winners, .inl (K 0, n_p1_winners, .inl f_p1_winners)), (a1_after, .inl (K 0, n_p1_after, .inl f_p1_after)), (a2, .inr (4, [.ref a2_after, .ref a2_winners, .int v_p2_gap, .int v_p2_isGapKnown])), (a2_winners, .inl (K 0, n_p2_winners, .inl f_p2_winners)), (a2_after, .inl (K 0, n_p2_after, .inl f_p2_after))] [.ref a0, .ref a1, .ref a2] sz (fun (u : Int32 × Int32 × (Nat → Int32) × (Nat → Int32) × (Nat → Int32) × (Nat → Int32) × (Nat → Int32)) => post u.1 u.2.1 u.2.2.1 u.2.2.2.1 u.2.2.2.2.1 u.2.2.2.2.2.1 u.2.2.2.2.2.2) (fun u => [(a0, .inr (1, [.ref a0_leader, .ref a0_left, .ref a0_right, .ref a0_before, .ref a0_letters, .int u.1, .int u.2.1, .int v_o_one, .int v_o_other])), (a0_leader, .inl (K 0, 1026, .inl u.2.2.1)), (a0_left, .inl (K 0, 1027, .inl u.2.2.2.1)), (a0_right, .inl (K 0, 1027, .inl u.2.2.2.2.1)), (a0_before, .inl (K 0, 1027, .inl u.2.2.2.2.2.1)), (a0_letters, .inl (K 0, 1027, .inl u.2.2.2.2.2.2))]) 0 0 := by
  refine g_metWv (cc := c_Comparison_compare) (maxL := 4) (ret := none) (by decide) rfl rfl (Nat.le_of_ble_eq_true rfl) ?_
  intro p e s m below meth c A Q hx hb hml hown hname htg hK hN hP hD hA hS hR rN hret ls hl
  have hl : lv_has ls 4 [(0, .ref a0), (1, .ref a1), (2, .ref a2)] := hl
  have C_80 : ∀ (v_o_pairs : Int32) (v_o_length : Int32) (f_o_leader : (Nat → Int32)) (f_o_left : (Nat → Int32)) (f_o_right : (Nat → Int32)) (f_o_before : (Nat → Int32)) (f_o_letters : (Nat → Int32)) (H : Heap) (locs : List Loc), va_P G vwCl [(a0, .inr (1, [.ref a0_leader, .ref a0_left, .ref a0_right, .ref a0_before, .ref a0_letters, .int v_o_pairs, .int v_o_length, .int v_o_one, .int v_o_other])), (a0_leader, .inl (K 0, 1026, .inl f_o_leader)), (a0_left, .inl (K 0, 1027, .inl f_o_left)), (a0_right, .inl (K 0, 1027, .inl f_o_right)), (a0_before, .inl (K 0, 1027, .inl f_o_before)), (a0_letters, .inl (K 0, 1027, .inl f_o_letters))] H → va_D A [(a0, .inr (1, [.ref a0_leader, .ref a0_left, .ref a0_right, .ref a0_before, .ref a0_letters, .int v_o_pairs, .int v_o_length, .int v_o_one, .int v_o_other])), (a0_leader, .inl (K 0, 1026, .inl f_o_leader)), (a0_left, .inl (K 0, 1027, .inl f_o_left)), (a0_right, .inl (K 0, 1027, .inl f_o_right)), (a0_before, .inl (K 0, 1027, .inl f_o_before)), (a0_letters, .inl (K 0, 1027, .inl f_o_letters))] → va_S A s.heap H locs → ∀ (ls : Array Slot), lv_has ls 4 [(0, .ref a0)] → p_Comparison_compare_80 post v_o_pairs v_o_length f_o_leader f_o_left f_o_right f_o_before f_o_letters → W p l e { frames := 4, cells := 0, slots := 0, locals := 90 } s m ([.ref a0, .ref a1, .ref a2] : List Value).toArray below meth c H locs 0 0 Q (F0 m 80 ls []) := by
    intro  v_o_pairs v_o_length f_o_leader f_o_left f_o_right f_o_before f_o_letters  H locs hP hD hS ls hl h
    refine lv_aload_n hx hb d_Comparison_compare_80 rfl (lv_at hl 0 rfl) ?_
    refine lv_aload_n hx hb d_Comparison_compare_81 rfl (lv_at hl 0 rfl) ?_
    have hPc : va_P G vwCl [(a0, .inr (1, [.ref a0_leader, .ref a0_left, .ref a0_right, .ref a0_before, .ref a0_letters, .int v_o_pairs, .int v_o_length, .int v_o_one, .int v_o_other])), (a0_before, .inl (K 0, 1027, .inl f_o_before))] _ := hP.sub [0, 4] rfl
    refine vp_callSi (va_Run.run (va_runV (As := []) (rest := [.ref a0]) ⟨hx, hb, hml, hown, htg⟩ (k_Comparison_lengthOfLast l G K a0 a0_before a0_leader a0_left a0_right a0_letters v_o_pairs v_o_length v_o_one v_o_other f_o_before _ h) (cwV 0 htg (gGoodV m_475 m_476 m_843 m_10 m_477) rfl rfl rfl (by decide +kernel) ⟨(Nat.le_of_ble_eq_true rfl), (Nat.le_of_ble_eq_true rfl)⟩) (gS_preV (ci := 1) (q0 := 0) hK hN hPc rfl rfl) rfl rfl hl.1 rfl (lv_room (Nat.le_of_ble_eq_true rfl)) d_Comparison_compare_82 ⟨(Nat.le_of_ble_eq_true rfl), (Nat.le_of_ble_eq_true rfl)⟩)) (fun r9001 h => ?_)
    refine va_put (ci := 1) (v := .int r9001) (ty := .int) hx hb htg in_Comparison t_Comparison tok_Comparison nm_Comparison hown hK hP hD hS 0 rfl rfl 6 (by decide) (htg _ m_162) (fun _ h9 => h9) rfl (by decide +kernel) rfl rfl (Nat.le_of_ble_eq_true rfl) d_Comparison_compare_85 (fun H locs hP hD hS => ?_)
    have hP : va_P G vwCl [(a0, .inr (1, [.ref a0_leader, .ref a0_left, .ref a0_right, .ref a0_before, .ref a0_letters, .int v_o_pairs, .int r9001, .int v_o_one, .int v_o_other])), (a0_leader, .inl (K 0, 1026, .inl f_o_leader)), (a0_left, .inl (K 0, 1027, .inl f_o_left)), (a0_right, .inl (K 0, 1027, .inl f_o_right)), (a0_before, .inl (K 0, 1027, .inl f_o_before)), (a0_letters, .inl (K 0, 1027, .inl f_o_letters))] H := hP
    have hD : va_D A [(a0, .inr (1, [.ref a0_leader, .ref a0_left, .ref a0_right, .ref a0_before, .ref a0_letters, .int v_o_pairs, .int r9001, .int v_o_one, .int v_o_other])), (a0_leader, .inl (K 0, 1026, .inl f_o_leader)), (a0_left, .inl (K 0, 1027, .inl f_o_left)), (a0_right, .inl (K 0, 1027, .inl f_o_right)), (a0_before, .inl (K 0, 1027, .inl f_o_before)), (a0_letters, .inl (K 0, 1027, .inl f_o_letters))] := hD
    refine lv_goto (tgt := 97) hx hb d_Comparison_compare_88 (by decide) ?_
    exact hret (v_o_pairs, r9001, f_o_leader, f_o_left, f_o_right, f_o_before, f_o_letters) _ _ _ _ h (hP.sub [0, 1, 2, 3, 4, 5] rfl) (hD.sub [0, 1, 2, 3, 4, 5] (by decide) rfl) hS d_Comparison_compare_97
  have C_55 : ∀ (n : Nat) (l3 : Int32) (v_o_pairs : Int32) (v_o_length : Int32) (f_o_leader : (Nat → Int32)) (f_o_left : (Nat → Int32)) (f_o_right : (Nat → Int32)) (f_o_before : (Nat → Int32)) (f_o_letters : (Nat → Int32)) (H : Heap) (locs : List Loc), va_P G vwCl [(a0, .inr (1, [.ref a0_leader, .ref a0_left, .ref a0_right, .ref a0_before, .ref a0_letters, .int v_o_pairs, .int v_o_length, .int v_o_one, .int v_o_other])), (a0_leader, .inl (K 0, 1026, .inl f_o_leader)), (a0_left, .inl (K 0, 1027, .inl f_o_left)), (a0_right, .inl (K 0, 1027, .inl f_o_right)), (a0_before, .inl (K 0, 1027, .inl f_o_before)), (a0_letters, .inl (K 0, 1027, .inl f_o_letters))] H → va_D A [(a0, .inr (1, [.ref a0_leader, .ref a0_left, .ref a0_right, .ref a0_before, .ref a0_letters, .int v_o_pairs, .int v_o_length, .int v_o_one, .int v_o_other])), (a0_leader, .inl (K 0, 1026, .inl f_o_leader)), (a0_left, .inl (K 0, 1027, .inl f_o_left)), (a0_right, .inl (K 0, 1027, .inl f_o_right)), (a0_before, .inl (K 0, 1027, .inl f_o_before)), (a0_letters, .inl (K 0, 1027, .inl f_o_letters))] → va_S A s.heap H locs → ∀ (ls : Array Slot), lv_has ls 4 [(0, .ref a0), (1, .ref a1), (2, .ref a2), (3, .int l3)] → p_Comparison_compare_55 n_p1_winners f_p1_winners n_p1_after f_p1_after n_p2_winners f_p2_winners n_p2_after f_p2_after post n l3 v_o_pairs v_o_length f_o_leader f_o_left f_o_right f_o_before f_o_letters → W p l e { frames := 4, cells := 0, slots := 0, locals := 90 } s m ([.ref a0, .ref a1, .ref a2] : List Value).toArray below meth c H locs 0 0 Q (F0 m 55 ls []) := by
    intro n
    induction n with
    | zero =>
      intro l3 v_o_pairs v_o_length f_o_leader f_o_left f_o_right f_o_before f_o_letters  H locs hP hD hS ls hl h
      exact False.elim h
    | succ n ih =>
      intro l3 v_o_pairs v_o_length f_o_leader f_o_left f_o_right f_o_before f_o_letters  H locs hP hD hS ls hl h
      refine lv_iload_n hx hb d_Comparison_compare_55 rfl (lv_at hl 3 rfl) ?_
      refine lv_aload_n hx hb d_Comparison_compare_56 rfl (lv_at hl 0 rfl) ?_
      refine va_get (ci := 1) (v := .int v_o_pairs) hx hb htg in_Comparison hown hK hP 0 rfl rfl 5 (by decide) (htg _ m_161) (fun _ h9 => h9) rfl d_Comparison_compare_57 ?_
      refine lv_icmp_ge (tgt := 97) hx hb d_Comparison_compare_60 (by decide) (fun hc => ?_) (fun hc => ?_)
      · replace h := h.1 hc
        exact hret (v_o_pairs, v_o_length, f_o_leader, f_o_left, f_o_right, f_o_before, f_o_letters) _ _ _ _ h (hP.sub [0, 1, 2, 3, 4, 5] rfl) (hD.sub [0, 1, 2, 3, 4, 5] (by decide) rfl) hS d_Comparison_compare_97
      · replace h := h.2 hc
        refine lv_iload_n hx hb d_Comparison_compare_63 rfl (lv_at hl 3 rfl) ?_
        refine lv_sipush (v := 1027) hx hb d_Comparison_compare_64 (by decide) ?_
        refine lv_icmp_ge (tgt := 97) hx hb d_Comparison_compare_67 (by decide) (fun hc => ?_) (fun hc => ?_)
        · replace h := h.1 hc
          exact hret (v_o_pairs, v_o_length, f_o_leader, f_o_left, f_o_right, f_o_before, f_o_letters) _ _ _ _ h (hP.sub [0, 1, 2, 3, 4, 5] rfl) (hD.sub [0, 1, 2, 3, 4, 5] (by decide) rfl) hS d_Comparison_compare_97
        · replace h := h.2 hc
          refine lv_aload_n hx hb d_Comparison_compare_70 rfl (lv_at hl 0 rfl) ?_
          refine lv_aload_n hx hb d_Comparison_compare_71 rfl (lv_at hl 1 rfl) ?_
          refine lv_aload_n hx hb d_Comparison_compare_72 rfl (lv_at hl 2 rfl) ?_
          refine lv_iload_n hx hb d_Comparison_compare_73 rfl (lv_at hl 3 rfl) ?_
          have hPc : va_P G vwCl [(a0, .inr (1, [.ref a0_leader, .ref a0_left, .ref a0_right, .ref a0_before, .ref a0_letters, .int v_o_pairs, .int v_o_length, .int v_o_one, .int v_o_other])), (a0_left, .inl (K 0, 1027, .inl f_o_left)), (a0_right, .inl (K 0, 1027, .inl f_o_right)), (a0_leader, .inl (K 0, 1026, .inl f_o_leader)), (a0_before, .inl (K 0, 1027, .inl f_o_before)), (a0_letters, .inl (K 0, 1027, .inl f_o_letters))] _ := hP.sub [0, 2, 3, 1, 4, 5] rfl
          have hDc : va_D A [(a0, .inr (1, [.ref a0_leader, .ref a0_left, .ref a0_right, .ref a0_before, .ref a0_letters, .int v_o_pairs, .int v_o_length, .int v_o_one, .int v_o_other])), (a0_left, .inl (K 0, 1027, .inl f_o_left)), (a0_right, .inl (K 0, 1027, .inl f_o_right)), (a0_leader, .inl (K 0, 1026, .inl f_o_leader)), (a0_before, .inl (K 0, 1027, .inl f_o_before)), (a0_letters, .inl (K 0, 1027, .inl f_o_letters))] := hD.sub [0, 2, 3, 1, 4, 5] (by decide) rfl
          have hRc : va_P G vwCl [(a1, .inr (4, [.ref a1_after, .ref a1_winners, .int v_p1_gap, .int v_p1_isGapKnown])), (a1_winners, .inl (K 0, n_p1_winners, .inl f_p1_winners)), (a1_after, .inl (K 0, n_p1_after, .inl f_p1_after)), (a2, .inr (4, [.ref a2_after, .ref a2_winners, .int v_p2_gap, .int v_p2_isGapKnown])), (a2_winners, .inl (K 0, n_p2_winners, .inl f_p2_winners)), (a2_after, .inl (K 0, n_p2_after, .inl f_p2_after))] _ := (gR hR rN hS).sub [0, 1, 2, 3, 4, 5] rfl
          have hJc : gJ [(a0, .inr (1, [.ref a0_leader, .ref a0_left, .ref a0_right, .ref a0_before, .ref a0_letters, .int v_o_pairs, .int v_o_length, .int v_o_one, .int v_o_other])), (a0_left, .inl (K 0, 1027, .inl f_o_left)), (a0_right, .inl (K 0, 1027, .inl f_o_right)), (a0_leader, .inl (K 0, 1026, .inl f_o_leader)), (a0_before, .inl (K 0, 1027, .inl f_o_before)), (a0_letters, .inl (K 0, 1027, .inl f_o_letters))] [(a1, .inr (4, [.ref a1_after, .ref a1_winners, .int v_p1_gap, .int v_p1_isGapKnown])), (a1_winners, .inl (K 0, n_p1_winners, .inl f_p1_winners)), (a1_after, .inl (K 0, n_p1_after, .inl f_p1_after)), (a2, .inr (4, [.ref a2_after, .ref a2_winners, .int v_p2_gap, .int v_p2_isGapKnown])), (a2_winners, .inl (K 0, n_p2_winners, .inl f_p2_winners)), (a2_after, .inl (K 0, n_p2_after, .inl f_p2_after))] := gJ_A hDc (gN_sub rN [0, 1, 2, 3, 4, 5] rfl)
          refine g_calli (wr := []) (va_runV (As := [.ref a1, .ref a2, .int l3]) (rest := []) ⟨hx, hb, hml, hown, htg⟩ (k_Comparison_findsDifference l G K a0 a0_left a1 a1_winners a1_after a0_right a2 a2_winners a2_after a0_leader a0_before a0_letters _ v_o_pairs v_o_length v_o_one v_o_other f_o_left v_p1_gap v_p1_isGapKnown n_p1_winners f_p1_winners n_p1_after f_p1_after f_o_right v_p2_gap v_p2_isGapKnown n_p2_winners f_p2_winners n_p2_after f_p2_after f_o_leader f_o_before f_o_letters l3 _ h) (cwV 3 htg (gGoodV m_470 m_471 m_841 m_10 m_472) rfl rfl rfl (by decide +kernel) ⟨(Nat.le_of_ble_eq_true rfl), (Nat.le_of_ble_eq_true rfl)⟩) (gW_preV (ci := 1) (q0 := 0) hK hN hPc hDc hRc hJc hPc rfl rfl) rfl rfl hl.1 rfl (lv_room (Nat.le_of_ble_eq_true rfl)) d_Comparison_compare_74 ⟨(Nat.le_of_ble_eq_true rfl), (Nat.le_of_ble_eq_true rfl)⟩) hP hD hS hA [0, 2, 3, 1, 4, 5] [] rfl rfl (by decide) (by decide) (fun r6507 u H locs h hP hD hS => ?_)
          obtain ⟨u6501, u6502, u6503, u6504, u6505, u6506⟩ := u
          try dsimp only at h
          have hP : va_P G vwCl [(a0, .inr (1, [.ref a0_leader, .ref a0_left, .ref a0_right, .ref a0_before, .ref a0_letters, .int u6501, .int v_o_length, .int v_o_one, .int v_o_other])), (a0_left, .inl (K 0, 1027, .inl u6502)), (a0_right, .inl (K 0, 1027, .inl u6503)), (a0_leader, .inl (K 0, 1026, .inl u6504)), (a0_before, .inl (K 0, 1027, .inl u6505)), (a0_letters, .inl (K 0, 1027, .inl u6506))] H := hP
          have hD : va_D A [(a0, .inr (1, [.ref a0_leader, .ref a0_left, .ref a0_right, .ref a0_before, .ref a0_letters, .int u6501, .int v_o_length, .int v_o_one, .int v_o_other])), (a0_left, .inl (K 0, 1027, .inl u6502)), (a0_right, .inl (K 0, 1027, .inl u6503)), (a0_leader, .inl (K 0, 1026, .inl u6504)), (a0_before, .inl (K 0, 1027, .inl u6505)), (a0_letters, .inl (K 0, 1027, .inl u6506))] := hD
          refine lv_if_eq (tgt := 91) hx hb d_Comparison_compare_77 (by decide) (fun hc => ?_) (fun hc => ?_)
          · replace h := h.1 hc
            refine lv_iinc (v := (l3 + 1)) (lv' := [(3, .int (l3 + 1)), (0, .ref a0), (1, .ref a1), (2, .ref a2)]) hx hb d_Comparison_compare_91 hl (k := 3) rfl (by first | rfl | decide) (by decide) rfl (fun ls hl => ?_)
            refine lv_goto (tgt := 55) hx hb d_Comparison_compare_94 (by decide) ?_
            exact ih (l3 + 1) u6501 v_o_length u6504 u6502 u6503 u6505 u6506  _ _ (hP.sub [0, 3, 1, 2, 4, 5] rfl) (hD.sub [0, 3, 1, 2, 4, 5] (by decide) rfl) hS _ (lv_sub hl [1, 2, 3, 0] rfl) h
          · replace h := h.2 hc
            exact C_80 u6501 v_o_length u6504 u6502 u6503 u6505 u6506  _ _ (hP.sub [0, 3, 1, 2, 4, 5] rfl) (hD.sub [0, 3, 1, 2, 4, 5] (by decide) rfl) hS _ (lv_sub hl [0] rfl) h
  have C_22 : ∀ (v_o_pairs : Int32) (v_o_length : Int32) (f_o_leader : (Nat → Int32)) (f_o_left : (Nat → Int32)) (f_o_right : (Nat → Int32)) (f_o_before : (Nat → Int32)) (f_o_letters : (Nat → Int32)) (H : Heap) (locs : List Loc), va_P G vwCl [(a0, .inr (1, [.ref a0_leader, .ref a0_left, .ref a0_right, .ref a0_before, .ref a0_letters, .int v_o_pairs, .int v_o_length, .int v_o_one, .int v_o_other])), (a0_leader, .inl (K 0, 1026, .inl f_o_leader)), (a0_left, .inl (K 0, 1027, .inl f_o_left)), (a0_right, .inl (K 0, 1027, .inl f_o_right)), (a0_before, .inl (K 0, 1027, .inl f_o_before)), (a0_letters, .inl (K 0, 1027, .inl f_o_letters))] H → va_D A [(a0, .inr (1, [.ref a0_leader, .ref a0_left, .ref a0_right, .ref a0_before, .ref a0_letters, .int v_o_pairs, .int v_o_length, .int v_o_one, .int v_o_other])), (a0_leader, .inl (K 0, 1026, .inl f_o_leader)), (a0_left, .inl (K 0, 1027, .inl f_o_left)), (a0_right, .inl (K 0, 1027, .inl f_o_right)), (a0_before, .inl (K 0, 1027, .inl f_o_before)), (a0_letters, .inl (K 0, 1027, .inl f_o_letters))] → va_S A s.heap H locs → ∀ (ls : Array Slot), lv_has ls 4 [(0, .ref a0), (1, .ref a1), (2, .ref a2)] → p_Comparison_compare_22 n_p1_winners f_p1_winners n_p1_after f_p1_after n_p2_winners f_p2_winners n_p2_after f_p2_after post v_o_pairs v_o_length f_o_leader f_o_left f_o_right f_o_before f_o_letters → W p l e { frames := 4, cells := 0, slots := 0, locals := 90 } s m ([.ref a0, .ref a1, .ref a2] : List Value).toArray below meth c H locs 0 0 Q (F0 m 22 ls []) := by
    intro  v_o_pairs v_o_length f_o_leader f_o_left f_o_right f_o_before f_o_letters  H locs hP hD hS ls hl h
    refine lv_aload_n hx hb d_Comparison_compare_22 rfl (lv_at hl 0 rfl) ?_
    refine lv_iconst (v := 0) hx hb d_Comparison_compare_23 (by decide) ?_
    refine va_put (ci := 1) (v := .int 0) (ty := .int) hx hb htg in_Comparison t_Comparison tok_Comparison nm_Comparison hown hK hP hD hS 0 rfl rfl 5 (by decide) (htg _ m_161) (fun _ h9 => h9) rfl (by decide +kernel) rfl rfl (Nat.le_of_ble_eq_true rfl) d_Comparison_compare_24 (fun H locs hP hD hS => ?_)
    have hP : va_P G vwCl [(a0, .inr (1, [.ref a0_leader, .ref a0_left, .ref a0_right, .ref a0_before, .ref a0_letters, .int 0, .int v_o_length, .int v_o_one, .int v_o_other])), (a0_leader, .inl (K 0, 1026, .inl f_o_leader)), (a0_left, .inl (K 0, 1027, .inl f_o_left)), (a0_right, .inl (K 0, 1027, .inl f_o_right)), (a0_before, .inl (K 0, 1027, .inl f_o_before)), (a0_letters, .inl (K 0, 1027, .inl f_o_letters))] H := hP
    have hD : va_D A [(a0, .inr (1, [.ref a0_leader, .ref a0_left, .ref a0_right, .ref a0_before, .ref a0_letters, .int 0, .int v_o_length, .int v_o_one, .int v_o_other])), (a0_leader, .inl (K 0, 1026, .inl f_o_leader)), (a0_left, .inl (K 0, 1027, .inl f_o_left)), (a0_right, .inl (K 0, 1027, .inl f_o_right)), (a0_before, .inl (K 0, 1027, .inl f_o_before)), (a0_letters, .inl (K 0, 1027, .inl f_o_letters))] := hD
    refine lv_aload_n hx hb d_Comparison_compare_27 rfl (lv_at hl 0 rfl) ?_
    refine lv_iconst (v := (-1)) hx hb d_Comparison_compare_28 (by decide) ?_
    refine va_put (ci := 1) (v := .int (-1)) (ty := .int) hx hb htg in_Comparison t_Comparison tok_Comparison nm_Comparison hown hK hP hD hS 0 rfl rfl 6 (by decide) (htg _ m_162) (fun _ h9 => h9) rfl (by decide +kernel) rfl rfl (Nat.le_of_ble_eq_true rfl) d_Comparison_compare_29 (fun H locs hP hD hS => ?_)
    have hP : va_P G vwCl [(a0, .inr (1, [.ref a0_leader, .ref a0_left, .ref a0_right, .ref a0_before, .ref a0_letters, .int 0, .int (-1), .int v_o_one, .int v_o_other])), (a0_leader, .inl (K 0, 1026, .inl f_o_leader)), (a0_left, .inl (K 0, 1027, .inl f_o_left)), (a0_right, .inl (K 0, 1027, .inl f_o_right)), (a0_before, .inl (K 0, 1027, .inl f_o_before)), (a0_letters, .inl (K 0, 1027, .inl f_o_letters))] H := hP
    have hD : va_D A [(a0, .inr (1, [.ref a0_leader, .ref a0_left, .ref a0_right, .ref a0_before, .ref a0_letters, .int 0, .int (-1), .int v_o_one, .int v_o_other])), (a0_leader, .inl (K 0, 1026, .inl f_o_leader)), (a0_left, .inl (K 0, 1027, .inl f_o_left)), (a0_right, .inl (K 0, 1027, .inl f_o_right)), (a0_before, .inl (K 0, 1027, .inl f_o_before)), (a0_letters, .inl (K 0, 1027, .inl f_o_letters))] := hD
    refine lv_aload_n hx hb d_Comparison_compare_32 rfl (lv_at hl 0 rfl) ?_
    refine lv_iconst (v := 0) hx hb d_Comparison_compare_33 (by decide) ?_
    have hPc : va_P G vwCl [] _ := hP.sub [] rfl
    refine vp_callSi (va_Run.run (va_runS (As := [.int 0]) (rest := [.ref a0]) ⟨hx, hb, hml, hown, htg⟩ (k_Comparison_leftNode l G K  0 _ h) (va_cwS 1 htg (gGoodS m_455 m_456 m_10 m_457) rfl rfl rfl (by decide +kernel) ⟨(Nat.le_of_ble_eq_true rfl), (Nat.le_of_ble_eq_true rfl)⟩) (gS_pre hK hN hPc) rfl rfl hl.1 rfl (lv_room (Nat.le_of_ble_eq_true rfl)) d_Comparison_compare_34 ⟨(Nat.le_of_ble_eq_true rfl), (Nat.le_of_ble_eq_true rfl)⟩)) (fun r3201 h => ?_)
    refine lv_iconst (v := 0) hx hb d_Comparison_compare_37 (by decide) ?_
    have hPc : va_P G vwCl [] _ := hP.sub [] rfl
    refine vp_callSi (va_Run.run (va_runS (As := [.int 0]) (rest := [.int r3201, .ref a0]) ⟨hx, hb, hml, hown, htg⟩ (k_Comparison_rightNode l G K  0 _ h) (va_cwS 1 htg (gGoodS m_458 m_459 m_10 m_460) rfl rfl rfl (by decide +kernel) ⟨(Nat.le_of_ble_eq_true rfl), (Nat.le_of_ble_eq_true rfl)⟩) (gS_pre hK hN hPc) rfl rfl hl.1 rfl (lv_room (Nat.le_of_ble_eq_true rfl)) d_Comparison_compare_38 ⟨(Nat.le_of_ble_eq_true rfl), (Nat.le_of_ble_eq_true rfl)⟩)) (fun r3202 h => ?_)
    have hPc : va_P G vwCl [(a0_leader, .inl (K 0, 1026, .inl f_o_leader))] _ := hP.sub [1] rfl
    have hDc : va_D A [(a0_leader, .inl (K 0, 1026, .inl f_o_leader))] := hD.sub [1] (by decide) rfl
    have hRc : va_P G vwCl [(a0, .inr (1, [.ref a0_leader, .ref a0_left, .ref a0_right, .ref a0_before, .ref a0_letters, .int 0, .int (-1), .int v_o_one, .int v_o_other]))] _ := hP.sub [0] rfl
    have hJc : gJ [(a0_leader, .inl (K 0, 1026, .inl f_o_leader))] [(a0, .inr (1, [.ref a0_leader, .ref a0_left, .ref a0_right, .ref a0_before, .ref a0_letters, .int 0, .int (-1), .int v_o_one, .int v_o_other]))] := gJ_sub hD rN [1] [0] rfl rfl (by decide)
    refine g_calli (wr := [(a0, .inr (1, [.ref a0_leader, .ref a0_left, .ref a0_right, .ref a0_before, .ref a0_letters, .int 0, .int (-1), .int v_o_one, .int v_o_other])), (a0_left, .inl (K 0, 1027, .inl f_o_left)), (a0_right, .inl (K 0, 1027, .inl f_o_right)), (a0_before, .inl (K 0, 1027, .inl f_o_before)), (a0_letters, .inl (K 0, 1027, .inl f_o_letters))]) (va_runV (As := [.int r3201, .int r3202]) (rest := []) ⟨hx, hb, hml, hown, htg⟩ (k_Comparison_tie l G K a0 a0_leader a0_left a0_right a0_before a0_letters _ 0 (-1) v_o_one v_o_other f_o_leader r3201 r3202 _ h) (cwV 2 htg (gGoodV m_461 m_462 m_844 m_10 m_463) rfl rfl rfl (by decide +kernel) ⟨(Nat.le_of_ble_eq_true rfl), (Nat.le_of_ble_eq_true rfl)⟩) (gW_preV (ci := 1) (q0 := 0) hK hN hPc hDc hRc hJc hRc rfl rfl) rfl rfl hl.1 rfl (lv_room (Nat.le_of_ble_eq_true rfl)) d_Comparison_compare_41 ⟨(Nat.le_of_ble_eq_true rfl), (Nat.le_of_ble_eq_true rfl)⟩) hP hD hS hA [1] [0, 2, 3, 4, 5] rfl rfl (by decide) (by decide) (fun r3204 u H locs h hP hD hS => ?_)
    obtain ⟨u3203, rfl⟩ : ∃ z, z = u := ⟨_, rfl⟩
    try dsimp only at h
    have hP : va_P G vwCl [(a0, .inr (1, [.ref a0_leader, .ref a0_left, .ref a0_right, .ref a0_before, .ref a0_letters, .int 0, .int (-1), .int v_o_one, .int v_o_other])), (a0_left, .inl (K 0, 1027, .inl f_o_left)), (a0_right, .inl (K 0, 1027, .inl f_o_right)), (a0_before, .inl (K 0, 1027, .inl f_o_before)), (a0_letters, .inl (K 0, 1027, .inl f_o_letters)), (a0_leader, .inl (K 0, 1026, .inl u3203))] H := hP
    have hD : va_D A [(a0, .inr (1, [.ref a0_leader, .ref a0_left, .ref a0_right, .ref a0_before, .ref a0_letters, .int 0, .int (-1), .int v_o_one, .int v_o_other])), (a0_left, .inl (K 0, 1027, .inl f_o_left)), (a0_right, .inl (K 0, 1027, .inl f_o_right)), (a0_before, .inl (K 0, 1027, .inl f_o_before)), (a0_letters, .inl (K 0, 1027, .inl f_o_letters)), (a0_leader, .inl (K 0, 1026, .inl u3203))] := hD
    refine lv_pop hx hb d_Comparison_compare_44 rfl ?_
    refine lv_aload_n hx hb d_Comparison_compare_45 rfl (lv_at hl 0 rfl) ?_
    refine lv_iconst (v := 0) hx hb d_Comparison_compare_46 (by decide) ?_
    refine lv_iconst (v := 0) hx hb d_Comparison_compare_47 (by decide) ?_
    refine lv_iconst (v := 0) hx hb d_Comparison_compare_48 (by decide) ?_
    refine lv_iconst (v := (-1)) hx hb d_Comparison_compare_49 (by decide) ?_
    have hPc : va_P G vwCl [(a0, .inr (1, [.ref a0_leader, .ref a0_left, .ref a0_right, .ref a0_before, .ref a0_letters, .int 0, .int (-1), .int v_o_one, .int v_o_other])), (a0_left, .inl (K 0, 1027, .inl f_o_left)), (a0_right, .inl (K 0, 1027, .inl f_o_right)), (a0_before, .inl (K 0, 1027, .inl f_o_before)), (a0_letters, .inl (K 0, 1027, .inl f_o_letters))] _ := hP.sub [0, 1, 2, 3, 4] rfl
    have hDc : va_D A [(a0, .inr (1, [.ref a0_leader, .ref a0_left, .ref a0_right, .ref a0_before, .ref a0_letters, .int 0, .int (-1), .int v_o_one, .int v_o_other])), (a0_left, .inl (K 0, 1027, .inl f_o_left)), (a0_right, .inl (K 0, 1027, .inl f_o_right)), (a0_before, .inl (K 0, 1027, .inl f_o_before)), (a0_letters, .inl (K 0, 1027, .inl f_o_letters))] := hD.sub [0, 1, 2, 3, 4] (by decide) rfl
    have hRc : va_P G vwCl [] _ := hP.sub [] rfl
    have hJc : gJ [(a0, .inr (1, [.ref a0_leader, .ref a0_left, .ref a0_right, .ref a0_before, .ref a0_letters, .int 0, .int (-1), .int v_o_one, .int v_o_other])), (a0_left, .inl (K 0, 1027, .inl f_o_left)), (a0_right, .inl (K 0, 1027, .inl f_o_right)), (a0_before, .inl (K 0, 1027, .inl f_o_before)), (a0_letters, .inl (K 0, 1027, .inl f_o_letters))] [] := gJ_nil
    refine g_callv (wr := [(a0_leader, .inl (K 0, 1026, .inl u3203))]) (va_runV (As := [.int 0, .int 0, .int 0, .int (-1)]) (rest := []) ⟨hx, hb, hml, hown, htg⟩ (k_Comparison_add l G K a0 a0_left a0_right a0_before a0_letters a0_leader _ 0 (-1) v_o_one v_o_other f_o_left f_o_right f_o_before f_o_letters 0 0 0 (-1) _ h) (cwV 4 htg (gGoodV m_467 m_468 m_840 m_10 m_469) rfl rfl rfl (by decide +kernel) ⟨(Nat.le_of_ble_eq_true rfl), (Nat.le_of_ble_eq_true rfl)⟩) (gW_preV (ci := 1) (q0 := 0) hK hN hPc hDc hRc hJc hPc rfl rfl) rfl rfl hl.1 rfl (lv_room (Nat.le_of_ble_eq_true rfl)) d_Comparison_compare_50 ⟨(Nat.le_of_ble_eq_true rfl), (Nat.le_of_ble_eq_true rfl)⟩) hP hD hS hA [0, 1, 2, 3, 4] [5] rfl rfl (by decide) (by decide) (fun u H locs h hP hD hS => ?_)
    obtain ⟨u3205, u3206, u3207, u3208, u3209⟩ := u
    try dsimp only at h
    have hP : va_P G vwCl [(a0_leader, .inl (K 0, 1026, .inl u3203)), (a0, .inr (1, [.ref a0_leader, .ref a0_left, .ref a0_right, .ref a0_before, .ref a0_letters, .int u3205, .int (-1), .int v_o_one, .int v_o_other])), (a0_left, .inl (K 0, 1027, .inl u3206)), (a0_right, .inl (K 0, 1027, .inl u3207)), (a0_before, .inl (K 0, 1027, .inl u3208)), (a0_letters, .inl (K 0, 1027, .inl u3209))] H := hP
    have hD : va_D A [(a0_leader, .inl (K 0, 1026, .inl u3203)), (a0, .inr (1, [.ref a0_leader, .ref a0_left, .ref a0_right, .ref a0_before, .ref a0_letters, .int u3205, .int (-1), .int v_o_one, .int v_o_other])), (a0_left, .inl (K 0, 1027, .inl u3206)), (a0_right, .inl (K 0, 1027, .inl u3207)), (a0_before, .inl (K 0, 1027, .inl u3208)), (a0_letters, .inl (K 0, 1027, .inl u3209))] := hD
    refine lv_iconst (v := 0) hx hb d_Comparison_compare_53 (by decide) ?_
    refine lv_istore_n (lv' := [(3, .int 0), (0, .ref a0), (1, .ref a1), (2, .ref a2)]) hx hb d_Comparison_compare_54 rfl hl (by decide) rfl (fun ls hl => ?_)
    obtain ⟨k, h⟩ := h
    exact C_55 k 0 u3205 (-1) u3203 u3206 u3207 u3208 u3209  _ _ (hP.sub [1, 0, 2, 3, 4, 5] rfl) (hD.sub [1, 0, 2, 3, 4, 5] (by decide) rfl) hS _ (lv_sub hl [1, 2, 3, 0] rfl) h
  have C_2 : ∀ (n : Nat) (l3 : Int32) (v_o_pairs : Int32) (v_o_length : Int32) (f_o_leader : (Nat → Int32)) (f_o_left : (Nat → Int32)) (f_o_right : (Nat → Int32)) (f_o_before : (Nat → Int32)) (f_o_letters : (Nat → Int32)) (H : Heap) (locs : List Loc), va_P G vwCl [(a0, .inr (1, [.ref a0_leader, .ref a0_left, .ref a0_right, .ref a0_before, .ref a0_letters, .int v_o_pairs, .int v_o_length, .int v_o_one, .int v_o_other])), (a0_leader, .inl (K 0, 1026, .inl f_o_leader)), (a0_left, .inl (K 0, 1027, .inl f_o_left)), (a0_right, .inl (K 0, 1027, .inl f_o_right)), (a0_before, .inl (K 0, 1027, .inl f_o_before)), (a0_letters, .inl (K 0, 1027, .inl f_o_letters))] H → va_D A [(a0, .inr (1, [.ref a0_leader, .ref a0_left, .ref a0_right, .ref a0_before, .ref a0_letters, .int v_o_pairs, .int v_o_length, .int v_o_one, .int v_o_other])), (a0_leader, .inl (K 0, 1026, .inl f_o_leader)), (a0_left, .inl (K 0, 1027, .inl f_o_left)), (a0_right, .inl (K 0, 1027, .inl f_o_right)), (a0_before, .inl (K 0, 1027, .inl f_o_before)), (a0_letters, .inl (K 0, 1027, .inl f_o_letters))] → va_S A s.heap H locs → ∀ (ls : Array Slot), lv_has ls 4 [(0, .ref a0), (1, .ref a1), (2, .ref a2), (3, .int l3)] → p_Comparison_compare_2 n_p1_winners f_p1_winners n_p1_after f_p1_after n_p2_winners f_p2_winners n_p2_after f_p2_after post n l3 v_o_pairs v_o_length f_o_leader f_o_left f_o_right f_o_before f_o_letters → W p l e { frames := 4, cells := 0, slots := 0, locals := 90 } s m ([.ref a0, .ref a1, .ref a2] : List Value).toArray below meth c H locs 0 0 Q (F0 m 2 ls []) := by
    intro n
    induction n with
    | zero =>
      intro l3 v_o_pairs v_o_length f_o_leader f_o_left f_o_right f_o_before f_o_letters  H locs hP hD hS ls hl h
      exact False.elim h
    | succ n ih =>
      intro l3 v_o_pairs v_o_length f_o_leader f_o_left f_o_right f_o_before f_o_letters  H locs hP hD hS ls hl h
      refine lv_iload_n hx hb d_Comparison_compare_2 rfl (lv_at hl 3 rfl) ?_
      refine lv_sipush (v := 1026) hx hb d_Comparison_compare_3 (by decide) ?_
      refine lv_icmp_ge (tgt := 22) hx hb d_Comparison_compare_6 (by decide) (fun hc => ?_) (fun hc => ?_)
      · replace h := h.1 hc
        exact C_22 v_o_pairs v_o_length f_o_leader f_o_left f_o_right f_o_before f_o_letters  _ _ (hP.sub [0, 1, 2, 3, 4, 5] rfl) (hD.sub [0, 1, 2, 3, 4, 5] (by decide) rfl) hS _ (lv_sub hl [0, 1, 2] rfl) h
      · replace h := h.2 hc
        refine lv_aload_n hx hb d_Comparison_compare_9 rfl (lv_at hl 0 rfl) ?_
        refine va_get (ci := 1) (v := .ref a0_leader) hx hb htg in_Comparison hown hK hP 0 rfl rfl 0 (by decide) (htg _ m_156) (fun _ h9 => h9) rfl d_Comparison_compare_10 ?_
        refine lv_iload_n hx hb d_Comparison_compare_13 rfl (lv_at hl 3 rfl) ?_
        refine lv_iload_n hx hb d_Comparison_compare_14 rfl (lv_at hl 3 rfl) ?_
        obtain ⟨hin, h⟩ := h
        refine va_iast hx hb hK hP hD hS 1 0 rfl rfl hin d_Comparison_compare_15 (fun H locs hP hD hS => ?_)
        have hP : va_P G vwCl [(a0, .inr (1, [.ref a0_leader, .ref a0_left, .ref a0_right, .ref a0_before, .ref a0_letters, .int v_o_pairs, .int v_o_length, .int v_o_one, .int v_o_other])), (a0_leader, .inl (K 0, 1026, .inl (upd f_o_leader l3.toNatClampNeg l3))), (a0_left, .inl (K 0, 1027, .inl f_o_left)), (a0_right, .inl (K 0, 1027, .inl f_o_right)), (a0_before, .inl (K 0, 1027, .inl f_o_before)), (a0_letters, .inl (K 0, 1027, .inl f_o_letters))] H := hP
        have hD : va_D A [(a0, .inr (1, [.ref a0_leader, .ref a0_left, .ref a0_right, .ref a0_before, .ref a0_letters, .int v_o_pairs, .int v_o_length, .int v_o_one, .int v_o_other])), (a0_leader, .inl (K 0, 1026, .inl (upd f_o_leader l3.toNatClampNeg l3))), (a0_left, .inl (K 0, 1027, .inl f_o_left)), (a0_right, .inl (K 0, 1027, .inl f_o_right)), (a0_before, .inl (K 0, 1027, .inl f_o_before)), (a0_letters, .inl (K 0, 1027, .inl f_o_letters))] := hD
        refine lv_iinc (v := (l3 + 1)) (lv' := [(3, .int (l3 + 1)), (0, .ref a0), (1, .ref a1), (2, .ref a2)]) hx hb d_Comparison_compare_16 hl (k := 3) rfl (by first | rfl | decide) (by decide) rfl (fun ls hl => ?_)
        refine lv_goto (tgt := 2) hx hb d_Comparison_compare_19 (by decide) ?_
        exact ih (l3 + 1) v_o_pairs v_o_length (upd f_o_leader l3.toNatClampNeg l3) f_o_left f_o_right f_o_before f_o_letters  _ _ (hP.sub [0, 1, 2, 3, 4, 5] rfl) (hD.sub [0, 1, 2, 3, 4, 5] (by decide) rfl) hS _ (lv_sub hl [1, 2, 3, 0] rfl) h
  refine lv_iconst (v := 0) hx hb d_Comparison_compare_0 (by decide) ?_
  refine lv_istore_n (lv' := [(3, .int 0), (0, .ref a0), (1, .ref a1), (2, .ref a2)]) hx hb d_Comparison_compare_1 rfl hl (by decide) rfl (fun ls hl => ?_)
  obtain ⟨k, h⟩ := h
  exact C_2 k 0 v_o_pairs v_o_length f_o_leader f_o_left f_o_right f_o_before f_o_letters  _ _ (hP.sub [0, 1, 2, 3, 4, 5] rfl) (hD.sub [0, 1, 2, 3, 4, 5] (by decide) rfl) hS _ (lv_sub hl [1, 2, 3, 0] rfl) h
