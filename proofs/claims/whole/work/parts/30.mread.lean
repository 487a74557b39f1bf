theorem d_M_thrown_0 : decode c_M_thrown 0 = .ok (.aload_n 0, 1) := by decide +kernel
theorem d_M_thrown_1 : decode c_M_thrown 1 = .ok (.getfield 131, 3) := by decide +kernel
theorem d_M_thrown_4 : decode c_M_thrown 4 = .ok (.ireturn, 1) := by decide +kernel
theorem d_M_type_0 : decode c_M_type 0 = .ok (.aload_n 0, 1) := by decide +kernel
theorem d_M_type_1 : decode c_M_type 1 = .ok (.iconst 0, 1) := by decide +kernel
theorem d_M_type_2 : decode c_M_type 2 = .ok (.putfield 131, 3) := by decide +kernel
theorem d_M_type_5 : decode c_M_type 5 = .ok (.iload_n 3, 1) := by decide +kernel
theorem d_M_type_6 : decode c_M_type 6 = .ok (.iconst 1, 1) := by decide +kernel
theorem d_M_type_7 : decode c_M_type 7 = .ok (.if_icmp .lt 20, 3) := by decide +kernel
theorem d_M_type_10 : decode c_M_type 10 = .ok (.iload_n 3, 1) := by decide +kernel
theorem d_M_type_11 : decode c_M_type 11 = .ok (.bipush 8, 2) := by decide +kernel
theorem d_M_type_13 : decode c_M_type 13 = .ok (.if_icmp .gt 14, 3) := by decide +kernel
theorem d_M_type_16 : decode c_M_type 16 = .ok (.aload_n 0, 1) := by decide +kernel
theorem d_M_type_17 : decode c_M_type 17 = .ok (.getfield 135, 3) := by decide +kernel
theorem d_M_type_20 : decode c_M_type 20 = .ok (.iload_n 3, 1) := by decide +kernel
theorem d_M_type_21 : decode c_M_type 21 = .ok (.iadd, 1) := by decide +kernel
theorem d_M_type_22 : decode c_M_type 22 = .ok (.bipush 24, 2) := by decide +kernel
theorem d_M_type_24 : decode c_M_type 24 = .ok (.if_icmp .le 5, 3) := by decide +kernel
theorem d_M_type_27 : decode c_M_type 27 = .ok (.iconst 0, 1) := by decide +kernel
theorem d_M_type_28 : decode c_M_type 28 = .ok (.ireturn, 1) := by decide +kernel
theorem d_M_type_29 : decode c_M_type 29 = .ok (.iload_n 3, 1) := by decide +kernel
theorem d_M_type_30 : decode c_M_type 30 = .ok (.iconst 1, 1) := by decide +kernel
theorem d_M_type_31 : decode c_M_type 31 = .ok (.isub, 1) := by decide +kernel
theorem d_M_type_32 : decode c_M_type 32 = .ok (.istore 4, 2) := by decide +kernel
theorem d_M_type_34 : decode c_M_type 34 = .ok (.iload 4, 2) := by decide +kernel
theorem d_M_type_36 : decode c_M_type 36 = .ok (.ifCond .lt 40, 3) := by decide +kernel
theorem d_M_type_39 : decode c_M_type 39 = .ok (.aload_n 0, 1) := by decide +kernel
theorem d_M_type_40 : decode c_M_type 40 = .ok (.getfield 7, 3) := by decide +kernel
theorem d_M_type_43 : decode c_M_type 43 = .ok (.aload_n 0, 1) := by decide +kernel
theorem d_M_type_44 : decode c_M_type 44 = .ok (.getfield 135, 3) := by decide +kernel
theorem d_M_type_47 : decode c_M_type 47 = .ok (.lload_n 1, 1) := by decide +kernel
theorem d_M_type_48 : decode c_M_type 48 = .ok (.bipush 8, 2) := by decide +kernel
theorem d_M_type_50 : decode c_M_type 50 = .ok (.iload 4, 2) := by decide +kernel
theorem d_M_type_52 : decode c_M_type 52 = .ok (.imul, 1) := by decide +kernel
theorem d_M_type_53 : decode c_M_type 53 = .ok (.lshr, 1) := by decide +kernel
theorem d_M_type_54 : decode c_M_type 54 = .ok (.ldc2_w 138, 3) := by decide +kernel
theorem d_M_type_57 : decode c_M_type 57 = .ok (.land, 1) := by decide +kernel
theorem d_M_type_58 : decode c_M_type 58 = .ok (.l2i, 1) := by decide +kernel
theorem d_M_type_59 : decode c_M_type 59 = .ok (.iastore, 1) := by decide +kernel
theorem d_M_type_60 : decode c_M_type 60 = .ok (.aload_n 0, 1) := by decide +kernel
theorem d_M_type_61 : decode c_M_type 61 = .ok (.dup, 1) := by decide +kernel
theorem d_M_type_62 : decode c_M_type 62 = .ok (.getfield 135, 3) := by decide +kernel
theorem d_M_type_65 : decode c_M_type 65 = .ok (.iconst 1, 1) := by decide +kernel
theorem d_M_type_66 : decode c_M_type 66 = .ok (.iadd, 1) := by decide +kernel
theorem d_M_type_67 : decode c_M_type 67 = .ok (.putfield 135, 3) := by decide +kernel
theorem d_M_type_70 : decode c_M_type 70 = .ok (.iinc 4 (-1), 3) := by decide +kernel
theorem d_M_type_73 : decode c_M_type 73 = .ok (.goto (-39), 3) := by decide +kernel
theorem d_M_type_76 : decode c_M_type 76 = .ok (.iconst 1, 1) := by decide +kernel
theorem d_M_type_77 : decode c_M_type 77 = .ok (.ireturn, 1) := by decide +kernel
theorem d_M_here_0 : decode c_M_here 0 = .ok (.aload_n 0, 1) := by decide +kernel
theorem d_M_here_1 : decode c_M_here 1 = .ok (.getfield 140, 3) := by decide +kernel
theorem d_M_here_4 : decode c_M_here 4 = .ok (.aload_n 0, 1) := by decide +kernel
theorem d_M_here_5 : decode c_M_here 5 = .ok (.getfield 135, 3) := by decide +kernel
theorem d_M_here_8 : decode c_M_here 8 = .ok (.if_icmp .ge 15, 3) := by decide +kernel
theorem d_M_here_11 : decode c_M_here 11 = .ok (.aload_n 0, 1) := by decide +kernel
theorem d_M_here_12 : decode c_M_here 12 = .ok (.getfield 7, 3) := by decide +kernel
theorem d_M_here_15 : decode c_M_here 15 = .ok (.aload_n 0, 1) := by decide +kernel
theorem d_M_here_16 : decode c_M_here 16 = .ok (.getfield 140, 3) := by decide +kernel
theorem d_M_here_19 : decode c_M_here 19 = .ok (.iaload, 1) := by decide +kernel
theorem d_M_here_20 : decode c_M_here 20 = .ok (.goto 4, 3) := by decide +kernel
theorem d_M_here_23 : decode c_M_here 23 = .ok (.iconst (-1), 1) := by decide +kernel
theorem d_M_here_24 : decode c_M_here 24 = .ok (.ireturn, 1) := by decide +kernel
theorem d_M_isLetter_0 : decode c_M_isLetter 0 = .ok (.iload_n 0, 1) := by decide +kernel
theorem d_M_isLetter_1 : decode c_M_isLetter 1 = .ok (.bipush 97, 2) := by decide +kernel
theorem d_M_isLetter_3 : decode c_M_isLetter 3 = .ok (.if_icmp .lt 13, 3) := by decide +kernel
theorem d_M_isLetter_6 : decode c_M_isLetter 6 = .ok (.iload_n 0, 1) := by decide +kernel
theorem d_M_isLetter_7 : decode c_M_isLetter 7 = .ok (.bipush 102, 2) := by decide +kernel
theorem d_M_isLetter_9 : decode c_M_isLetter 9 = .ok (.if_icmp .gt 7, 3) := by decide +kernel
theorem d_M_isLetter_12 : decode c_M_isLetter 12 = .ok (.iconst 1, 1) := by decide +kernel
theorem d_M_isLetter_13 : decode c_M_isLetter 13 = .ok (.goto 4, 3) := by decide +kernel
theorem d_M_isLetter_16 : decode c_M_isLetter 16 = .ok (.iconst 0, 1) := by decide +kernel
theorem d_M_isLetter_17 : decode c_M_isLetter 17 = .ok (.ireturn, 1) := by decide +kernel
theorem d_M_beginRow_0 : decode c_M_beginRow 0 = .ok (.aload_n 0, 1) := by decide +kernel
theorem d_M_beginRow_1 : decode c_M_beginRow 1 = .ok (.getfield 49, 3) := by decide +kernel
theorem d_M_beginRow_4 : decode c_M_beginRow 4 = .ok (.aload_n 0, 1) := by decide +kernel
theorem d_M_beginRow_5 : decode c_M_beginRow 5 = .ok (.getfield 143, 3) := by decide +kernel
theorem d_M_beginRow_8 : decode c_M_beginRow 8 = .ok (.iconst 0, 1) := by decide +kernel
theorem d_M_beginRow_9 : decode c_M_beginRow 9 = .ok (.iastore, 1) := by decide +kernel
theorem d_M_beginRow_10 : decode c_M_beginRow 10 = .ok (.aload_n 0, 1) := by decide +kernel
theorem d_M_beginRow_11 : decode c_M_beginRow 11 = .ok (.getfield 52, 3) := by decide +kernel
theorem d_M_beginRow_14 : decode c_M_beginRow 14 = .ok (.aload_n 0, 1) := by decide +kernel
theorem d_M_beginRow_15 : decode c_M_beginRow 15 = .ok (.getfield 143, 3) := by decide +kernel
theorem d_M_beginRow_18 : decode c_M_beginRow 18 = .ok (.iconst 0, 1) := by decide +kernel
theorem d_M_beginRow_19 : decode c_M_beginRow 19 = .ok (.iastore, 1) := by decide +kernel
theorem d_M_beginRow_20 : decode c_M_beginRow 20 = .ok (.aload_n 0, 1) := by decide +kernel
theorem d_M_beginRow_21 : decode c_M_beginRow 21 = .ok (.getfield 65, 3) := by decide +kernel
theorem d_M_beginRow_24 : decode c_M_beginRow 24 = .ok (.aload_n 0, 1) := by decide +kernel
theorem d_M_beginRow_25 : decode c_M_beginRow 25 = .ok (.getfield 143, 3) := by decide +kernel
theorem d_M_beginRow_28 : decode c_M_beginRow 28 = .ok (.iconst 1, 1) := by decide +kernel
theorem d_M_beginRow_29 : decode c_M_beginRow 29 = .ok (.bastore, 1) := by decide +kernel
theorem d_M_beginRow_30 : decode c_M_beginRow 30 = .ok (.aload_n 0, 1) := by decide +kernel
theorem d_M_beginRow_31 : decode c_M_beginRow 31 = .ok (.getfield 71, 3) := by decide +kernel
theorem d_M_beginRow_34 : decode c_M_beginRow 34 = .ok (.aload_n 0, 1) := by decide +kernel
theorem d_M_beginRow_35 : decode c_M_beginRow 35 = .ok (.getfield 143, 3) := by decide +kernel
theorem d_M_beginRow_38 : decode c_M_beginRow 38 = .ok (.iconst 0, 1) := by decide +kernel
theorem d_M_beginRow_39 : decode c_M_beginRow 39 = .ok (.bastore, 1) := by decide +kernel
theorem d_M_beginRow_40 : decode c_M_beginRow 40 = .ok (.return_, 1) := by decide +kernel
theorem d_M_open_0 : decode c_M_open 0 = .ok (.aload_n 0, 1) := by decide +kernel
theorem d_M_open_1 : decode c_M_open 1 = .ok (.getfield 43, 3) := by decide +kernel
theorem d_M_open_4 : decode c_M_open 4 = .ok (.aload_n 0, 1) := by decide +kernel
theorem d_M_open_5 : decode c_M_open 5 = .ok (.getfield 143, 3) := by decide +kernel
theorem d_M_open_8 : decode c_M_open 8 = .ok (.iconst 0, 1) := by decide +kernel
theorem d_M_open_9 : decode c_M_open 9 = .ok (.iastore, 1) := by decide +kernel
theorem d_M_open_10 : decode c_M_open 10 = .ok (.aload_n 0, 1) := by decide +kernel
theorem d_M_open_11 : decode c_M_open 11 = .ok (.getfield 46, 3) := by decide +kernel
theorem d_M_open_14 : decode c_M_open 14 = .ok (.aload_n 0, 1) := by decide +kernel
theorem d_M_open_15 : decode c_M_open 15 = .ok (.getfield 143, 3) := by decide +kernel
theorem d_M_open_18 : decode c_M_open 18 = .ok (.iconst 0, 1) := by decide +kernel
theorem d_M_open_19 : decode c_M_open 19 = .ok (.iastore, 1) := by decide +kernel
theorem d_M_open_20 : decode c_M_open 20 = .ok (.aload_n 0, 1) := by decide +kernel
theorem d_M_open_21 : decode c_M_open 21 = .ok (.getfield 61, 3) := by decide +kernel
theorem d_M_open_24 : decode c_M_open 24 = .ok (.aload_n 0, 1) := by decide +kernel
theorem d_M_open_25 : decode c_M_open 25 = .ok (.getfield 143, 3) := by decide +kernel
theorem d_M_open_28 : decode c_M_open 28 = .ok (.iconst 0, 1) := by decide +kernel
theorem d_M_open_29 : decode c_M_open 29 = .ok (.bastore, 1) := by decide +kernel
theorem d_M_open_30 : decode c_M_open 30 = .ok (.aload_n 0, 1) := by decide +kernel
theorem d_M_open_31 : decode c_M_open 31 = .ok (.invokevirtual 146, 3) := by decide +kernel
theorem d_M_open_34 : decode c_M_open 34 = .ok (.return_, 1) := by decide +kernel
theorem d_M_join_0 : decode c_M_join 0 = .ok (.iconst 0, 1) := by decide +kernel
theorem d_M_join_1 : decode c_M_join 1 = .ok (.istore_n 3, 1) := by decide +kernel
theorem d_M_join_2 : decode c_M_join 2 = .ok (.iload_n 3, 1) := by decide +kernel
theorem d_M_join_3 : decode c_M_join 3 = .ok (.aload_n 0, 1) := by decide +kernel
theorem d_M_join_4 : decode c_M_join 4 = .ok (.getfield 149, 3) := by decide +kernel
theorem d_M_join_7 : decode c_M_join 7 = .ok (.if_icmp .ge 28, 3) := by decide +kernel
theorem d_M_join_10 : decode c_M_join 10 = .ok (.iload_n 1, 1) := by decide +kernel
theorem d_M_join_11 : decode c_M_join 11 = .ok (.iload_n 3, 1) := by decide +kernel
theorem d_M_join_12 : decode c_M_join 12 = .ok (.ishr, 1) := by decide +kernel
theorem d_M_join_13 : decode c_M_join 13 = .ok (.iconst 1, 1) := by decide +kernel
theorem d_M_join_14 : decode c_M_join 14 = .ok (.iand, 1) := by decide +kernel
theorem d_M_join_15 : decode c_M_join 15 = .ok (.iconst 1, 1) := by decide +kernel
theorem d_M_join_16 : decode c_M_join 16 = .ok (.if_icmp .ne 13, 3) := by decide +kernel
theorem d_M_join_19 : decode c_M_join 19 = .ok (.aload_n 0, 1) := by decide +kernel
theorem d_M_join_20 : decode c_M_join 20 = .ok (.getfield 40, 3) := by decide +kernel
theorem d_M_join_23 : decode c_M_join 23 = .ok (.iload_n 3, 1) := by decide +kernel
theorem d_M_join_24 : decode c_M_join 24 = .ok (.dup2, 1) := by decide +kernel
theorem d_M_join_25 : decode c_M_join 25 = .ok (.iaload, 1) := by decide +kernel
theorem d_M_join_26 : decode c_M_join 26 = .ok (.iload_n 2, 1) := by decide +kernel
theorem d_M_join_27 : decode c_M_join 27 = .ok (.ior, 1) := by decide +kernel
theorem d_M_join_28 : decode c_M_join 28 = .ok (.iastore, 1) := by decide +kernel
theorem d_M_join_29 : decode c_M_join 29 = .ok (.iinc 3 1, 3) := by decide +kernel
theorem d_M_join_32 : decode c_M_join 32 = .ok (.goto (-30), 3) := by decide +kernel
theorem d_M_join_35 : decode c_M_join 35 = .ok (.return_, 1) := by decide +kernel
theorem d_M_settle_0 : decode c_M_settle 0 = .ok (.aload_n 0, 1) := by decide +kernel
theorem d_M_settle_1 : decode c_M_settle 1 = .ok (.getfield 71, 3) := by decide +kernel
theorem d_M_settle_4 : decode c_M_settle 4 = .ok (.aload_n 0, 1) := by decide +kernel
theorem d_M_settle_5 : decode c_M_settle 5 = .ok (.getfield 143, 3) := by decide +kernel
theorem d_M_settle_8 : decode c_M_settle 8 = .ok (.baload, 1) := by decide +kernel
theorem d_M_settle_9 : decode c_M_settle 9 = .ok (.ifCond .ne 4, 3) := by decide +kernel
theorem d_M_settle_12 : decode c_M_settle 12 = .ok (.return_, 1) := by decide +kernel
theorem d_M_settle_13 : decode c_M_settle 13 = .ok (.aload_n 0, 1) := by decide +kernel
theorem d_M_settle_14 : decode c_M_settle 14 = .ok (.aload_n 0, 1) := by decide +kernel
theorem d_M_settle_15 : decode c_M_settle 15 = .ok (.getfield 52, 3) := by decide +kernel
theorem d_M_settle_18 : decode c_M_settle 18 = .ok (.aload_n 0, 1) := by decide +kernel
theorem d_M_settle_19 : decode c_M_settle 19 = .ok (.getfield 143, 3) := by decide +kernel
theorem d_M_settle_22 : decode c_M_settle 22 = .ok (.iaload, 1) := by decide +kernel
theorem d_M_settle_23 : decode c_M_settle 23 = .ok (.aload_n 0, 1) := by decide +kernel
theorem d_M_settle_24 : decode c_M_settle 24 = .ok (.getfield 55, 3) := by decide +kernel
theorem d_M_settle_27 : decode c_M_settle 27 = .ok (.aload_n 0, 1) := by decide +kernel
theorem d_M_settle_28 : decode c_M_settle 28 = .ok (.getfield 143, 3) := by decide +kernel
theorem d_M_settle_31 : decode c_M_settle 31 = .ok (.iaload, 1) := by decide +kernel
theorem d_M_settle_32 : decode c_M_settle 32 = .ok (.invokevirtual 152, 3) := by decide +kernel
theorem d_M_settle_35 : decode c_M_settle 35 = .ok (.aload_n 0, 1) := by decide +kernel
theorem d_M_settle_36 : decode c_M_settle 36 = .ok (.getfield 49, 3) := by decide +kernel
theorem d_M_settle_39 : decode c_M_settle 39 = .ok (.aload_n 0, 1) := by decide +kernel
theorem d_M_settle_40 : decode c_M_settle 40 = .ok (.getfield 143, 3) := by decide +kernel
theorem d_M_settle_43 : decode c_M_settle 43 = .ok (.dup2, 1) := by decide +kernel
theorem d_M_settle_44 : decode c_M_settle 44 = .ok (.iaload, 1) := by decide +kernel
theorem d_M_settle_45 : decode c_M_settle 45 = .ok (.aload_n 0, 1) := by decide +kernel
theorem d_M_settle_46 : decode c_M_settle 46 = .ok (.getfield 65, 3) := by decide +kernel
theorem d_M_settle_49 : decode c_M_settle 49 = .ok (.aload_n 0, 1) := by decide +kernel
theorem d_M_settle_50 : decode c_M_settle 50 = .ok (.getfield 143, 3) := by decide +kernel
theorem d_M_settle_53 : decode c_M_settle 53 = .ok (.baload, 1) := by decide +kernel
theorem d_M_settle_54 : decode c_M_settle 54 = .ok (.ifCond .eq 15, 3) := by decide +kernel
theorem d_M_settle_57 : decode c_M_settle 57 = .ok (.aload_n 0, 1) := by decide +kernel
theorem d_M_settle_58 : decode c_M_settle 58 = .ok (.getfield 55, 3) := by decide +kernel
theorem d_M_settle_61 : decode c_M_settle 61 = .ok (.aload_n 0, 1) := by decide +kernel
theorem d_M_settle_62 : decode c_M_settle 62 = .ok (.getfield 143, 3) := by decide +kernel
theorem d_M_settle_65 : decode c_M_settle 65 = .ok (.iaload, 1) := by decide +kernel
theorem d_M_settle_66 : decode c_M_settle 66 = .ok (.goto 4, 3) := by decide +kernel
theorem d_M_settle_69 : decode c_M_settle 69 = .ok (.iconst 0, 1) := by decide +kernel
theorem d_M_settle_70 : decode c_M_settle 70 = .ok (.ior, 1) := by decide +kernel
theorem d_M_settle_71 : decode c_M_settle 71 = .ok (.iastore, 1) := by decide +kernel
theorem d_M_settle_72 : decode c_M_settle 72 = .ok (.aload_n 0, 1) := by decide +kernel
theorem d_M_settle_73 : decode c_M_settle 73 = .ok (.getfield 52, 3) := by decide +kernel
theorem d_M_settle_76 : decode c_M_settle 76 = .ok (.aload_n 0, 1) := by decide +kernel
theorem d_M_settle_77 : decode c_M_settle 77 = .ok (.getfield 143, 3) := by decide +kernel
theorem d_M_settle_80 : decode c_M_settle 80 = .ok (.aload_n 0, 1) := by decide +kernel
theorem d_M_settle_81 : decode c_M_settle 81 = .ok (.getfield 58, 3) := by decide +kernel
theorem d_M_settle_84 : decode c_M_settle 84 = .ok (.aload_n 0, 1) := by decide +kernel
theorem d_M_settle_85 : decode c_M_settle 85 = .ok (.getfield 143, 3) := by decide +kernel
theorem d_M_settle_88 : decode c_M_settle 88 = .ok (.iaload, 1) := by decide +kernel
theorem d_M_settle_89 : decode c_M_settle 89 = .ok (.aload_n 0, 1) := by decide +kernel
theorem d_M_settle_90 : decode c_M_settle 90 = .ok (.getfield 68, 3) := by decide +kernel
theorem d_M_settle_93 : decode c_M_settle 93 = .ok (.aload_n 0, 1) := by decide +kernel
theorem d_M_settle_94 : decode c_M_settle 94 = .ok (.getfield 143, 3) := by decide +kernel
theorem d_M_settle_97 : decode c_M_settle 97 = .ok (.baload, 1) := by decide +kernel
theorem d_M_settle_98 : decode c_M_settle 98 = .ok (.ifCond .eq 15, 3) := by decide +kernel
theorem d_M_settle_101 : decode c_M_settle 101 = .ok (.aload_n 0, 1) := by decide +kernel
theorem d_M_settle_102 : decode c_M_settle 102 = .ok (.getfield 52, 3) := by decide +kernel
theorem d_M_settle_105 : decode c_M_settle 105 = .ok (.aload_n 0, 1) := by decide +kernel
theorem d_M_settle_106 : decode c_M_settle 106 = .ok (.getfield 143, 3) := by decide +kernel
theorem d_M_settle_109 : decode c_M_settle 109 = .ok (.iaload, 1) := by decide +kernel
theorem d_M_settle_110 : decode c_M_settle 110 = .ok (.goto 4, 3) := by decide +kernel
theorem d_M_settle_113 : decode c_M_settle 113 = .ok (.iconst 0, 1) := by decide +kernel
theorem d_M_settle_114 : decode c_M_settle 114 = .ok (.ior, 1) := by decide +kernel
theorem d_M_settle_115 : decode c_M_settle 115 = .ok (.iastore, 1) := by decide +kernel
theorem d_M_settle_116 : decode c_M_settle 116 = .ok (.aload_n 0, 1) := by decide +kernel
theorem d_M_settle_117 : decode c_M_settle 117 = .ok (.getfield 65, 3) := by decide +kernel
theorem d_M_settle_120 : decode c_M_settle 120 = .ok (.aload_n 0, 1) := by decide +kernel
theorem d_M_settle_121 : decode c_M_settle 121 = .ok (.getfield 143, 3) := by decide +kernel
theorem d_M_settle_124 : decode c_M_settle 124 = .ok (.aload_n 0, 1) := by decide +kernel
theorem d_M_settle_125 : decode c_M_settle 125 = .ok (.getfield 65, 3) := by decide +kernel
theorem d_M_settle_128 : decode c_M_settle 128 = .ok (.aload_n 0, 1) := by decide +kernel
theorem d_M_settle_129 : decode c_M_settle 129 = .ok (.getfield 143, 3) := by decide +kernel
theorem d_M_settle_132 : decode c_M_settle 132 = .ok (.baload, 1) := by decide +kernel
theorem d_M_settle_133 : decode c_M_settle 133 = .ok (.ifCond .eq 19, 3) := by decide +kernel
theorem d_M_settle_136 : decode c_M_settle 136 = .ok (.aload_n 0, 1) := by decide +kernel
theorem d_M_settle_137 : decode c_M_settle 137 = .ok (.getfield 68, 3) := by decide +kernel
theorem d_M_settle_140 : decode c_M_settle 140 = .ok (.aload_n 0, 1) := by decide +kernel
theorem d_M_settle_141 : decode c_M_settle 141 = .ok (.getfield 143, 3) := by decide +kernel
theorem d_M_settle_144 : decode c_M_settle 144 = .ok (.baload, 1) := by decide +kernel
theorem d_M_settle_145 : decode c_M_settle 145 = .ok (.ifCond .eq 7, 3) := by decide +kernel
theorem d_M_settle_148 : decode c_M_settle 148 = .ok (.iconst 1, 1) := by decide +kernel
theorem d_M_settle_149 : decode c_M_settle 149 = .ok (.goto 4, 3) := by decide +kernel
theorem d_M_settle_152 : decode c_M_settle 152 = .ok (.iconst 0, 1) := by decide +kernel
theorem d_M_settle_153 : decode c_M_settle 153 = .ok (.bastore, 1) := by decide +kernel
theorem d_M_settle_154 : decode c_M_settle 154 = .ok (.aload_n 0, 1) := by decide +kernel
theorem d_M_settle_155 : decode c_M_settle 155 = .ok (.getfield 71, 3) := by decide +kernel
theorem d_M_settle_158 : decode c_M_settle 158 = .ok (.aload_n 0, 1) := by decide +kernel
theorem d_M_settle_159 : decode c_M_settle 159 = .ok (.getfield 143, 3) := by decide +kernel
theorem d_M_settle_162 : decode c_M_settle 162 = .ok (.iconst 0, 1) := by decide +kernel
theorem d_M_settle_163 : decode c_M_settle 163 = .ok (.bastore, 1) := by decide +kernel
theorem d_M_settle_164 : decode c_M_settle 164 = .ok (.return_, 1) := by decide +kernel
theorem d_M_endRow_0 : decode c_M_endRow 0 = .ok (.aload_n 0, 1) := by decide +kernel
theorem d_M_endRow_1 : decode c_M_endRow 1 = .ok (.invokevirtual 156, 3) := by decide +kernel
theorem d_M_endRow_4 : decode c_M_endRow 4 = .ok (.aload_n 0, 1) := by decide +kernel
theorem d_M_endRow_5 : decode c_M_endRow 5 = .ok (.getfield 43, 3) := by decide +kernel
theorem d_M_endRow_8 : decode c_M_endRow 8 = .ok (.aload_n 0, 1) := by decide +kernel
theorem d_M_endRow_9 : decode c_M_endRow 9 = .ok (.getfield 143, 3) := by decide +kernel
theorem d_M_endRow_12 : decode c_M_endRow 12 = .ok (.dup2, 1) := by decide +kernel
theorem d_M_endRow_13 : decode c_M_endRow 13 = .ok (.iaload, 1) := by decide +kernel
theorem d_M_endRow_14 : decode c_M_endRow 14 = .ok (.aload_n 0, 1) := by decide +kernel
theorem d_M_endRow_15 : decode c_M_endRow 15 = .ok (.getfield 49, 3) := by decide +kernel
theorem d_M_endRow_18 : decode c_M_endRow 18 = .ok (.aload_n 0, 1) := by decide +kernel
theorem d_M_endRow_19 : decode c_M_endRow 19 = .ok (.getfield 143, 3) := by decide +kernel
theorem d_M_endRow_22 : decode c_M_endRow 22 = .ok (.iaload, 1) := by decide +kernel
theorem d_M_endRow_23 : decode c_M_endRow 23 = .ok (.ior, 1) := by decide +kernel
theorem d_M_endRow_24 : decode c_M_endRow 24 = .ok (.iastore, 1) := by decide +kernel
theorem d_M_endRow_25 : decode c_M_endRow 25 = .ok (.aload_n 0, 1) := by decide +kernel
theorem d_M_endRow_26 : decode c_M_endRow 26 = .ok (.getfield 46, 3) := by decide +kernel
theorem d_M_endRow_29 : decode c_M_endRow 29 = .ok (.aload_n 0, 1) := by decide +kernel
theorem d_M_endRow_30 : decode c_M_endRow 30 = .ok (.getfield 143, 3) := by decide +kernel
theorem d_M_endRow_33 : decode c_M_endRow 33 = .ok (.dup2, 1) := by decide +kernel
theorem d_M_endRow_34 : decode c_M_endRow 34 = .ok (.iaload, 1) := by decide +kernel
theorem d_M_endRow_35 : decode c_M_endRow 35 = .ok (.aload_n 0, 1) := by decide +kernel
theorem d_M_endRow_36 : decode c_M_endRow 36 = .ok (.getfield 52, 3) := by decide +kernel
theorem d_M_endRow_39 : decode c_M_endRow 39 = .ok (.aload_n 0, 1) := by decide +kernel
theorem d_M_endRow_40 : decode c_M_endRow 40 = .ok (.getfield 143, 3) := by decide +kernel
theorem d_M_endRow_43 : decode c_M_endRow 43 = .ok (.iaload, 1) := by decide +kernel
theorem d_M_endRow_44 : decode c_M_endRow 44 = .ok (.ior, 1) := by decide +kernel
theorem d_M_endRow_45 : decode c_M_endRow 45 = .ok (.iastore, 1) := by decide +kernel
theorem d_M_endRow_46 : decode c_M_endRow 46 = .ok (.aload_n 0, 1) := by decide +kernel
theorem d_M_endRow_47 : decode c_M_endRow 47 = .ok (.getfield 61, 3) := by decide +kernel
theorem d_M_endRow_50 : decode c_M_endRow 50 = .ok (.aload_n 0, 1) := by decide +kernel
theorem d_M_endRow_51 : decode c_M_endRow 51 = .ok (.getfield 143, 3) := by decide +kernel
theorem d_M_endRow_54 : decode c_M_endRow 54 = .ok (.aload_n 0, 1) := by decide +kernel
theorem d_M_endRow_55 : decode c_M_endRow 55 = .ok (.getfield 61, 3) := by decide +kernel
theorem d_M_endRow_58 : decode c_M_endRow 58 = .ok (.aload_n 0, 1) := by decide +kernel
theorem d_M_endRow_59 : decode c_M_endRow 59 = .ok (.getfield 143, 3) := by decide +kernel
theorem d_M_endRow_62 : decode c_M_endRow 62 = .ok (.baload, 1) := by decide +kernel
theorem d_M_endRow_63 : decode c_M_endRow 63 = .ok (.ifCond .ne 15, 3) := by decide +kernel
theorem d_M_endRow_66 : decode c_M_endRow 66 = .ok (.aload_n 0, 1) := by decide +kernel
theorem d_M_endRow_67 : decode c_M_endRow 67 = .ok (.getfield 65, 3) := by decide +kernel
theorem d_M_endRow_70 : decode c_M_endRow 70 = .ok (.aload_n 0, 1) := by decide +kernel
theorem d_M_endRow_71 : decode c_M_endRow 71 = .ok (.getfield 143, 3) := by decide +kernel
theorem d_M_endRow_74 : decode c_M_endRow 74 = .ok (.baload, 1) := by decide +kernel
theorem d_M_endRow_75 : decode c_M_endRow 75 = .ok (.ifCond .eq 7, 3) := by decide +kernel
theorem d_M_endRow_78 : decode c_M_endRow 78 = .ok (.iconst 1, 1) := by decide +kernel
theorem d_M_endRow_79 : decode c_M_endRow 79 = .ok (.goto 4, 3) := by decide +kernel
theorem d_M_endRow_82 : decode c_M_endRow 82 = .ok (.iconst 0, 1) := by decide +kernel
theorem d_M_endRow_83 : decode c_M_endRow 83 = .ok (.bastore, 1) := by decide +kernel
theorem d_M_endRow_84 : decode c_M_endRow 84 = .ok (.return_, 1) := by decide +kernel
theorem d_M_part_0 : decode c_M_part 0 = .ok (.aload_n 0, 1) := by decide +kernel
theorem d_M_part_1 : decode c_M_part 1 = .ok (.invokevirtual 156, 3) := by decide +kernel
theorem d_M_part_4 : decode c_M_part 4 = .ok (.aload_n 0, 1) := by decide +kernel
theorem d_M_part_5 : decode c_M_part 5 = .ok (.getfield 55, 3) := by decide +kernel
theorem d_M_part_8 : decode c_M_part 8 = .ok (.aload_n 0, 1) := by decide +kernel
theorem d_M_part_9 : decode c_M_part 9 = .ok (.getfield 143, 3) := by decide +kernel
theorem d_M_part_12 : decode c_M_part 12 = .ok (.iload_n 1, 1) := by decide +kernel
theorem d_M_part_13 : decode c_M_part 13 = .ok (.iastore, 1) := by decide +kernel
theorem d_M_part_14 : decode c_M_part 14 = .ok (.aload_n 0, 1) := by decide +kernel
theorem d_M_part_15 : decode c_M_part 15 = .ok (.getfield 58, 3) := by decide +kernel
theorem d_M_part_18 : decode c_M_part 18 = .ok (.aload_n 0, 1) := by decide +kernel
theorem d_M_part_19 : decode c_M_part 19 = .ok (.getfield 143, 3) := by decide +kernel
theorem d_M_part_22 : decode c_M_part 22 = .ok (.iload_n 2, 1) := by decide +kernel
theorem d_M_part_23 : decode c_M_part 23 = .ok (.iastore, 1) := by decide +kernel
theorem d_M_part_24 : decode c_M_part 24 = .ok (.aload_n 0, 1) := by decide +kernel
theorem d_M_part_25 : decode c_M_part 25 = .ok (.getfield 68, 3) := by decide +kernel
theorem d_M_part_28 : decode c_M_part 28 = .ok (.aload_n 0, 1) := by decide +kernel
theorem d_M_part_29 : decode c_M_part 29 = .ok (.getfield 143, 3) := by decide +kernel
theorem d_M_part_32 : decode c_M_part 32 = .ok (.iload_n 3, 1) := by decide +kernel
theorem d_M_part_33 : decode c_M_part 33 = .ok (.bastore, 1) := by decide +kernel
theorem d_M_part_34 : decode c_M_part 34 = .ok (.aload_n 0, 1) := by decide +kernel
theorem d_M_part_35 : decode c_M_part 35 = .ok (.getfield 71, 3) := by decide +kernel
theorem d_M_part_38 : decode c_M_part 38 = .ok (.aload_n 0, 1) := by decide +kernel
theorem d_M_part_39 : decode c_M_part 39 = .ok (.getfield 143, 3) := by decide +kernel
theorem d_M_part_42 : decode c_M_part 42 = .ok (.iconst 1, 1) := by decide +kernel
theorem d_M_part_43 : decode c_M_part 43 = .ok (.bastore, 1) := by decide +kernel
theorem d_M_part_44 : decode c_M_part 44 = .ok (.return_, 1) := by decide +kernel
theorem d_M_place_0 : decode c_M_place 0 = .ok (.aload_n 0, 1) := by decide +kernel
theorem d_M_place_1 : decode c_M_place 1 = .ok (.getfield 37, 3) := by decide +kernel
theorem d_M_place_4 : decode c_M_place 4 = .ok (.aload_n 0, 1) := by decide +kernel
theorem d_M_place_5 : decode c_M_place 5 = .ok (.getfield 149, 3) := by decide +kernel
theorem d_M_place_8 : decode c_M_place 8 = .ok (.iload_n 1, 1) := by decide +kernel
theorem d_M_place_9 : decode c_M_place 9 = .ok (.iastore, 1) := by decide +kernel
theorem d_M_place_10 : decode c_M_place 10 = .ok (.aload_n 0, 1) := by decide +kernel
theorem d_M_place_11 : decode c_M_place 11 = .ok (.getfield 40, 3) := by decide +kernel
theorem d_M_place_14 : decode c_M_place 14 = .ok (.aload_n 0, 1) := by decide +kernel
theorem d_M_place_15 : decode c_M_place 15 = .ok (.getfield 149, 3) := by decide +kernel
theorem d_M_place_18 : decode c_M_place 18 = .ok (.iconst 0, 1) := by decide +kernel
theorem d_M_place_19 : decode c_M_place 19 = .ok (.iastore, 1) := by decide +kernel
theorem d_M_place_20 : decode c_M_place 20 = .ok (.aload_n 0, 1) := by decide +kernel
theorem d_M_place_21 : decode c_M_place 21 = .ok (.dup, 1) := by decide +kernel
theorem d_M_place_22 : decode c_M_place 22 = .ok (.getfield 149, 3) := by decide +kernel
theorem d_M_place_25 : decode c_M_place 25 = .ok (.iconst 1, 1) := by decide +kernel
theorem d_M_place_26 : decode c_M_place 26 = .ok (.iadd, 1) := by decide +kernel
theorem d_M_place_27 : decode c_M_place 27 = .ok (.putfield 149, 3) := by decide +kernel
theorem d_M_place_30 : decode c_M_place 30 = .ok (.aload_n 0, 1) := by decide +kernel
theorem d_M_place_31 : decode c_M_place 31 = .ok (.iconst 1, 1) := by decide +kernel
theorem d_M_place_32 : decode c_M_place 32 = .ok (.aload_n 0, 1) := by decide +kernel
theorem d_M_place_33 : decode c_M_place 33 = .ok (.getfield 149, 3) := by decide +kernel
theorem d_M_place_36 : decode c_M_place 36 = .ok (.iconst 1, 1) := by decide +kernel
theorem d_M_place_37 : decode c_M_place 37 = .ok (.isub, 1) := by decide +kernel
theorem d_M_place_38 : decode c_M_place 38 = .ok (.ishl, 1) := by decide +kernel
theorem d_M_place_39 : decode c_M_place 39 = .ok (.iconst 1, 1) := by decide +kernel
theorem d_M_place_40 : decode c_M_place 40 = .ok (.aload_n 0, 1) := by decide +kernel
theorem d_M_place_41 : decode c_M_place 41 = .ok (.getfield 149, 3) := by decide +kernel
theorem d_M_place_44 : decode c_M_place 44 = .ok (.iconst 1, 1) := by decide +kernel
theorem d_M_place_45 : decode c_M_place 45 = .ok (.isub, 1) := by decide +kernel
theorem d_M_place_46 : decode c_M_place 46 = .ok (.ishl, 1) := by decide +kernel
theorem d_M_place_47 : decode c_M_place 47 = .ok (.iconst 0, 1) := by decide +kernel
theorem d_M_place_48 : decode c_M_place 48 = .ok (.invokevirtual 159, 3) := by decide +kernel
theorem d_M_place_51 : decode c_M_place 51 = .ok (.return_, 1) := by decide +kernel
theorem d_M_refuse_0 : decode c_M_refuse 0 = .ok (.aload_n 0, 1) := by decide +kernel
theorem d_M_refuse_1 : decode c_M_refuse 1 = .ok (.aload_n 0, 1) := by decide +kernel
theorem d_M_refuse_2 : decode c_M_refuse 2 = .ok (.getfield 163, 3) := by decide +kernel
theorem d_M_refuse_5 : decode c_M_refuse 5 = .ok (.iconst (-1), 1) := by decide +kernel
theorem d_M_refuse_6 : decode c_M_refuse 6 = .ok (.if_icmp .ne 10, 3) := by decide +kernel
theorem d_M_refuse_9 : decode c_M_refuse 9 = .ok (.aload_n 0, 1) := by decide +kernel
theorem d_M_refuse_10 : decode c_M_refuse 10 = .ok (.getfield 140, 3) := by decide +kernel
theorem d_M_refuse_13 : decode c_M_refuse 13 = .ok (.goto 7, 3) := by decide +kernel
theorem d_M_refuse_16 : decode c_M_refuse 16 = .ok (.aload_n 0, 1) := by decide +kernel
theorem d_M_refuse_17 : decode c_M_refuse 17 = .ok (.getfield 163, 3) := by decide +kernel
theorem d_M_refuse_20 : decode c_M_refuse 20 = .ok (.putfield 163, 3) := by decide +kernel
theorem d_M_refuse_23 : decode c_M_refuse 23 = .ok (.return_, 1) := by decide +kernel
def p_M_thrown (v_o_code : Int32) (post : Int32 → Prop) : Prop := (post v_o_code)
set_option maxHeartbeats 4000000 in
set_option maxRecDepth 100000 in
theorem k_M_thrown (l : Launch) (G : va_G) (K : Nat → ClassId) (a0 : Nat) (ad : Nat → Nat) (v_o_code : Int32) (v_o_typed : Int32) (v_o_rules : Int32) (v_o_at : Int32) (v_o_read : Int32) (v_o_depth : Int32) (v_o_wrong : Int32) (v_o_there : Int32) (v_o_ended : Int32) (v_o_mode : Int32) (v_o_kept : Int32) (v_o_came : Int32) (v_o_pending : Int32) (v_o_looked : Int32) (v_o_tokens : Int32) (v_o_oldest : Int32) (post : Int32 → Prop) (h : p_M_thrown v_o_code post) : MSi l y_M_thrown (.code y_M_thrown c_M_thrown 1 (some .int)) { frames := 0, cells := 0, slots := 0, locals := 0 } G K [(a0, .inr (12, oM v_o_code v_o_typed v_o_rules v_o_at v_o_read v_o_depth v_o_wrong v_o_there v_o_ended v_o_mode v_o_kept v_o_came v_o_pending v_o_looked v_o_tokens v_o_oldest ad))] [.ref a0] post := by
  refine g_metSi (cc := c_M_thrown) (maxL := 1) (ret := some .int) (rt := .int) (by decide) rfl rfl (Nat.le_of_ble_eq_true rfl) ?_
  intro p e s m below meth c Q hx hb hml hown htg hK hN hP hret ls hl
  have hl : lv_has ls 1 [(0, .ref a0)] := hl
  refine lv_aload_n hx hb d_M_thrown_0 rfl (lv_at hl 0 rfl) ?_
  refine va_get (ci := 12) (v := .int v_o_code) hx hb htg in_M hown hK hP 0 rfl rfl 0 (by decide) (htg _ m_610) (fun _ h9 => h9) rfl d_M_thrown_1 ?_
  exact hret _ _ _ h (vp_nar_int _) d_M_thrown_4
def p_M_type_34 (x1 : Int64) (post : Int32 → Int32 → Int32 → (Nat → Int32) → Prop) : Nat → Int32 → Int32 → Int32 → (Nat → Int32) → Prop
  | 0, _, _, _, _ => False
  | n + 1, l4, v_o_code, v_o_typed, f_o_tape => ((l4 < 0 → (post 1 v_o_code v_o_typed f_o_tape)) ∧ (¬ l4 < 0 → (vp_in v_o_typed 24 ∧ (p_M_type_34 x1 post n (l4 + (-1)) v_o_code (v_o_typed + 1) (upd f_o_tape v_o_typed.toNatClampNeg ((((x1 >>> (((8 * l4) : Int32).toInt64 &&& 63)) &&& 255) : Int64).toInt32))))))
def p_M_type (v_o_typed : Int32) (f_o_tape : (Nat → Int32)) (x1 : Int64) (x2 : Int32) (post : Int32 → Int32 → Int32 → (Nat → Int32) → Prop) : Prop := ((x2 < 1 → (post 0 0 v_o_typed f_o_tape)) ∧ (¬ x2 < 1 → ((8 < x2 → (post 0 0 v_o_typed f_o_tape)) ∧ (¬ 8 < x2 → (((v_o_typed + x2) ≤ 24 → (∃ k, p_M_type_34 x1 post k (x2 - 1) 0 v_o_typed f_o_tape)) ∧ (¬ (v_o_typed + x2) ≤ 24 → (post 0 0 v_o_typed f_o_tape)))))))
set_option maxHeartbeats 4000000 in
set_option maxRecDepth 100000 in
theorem k_M_type (l : Launch) (G : va_G) (K : Nat → ClassId) (a0 : Nat) (ad : Nat → Nat) (sz : Nat) (v_o_code : Int32) (v_o_typed : Int32) (v_o_rules : Int32) (v_o_at : Int32) (v_o_read : Int32) (v_o_depth : Int32) (v_o_wrong : Int32) (v_o_there : Int32) (v_o_ended : Int32) (v_o_mode : Int32) (v_o_kept : Int32) (v_o_came : Int32) (v_o_pending : Int32) (v_o_looked : Int32) (v_o_tokens : Int32) (v_o_oldest : Int32) (f_o_tape : (Nat → Int32)) (x1 : Int64) (x2 : Int32) (post : Int32 → Int32 → Int32 → (Nat → Int32) → Prop) (h : p_M_type v_o_typed f_o_tape x1 x2 post) : MWi l y_M_type (.code y_M_type c_M_type 5 (some .boolean)) { frames := 0, cells := 0, slots := 0, locals := 0 } G K [(a0, .inr (12, oM v_o_code v_o_typed v_o_rules v_o_at v_o_read v_o_depth v_o_wrong v_o_there v_o_ended v_o_mode v_o_kept v_o_came v_o_pending v_o_looked v_o_tokens v_o_oldest ad)), ((ad 1), .inl (K 0, 24, .inl f_o_tape))] [] [.ref a0, .long x1, .int x2] sz (fun r (u : Int32 × Int32 × (Nat → Int32)) => post r u.1 u.2.1 u.2.2) (fun u => [(a0, .inr (12, oM u.1 u.2.1 v_o_rules v_o_at v_o_read v_o_depth v_o_wrong v_o_there v_o_ended v_o_mode v_o_kept v_o_came v_o_pending v_o_looked v_o_tokens v_o_oldest ad)), ((ad 1), .inl (K 0, 24, .inl u.2.2))]) 0 0 := by
  refine g_metWi (cc := c_M_type) (maxL := 5) (ret := some .boolean) (rt := .boolean) (by decide) rfl rfl (Nat.le_of_ble_eq_true rfl) ?_
  intro p e s m below meth c A Q hx hb hml hown hname htg hK hN hP hD hA hS hR rN hret ls hl
  have hl : lv_has ls 5 [(0, .ref a0), (1, .long x1), (3, .int x2)] := hl
  have C_34 : ∀ (n : Nat) (l4 : Int32) (v_o_code : Int32) (v_o_typed : Int32) (f_o_tape : (Nat → Int32)) (H : Heap) (locs : List Loc), va_P G vwCl [(a0, .inr (12, oM v_o_code v_o_typed v_o_rules v_o_at v_o_read v_o_depth v_o_wrong v_o_there v_o_ended v_o_mode v_o_kept v_o_came v_o_pending v_o_looked v_o_tokens v_o_oldest ad)), ((ad 1), .inl (K 0, 24, .inl f_o_tape))] H → va_D A [(a0, .inr (12, oM v_o_code v_o_typed v_o_rules v_o_at v_o_read v_o_depth v_o_wrong v_o_there v_o_ended v_o_mode v_o_kept v_o_came v_o_pending v_o_looked v_o_tokens v_o_oldest ad)), ((ad 1), .inl (K 0, 24, .inl f_o_tape))] → va_S A s.heap H locs → ∀ (ls : Array Slot), lv_has ls 5 [(0, .ref a0), (1, .long x1), (4, .int l4)] → p_M_type_34 x1 post n l4 v_o_code v_o_typed f_o_tape → W p l e { frames := 0, cells := 0, slots := 0, locals := 0 } s m ([.ref a0, .long x1, .int x2] : List Value).toArray below meth c H locs 0 0 Q (F0 m 34 ls []) := by
    intro n
    induction n with
    | zero =>
      intro l4 v_o_code v_o_typed f_o_tape  H locs hP hD hS ls hl h
      exact False.elim h
    | succ n ih =>
      intro l4 v_o_code v_o_typed f_o_tape  H locs hP hD hS ls hl h
      refine lv_iload hx hb d_M_type_34 (lv_at hl 2 rfl) ?_
      refine lv_if_lt (tgt := 76) hx hb d_M_type_36 (by decide) (fun hc => ?_) (fun hc => ?_)
      · replace h := h.1 hc
        refine lv_iconst (v := 1) hx hb d_M_type_76 (by decide) ?_
        exact hret _ (v_o_code, v_o_typed, f_o_tape) _ _ _ _ h (by decide +kernel) (hP.sub [0, 1] rfl) (hD.sub [0, 1] (by decide) rfl) hS d_M_type_77
      · replace h := h.2 hc
        refine lv_aload_n hx hb d_M_type_39 rfl (lv_at hl 0 rfl) ?_
        refine va_get (ci := 12) (v := .ref (ad 1)) hx hb htg in_M hown hK hP 0 rfl rfl 1 (by decide) (htg _ m_611) (fun _ h9 => h9) rfl d_M_type_40 ?_
        refine lv_aload_n hx hb d_M_type_43 rfl (lv_at hl 0 rfl) ?_
        refine va_get (ci := 12) (v := .int v_o_typed) hx hb htg in_M hown hK hP 0 rfl rfl 2 (by decide) (htg _ m_612) (fun _ h9 => h9) rfl d_M_type_44 ?_
        refine lv_lload_n hx hb d_M_type_47 rfl (lv_at hl 1 rfl) ?_
        refine lv_bipush (v := 8) hx hb d_M_type_48 (by decide) ?_
        refine lv_iload hx hb d_M_type_50 (lv_at hl 2 rfl) ?_
        refine lv_imul hx hb d_M_type_52 ?_
        refine lv_lshr hx hb d_M_type_53 rfl ?_
        refine lv_ldc2 (v := 255) hx hb hown (htg _ m_674) d_M_type_54 ?_
        refine lv_land hx hb d_M_type_57 ?_
        refine lv_l2i hx hb d_M_type_58 rfl ?_
        obtain ⟨hin, h⟩ := h
        refine va_iast hx hb hK hP hD hS 1 0 rfl rfl hin d_M_type_59 (fun H locs hP hD hS => ?_)
        have hP : va_P G vwCl [(a0, .inr (12, oM v_o_code v_o_typed v_o_rules v_o_at v_o_read v_o_depth v_o_wrong v_o_there v_o_ended v_o_mode v_o_kept v_o_came v_o_pending v_o_looked v_o_tokens v_o_oldest ad)), ((ad 1), .inl (K 0, 24, .inl (upd f_o_tape v_o_typed.toNatClampNeg ((((x1 >>> (((8 * l4) : Int32).toInt64 &&& 63)) &&& 255) : Int64).toInt32))))] H := hP
        have hD : va_D A [(a0, .inr (12, oM v_o_code v_o_typed v_o_rules v_o_at v_o_read v_o_depth v_o_wrong v_o_there v_o_ended v_o_mode v_o_kept v_o_came v_o_pending v_o_looked v_o_tokens v_o_oldest ad)), ((ad 1), .inl (K 0, 24, .inl (upd f_o_tape v_o_typed.toNatClampNeg ((((x1 >>> (((8 * l4) : Int32).toInt64 &&& 63)) &&& 255) : Int64).toInt32))))] := hD
        refine lv_aload_n hx hb d_M_type_60 rfl (lv_at hl 0 rfl) ?_
        refine lv_dup hx hb d_M_type_61 rfl ?_
        refine va_get (ci := 12) (v := .int v_o_typed) hx hb htg in_M hown hK hP 0 rfl rfl 2 (by decide) (htg _ m_612) (fun _ h9 => h9) rfl d_M_type_62 ?_
        refine lv_iconst (v := 1) hx hb d_M_type_65 (by decide) ?_
        refine lv_iadd hx hb d_M_type_66 ?_
        refine va_put (ci := 12) (v := .int (v_o_typed + 1)) (ty := .int) hx hb htg in_M t_M tok_M nm_M hown hK hP hD hS 0 rfl rfl 2 (by decide) (htg _ m_612) (fun _ h9 => h9) rfl (by decide +kernel) rfl rfl (Nat.le_of_ble_eq_true rfl) d_M_type_67 (fun H locs hP hD hS => ?_)
        have hP : va_P G vwCl [(a0, .inr (12, oM v_o_code (v_o_typed + 1) v_o_rules v_o_at v_o_read v_o_depth v_o_wrong v_o_there v_o_ended v_o_mode v_o_kept v_o_came v_o_pending v_o_looked v_o_tokens v_o_oldest ad)), ((ad 1), .inl (K 0, 24, .inl (upd f_o_tape v_o_typed.toNatClampNeg ((((x1 >>> (((8 * l4) : Int32).toInt64 &&& 63)) &&& 255) : Int64).toInt32))))] H := hP
        have hD : va_D A [(a0, .inr (12, oM v_o_code (v_o_typed + 1) v_o_rules v_o_at v_o_read v_o_depth v_o_wrong v_o_there v_o_ended v_o_mode v_o_kept v_o_came v_o_pending v_o_looked v_o_tokens v_o_oldest ad)), ((ad 1), .inl (K 0, 24, .inl (upd f_o_tape v_o_typed.toNatClampNeg ((((x1 >>> (((8 * l4) : Int32).toInt64 &&& 63)) &&& 255) : Int64).toInt32))))] := hD
        refine lv_iinc (v := (l4 + (-1))) (lv' := [(4, .int (l4 + (-1))), (0, .ref a0), (1, .long x1)]) hx hb d_M_type_70 hl (k := 2) rfl (by first | rfl | decide) (by decide) rfl (fun ls hl => ?_)
        refine lv_goto (tgt := 34) hx hb d_M_type_73 (by decide) ?_
        exact ih (l4 + (-1)) v_o_code (v_o_typed + 1) (upd f_o_tape v_o_typed.toNatClampNeg ((((x1 >>> (((8 * l4) : Int32).toInt64 &&& 63)) &&& 255) : Int64).toInt32))  _ _ (hP.sub [0, 1] rfl) (hD.sub [0, 1] (by decide) rfl) hS _ (lv_sub hl [1, 2, 0] rfl) h
  refine lv_aload_n hx hb d_M_type_0 rfl (lv_at hl 0 rfl) ?_
  refine lv_iconst (v := 0) hx hb d_M_type_1 (by decide) ?_
  refine va_put (ci := 12) (v := .int 0) (ty := .int) hx hb htg in_M t_M tok_M nm_M hown hK hP hD hS 0 rfl rfl 0 (by decide) (htg _ m_610) (fun _ h9 => h9) rfl (by decide +kernel) rfl rfl (Nat.le_of_ble_eq_true rfl) d_M_type_2 (fun H locs hP hD hS => ?_)
  have hP : va_P G vwCl [(a0, .inr (12, oM 0 v_o_typed v_o_rules v_o_at v_o_read v_o_depth v_o_wrong v_o_there v_o_ended v_o_mode v_o_kept v_o_came v_o_pending v_o_looked v_o_tokens v_o_oldest ad)), ((ad 1), .inl (K 0, 24, .inl f_o_tape))] H := hP
  have hD : va_D A [(a0, .inr (12, oM 0 v_o_typed v_o_rules v_o_at v_o_read v_o_depth v_o_wrong v_o_there v_o_ended v_o_mode v_o_kept v_o_came v_o_pending v_o_looked v_o_tokens v_o_oldest ad)), ((ad 1), .inl (K 0, 24, .inl f_o_tape))] := hD
  refine lv_iload_n hx hb d_M_type_5 rfl (lv_at hl 2 rfl) ?_
  refine lv_iconst (v := 1) hx hb d_M_type_6 (by decide) ?_
  refine lv_icmp_lt (tgt := 27) hx hb d_M_type_7 (by decide) (fun hc => ?_) (fun hc => ?_)
  · replace h := h.1 hc
    refine lv_iconst (v := 0) hx hb d_M_type_27 (by decide) ?_
    exact hret _ (0, v_o_typed, f_o_tape) _ _ _ _ h (by decide +kernel) (hP.sub [0, 1] rfl) (hD.sub [0, 1] (by decide) rfl) hS d_M_type_28
  · replace h := h.2 hc
    refine lv_iload_n hx hb d_M_type_10 rfl (lv_at hl 2 rfl) ?_
    refine lv_bipush (v := 8) hx hb d_M_type_11 (by decide) ?_
    refine lv_icmp_gt (tgt := 27) hx hb d_M_type_13 (by decide) (fun hc => ?_) (fun hc => ?_)
    · replace h := h.1 hc
      refine lv_iconst (v := 0) hx hb d_M_type_27 (by decide) ?_
      exact hret _ (0, v_o_typed, f_o_tape) _ _ _ _ h (by decide +kernel) (hP.sub [0, 1] rfl) (hD.sub [0, 1] (by decide) rfl) hS d_M_type_28
    · replace h := h.2 hc
      refine lv_aload_n hx hb d_M_type_16 rfl (lv_at hl 0 rfl) ?_
      refine va_get (ci := 12) (v := .int v_o_typed) hx hb htg in_M hown hK hP 0 rfl rfl 2 (by decide) (htg _ m_612) (fun _ h9 => h9) rfl d_M_type_17 ?_
      refine lv_iload_n hx hb d_M_type_20 rfl (lv_at hl 2 rfl) ?_
      refine lv_iadd hx hb d_M_type_21 ?_
      refine lv_bipush (v := 24) hx hb d_M_type_22 (by decide) ?_
      refine lv_icmp_le (tgt := 29) hx hb d_M_type_24 (by decide) (fun hc => ?_) (fun hc => ?_)
      · replace h := h.1 hc
        refine lv_iload_n hx hb d_M_type_29 rfl (lv_at hl 2 rfl) ?_
        refine lv_iconst (v := 1) hx hb d_M_type_30 (by decide) ?_
        refine lv_isub hx hb d_M_type_31 ?_
        refine lv_istore (lv' := [(4, .int (x2 - 1)), (0, .ref a0), (1, .long x1), (3, .int x2)]) hx hb d_M_type_32 hl (by decide) rfl (fun ls hl => ?_)
        obtain ⟨k, h⟩ := h
        exact C_34 k (x2 - 1) 0 v_o_typed f_o_tape  _ _ (hP.sub [0, 1] rfl) (hD.sub [0, 1] (by decide) rfl) hS _ (lv_sub hl [1, 2, 0] rfl) h
      · replace h := h.2 hc
        refine lv_iconst (v := 0) hx hb d_M_type_27 (by decide) ?_
        exact hret _ (0, v_o_typed, f_o_tape) _ _ _ _ h (by decide +kernel) (hP.sub [0, 1] rfl) (hD.sub [0, 1] (by decide) rfl) hS d_M_type_28
def p_M_here (v_o_typed : Int32) (v_o_at : Int32) (f_o_tape : (Nat → Int32)) (post : Int32 → Prop) : Prop := ((v_o_typed ≤ v_o_at → (post (-1))) ∧ (¬ v_o_typed ≤ v_o_at → (vp_in v_o_at 24 ∧ (post (f_o_tape v_o_at.toNatClampNeg)))))
set_option maxHeartbeats 4000000 in
set_option maxRecDepth 100000 in
theorem k_M_here (l : Launch) (G : va_G) (K : Nat → ClassId) (a0 : Nat) (ad : Nat → Nat) (v_o_code : Int32) (v_o_typed : Int32) (v_o_rules : Int32) (v_o_at : Int32) (v_o_read : Int32) (v_o_depth : Int32) (v_o_wrong : Int32) (v_o_there : Int32) (v_o_ended : Int32) (v_o_mode : Int32) (v_o_kept : Int32) (v_o_came : Int32) (v_o_pending : Int32) (v_o_looked : Int32) (v_o_tokens : Int32) (v_o_oldest : Int32) (f_o_tape : (Nat → Int32)) (post : Int32 → Prop) (h : p_M_here v_o_typed v_o_at f_o_tape post) : MSi l y_M_here (.code y_M_here c_M_here 1 (some .int)) { frames := 0, cells := 0, slots := 0, locals := 0 } G K [(a0, .inr (12, oM v_o_code v_o_typed v_o_rules v_o_at v_o_read v_o_depth v_o_wrong v_o_there v_o_ended v_o_mode v_o_kept v_o_came v_o_pending v_o_looked v_o_tokens v_o_oldest ad)), ((ad 1), .inl (K 0, 24, .inl f_o_tape))] [.ref a0] post := by
  refine g_metSi (cc := c_M_here) (maxL := 1) (ret := some .int) (rt := .int) (by decide) rfl rfl (Nat.le_of_ble_eq_true rfl) ?_
  intro p e s m below meth c Q hx hb hml hown htg hK hN hP hret ls hl
  have hl : lv_has ls 1 [(0, .ref a0)] := hl
  refine lv_aload_n hx hb d_M_here_0 rfl (lv_at hl 0 rfl) ?_
  refine va_get (ci := 12) (v := .int v_o_at) hx hb htg in_M hown hK hP 0 rfl rfl 12 (by decide) (htg _ m_622) (fun _ h9 => h9) rfl d_M_here_1 ?_
  refine lv_aload_n hx hb d_M_here_4 rfl (lv_at hl 0 rfl) ?_
  refine va_get (ci := 12) (v := .int v_o_typed) hx hb htg in_M hown hK hP 0 rfl rfl 2 (by decide) (htg _ m_612) (fun _ h9 => h9) rfl d_M_here_5 ?_
  refine lv_icmp_ge (tgt := 23) hx hb d_M_here_8 (by decide) (fun hc => ?_) (fun hc => ?_)
  · replace h := h.1 hc
    refine lv_iconst (v := (-1)) hx hb d_M_here_23 (by decide) ?_
    exact hret _ _ _ h (vp_nar_int _) d_M_here_24
  · replace h := h.2 hc
    refine lv_aload_n hx hb d_M_here_11 rfl (lv_at hl 0 rfl) ?_
    refine va_get (ci := 12) (v := .ref (ad 1)) hx hb htg in_M hown hK hP 0 rfl rfl 1 (by decide) (htg _ m_611) (fun _ h9 => h9) rfl d_M_here_12 ?_
    refine lv_aload_n hx hb d_M_here_15 rfl (lv_at hl 0 rfl) ?_
    refine va_get (ci := 12) (v := .int v_o_at) hx hb htg in_M hown hK hP 0 rfl rfl 12 (by decide) (htg _ m_622) (fun _ h9 => h9) rfl d_M_here_16 ?_
    obtain ⟨hin, h⟩ := h
    refine va_iald hx hb hK hP 1 0 rfl rfl hin d_M_here_19 ?_
    refine lv_goto (tgt := 24) hx hb d_M_here_20 (by decide) ?_
    exact hret _ _ _ h (vp_nar_int _) d_M_here_24
def p_M_isLetter (x0 : Int32) (post : Int32 → Prop) : Prop := ((x0 < 97 → (post 0)) ∧ (¬ x0 < 97 → ((102 < x0 → (post 0)) ∧ (¬ 102 < x0 → (post 1)))))
set_option maxHeartbeats 4000000 in
set_option maxRecDepth 100000 in
theorem k_M_isLetter (l : Launch) (G : va_G) (K : Nat → ClassId)  (x0 : Int32) (post : Int32 → Prop) (h : p_M_isLetter x0 post) : MSi l y_M_isLetter (.code y_M_isLetter c_M_isLetter 1 (some .boolean)) { frames := 0, cells := 0, slots := 0, locals := 0 } G K [] [.int x0] post := by
  refine g_metSi (cc := c_M_isLetter) (maxL := 1) (ret := some .boolean) (rt := .boolean) (by decide) rfl rfl (Nat.le_of_ble_eq_true rfl) ?_
  intro p e s m below meth c Q hx hb hml hown htg hK hN hP hret ls hl
  have hl : lv_has ls 1 [(0, .int x0)] := hl
  refine lv_iload_n hx hb d_M_isLetter_0 rfl (lv_at hl 0 rfl) ?_
  refine lv_bipush (v := 97) hx hb d_M_isLetter_1 (by decide) ?_
  refine lv_icmp_lt (tgt := 16) hx hb d_M_isLetter_3 (by decide) (fun hc => ?_) (fun hc => ?_)
  · replace h := h.1 hc
    refine lv_iconst (v := 0) hx hb d_M_isLetter_16 (by decide) ?_
    exact hret _ _ _ h (by decide +kernel) d_M_isLetter_17
  · replace h := h.2 hc
    refine lv_iload_n hx hb d_M_isLetter_6 rfl (lv_at hl 0 rfl) ?_
    refine lv_bipush (v := 102) hx hb d_M_isLetter_7 (by decide) ?_
    refine lv_icmp_gt (tgt := 16) hx hb d_M_isLetter_9 (by decide) (fun hc => ?_) (fun hc => ?_)
    · replace h := h.1 hc
      refine lv_iconst (v := 0) hx hb d_M_isLetter_16 (by decide) ?_
      exact hret _ _ _ h (by decide +kernel) d_M_isLetter_17
    · replace h := h.2 hc
      refine lv_iconst (v := 1) hx hb d_M_isLetter_12 (by decide) ?_
      refine lv_goto (tgt := 17) hx hb d_M_isLetter_13 (by decide) ?_
      exact hret _ _ _ h (by decide +kernel) d_M_isLetter_17
def p_M_beginRow (v_o_depth : Int32) (f_o_rowFirst : (Nat → Int32)) (f_o_rowLast : (Nat → Int32)) (f_o_rowEmpty : (Nat → Int32)) (f_o_hasPart : (Nat → Int32)) (post : (Nat → Int32) → (Nat → Int32) → (Nat → Int32) → (Nat → Int32) → Prop) : Prop := (vp_in v_o_depth 6 ∧ (vp_in v_o_depth 6 ∧ (vp_in v_o_depth 6 ∧ (vp_in v_o_depth 6 ∧ (post (upd f_o_rowFirst v_o_depth.toNatClampNeg 0) (upd f_o_rowLast v_o_depth.toNatClampNeg 0) (upd f_o_rowEmpty v_o_depth.toNatClampNeg (vp_nar .boolean 1)) (upd f_o_hasPart v_o_depth.toNatClampNeg (vp_nar .boolean 0)))))))
set_option maxHeartbeats 4000000 in
set_option maxRecDepth 100000 in
theorem k_M_beginRow (l : Launch) (G : va_G) (K : Nat → ClassId) (a0 : Nat) (ad : Nat → Nat) (sz : Nat) (v_o_code : Int32) (v_o_typed : Int32) (v_o_rules : Int32) (v_o_at : Int32) (v_o_read : Int32) (v_o_depth : Int32) (v_o_wrong : Int32) (v_o_there : Int32) (v_o_ended : Int32) (v_o_mode : Int32) (v_o_kept : Int32) (v_o_came : Int32) (v_o_pending : Int32) (v_o_looked : Int32) (v_o_tokens : Int32) (v_o_oldest : Int32) (f_o_rowFirst : (Nat → Int32)) (f_o_rowLast : (Nat → Int32)) (f_o_rowEmpty : (Nat → Int32)) (f_o_hasPart : (Nat → Int32)) (post : (Nat → Int32) → (Nat → Int32) → (Nat → Int32) → (Nat → Int32) → Prop) (h : p_M_beginRow v_o_depth f_o_rowFirst f_o_rowLast f_o_rowEmpty f_o_hasPart post) : MWv l y_M_beginRow (.code y_M_beginRow c_M_beginRow 1 none) { frames := 0, cells := 0, slots := 0, locals := 0 } G K [((ad 20), .inl (K 0, 6, .inl f_o_rowFirst)), ((ad 21), .inl (K 0, 6, .inl f_o_rowLast)), ((ad 25), .inl (K 1, 6, .inl f_o_rowEmpty)), ((ad 27), .inl (K 1, 6, .inl f_o_hasPart))] [(a0, .inr (12, oM v_o_code v_o_typed v_o_rules v_o_at v_o_read v_o_depth v_o_wrong v_o_there v_o_ended v_o_mode v_o_kept v_o_came v_o_pending v_o_looked v_o_tokens v_o_oldest ad))] [.ref a0] sz (fun (u : (Nat → Int32) × (Nat → Int32) × (Nat → Int32) × (Nat → Int32)) => post u.1 u.2.1 u.2.2.1 u.2.2.2) (fun u => [((ad 20), .inl (K 0, 6, .inl u.1)), ((ad 21), .inl (K 0, 6, .inl u.2.1)), ((ad 25), .inl (K 1, 6, .inl u.2.2.1)), ((ad 27), .inl (K 1, 6, .inl u.2.2.2))]) 0 0 := by
  refine g_metWv (cc := c_M_beginRow) (maxL := 1) (ret := none) (by decide) rfl rfl (Nat.le_of_ble_eq_true rfl) ?_
  intro p e s m below meth c A Q hx hb hml hown hname htg hK hN hP hD hA hS hR rN hret ls hl
  have hl : lv_has ls 1 [(0, .ref a0)] := hl
  refine lv_aload_n hx hb d_M_beginRow_0 rfl (lv_at hl 0 rfl) ?_
  refine va_get (ci := 12) (v := .ref (ad 20)) hx hb htg in_M hown hK (gR hR rN hS) 0 rfl rfl 20 (by decide) (htg _ m_630) (fun _ h9 => h9) rfl d_M_beginRow_1 ?_
  refine lv_aload_n hx hb d_M_beginRow_4 rfl (lv_at hl 0 rfl) ?_
  refine va_get (ci := 12) (v := .int v_o_depth) hx hb htg in_M hown hK (gR hR rN hS) 0 rfl rfl 14 (by decide) (htg _ m_624) (fun _ h9 => h9) rfl d_M_beginRow_5 ?_
  refine lv_iconst (v := 0) hx hb d_M_beginRow_8 (by decide) ?_
  obtain ⟨hin, h⟩ := h
  refine va_iast hx hb hK hP hD hS 0 0 rfl rfl hin d_M_beginRow_9 (fun H locs hP hD hS => ?_)
  have hP : va_P G vwCl [((ad 20), .inl (K 0, 6, .inl (upd f_o_rowFirst v_o_depth.toNatClampNeg 0))), ((ad 21), .inl (K 0, 6, .inl f_o_rowLast)), ((ad 25), .inl (K 1, 6, .inl f_o_rowEmpty)), ((ad 27), .inl (K 1, 6, .inl f_o_hasPart))] H := hP
  have hD : va_D A [((ad 20), .inl (K 0, 6, .inl (upd f_o_rowFirst v_o_depth.toNatClampNeg 0))), ((ad 21), .inl (K 0, 6, .inl f_o_rowLast)), ((ad 25), .inl (K 1, 6, .inl f_o_rowEmpty)), ((ad 27), .inl (K 1, 6, .inl f_o_hasPart))] := hD
  refine lv_aload_n hx hb d_M_beginRow_10 rfl (lv_at hl 0 rfl) ?_
  refine va_get (ci := 12) (v := .ref (ad 21)) hx hb htg in_M hown hK (gR hR rN hS) 0 rfl rfl 21 (by decide) (htg _ m_631) (fun _ h9 => h9) rfl d_M_beginRow_11 ?_
  refine lv_aload_n hx hb d_M_beginRow_14 rfl (lv_at hl 0 rfl) ?_
  refine va_get (ci := 12) (v := .int v_o_depth) hx hb htg in_M hown hK (gR hR rN hS) 0 rfl rfl 14 (by decide) (htg _ m_624) (fun _ h9 => h9) rfl d_M_beginRow_15 ?_
  refine lv_iconst (v := 0) hx hb d_M_beginRow_18 (by decide) ?_
  obtain ⟨hin, h⟩ := h
  refine va_iast hx hb hK hP hD hS 1 0 rfl rfl hin d_M_beginRow_19 (fun H locs hP hD hS => ?_)
  have hP : va_P G vwCl [((ad 20), .inl (K 0, 6, .inl (upd f_o_rowFirst v_o_depth.toNatClampNeg 0))), ((ad 21), .inl (K 0, 6, .inl (upd f_o_rowLast v_o_depth.toNatClampNeg 0))), ((ad 25), .inl (K 1, 6, .inl f_o_rowEmpty)), ((ad 27), .inl (K 1, 6, .inl f_o_hasPart))] H := hP
  have hD : va_D A [((ad 20), .inl (K 0, 6, .inl (upd f_o_rowFirst v_o_depth.toNatClampNeg 0))), ((ad 21), .inl (K 0, 6, .inl (upd f_o_rowLast v_o_depth.toNatClampNeg 0))), ((ad 25), .inl (K 1, 6, .inl f_o_rowEmpty)), ((ad 27), .inl (K 1, 6, .inl f_o_hasPart))] := hD
  refine lv_aload_n hx hb d_M_beginRow_20 rfl (lv_at hl 0 rfl) ?_
  refine va_get (ci := 12) (v := .ref (ad 25)) hx hb htg in_M hown hK (gR hR rN hS) 0 rfl rfl 25 (by decide) (htg _ m_635) (fun _ h9 => h9) rfl d_M_beginRow_21 ?_
  refine lv_aload_n hx hb d_M_beginRow_24 rfl (lv_at hl 0 rfl) ?_
  refine va_get (ci := 12) (v := .int v_o_depth) hx hb htg in_M hown hK (gR hR rN hS) 0 rfl rfl 14 (by decide) (htg _ m_624) (fun _ h9 => h9) rfl d_M_beginRow_25 ?_
  refine lv_iconst (v := 1) hx hb d_M_beginRow_28 (by decide) ?_
  obtain ⟨hin, h⟩ := h
  refine va_zast hx hb hK hP hD hS 2 1 rfl rfl hin d_M_beginRow_29 (fun H locs hP hD hS => ?_)
  have hP : va_P G vwCl [((ad 20), .inl (K 0, 6, .inl (upd f_o_rowFirst v_o_depth.toNatClampNeg 0))), ((ad 21), .inl (K 0, 6, .inl (upd f_o_rowLast v_o_depth.toNatClampNeg 0))), ((ad 25), .inl (K 1, 6, .inl (upd f_o_rowEmpty v_o_depth.toNatClampNeg (vp_nar .boolean 1)))), ((ad 27), .inl (K 1, 6, .inl f_o_hasPart))] H := hP
  have hD : va_D A [((ad 20), .inl (K 0, 6, .inl (upd f_o_rowFirst v_o_depth.toNatClampNeg 0))), ((ad 21), .inl (K 0, 6, .inl (upd f_o_rowLast v_o_depth.toNatClampNeg 0))), ((ad 25), .inl (K 1, 6, .inl (upd f_o_rowEmpty v_o_depth.toNatClampNeg (vp_nar .boolean 1)))), ((ad 27), .inl (K 1, 6, .inl f_o_hasPart))] := hD
  refine lv_aload_n hx hb d_M_beginRow_30 rfl (lv_at hl 0 rfl) ?_
  refine va_get (ci := 12) (v := .ref (ad 27)) hx hb htg in_M hown hK (gR hR rN hS) 0 rfl rfl 27 (by decide) (htg _ m_637) (fun _ h9 => h9) rfl d_M_beginRow_31 ?_
  refine lv_aload_n hx hb d_M_beginRow_34 rfl (lv_at hl 0 rfl) ?_
  refine va_get (ci := 12) (v := .int v_o_depth) hx hb htg in_M hown hK (gR hR rN hS) 0 rfl rfl 14 (by decide) (htg _ m_624) (fun _ h9 => h9) rfl d_M_beginRow_35 ?_
  refine lv_iconst (v := 0) hx hb d_M_beginRow_38 (by decide) ?_
  obtain ⟨hin, h⟩ := h
  refine va_zast hx hb hK hP hD hS 3 1 rfl rfl hin d_M_beginRow_39 (fun H locs hP hD hS => ?_)
  have hP : va_P G vwCl [((ad 20), .inl (K 0, 6, .inl (upd f_o_rowFirst v_o_depth.toNatClampNeg 0))), ((ad 21), .inl (K 0, 6, .inl (upd f_o_rowLast v_o_depth.toNatClampNeg 0))), ((ad 25), .inl (K 1, 6, .inl (upd f_o_rowEmpty v_o_depth.toNatClampNeg (vp_nar .boolean 1)))), ((ad 27), .inl (K 1, 6, .inl (upd f_o_hasPart v_o_depth.toNatClampNeg (vp_nar .boolean 0))))] H := hP
  have hD : va_D A [((ad 20), .inl (K 0, 6, .inl (upd f_o_rowFirst v_o_depth.toNatClampNeg 0))), ((ad 21), .inl (K 0, 6, .inl (upd f_o_rowLast v_o_depth.toNatClampNeg 0))), ((ad 25), .inl (K 1, 6, .inl (upd f_o_rowEmpty v_o_depth.toNatClampNeg (vp_nar .boolean 1)))), ((ad 27), .inl (K 1, 6, .inl (upd f_o_hasPart v_o_depth.toNatClampNeg (vp_nar .boolean 0))))] := hD
  exact hret ((upd f_o_rowFirst v_o_depth.toNatClampNeg 0), (upd f_o_rowLast v_o_depth.toNatClampNeg 0), (upd f_o_rowEmpty v_o_depth.toNatClampNeg (vp_nar .boolean 1)), (upd f_o_hasPart v_o_depth.toNatClampNeg (vp_nar .boolean 0))) _ _ _ _ h (hP.sub [0, 1, 2, 3] rfl) (hD.sub [0, 1, 2, 3] (by decide) rfl) hS d_M_beginRow_40
def p_M_open (v_o_depth : Int32) (f_o_choiceFirst : (Nat → Int32)) (f_o_choiceLast : (Nat → Int32)) (f_o_choiceEmpty : (Nat → Int32)) (f_o_rowFirst : (Nat → Int32)) (f_o_rowLast : (Nat → Int32)) (f_o_rowEmpty : (Nat → Int32)) (f_o_hasPart : (Nat → Int32)) (post : (Nat → Int32) → (Nat → Int32) → (Nat → Int32) → (Nat → Int32) → (Nat → Int32) → (Nat → Int32) → (Nat → Int32) → Prop) : Prop := (vp_in v_o_depth 6 ∧ (vp_in v_o_depth 6 ∧ (vp_in v_o_depth 6 ∧ (p_M_beginRow v_o_depth f_o_rowFirst f_o_rowLast f_o_rowEmpty f_o_hasPart (fun u1 u2 u3 u4 => (post (upd f_o_choiceFirst v_o_depth.toNatClampNeg 0) (upd f_o_choiceLast v_o_depth.toNatClampNeg 0) (upd f_o_choiceEmpty v_o_depth.toNatClampNeg (vp_nar .boolean 0)) u1 u2 u3 u4))))))
set_option maxHeartbeats 4000000 in
set_option maxRecDepth 100000 in
theorem k_M_open (l : Launch) (G : va_G) (K : Nat → ClassId) (a0 : Nat) (ad : Nat → Nat) (sz : Nat) (v_o_code : Int32) (v_o_typed : Int32) (v_o_rules : Int32) (v_o_at : Int32) (v_o_read : Int32) (v_o_depth : Int32) (v_o_wrong : Int32) (v_o_there : Int32) (v_o_ended : Int32) (v_o_mode : Int32) (v_o_kept : Int32) (v_o_came : Int32) (v_o_pending : Int32) (v_o_looked : Int32) (v_o_tokens : Int32) (v_o_oldest : Int32) (f_o_choiceFirst : (Nat → Int32)) (f_o_choiceLast : (Nat → Int32)) (f_o_choiceEmpty : (Nat → Int32)) (f_o_rowFirst : (Nat → Int32)) (f_o_rowLast : (Nat → Int32)) (f_o_rowEmpty : (Nat → Int32)) (f_o_hasPart : (Nat → Int32)) (post : (Nat → Int32) → (Nat → Int32) → (Nat → Int32) → (Nat → Int32) → (Nat → Int32) → (Nat → Int32) → (Nat → Int32) → Prop) (h : p_M_open v_o_depth f_o_choiceFirst f_o_choiceLast f_o_choiceEmpty f_o_rowFirst f_o_rowLast f_o_rowEmpty f_o_hasPart post) : MWv l y_M_open (.code y_M_open c_M_open 1 none) { frames := 1, cells := 0, slots := 0, locals := 20 } G K [((ad 18), .inl (K 0, 6, .inl f_o_choiceFirst)), ((ad 19), .inl (K 0, 6, .inl f_o_choiceLast)), ((ad 24), .inl (K 1, 6, .inl f_o_choiceEmpty)), ((ad 20), .inl (K 0, 6, .inl f_o_rowFirst)), ((ad 21), .inl (K 0, 6, .inl f_o_rowLast)), ((ad 25), .inl (K 1, 6, .inl f_o_rowEmpty)), ((ad 27), .inl (K 1, 6, .inl f_o_hasPart))] [(a0, .inr (12, oM v_o_code v_o_typed v_o_rules v_o_at v_o_read v_o_depth v_o_wrong v_o_there v_o_ended v_o_mode v_o_kept v_o_came v_o_pending v_o_looked v_o_tokens v_o_oldest ad))] [.ref a0] sz (fun (u : (Nat → Int32) × (Nat → Int32) × (Nat → Int32) × (Nat → Int32) × (Nat → Int32) × (Nat → Int32) × (Nat → Int32)) => post u.1 u.2.1 u.2.2.1 u.2.2.2.1 u.2.2.2.2.1 u.2.2.2.2.2.1 u.2.2.2.2.2.2) (fun u => [((ad 18), .inl (K 0, 6, .inl u.1)), ((ad 19), .inl (K 0, 6, .inl u.2.1)), ((ad 24), .inl (K 1, 6, .inl u.2.2.1)), ((ad 20), .inl (K 0, 6, .inl u.2.2.2.1)), ((ad 21), .inl (K 0, 6, .inl u.2.2.2.2.1)), ((ad 25), .inl (K 1, 6, .inl u.2.2.2.2.2.1)), ((ad 27), .inl (K 1, 6, .inl u.2.2.2.2.2.2))]) 0 0 := by
  refine g_metWv (cc := c_M_open) (maxL := 1) (ret := none) (by decide) rfl rfl (Nat.le_of_ble_eq_true rfl) ?_
  intro p e s m below meth c A Q hx hb hml hown hname htg hK hN hP hD hA hS hR rN hret ls hl
  have hl : lv_has ls 1 [(0, .ref a0)] := hl
  refine lv_aload_n hx hb d_M_open_0 rfl (lv_at hl 0 rfl) ?_
  refine va_get (ci := 12) (v := .ref (ad 18)) hx hb htg in_M hown hK (gR hR rN hS) 0 rfl rfl 18 (by decide) (htg _ m_628) (fun _ h9 => h9) rfl d_M_open_1 ?_
  refine lv_aload_n hx hb d_M_open_4 rfl (lv_at hl 0 rfl) ?_
  refine va_get (ci := 12) (v := .int v_o_depth) hx hb htg in_M hown hK (gR hR rN hS) 0 rfl rfl 14 (by decide) (htg _ m_624) (fun _ h9 => h9) rfl d_M_open_5 ?_
  refine lv_iconst (v := 0) hx hb d_M_open_8 (by decide) ?_
  obtain ⟨hin, h⟩ := h
  refine va_iast hx hb hK hP hD hS 0 0 rfl rfl hin d_M_open_9 (fun H locs hP hD hS => ?_)
  have hP : va_P G vwCl [((ad 18), .inl (K 0, 6, .inl (upd f_o_choiceFirst v_o_depth.toNatClampNeg 0))), ((ad 19), .inl (K 0, 6, .inl f_o_choiceLast)), ((ad 24), .inl (K 1, 6, .inl f_o_choiceEmpty)), ((ad 20), .inl (K 0, 6, .inl f_o_rowFirst)), ((ad 21), .inl (K 0, 6, .inl f_o_rowLast)), ((ad 25), .inl (K 1, 6, .inl f_o_rowEmpty)), ((ad 27), .inl (K 1, 6, .inl f_o_hasPart))] H := hP
  have hD : va_D A [((ad 18), .inl (K 0, 6, .inl (upd f_o_choiceFirst v_o_depth.toNatClampNeg 0))), ((ad 19), .inl (K 0, 6, .inl f_o_choiceLast)), ((ad 24), .inl (K 1, 6, .inl f_o_choiceEmpty)), ((ad 20), .inl (K 0, 6, .inl f_o_rowFirst)), ((ad 21), .inl (K 0, 6, .inl f_o_rowLast)), ((ad 25), .inl (K 1, 6, .inl f_o_rowEmpty)), ((ad 27), .inl (K 1, 6, .inl f_o_hasPart))] := hD
  refine lv_aload_n hx hb d_M_open_10 rfl (lv_at hl 0 rfl) ?_
  refine va_get (ci := 12) (v := .ref (ad 19)) hx hb htg in_M hown hK (gR hR rN hS) 0 rfl rfl 19 (by decide) (htg _ m_629) (fun _ h9 => h9) rfl d_M_open_11 ?_
  refine lv_aload_n hx hb d_M_open_14 rfl (lv_at hl 0 rfl) ?_
  refine va_get (ci := 12) (v := .int v_o_depth) hx hb htg in_M hown hK (gR hR rN hS) 0 rfl rfl 14 (by decide) (htg _ m_624) (fun _ h9 => h9) rfl d_M_open_15 ?_
  refine lv_iconst (v := 0) hx hb d_M_open_18 (by decide) ?_
  obtain ⟨hin, h⟩ := h
  refine va_iast hx hb hK hP hD hS 1 0 rfl rfl hin d_M_open_19 (fun H locs hP hD hS => ?_)
  have hP : va_P G vwCl [((ad 18), .inl (K 0, 6, .inl (upd f_o_choiceFirst v_o_depth.toNatClampNeg 0))), ((ad 19), .inl (K 0, 6, .inl (upd f_o_choiceLast v_o_depth.toNatClampNeg 0))), ((ad 24), .inl (K 1, 6, .inl f_o_choiceEmpty)), ((ad 20), .inl (K 0, 6, .inl f_o_rowFirst)), ((ad 21), .inl (K 0, 6, .inl f_o_rowLast)), ((ad 25), .inl (K 1, 6, .inl f_o_rowEmpty)), ((ad 27), .inl (K 1, 6, .inl f_o_hasPart))] H := hP
  have hD : va_D A [((ad 18), .inl (K 0, 6, .inl (upd f_o_choiceFirst v_o_depth.toNatClampNeg 0))), ((ad 19), .inl (K 0, 6, .inl (upd f_o_choiceLast v_o_depth.toNatClampNeg 0))), ((ad 24), .inl (K 1, 6, .inl f_o_choiceEmpty)), ((ad 20), .inl (K 0, 6, .inl f_o_rowFirst)), ((ad 21), .inl (K 0, 6, .inl f_o_rowLast)), ((ad 25), .inl (K 1, 6, .inl f_o_rowEmpty)), ((ad 27), .inl (K 1, 6, .inl f_o_hasPart))] := hD
  refine lv_aload_n hx hb d_M_open_20 rfl (lv_at hl 0 rfl) ?_
  refine va_get (ci := 12) (v := .ref (ad 24)) hx hb htg in_M hown hK (gR hR rN hS) 0 rfl rfl 24 (by decide) (htg _ m_634) (fun _ h9 => h9) rfl d_M_open_21 ?_
  refine lv_aload_n hx hb d_M_open_24 rfl (lv_at hl 0 rfl) ?_
  refine va_get (ci := 12) (v := .int v_o_depth) hx hb htg in_M hown hK (gR hR rN hS) 0 rfl rfl 14 (by decide) (htg _ m_624) (fun _ h9 => h9) rfl d_M_open_25 ?_
  refine lv_iconst (v := 0) hx hb d_M_open_28 (by decide) ?_
  obtain ⟨hin, h⟩ := h
  refine va_zast hx hb hK hP hD hS 2 1 rfl rfl hin d_M_open_29 (fun H locs hP hD hS => ?_)
  have hP : va_P G vwCl [((ad 18), .inl (K 0, 6, .inl (upd f_o_choiceFirst v_o_depth.toNatClampNeg 0))), ((ad 19), .inl (K 0, 6, .inl (upd f_o_choiceLast v_o_depth.toNatClampNeg 0))), ((ad 24), .inl (K 1, 6, .inl (upd f_o_choiceEmpty v_o_depth.toNatClampNeg (vp_nar .boolean 0)))), ((ad 20), .inl (K 0, 6, .inl f_o_rowFirst)), ((ad 21), .inl (K 0, 6, .inl f_o_rowLast)), ((ad 25), .inl (K 1, 6, .inl f_o_rowEmpty)), ((ad 27), .inl (K 1, 6, .inl f_o_hasPart))] H := hP
  have hD : va_D A [((ad 18), .inl (K 0, 6, .inl (upd f_o_choiceFirst v_o_depth.toNatClampNeg 0))), ((ad 19), .inl (K 0, 6, .inl (upd f_o_choiceLast v_o_depth.toNatClampNeg 0))), ((ad 24), .inl (K 1, 6, .inl (upd f_o_choiceEmpty v_o_depth.toNatClampNeg (vp_nar .boolean 0)))), ((ad 20), .inl (K 0, 6, .inl f_o_rowFirst)), ((ad 21), .inl (K 0, 6, .inl f_o_rowLast)), ((ad 25), .inl (K 1, 6, .inl f_o_rowEmpty)), ((ad 27), .inl (K 1, 6, .inl f_o_hasPart))] := hD
  refine lv_aload_n hx hb d_M_open_30 rfl (lv_at hl 0 rfl) ?_
  have hPc : va_P G vwCl [((ad 20), .inl (K 0, 6, .inl f_o_rowFirst)), ((ad 21), .inl (K 0, 6, .inl f_o_rowLast)), ((ad 25), .inl (K 1, 6, .inl f_o_rowEmpty)), ((ad 27), .inl (K 1, 6, .inl f_o_hasPart))] _ := hP.sub [3, 4, 5, 6] rfl
  have hDc : va_D A [((ad 20), .inl (K 0, 6, .inl f_o_rowFirst)), ((ad 21), .inl (K 0, 6, .inl f_o_rowLast)), ((ad 25), .inl (K 1, 6, .inl f_o_rowEmpty)), ((ad 27), .inl (K 1, 6, .inl f_o_hasPart))] := hD.sub [3, 4, 5, 6] (by decide) rfl
  have hRc : va_P G vwCl [(a0, .inr (12, oM v_o_code v_o_typed v_o_rules v_o_at v_o_read v_o_depth v_o_wrong v_o_there v_o_ended v_o_mode v_o_kept v_o_came v_o_pending v_o_looked v_o_tokens v_o_oldest ad))] _ := (gR hR rN hS).sub [0] rfl
  have hJc : gJ [((ad 20), .inl (K 0, 6, .inl f_o_rowFirst)), ((ad 21), .inl (K 0, 6, .inl f_o_rowLast)), ((ad 25), .inl (K 1, 6, .inl f_o_rowEmpty)), ((ad 27), .inl (K 1, 6, .inl f_o_hasPart))] [(a0, .inr (12, oM v_o_code v_o_typed v_o_rules v_o_at v_o_read v_o_depth v_o_wrong v_o_there v_o_ended v_o_mode v_o_kept v_o_came v_o_pending v_o_looked v_o_tokens v_o_oldest ad))] := gJ_A hDc (gN_sub rN [0] rfl)
  refine g_callv (wr := [((ad 18), .inl (K 0, 6, .inl (upd f_o_choiceFirst v_o_depth.toNatClampNeg 0))), ((ad 19), .inl (K 0, 6, .inl (upd f_o_choiceLast v_o_depth.toNatClampNeg 0))), ((ad 24), .inl (K 1, 6, .inl (upd f_o_choiceEmpty v_o_depth.toNatClampNeg (vp_nar .boolean 0))))]) (va_runV (As := []) (rest := []) ⟨hx, hb, hml, hown, htg⟩ (k_M_beginRow l G K a0 ad _ v_o_code v_o_typed v_o_rules v_o_at v_o_read v_o_depth v_o_wrong v_o_there v_o_ended v_o_mode v_o_kept v_o_came v_o_pending v_o_looked v_o_tokens v_o_oldest f_o_rowFirst f_o_rowLast f_o_rowEmpty f_o_hasPart _ h) (cwV 0 htg (gGoodV m_685 m_686 m_877 m_13 m_687) rfl rfl rfl (by decide +kernel) ⟨(Nat.le_of_ble_eq_true rfl), (Nat.le_of_ble_eq_true rfl)⟩) (gW_preV (ci := 12) (q0 := 0) hK hN hPc hDc hRc hJc hRc rfl rfl) rfl rfl hl.1 rfl (lv_room (Nat.le_of_ble_eq_true rfl)) d_M_open_31 ⟨(Nat.le_of_ble_eq_true rfl), (Nat.le_of_ble_eq_true rfl)⟩) hP hD hS hA [3, 4, 5, 6] [0, 1, 2] rfl rfl (by decide) (by decide) (fun u H locs h hP hD hS => ?_)
  obtain ⟨u1, u2, u3, u4⟩ := u
  try dsimp only at h
  have hP : va_P G vwCl [((ad 18), .inl (K 0, 6, .inl (upd f_o_choiceFirst v_o_depth.toNatClampNeg 0))), ((ad 19), .inl (K 0, 6, .inl (upd f_o_choiceLast v_o_depth.toNatClampNeg 0))), ((ad 24), .inl (K 1, 6, .inl (upd f_o_choiceEmpty v_o_depth.toNatClampNeg (vp_nar .boolean 0)))), ((ad 20), .inl (K 0, 6, .inl u1)), ((ad 21), .inl (K 0, 6, .inl u2)), ((ad 25), .inl (K 1, 6, .inl u3)), ((ad 27), .inl (K 1, 6, .inl u4))] H := hP
  have hD : va_D A [((ad 18), .inl (K 0, 6, .inl (upd f_o_choiceFirst v_o_depth.toNatClampNeg 0))), ((ad 19), .inl (K 0, 6, .inl (upd f_o_choiceLast v_o_depth.toNatClampNeg 0))), ((ad 24), .inl (K 1, 6, .inl (upd f_o_choiceEmpty v_o_depth.toNatClampNeg (vp_nar .boolean 0)))), ((ad 20), .inl (K 0, 6, .inl u1)), ((ad 21), .inl (K 0, 6, .inl u2)), ((ad 25), .inl (K 1, 6, .inl u3)), ((ad 27), .inl (K 1, 6, .inl u4))] := hD
  exact hret ((upd f_o_choiceFirst v_o_depth.toNatClampNeg 0), (upd f_o_choiceLast v_o_depth.toNatClampNeg 0), (upd f_o_choiceEmpty v_o_depth.toNatClampNeg (vp_nar .boolean 0)), u1, u2, u3, u4) _ _ _ _ h (hP.sub [0, 1, 2, 3, 4, 5, 6] rfl) (hD.sub [0, 1, 2, 3, 4, 5, 6] (by decide) rfl) hS d_M_open_34
def p_M_join_2 (v_o_read : Int32) (x1 : Int32) (x2 : Int32) (post : (Nat → Int32) → Prop) : Nat → Int32 → (Nat → Int32) → Prop
  | 0, _, _ => False
  | n + 1, l3, f_o_readBehind => ((v_o_read ≤ l3 → (post f_o_readBehind)) ∧ (¬ v_o_read ≤ l3 → ((¬ ((x1 >>> (l3 &&& 31)) &&& (1 : Int32)) = 1 → (p_M_join_2 v_o_read x1 x2 post n (l3 + 1) f_o_readBehind)) ∧ (((x1 >>> (l3 &&& 31)) &&& (1 : Int32)) = 1 → (vp_in l3 24 ∧ (vp_in l3 24 ∧ (p_M_join_2 v_o_read x1 x2 post n (l3 + 1) (upd f_o_readBehind l3.toNatClampNeg ((f_o_readBehind l3.toNatClampNeg) ||| x2)))))))))
def p_M_join (v_o_read : Int32) (f_o_readBehind : (Nat → Int32)) (x1 : Int32) (x2 : Int32) (post : (Nat → Int32) → Prop) : Prop := (∃ k, p_M_join_2 v_o_read x1 x2 post k 0 f_o_readBehind)
set_option maxHeartbeats 4000000 in
set_option maxRecDepth 100000 in
theorem k_M_join (l : Launch) (G : va_G) (K : Nat → ClassId) (a0 : Nat) (ad : Nat → Nat) (sz : Nat) (v_o_code : Int32) (v_o_typed : Int32) (v_o_rules : Int32) (v_o_at : Int32) (v_o_read : Int32) (v_o_depth : Int32) (v_o_wrong : Int32) (v_o_there : Int32) (v_o_ended : Int32) (v_o_mode : Int32) (v_o_kept : Int32) (v_o_came : Int32) (v_o_pending : Int32) (v_o_looked : Int32) (v_o_tokens : Int32) (v_o_oldest : Int32) (f_o_readBehind : (Nat → Int32)) (x1 : Int32) (x2 : Int32) (post : (Nat → Int32) → Prop) (h : p_M_join v_o_read f_o_readBehind x1 x2 post) : MWv l y_M_join (.code y_M_join c_M_join 4 none) { frames := 0, cells := 0, slots := 0, locals := 0 } G K [((ad 17), .inl (K 0, 24, .inl f_o_readBehind))] [(a0, .inr (12, oM v_o_code v_o_typed v_o_rules v_o_at v_o_read v_o_depth v_o_wrong v_o_there v_o_ended v_o_mode v_o_kept v_o_came v_o_pending v_o_looked v_o_tokens v_o_oldest ad))] [.ref a0, .int x1, .int x2] sz (fun (u : (Nat → Int32)) => post u) (fun u => [((ad 17), .inl (K 0, 24, .inl u))]) 0 0 := by
  refine g_metWv (cc := c_M_join) (maxL := 4) (ret := none) (by decide) rfl rfl (Nat.le_of_ble_eq_true rfl) ?_
  intro p e s m below meth c A Q hx hb hml hown hname htg hK hN hP hD hA hS hR rN hret ls hl
  have hl : lv_has ls 4 [(0, .ref a0), (1, .int x1), (2, .int x2)] := hl
  have C_2 : ∀ (n : Nat) (l3 : Int32) (f_o_readBehind : (Nat → Int32)) (H : Heap) (locs : List Loc), va_P G vwCl [((ad 17), .inl (K 0, 24, .inl f_o_readBehind))] H → va_D A [((ad 17), .inl (K 0, 24, .inl f_o_readBehind))] → va_S A s.heap H locs → ∀ (ls : Array Slot), lv_has ls 4 [(0, .ref a0), (1, .int x1), (2, .int x2), (3, .int l3)] → p_M_join_2 v_o_read x1 x2 post n l3 f_o_readBehind → W p l e { frames := 0, cells := 0, slots := 0, locals := 0 } s m ([.ref a0, .int x1, .int x2] : List Value).toArray below meth c H locs 0 0 Q (F0 m 2 ls []) := by
    intro n
    induction n with
    | zero =>
      intro l3 f_o_readBehind  H locs hP hD hS ls hl h
      exact False.elim h
    | succ n ih =>
      intro l3 f_o_readBehind  H locs hP hD hS ls hl h
      refine lv_iload_n hx hb d_M_join_2 rfl (lv_at hl 3 rfl) ?_
      refine lv_aload_n hx hb d_M_join_3 rfl (lv_at hl 0 rfl) ?_
      refine va_get (ci := 12) (v := .int v_o_read) hx hb htg in_M hown hK (gR hR rN hS) 0 rfl rfl 13 (by decide) (htg _ m_623) (fun _ h9 => h9) rfl d_M_join_4 ?_
      refine lv_icmp_ge (tgt := 35) hx hb d_M_join_7 (by decide) (fun hc => ?_) (fun hc => ?_)
      · replace h := h.1 hc
        exact hret f_o_readBehind _ _ _ _ h (hP.sub [0] rfl) (hD.sub [0] (by decide) rfl) hS d_M_join_35
      · replace h := h.2 hc
        refine lv_iload_n hx hb d_M_join_10 rfl (lv_at hl 1 rfl) ?_
        refine lv_iload_n hx hb d_M_join_11 rfl (lv_at hl 3 rfl) ?_
        refine lv_ishr hx hb d_M_join_12 ?_
        refine lv_iconst (v := 1) hx hb d_M_join_13 (by decide) ?_
        refine lv_iand hx hb d_M_join_14 ?_
        refine lv_iconst (v := 1) hx hb d_M_join_15 (by decide) ?_
        refine lv_icmp_ne (tgt := 29) hx hb d_M_join_16 (by decide) (fun hc => ?_) (fun hc => ?_)
        · replace h := h.1 hc
          refine lv_iinc (v := (l3 + 1)) (lv' := [(3, .int (l3 + 1)), (0, .ref a0), (1, .int x1), (2, .int x2)]) hx hb d_M_join_29 hl (k := 3) rfl (by first | rfl | decide) (by decide) rfl (fun ls hl => ?_)
          refine lv_goto (tgt := 2) hx hb d_M_join_32 (by decide) ?_
          exact ih (l3 + 1) f_o_readBehind  _ _ (hP.sub [0] rfl) (hD.sub [0] (by decide) rfl) hS _ (lv_sub hl [1, 2, 3, 0] rfl) h
        · replace h := h.2 hc
          refine lv_aload_n hx hb d_M_join_19 rfl (lv_at hl 0 rfl) ?_
          refine va_get (ci := 12) (v := .ref (ad 17)) hx hb htg in_M hown hK (gR hR rN hS) 0 rfl rfl 17 (by decide) (htg _ m_627) (fun _ h9 => h9) rfl d_M_join_20 ?_
          refine lv_iload_n hx hb d_M_join_23 rfl (lv_at hl 3 rfl) ?_
          refine lv_dup2_11 hx hb d_M_join_24 rfl rfl ?_
          obtain ⟨hin, h⟩ := h
          refine va_iald hx hb hK hP 0 0 rfl rfl hin d_M_join_25 ?_
          refine lv_iload_n hx hb d_M_join_26 rfl (lv_at hl 2 rfl) ?_
          refine lv_ior hx hb d_M_join_27 ?_
          obtain ⟨hin, h⟩ := h
          refine va_iast hx hb hK hP hD hS 0 0 rfl rfl hin d_M_join_28 (fun H locs hP hD hS => ?_)
          have hP : va_P G vwCl [((ad 17), .inl (K 0, 24, .inl (upd f_o_readBehind l3.toNatClampNeg ((f_o_readBehind l3.toNatClampNeg) ||| x2))))] H := hP
          have hD : va_D A [((ad 17), .inl (K 0, 24, .inl (upd f_o_readBehind l3.toNatClampNeg ((f_o_readBehind l3.toNatClampNeg) ||| x2))))] := hD
          refine lv_iinc (v := (l3 + 1)) (lv' := [(3, .int (l3 + 1)), (0, .ref a0), (1, .int x1), (2, .int x2)]) hx hb d_M_join_29 hl (k := 3) rfl (by first | rfl | decide) (by decide) rfl (fun ls hl => ?_)
          refine lv_goto (tgt := 2) hx hb d_M_join_32 (by decide) ?_
          exact ih (l3 + 1) (upd f_o_readBehind l3.toNatClampNeg ((f_o_readBehind l3.toNatClampNeg) ||| x2))  _ _ (hP.sub [0] rfl) (hD.sub [0] (by decide) rfl) hS _ (lv_sub hl [1, 2, 3, 0] rfl) h
  refine lv_iconst (v := 0) hx hb d_M_join_0 (by decide) ?_
  refine lv_istore_n (lv' := [(3, .int 0), (0, .ref a0), (1, .int x1), (2, .int x2)]) hx hb d_M_join_1 rfl hl (by decide) rfl (fun ls hl => ?_)
  obtain ⟨k, h⟩ := h
  exact C_2 k 0 f_o_readBehind  _ _ (hP.sub [0] rfl) (hD.sub [0] (by decide) rfl) hS _ (lv_sub hl [1, 2, 3, 0] rfl) h
def p_M_settle (v_o_read : Int32) (v_o_depth : Int32) (f_o_hasPart : (Nat → Int32)) (f_o_rowLast : (Nat → Int32)) (f_o_partFirst : (Nat → Int32)) (f_o_readBehind : (Nat → Int32)) (f_o_rowFirst : (Nat → Int32)) (f_o_rowEmpty : (Nat → Int32)) (f_o_partLast : (Nat → Int32)) (f_o_partEmpty : (Nat → Int32)) (post : (Nat → Int32) → (Nat → Int32) → (Nat → Int32) → (Nat → Int32) → (Nat → Int32) → Prop) : Prop := (vp_in v_o_depth 6 ∧ ((¬ (f_o_hasPart v_o_depth.toNatClampNeg) = 0 → (vp_in v_o_depth 6 ∧ (vp_in v_o_depth 6 ∧ (p_M_join v_o_read f_o_readBehind (f_o_rowLast v_o_depth.toNatClampNeg) (f_o_partFirst v_o_depth.toNatClampNeg) (fun u1 => (vp_in v_o_depth 6 ∧ (vp_in v_o_depth 6 ∧ (((f_o_rowEmpty v_o_depth.toNatClampNeg) = 0 → (vp_in v_o_depth 6 ∧ (vp_in v_o_depth 6 ∧ (vp_in v_o_depth 6 ∧ (((f_o_partEmpty v_o_depth.toNatClampNeg) = 0 → (vp_in v_o_depth 6 ∧ (vp_in v_o_depth 6 ∧ (((f_o_rowEmpty v_o_depth.toNatClampNeg) = 0 → (vp_in v_o_depth 6 ∧ (vp_in v_o_depth 6 ∧ (post (upd f_o_hasPart v_o_depth.toNatClampNeg (vp_nar .boolean 0)) (upd f_o_rowLast v_o_depth.toNatClampNeg ((f_o_partLast v_o_depth.toNatClampNeg) ||| (0 : Int32))) u1 (upd f_o_rowFirst v_o_depth.toNatClampNeg ((f_o_rowFirst v_o_depth.toNatClampNeg) ||| (0 : Int32))) (upd f_o_rowEmpty v_o_depth.toNatClampNeg (vp_nar .boolean 0)))))) ∧ (¬ (f_o_rowEmpty v_o_depth.toNatClampNeg) = 0 → (vp_in v_o_depth 6 ∧ (((f_o_partEmpty v_o_depth.toNatClampNeg) = 0 → (vp_in v_o_depth 6 ∧ (vp_in v_o_depth 6 ∧ (post (upd f_o_hasPart v_o_depth.toNatClampNeg (vp_nar .boolean 0)) (upd f_o_rowLast v_o_depth.toNatClampNeg ((f_o_partLast v_o_depth.toNatClampNeg) ||| (0 : Int32))) u1 (upd f_o_rowFirst v_o_depth.toNatClampNeg ((f_o_rowFirst v_o_depth.toNatClampNeg) ||| (0 : Int32))) (upd f_o_rowEmpty v_o_depth.toNatClampNeg (vp_nar .boolean 0)))))) ∧ (¬ (f_o_partEmpty v_o_depth.toNatClampNeg) = 0 → (vp_in v_o_depth 6 ∧ (vp_in v_o_depth 6 ∧ (post (upd f_o_hasPart v_o_depth.toNatClampNeg (vp_nar .boolean 0)) (upd f_o_rowLast v_o_depth.toNatClampNeg ((f_o_partLast v_o_depth.toNatClampNeg) ||| (0 : Int32))) u1 (upd f_o_rowFirst v_o_depth.toNatClampNeg ((f_o_rowFirst v_o_depth.toNatClampNeg) ||| (0 : Int32))) (upd f_o_rowEmpty v_o_depth.toNatClampNeg (vp_nar .boolean 1))))))))))))) ∧ (¬ (f_o_partEmpty v_o_depth.toNatClampNeg) = 0 → (vp_in v_o_depth 6 ∧ (vp_in v_o_depth 6 ∧ (vp_in v_o_depth 6 ∧ (((f_o_rowEmpty v_o_depth.toNatClampNeg) = 0 → (vp_in v_o_depth 6 ∧ (vp_in v_o_depth 6 ∧ (post (upd f_o_hasPart v_o_depth.toNatClampNeg (vp_nar .boolean 0)) (upd f_o_rowLast v_o_depth.toNatClampNeg ((f_o_partLast v_o_depth.toNatClampNeg) ||| (f_o_rowLast v_o_depth.toNatClampNeg))) u1 (upd f_o_rowFirst v_o_depth.toNatClampNeg ((f_o_rowFirst v_o_depth.toNatClampNeg) ||| (0 : Int32))) (upd f_o_rowEmpty v_o_depth.toNatClampNeg (vp_nar .boolean 0)))))) ∧ (¬ (f_o_rowEmpty v_o_depth.toNatClampNeg) = 0 → (vp_in v_o_depth 6 ∧ (((f_o_partEmpty v_o_depth.toNatClampNeg) = 0 → (vp_in v_o_depth 6 ∧ (vp_in v_o_depth 6 ∧ (post (upd f_o_hasPart v_o_depth.toNatClampNeg (vp_nar .boolean 0)) (upd f_o_rowLast v_o_depth.toNatClampNeg ((f_o_partLast v_o_depth.toNatClampNeg) ||| (f_o_rowLast v_o_depth.toNatClampNeg))) u1 (upd f_o_rowFirst v_o_depth.toNatClampNeg ((f_o_rowFirst v_o_depth.toNatClampNeg) ||| (0 : Int32))) (upd f_o_rowEmpty v_o_depth.toNatClampNeg (vp_nar .boolean 0)))))) ∧ (¬ (f_o_partEmpty v_o_depth.toNatClampNeg) = 0 → (vp_in v_o_depth 6 ∧ (vp_in v_o_depth 6 ∧ (post (upd f_o_hasPart v_o_depth.toNatClampNeg (vp_nar .boolean 0)) (upd f_o_rowLast v_o_depth.toNatClampNeg ((f_o_partLast v_o_depth.toNatClampNeg) ||| (f_o_rowLast v_o_depth.toNatClampNeg))) u1 (upd f_o_rowFirst v_o_depth.toNatClampNeg ((f_o_rowFirst v_o_depth.toNatClampNeg) ||| (0 : Int32))) (upd f_o_rowEmpty v_o_depth.toNatClampNeg (vp_nar .boolean 1))))))))))))))))))) ∧ (¬ (f_o_rowEmpty v_o_depth.toNatClampNeg) = 0 → (vp_in v_o_depth 6 ∧ (vp_in v_o_depth 6 ∧ (vp_in v_o_depth 6 ∧ (vp_in v_o_depth 6 ∧ (((f_o_partEmpty v_o_depth.toNatClampNeg) = 0 → (vp_in v_o_depth 6 ∧ (vp_in v_o_depth 6 ∧ (((f_o_rowEmpty v_o_depth.toNatClampNeg) = 0 → (vp_in v_o_depth 6 ∧ (vp_in v_o_depth 6 ∧ (post (upd f_o_hasPart v_o_depth.toNatClampNeg (vp_nar .boolean 0)) (upd f_o_rowLast v_o_depth.toNatClampNeg ((f_o_partLast v_o_depth.toNatClampNeg) ||| (0 : Int32))) u1 (upd f_o_rowFirst v_o_depth.toNatClampNeg ((f_o_rowFirst v_o_depth.toNatClampNeg) ||| (f_o_partFirst v_o_depth.toNatClampNeg))) (upd f_o_rowEmpty v_o_depth.toNatClampNeg (vp_nar .boolean 0)))))) ∧ (¬ (f_o_rowEmpty v_o_depth.toNatClampNeg) = 0 → (vp_in v_o_depth 6 ∧ (((f_o_partEmpty v_o_depth.toNatClampNeg) = 0 → (vp_in v_o_depth 6 ∧ (vp_in v_o_depth 6 ∧ (post (upd f_o_hasPart v_o_depth.toNatClampNeg (vp_nar .boolean 0)) (upd f_o_rowLast v_o_depth.toNatClampNeg ((f_o_partLast v_o_depth.toNatClampNeg) ||| (0 : Int32))) u1 (upd f_o_rowFirst v_o_depth.toNatClampNeg ((f_o_rowFirst v_o_depth.toNatClampNeg) ||| (f_o_partFirst v_o_depth.toNatClampNeg))) (upd f_o_rowEmpty v_o_depth.toNatClampNeg (vp_nar .boolean 0)))))) ∧ (¬ (f_o_partEmpty v_o_depth.toNatClampNeg) = 0 → (vp_in v_o_depth 6 ∧ (vp_in v_o_depth 6 ∧ (post (upd f_o_hasPart v_o_depth.toNatClampNeg (vp_nar .boolean 0)) (upd f_o_rowLast v_o_depth.toNatClampNeg ((f_o_partLast v_o_depth.toNatClampNeg) ||| (0 : Int32))) u1 (upd f_o_rowFirst v_o_depth.toNatClampNeg ((f_o_rowFirst v_o_depth.toNatClampNeg) ||| (f_o_partFirst v_o_depth.toNatClampNeg))) (upd f_o_rowEmpty v_o_depth.toNatClampNeg (vp_nar .boolean 1))))))))))))) ∧ (¬ (f_o_partEmpty v_o_depth.toNatClampNeg) = 0 → (vp_in v_o_depth 6 ∧ (vp_in v_o_depth 6 ∧ (vp_in v_o_depth 6 ∧ (((f_o_rowEmpty v_o_depth.toNatClampNeg) = 0 → (vp_in v_o_depth 6 ∧ (vp_in v_o_depth 6 ∧ (post (upd f_o_hasPart v_o_depth.toNatClampNeg (vp_nar .boolean 0)) (upd f_o_rowLast v_o_depth.toNatClampNeg ((f_o_partLast v_o_depth.toNatClampNeg) ||| (f_o_rowLast v_o_depth.toNatClampNeg))) u1 (upd f_o_rowFirst v_o_depth.toNatClampNeg ((f_o_rowFirst v_o_depth.toNatClampNeg) ||| (f_o_partFirst v_o_depth.toNatClampNeg))) (upd f_o_rowEmpty v_o_depth.toNatClampNeg (vp_nar .boolean 0)))))) ∧ (¬ (f_o_rowEmpty v_o_depth.toNatClampNeg) = 0 → (vp_in v_o_depth 6 ∧ (((f_o_partEmpty v_o_depth.toNatClampNeg) = 0 → (vp_in v_o_depth 6 ∧ (vp_in v_o_depth 6 ∧ (post (upd f_o_hasPart v_o_depth.toNatClampNeg (vp_nar .boolean 0)) (upd f_o_rowLast v_o_depth.toNatClampNeg ((f_o_partLast v_o_depth.toNatClampNeg) ||| (f_o_rowLast v_o_depth.toNatClampNeg))) u1 (upd f_o_rowFirst v_o_depth.toNatClampNeg ((f_o_rowFirst v_o_depth.toNatClampNeg) ||| (f_o_partFirst v_o_depth.toNatClampNeg))) (upd f_o_rowEmpty v_o_depth.toNatClampNeg (vp_nar .boolean 0)))))) ∧ (¬ (f_o_partEmpty v_o_depth.toNatClampNeg) = 0 → (vp_in v_o_depth 6 ∧ (vp_in v_o_depth 6 ∧ (post (upd f_o_hasPart v_o_depth.toNatClampNeg (vp_nar .boolean 0)) (upd f_o_rowLast v_o_depth.toNatClampNeg ((f_o_partLast v_o_depth.toNatClampNeg) ||| (f_o_rowLast v_o_depth.toNatClampNeg))) u1 (upd f_o_rowFirst v_o_depth.toNatClampNeg ((f_o_rowFirst v_o_depth.toNatClampNeg) ||| (f_o_partFirst v_o_depth.toNatClampNeg))) (upd f_o_rowEmpty v_o_depth.toNatClampNeg (vp_nar .boolean 1)))))))))))))))))))))))))))) ∧ ((f_o_hasPart v_o_depth.toNatClampNeg) = 0 → (post f_o_hasPart f_o_rowLast f_o_readBehind f_o_rowFirst f_o_rowEmpty))))
set_option maxHeartbeats 4000000 in
set_option maxRecDepth 100000 in
theorem k_M_settle (l : Launch) (G : va_G) (K : Nat → ClassId) (a0 : Nat) (ad : Nat → Nat) (sz : Nat) (v_o_code : Int32) (v_o_typed : Int32) (v_o_rules : Int32) (v_o_at : Int32) (v_o_read : Int32) (v_o_depth : Int32) (v_o_wrong : Int32) (v_o_there : Int32) (v_o_ended : Int32) (v_o_mode : Int32) (v_o_kept : Int32) (v_o_came : Int32) (v_o_pending : Int32) (v_o_looked : Int32) (v_o_tokens : Int32) (v_o_oldest : Int32) (f_o_hasPart : (Nat → Int32)) (f_o_rowLast : (Nat → Int32)) (f_o_partFirst : (Nat → Int32)) (f_o_readBehind : (Nat → Int32)) (f_o_rowFirst : (Nat → Int32)) (f_o_rowEmpty : (Nat → Int32)) (f_o_partLast : (Nat → Int32)) (f_o_partEmpty : (Nat → Int32)) (post : (Nat → Int32) → (Nat → Int32) → (Nat → Int32) → (Nat → Int32) → (Nat → Int32) → Prop) (h : p_M_settle v_o_read v_o_depth f_o_hasPart f_o_rowLast f_o_partFirst f_o_readBehind f_o_rowFirst f_o_rowEmpty f_o_partLast f_o_partEmpty post) : MWv l y_M_settle (.code y_M_settle c_M_settle 1 none) { frames := 1, cells := 0, slots := 0, locals := 23 } G K [((ad 27), .inl (K 1, 6, .inl f_o_hasPart)), ((ad 21), .inl (K 0, 6, .inl f_o_rowLast)), ((ad 17), .inl (K 0, 24, .inl f_o_readBehind)), ((ad 20), .inl (K 0, 6, .inl f_o_rowFirst)), ((ad 25), .inl (K 1, 6, .inl f_o_rowEmpty))] [(a0, .inr (12, oM v_o_code v_o_typed v_o_rules v_o_at v_o_read v_o_depth v_o_wrong v_o_there v_o_ended v_o_mode v_o_kept v_o_came v_o_pending v_o_looked v_o_tokens v_o_oldest ad)), ((ad 22), .inl (K 0, 6, .inl f_o_partFirst)), ((ad 23), .inl (K 0, 6, .inl f_o_partLast)), ((ad 26), .inl (K 1, 6, .inl f_o_partEmpty))] [.ref a0] sz (fun (u : (Nat → Int32) × (Nat → Int32) × (Nat → Int32) × (Nat → Int32) × (Nat → Int32)) => post u.1 u.2.1 u.2.2.1 u.2.2.2.1 u.2.2.2.2) (fun u => [((ad 27), .inl (K 1, 6, .inl u.1)), ((ad 21), .inl (K 0, 6, .inl u.2.1)), ((ad 17), .inl (K 0, 24, .inl u.2.2.1)), ((ad 20), .inl (K 0, 6, .inl u.2.2.2.1)), ((ad 25), .inl (K 1, 6, .inl u.2.2.2.2))]) 0 0 := by
  refine g_metWv (cc := c_M_settle) (maxL := 1) (ret := none) (by decide) rfl rfl (Nat.le_of_ble_eq_true rfl) ?_
  intro p e s m below meth c A Q hx hb hml hown hname htg hK hN hP hD hA hS hR rN hret ls hl
  have hl : lv_has ls 1 [(0, .ref a0)] := hl
  refine lv_aload_n hx hb d_M_settle_0 rfl (lv_at hl 0 rfl) ?_
  refine va_get (ci := 12) (v := .ref (ad 27)) hx hb htg in_M hown hK (gR hR rN hS) 0 rfl rfl 27 (by decide) (htg _ m_637) (fun _ h9 => h9) rfl d_M_settle_1 ?_
  refine lv_aload_n hx hb d_M_settle_4 rfl (lv_at hl 0 rfl) ?_
  refine va_get (ci := 12) (v := .int v_o_depth) hx hb htg in_M hown hK (gR hR rN hS) 0 rfl rfl 14 (by decide) (htg _ m_624) (fun _ h9 => h9) rfl d_M_settle_5 ?_
  obtain ⟨hin, h⟩ := h
  refine va_zald hx hb hK hP 0 1 rfl rfl hin d_M_settle_8 ?_
  refine lv_if_ne (tgt := 13) hx hb d_M_settle_9 (by decide) (fun hc => ?_) (fun hc => ?_)
  · replace h := h.1 hc
    refine lv_aload_n hx hb d_M_settle_13 rfl (lv_at hl 0 rfl) ?_
    refine lv_aload_n hx hb d_M_settle_14 rfl (lv_at hl 0 rfl) ?_
    refine va_get (ci := 12) (v := .ref (ad 21)) hx hb htg in_M hown hK (gR hR rN hS) 0 rfl rfl 21 (by decide) (htg _ m_631) (fun _ h9 => h9) rfl d_M_settle_15 ?_
    refine lv_aload_n hx hb d_M_settle_18 rfl (lv_at hl 0 rfl) ?_
    refine va_get (ci := 12) (v := .int v_o_depth) hx hb htg in_M hown hK (gR hR rN hS) 0 rfl rfl 14 (by decide) (htg _ m_624) (fun _ h9 => h9) rfl d_M_settle_19 ?_
    obtain ⟨hin, h⟩ := h
    refine va_iald hx hb hK hP 1 0 rfl rfl hin d_M_settle_22 ?_
    refine lv_aload_n hx hb d_M_settle_23 rfl (lv_at hl 0 rfl) ?_
    refine va_get (ci := 12) (v := .ref (ad 22)) hx hb htg in_M hown hK (gR hR rN hS) 0 rfl rfl 22 (by decide) (htg _ m_632) (fun _ h9 => h9) rfl d_M_settle_24 ?_
    refine lv_aload_n hx hb d_M_settle_27 rfl (lv_at hl 0 rfl) ?_
    refine va_get (ci := 12) (v := .int v_o_depth) hx hb htg in_M hown hK (gR hR rN hS) 0 rfl rfl 14 (by decide) (htg _ m_624) (fun _ h9 => h9) rfl d_M_settle_28 ?_
    obtain ⟨hin, h⟩ := h
    refine va_iald hx hb hK (gR hR rN hS) 1 0 rfl rfl hin d_M_settle_31 ?_
    have hPc : va_P G vwCl [((ad 17), .inl (K 0, 24, .inl f_o_readBehind))] _ := hP.sub [2] rfl
    have hDc : va_D A [((ad 17), .inl (K 0, 24, .inl f_o_readBehind))] := hD.sub [2] (by decide) rfl
    have hRc : va_P G vwCl [(a0, .inr (12, oM v_o_code v_o_typed v_o_rules v_o_at v_o_read v_o_depth v_o_wrong v_o_there v_o_ended v_o_mode v_o_kept v_o_came v_o_pending v_o_looked v_o_tokens v_o_oldest ad))] _ := (gR hR rN hS).sub [0] rfl
    have hJc : gJ [((ad 17), .inl (K 0, 24, .inl f_o_readBehind))] [(a0, .inr (12, oM v_o_code v_o_typed v_o_rules v_o_at v_o_read v_o_depth v_o_wrong v_o_there v_o_ended v_o_mode v_o_kept v_o_came v_o_pending v_o_looked v_o_tokens v_o_oldest ad))] := gJ_A hDc (gN_sub rN [0] rfl)
    refine g_callv (wr := [((ad 27), .inl (K 1, 6, .inl f_o_hasPart)), ((ad 21), .inl (K 0, 6, .inl f_o_rowLast)), ((ad 20), .inl (K 0, 6, .inl f_o_rowFirst)), ((ad 25), .inl (K 1, 6, .inl f_o_rowEmpty))]) (va_runV (As := [.int (f_o_rowLast v_o_depth.toNatClampNeg), .int (f_o_partFirst v_o_depth.toNatClampNeg)]) (rest := []) ⟨hx, hb, hml, hown, htg⟩ (k_M_join l G K a0 ad _ v_o_code v_o_typed v_o_rules v_o_at v_o_read v_o_depth v_o_wrong v_o_there v_o_ended v_o_mode v_o_kept v_o_came v_o_pending v_o_looked v_o_tokens v_o_oldest f_o_readBehind (f_o_rowLast v_o_depth.toNatClampNeg) (f_o_partFirst v_o_depth.toNatClampNeg) _ h) (cwV 2 htg (gGoodV m_706 m_707 m_890 m_13 m_708) rfl rfl rfl (by decide +kernel) ⟨(Nat.le_of_ble_eq_true rfl), (Nat.le_of_ble_eq_true rfl)⟩) (gW_preV (ci := 12) (q0 := 0) hK hN hPc hDc hRc hJc hRc rfl rfl) rfl rfl hl.1 rfl (lv_room (Nat.le_of_ble_eq_true rfl)) d_M_settle_32 ⟨(Nat.le_of_ble_eq_true rfl), (Nat.le_of_ble_eq_true rfl)⟩) hP hD hS hA [2] [0, 1, 3, 4] rfl rfl (by decide) (by decide) (fun u H locs h hP hD hS => ?_)
    obtain ⟨u1, rfl⟩ : ∃ z, z = u := ⟨_, rfl⟩
    try dsimp only at h
    have hP : va_P G vwCl [((ad 27), .inl (K 1, 6, .inl f_o_hasPart)), ((ad 21), .inl (K 0, 6, .inl f_o_rowLast)), ((ad 20), .inl (K 0, 6, .inl f_o_rowFirst)), ((ad 25), .inl (K 1, 6, .inl f_o_rowEmpty)), ((ad 17), .inl (K 0, 24, .inl u1))] H := hP
    have hD : va_D A [((ad 27), .inl (K 1, 6, .inl f_o_hasPart)), ((ad 21), .inl (K 0, 6, .inl f_o_rowLast)), ((ad 20), .inl (K 0, 6, .inl f_o_rowFirst)), ((ad 25), .inl (K 1, 6, .inl f_o_rowEmpty)), ((ad 17), .inl (K 0, 24, .inl u1))] := hD
    refine lv_aload_n hx hb d_M_settle_35 rfl (lv_at hl 0 rfl) ?_
    refine va_get (ci := 12) (v := .ref (ad 20)) hx hb htg in_M hown hK (gR hR rN hS) 0 rfl rfl 20 (by decide) (htg _ m_630) (fun _ h9 => h9) rfl d_M_settle_36 ?_
    refine lv_aload_n hx hb d_M_settle_39 rfl (lv_at hl 0 rfl) ?_
    refine va_get (ci := 12) (v := .int v_o_depth) hx hb htg in_M hown hK (gR hR rN hS) 0 rfl rfl 14 (by decide) (htg _ m_624) (fun _ h9 => h9) rfl d_M_settle_40 ?_
    refine lv_dup2_11 hx hb d_M_settle_43 rfl rfl ?_
    obtain ⟨hin, h⟩ := h
    refine va_iald hx hb hK hP 2 0 rfl rfl hin d_M_settle_44 ?_
    refine lv_aload_n hx hb d_M_settle_45 rfl (lv_at hl 0 rfl) ?_
    refine va_get (ci := 12) (v := .ref (ad 25)) hx hb htg in_M hown hK (gR hR rN hS) 0 rfl rfl 25 (by decide) (htg _ m_635) (fun _ h9 => h9) rfl d_M_settle_46 ?_
    refine lv_aload_n hx hb d_M_settle_49 rfl (lv_at hl 0 rfl) ?_
    refine va_get (ci := 12) (v := .int v_o_depth) hx hb htg in_M hown hK (gR hR rN hS) 0 rfl rfl 14 (by decide) (htg _ m_624) (fun _ h9 => h9) rfl d_M_settle_50 ?_
    obtain ⟨hin, h⟩ := h
    refine va_zald hx hb hK hP 3 1 rfl rfl hin d_M_settle_53 ?_
    refine lv_if_eq (tgt := 69) hx hb d_M_settle_54 (by decide) (fun hc => ?_) (fun hc => ?_)
    · replace h := h.1 hc
      refine lv_iconst (v := 0) hx hb d_M_settle_69 (by decide) ?_
      refine lv_ior hx hb d_M_settle_70 ?_
      obtain ⟨hin, h⟩ := h
      refine va_iast hx hb hK hP hD hS 2 0 rfl rfl hin d_M_settle_71 (fun H locs hP hD hS => ?_)
      have hP : va_P G vwCl [((ad 27), .inl (K 1, 6, .inl f_o_hasPart)), ((ad 21), .inl (K 0, 6, .inl f_o_rowLast)), ((ad 20), .inl (K 0, 6, .inl (upd f_o_rowFirst v_o_depth.toNatClampNeg ((f_o_rowFirst v_o_depth.toNatClampNeg) ||| (0 : Int32))))), ((ad 25), .inl (K 1, 6, .inl f_o_rowEmpty)), ((ad 17), .inl (K 0, 24, .inl u1))] H := hP
      have hD : va_D A [((ad 27), .inl (K 1, 6, .inl f_o_hasPart)), ((ad 21), .inl (K 0, 6, .inl f_o_rowLast)), ((ad 20), .inl (K 0, 6, .inl (upd f_o_rowFirst v_o_depth.toNatClampNeg ((f_o_rowFirst v_o_depth.toNatClampNeg) ||| (0 : Int32))))), ((ad 25), .inl (K 1, 6, .inl f_o_rowEmpty)), ((ad 17), .inl (K 0, 24, .inl u1))] := hD
      refine lv_aload_n hx hb d_M_settle_72 rfl (lv_at hl 0 rfl) ?_
      refine va_get (ci := 12) (v := .ref (ad 21)) hx hb htg in_M hown hK (gR hR rN hS) 0 rfl rfl 21 (by decide) (htg _ m_631) (fun _ h9 => h9) rfl d_M_settle_73 ?_
      refine lv_aload_n hx hb d_M_settle_76 rfl (lv_at hl 0 rfl) ?_
      refine va_get (ci := 12) (v := .int v_o_depth) hx hb htg in_M hown hK (gR hR rN hS) 0 rfl rfl 14 (by decide) (htg _ m_624) (fun _ h9 => h9) rfl d_M_settle_77 ?_
      refine lv_aload_n hx hb d_M_settle_80 rfl (lv_at hl 0 rfl) ?_
      refine va_get (ci := 12) (v := .ref (ad 23)) hx hb htg in_M hown hK (gR hR rN hS) 0 rfl rfl 23 (by decide) (htg _ m_633) (fun _ h9 => h9) rfl d_M_settle_81 ?_
      refine lv_aload_n hx hb d_M_settle_84 rfl (lv_at hl 0 rfl) ?_
      refine va_get (ci := 12) (v := .int v_o_depth) hx hb htg in_M hown hK (gR hR rN hS) 0 rfl rfl 14 (by decide) (htg _ m_624) (fun _ h9 => h9) rfl d_M_settle_85 ?_
      obtain ⟨hin, h⟩ := h
      refine va_iald hx hb hK (gR hR rN hS) 2 0 rfl rfl hin d_M_settle_88 ?_
      refine lv_aload_n hx hb d_M_settle_89 rfl (lv_at hl 0 rfl) ?_
      refine va_get (ci := 12) (v := .ref (ad 26)) hx hb htg in_M hown hK (gR hR rN hS) 0 rfl rfl 26 (by decide) (htg _ m_636) (fun _ h9 => h9) rfl d_M_settle_90 ?_
      refine lv_aload_n hx hb d_M_settle_93 rfl (lv_at hl 0 rfl) ?_
      refine va_get (ci := 12) (v := .int v_o_depth) hx hb htg in_M hown hK (gR hR rN hS) 0 rfl rfl 14 (by decide) (htg _ m_624) (fun _ h9 => h9) rfl d_M_settle_94 ?_
      obtain ⟨hin, h⟩ := h
      refine va_zald hx hb hK (gR hR rN hS) 3 1 rfl rfl hin d_M_settle_97 ?_
      refine lv_if_eq (tgt := 113) hx hb d_M_settle_98 (by decide) (fun hc => ?_) (fun hc => ?_)
      · replace h := h.1 hc
        refine lv_iconst (v := 0) hx hb d_M_settle_113 (by decide) ?_
        refine lv_ior hx hb d_M_settle_114 ?_
        obtain ⟨hin, h⟩ := h
        refine va_iast hx hb hK hP hD hS 1 0 rfl rfl hin d_M_settle_115 (fun H locs hP hD hS => ?_)
        have hP : va_P G vwCl [((ad 27), .inl (K 1, 6, .inl f_o_hasPart)), ((ad 21), .inl (K 0, 6, .inl (upd f_o_rowLast v_o_depth.toNatClampNeg ((f_o_partLast v_o_depth.toNatClampNeg) ||| (0 : Int32))))), ((ad 20), .inl (K 0, 6, .inl (upd f_o_rowFirst v_o_depth.toNatClampNeg ((f_o_rowFirst v_o_depth.toNatClampNeg) ||| (0 : Int32))))), ((ad 25), .inl (K 1, 6, .inl f_o_rowEmpty)), ((ad 17), .inl (K 0, 24, .inl u1))] H := hP
        have hD : va_D A [((ad 27), .inl (K 1, 6, .inl f_o_hasPart)), ((ad 21), .inl (K 0, 6, .inl (upd f_o_rowLast v_o_depth.toNatClampNeg ((f_o_partLast v_o_depth.toNatClampNeg) ||| (0 : Int32))))), ((ad 20), .inl (K 0, 6, .inl (upd f_o_rowFirst v_o_depth.toNatClampNeg ((f_o_rowFirst v_o_depth.toNatClampNeg) ||| (0 : Int32))))), ((ad 25), .inl (K 1, 6, .inl f_o_rowEmpty)), ((ad 17), .inl (K 0, 24, .inl u1))] := hD
        refine lv_aload_n hx hb d_M_settle_116 rfl (lv_at hl 0 rfl) ?_
        refine va_get (ci := 12) (v := .ref (ad 25)) hx hb htg in_M hown hK (gR hR rN hS) 0 rfl rfl 25 (by decide) (htg _ m_635) (fun _ h9 => h9) rfl d_M_settle_117 ?_
        refine lv_aload_n hx hb d_M_settle_120 rfl (lv_at hl 0 rfl) ?_
        refine va_get (ci := 12) (v := .int v_o_depth) hx hb htg in_M hown hK (gR hR rN hS) 0 rfl rfl 14 (by decide) (htg _ m_624) (fun _ h9 => h9) rfl d_M_settle_121 ?_
        refine lv_aload_n hx hb d_M_settle_124 rfl (lv_at hl 0 rfl) ?_
        refine va_get (ci := 12) (v := .ref (ad 25)) hx hb htg in_M hown hK (gR hR rN hS) 0 rfl rfl 25 (by decide) (htg _ m_635) (fun _ h9 => h9) rfl d_M_settle_125 ?_
        refine lv_aload_n hx hb d_M_settle_128 rfl (lv_at hl 0 rfl) ?_
        refine va_get (ci := 12) (v := .int v_o_depth) hx hb htg in_M hown hK (gR hR rN hS) 0 rfl rfl 14 (by decide) (htg _ m_624) (fun _ h9 => h9) rfl d_M_settle_129 ?_
        obtain ⟨hin, h⟩ := h
        refine va_zald hx hb hK hP 3 1 rfl rfl hin d_M_settle_132 ?_
        refine lv_if_eq (tgt := 152) hx hb d_M_settle_133 (by decide) (fun hc => ?_) (fun hc => ?_)
        · replace h := h.1 hc
          refine lv_iconst (v := 0) hx hb d_M_settle_152 (by decide) ?_
          obtain ⟨hin, h⟩ := h
          refine va_zast hx hb hK hP hD hS 3 1 rfl rfl hin d_M_settle_153 (fun H locs hP hD hS => ?_)
          have hP : va_P G vwCl [((ad 27), .inl (K 1, 6, .inl f_o_hasPart)), ((ad 21), .inl (K 0, 6, .inl (upd f_o_rowLast v_o_depth.toNatClampNeg ((f_o_partLast v_o_depth.toNatClampNeg) ||| (0 : Int32))))), ((ad 20), .inl (K 0, 6, .inl (upd f_o_rowFirst v_o_depth.toNatClampNeg ((f_o_rowFirst v_o_depth.toNatClampNeg) ||| (0 : Int32))))), ((ad 25), .inl (K 1, 6, .inl (upd f_o_rowEmpty v_o_depth.toNatClampNeg (vp_nar .boolean 0)))), ((ad 17), .inl (K 0, 24, .inl u1))] H := hP
          have hD : va_D A [((ad 27), .inl (K 1, 6, .inl f_o_hasPart)), ((ad 21), .inl (K 0, 6, .inl (upd f_o_rowLast v_o_depth.toNatClampNeg ((f_o_partLast v_o_depth.toNatClampNeg) ||| (0 : Int32))))), ((ad 20), .inl (K 0, 6, .inl (upd f_o_rowFirst v_o_depth.toNatClampNeg ((f_o_rowFirst v_o_depth.toNatClampNeg) ||| (0 : Int32))))), ((ad 25), .inl (K 1, 6, .inl (upd f_o_rowEmpty v_o_depth.toNatClampNeg (vp_nar .boolean 0)))), ((ad 17), .inl (K 0, 24, .inl u1))] := hD
          refine lv_aload_n hx hb d_M_settle_154 rfl (lv_at hl 0 rfl) ?_
          refine va_get (ci := 12) (v := .ref (ad 27)) hx hb htg in_M hown hK (gR hR rN hS) 0 rfl rfl 27 (by decide) (htg _ m_637) (fun _ h9 => h9) rfl d_M_settle_155 ?_
          refine lv_aload_n hx hb d_M_settle_158 rfl (lv_at hl 0 rfl) ?_
          refine va_get (ci := 12) (v := .int v_o_depth) hx hb htg in_M hown hK (gR hR rN hS) 0 rfl rfl 14 (by decide) (htg _ m_624) (fun _ h9 => h9) rfl d_M_settle_159 ?_
          refine lv_iconst (v := 0) hx hb d_M_settle_162 (by decide) ?_
          obtain ⟨hin, h⟩ := h
          refine va_zast hx hb hK hP hD hS 0 1 rfl rfl hin d_M_settle_163 (fun H locs hP hD hS => ?_)
          have hP : va_P G vwCl [((ad 27), .inl (K 1, 6, .inl (upd f_o_hasPart v_o_depth.toNatClampNeg (vp_nar .boolean 0)))), ((ad 21), .inl (K 0, 6, .inl (upd f_o_rowLast v_o_depth.toNatClampNeg ((f_o_partLast v_o_depth.toNatClampNeg) ||| (0 : Int32))))), ((ad 20), .inl (K 0, 6, .inl (upd f_o_rowFirst v_o_depth.toNatClampNeg ((f_o_rowFirst v_o_depth.toNatClampNeg) ||| (0 : Int32))))), ((ad 25), .inl (K 1, 6, .inl (upd f_o_rowEmpty v_o_depth.toNatClampNeg (vp_nar .boolean 0)))), ((ad 17), .inl (K 0, 24, .inl u1))] H := hP
          have hD : va_D A [((ad 27), .inl (K 1, 6, .inl (upd f_o_hasPart v_o_depth.toNatClampNeg (vp_nar .boolean 0)))), ((ad 21), .inl (K 0, 6, .inl (upd f_o_rowLast v_o_depth.toNatClampNeg ((f_o_partLast v_o_depth.toNatClampNeg) ||| (0 : Int32))))), ((ad 20), .inl (K 0, 6, .inl (upd f_o_rowFirst v_o_depth.toNatClampNeg ((f_o_rowFirst v_o_depth.toNatClampNeg) ||| (0 : Int32))))), ((ad 25), .inl (K 1, 6, .inl (upd f_o_rowEmpty v_o_depth.toNatClampNeg (vp_nar .boolean 0)))), ((ad 17), .inl (K 0, 24, .inl u1))] := hD
          exact hret ((upd f_o_hasPart v_o_depth.toNatClampNeg (vp_nar .boolean 0)), (upd f_o_rowLast v_o_depth.toNatClampNeg ((f_o_partLast v_o_depth.toNatClampNeg) ||| (0 : Int32))), u1, (upd f_o_rowFirst v_o_depth.toNatClampNeg ((f_o_rowFirst v_o_depth.toNatClampNeg) ||| (0 : Int32))), (upd f_o_rowEmpty v_o_depth.toNatClampNeg (vp_nar .boolean 0))) _ _ _ _ h (hP.sub [0, 1, 4, 2, 3] rfl) (hD.sub [0, 1, 4, 2, 3] (by decide) rfl) hS d_M_settle_164
        · replace h := h.2 hc
          refine lv_aload_n hx hb d_M_settle_136 rfl (lv_at hl 0 rfl) ?_
          refine va_get (ci := 12) (v := .ref (ad 26)) hx hb htg in_M hown hK (gR hR rN hS) 0 rfl rfl 26 (by decide) (htg _ m_636) (fun _ h9 => h9) rfl d_M_settle_137 ?_
          refine lv_aload_n hx hb d_M_settle_140 rfl (lv_at hl 0 rfl) ?_
          refine va_get (ci := 12) (v := .int v_o_depth) hx hb htg in_M hown hK (gR hR rN hS) 0 rfl rfl 14 (by decide) (htg _ m_624) (fun _ h9 => h9) rfl d_M_settle_141 ?_
          obtain ⟨hin, h⟩ := h
          refine va_zald hx hb hK (gR hR rN hS) 3 1 rfl rfl hin d_M_settle_144 ?_
          refine lv_if_eq (tgt := 152) hx hb d_M_settle_145 (by decide) (fun hc => ?_) (fun hc => ?_)
          · replace h := h.1 hc
            refine lv_iconst (v := 0) hx hb d_M_settle_152 (by decide) ?_
            obtain ⟨hin, h⟩ := h
            refine va_zast hx hb hK hP hD hS 3 1 rfl rfl hin d_M_settle_153 (fun H locs hP hD hS => ?_)
            have hP : va_P G vwCl [((ad 27), .inl (K 1, 6, .inl f_o_hasPart)), ((ad 21), .inl (K 0, 6, .inl (upd f_o_rowLast v_o_depth.toNatClampNeg ((f_o_partLast v_o_depth.toNatClampNeg) ||| (0 : Int32))))), ((ad 20), .inl (K 0, 6, .inl (upd f_o_rowFirst v_o_depth.toNatClampNeg ((f_o_rowFirst v_o_depth.toNatClampNeg) ||| (0 : Int32))))), ((ad 25), .inl (K 1, 6, .inl (upd f_o_rowEmpty v_o_depth.toNatClampNeg (vp_nar .boolean 0)))), ((ad 17), .inl (K 0, 24, .inl u1))] H := hP
            have hD : va_D A [((ad 27), .inl (K 1, 6, .inl f_o_hasPart)), ((ad 21), .inl (K 0, 6, .inl (upd f_o_rowLast v_o_depth.toNatClampNeg ((f_o_partLast v_o_depth.toNatClampNeg) ||| (0 : Int32))))), ((ad 20), .inl (K 0, 6, .inl (upd f_o_rowFirst v_o_depth.toNatClampNeg ((f_o_rowFirst v_o_depth.toNatClampNeg) ||| (0 : Int32))))), ((ad 25), .inl (K 1, 6, .inl (upd f_o_rowEmpty v_o_depth.toNatClampNeg (vp_nar .boolean 0)))), ((ad 17), .inl (K 0, 24, .inl u1))] := hD
            refine lv_aload_n hx hb d_M_settle_154 rfl (lv_at hl 0 rfl) ?_
            refine va_get (ci := 12) (v := .ref (ad 27)) hx hb htg in_M hown hK (gR hR rN hS) 0 rfl rfl 27 (by decide) (htg _ m_637) (fun _ h9 => h9) rfl d_M_settle_155 ?_
            refine lv_aload_n hx hb d_M_settle_158 rfl (lv_at hl 0 rfl) ?_
            refine va_get (ci := 12) (v := .int v_o_depth) hx hb htg in_M hown hK (gR hR rN hS) 0 rfl rfl 14 (by decide) (htg _ m_624) (fun _ h9 => h9) rfl d_M_settle_159 ?_
            refine lv_iconst (v := 0) hx hb d_M_settle_162 (by decide) ?_
            obtain ⟨hin, h⟩ := h
            refine va_zast hx hb hK hP hD hS 0 1 rfl rfl hin d_M_settle_163 (fun H locs hP hD hS => ?_)
            have hP : va_P G vwCl [((ad 27), .inl (K 1, 6, .inl (upd f_o_hasPart v_o_depth.toNatClampNeg (vp_nar .boolean 0)))), ((ad 21), .inl (K 0, 6, .inl (upd f_o_rowLast v_o_depth.toNatClampNeg ((f_o_partLast v_o_depth.toNatClampNeg) ||| (0 : Int32))))), ((ad 20), .inl (K 0, 6, .inl (upd f_o_rowFirst v_o_depth.toNatClampNeg ((f_o_rowFirst v_o_depth.toNatClampNeg) ||| (0 : Int32))))), ((ad 25), .inl (K 1, 6, .inl (upd f_o_rowEmpty v_o_depth.toNatClampNeg (vp_nar .boolean 0)))), ((ad 17), .inl (K 0, 24, .inl u1))] H := hP
            have hD : va_D A [((ad 27), .inl (K 1, 6, .inl (upd f_o_hasPart v_o_depth.toNatClampNeg (vp_nar .boolean 0)))), ((ad 21), .inl (K 0, 6, .inl (upd f_o_rowLast v_o_depth.toNatClampNeg ((f_o_partLast v_o_depth.toNatClampNeg) ||| (0 : Int32))))), ((ad 20), .inl (K 0, 6, .inl (upd f_o_rowFirst v_o_depth.toNatClampNeg ((f_o_rowFirst v_o_depth.toNatClampNeg) ||| (0 : Int32))))), ((ad 25), .inl (K 1, 6, .inl (upd f_o_rowEmpty v_o_depth.toNatClampNeg (vp_nar .boolean 0)))), ((ad 17), .inl (K 0, 24, .inl u1))] := hD
            exact hret ((upd f_o_hasPart v_o_depth.toNatClampNeg (vp_nar .boolean 0)), (upd f_o_rowLast v_o_depth.toNatClampNeg ((f_o_partLast v_o_depth.toNatClampNeg) ||| (0 : Int32))), u1, (upd f_o_rowFirst v_o_depth.toNatClampNeg ((f_o_rowFirst v_o_depth.toNatClampNeg) ||| (0 : Int32))), (upd f_o_rowEmpty v_o_depth.toNatClampNeg (vp_nar .boolean 0))) _ _ _ _ h (hP.sub [0, 1, 4, 2, 3] rfl) (hD.sub [0, 1, 4, 2, 3] (by decide) rfl) hS d_M_settle_164
          · replace h := h.2 hc
            refine lv_iconst (v := 1) hx hb d_M_settle_148 (by decide) ?_
            refine lv_goto (tgt := 153) hx hb d_M_settle_149 (by decide) ?_
            obtain ⟨hin, h⟩ := h
            refine va_zast hx hb hK hP hD hS 3 1 rfl rfl hin d_M_settle_153 (fun H locs hP hD hS => ?_)
            have hP : va_P G vwCl [((ad 27), .inl (K 1, 6, .inl f_o_hasPart)), ((ad 21), .inl (K 0, 6, .inl (upd f_o_rowLast v_o_depth.toNatClampNeg ((f_o_partLast v_o_depth.toNatClampNeg) ||| (0 : Int32))))), ((ad 20), .inl (K 0, 6, .inl (upd f_o_rowFirst v_o_depth.toNatClampNeg ((f_o_rowFirst v_o_depth.toNatClampNeg) ||| (0 : Int32))))), ((ad 25), .inl (K 1, 6, .inl (upd f_o_rowEmpty v_o_depth.toNatClampNeg (vp_nar .boolean 1)))), ((ad 17), .inl (K 0, 24, .inl u1))] H := hP
            have hD : va_D A [((ad 27), .inl (K 1, 6, .inl f_o_hasPart)), ((ad 21), .inl (K 0, 6, .inl (upd f_o_rowLast v_o_depth.toNatClampNeg ((f_o_partLast v_o_depth.toNatClampNeg) ||| (0 : Int32))))), ((ad 20), .inl (K 0, 6, .inl (upd f_o_rowFirst v_o_depth.toNatClampNeg ((f_o_rowFirst v_o_depth.toNatClampNeg) ||| (0 : Int32))))), ((ad 25), .inl (K 1, 6, .inl (upd f_o_rowEmpty v_o_depth.toNatClampNeg (vp_nar .boolean 1)))), ((ad 17), .inl (K 0, 24, .inl u1))] := hD
            refine lv_aload_n hx hb d_M_settle_154 rfl (lv_at hl 0 rfl) ?_
            refine va_get (ci := 12) (v := .ref (ad 27)) hx hb htg in_M hown hK (gR hR rN hS) 0 rfl rfl 27 (by decide) (htg _ m_637) (fun _ h9 => h9) rfl d_M_settle_155 ?_
            refine lv_aload_n hx hb d_M_settle_158 rfl (lv_at hl 0 rfl) ?_
            refine va_get (ci := 12) (v := .int v_o_depth) hx hb htg in_M hown hK (gR hR rN hS) 0 rfl rfl 14 (by decide) (htg _ m_624) (fun _ h9 => h9) rfl d_M_settle_159 ?_
            refine lv_iconst (v := 0) hx hb d_M_settle_162 (by decide) ?_
            obtain ⟨hin, h⟩ := h
            refine va_zast hx hb hK hP hD hS 0 1 rfl rfl hin d_M_settle_163 (fun H locs hP hD hS => ?_)
            have hP : va_P G vwCl [((ad 27), .inl (K 1, 6, .inl (upd f_o_hasPart v_o_depth.toNatClampNeg (vp_nar .boolean 0)))), ((ad 21), .inl (K 0, 6, .inl (upd f_o_rowLast v_o_depth.toNatClampNeg ((f_o_partLast v_o_depth.toNatClampNeg) ||| (0 : Int32))))), ((ad 20), .inl (K 0, 6, .inl (upd f_o_rowFirst v_o_depth.toNatClampNeg ((f_o_rowFirst v_o_depth.toNatClampNeg) ||| (0 : Int32))))), ((ad 25), .inl (K 1, 6, .inl (upd f_o_rowEmpty v_o_depth.toNatClampNeg (vp_nar .boolean 1)))), ((ad 17), .inl (K 0, 24, .inl u1))] H := hP
            have hD : va_D A [((ad 27), .inl (K 1, 6, .inl (upd f_o_hasPart v_o_depth.toNatClampNeg (vp_nar .boolean 0)))), ((ad 21), .inl (K 0, 6, .inl (upd f_o_rowLast v_o_depth.toNatClampNeg ((f_o_partLast v_o_depth.toNatClampNeg) ||| (0 : Int32))))), ((ad 20), .inl (K 0, 6, .inl (upd f_o_rowFirst v_o_depth.toNatClampNeg ((f_o_rowFirst v_o_depth.toNatClampNeg) ||| (0 : Int32))))), ((ad 25), .inl (K 1, 6, .inl (upd f_o_rowEmpty v_o_depth.toNatClampNeg (vp_nar .boolean 1)))), ((ad 17), .inl (K 0, 24, .inl u1))] := hD
            exact hret ((upd f_o_hasPart v_o_depth.toNatClampNeg (vp_nar .boolean 0)), (upd f_o_rowLast v_o_depth.toNatClampNeg ((f_o_partLast v_o_depth.toNatClampNeg) ||| (0 : Int32))), u1, (upd f_o_rowFirst v_o_depth.toNatClampNeg ((f_o_rowFirst v_o_depth.toNatClampNeg) ||| (0 : Int32))), (upd f_o_rowEmpty v_o_depth.toNatClampNeg (vp_nar .boolean 1))) _ _ _ _ h (hP.sub [0, 1, 4, 2, 3] rfl) (hD.sub [0, 1, 4, 2, 3] (by decide) rfl) hS d_M_settle_164
      · replace h := h.2 hc
        refine lv_aload_n hx hb d_M_settle_101 rfl (lv_at hl 0 rfl) ?_
        refine va_get (ci := 12) (v := .ref (ad 21)) hx hb htg in_M hown hK (gR hR rN hS) 0 rfl rfl 21 (by decide) (htg _ m_631) (fun _ h9 => h9) rfl d_M_settle_102 ?_
        refine lv_aload_n hx hb d_M_settle_105 rfl (lv_at hl 0 rfl) ?_
        refine va_get (ci := 12) (v := .int v_o_depth) hx hb htg in_M hown hK (gR hR rN hS) 0 rfl rfl 14 (by decide) (htg _ m_624) (fun _ h9 => h9) rfl d_M_settle_106 ?_
        obtain ⟨hin, h⟩ := h
        refine va_iald hx hb hK hP 1 0 rfl rfl hin d_M_settle_109 ?_
        refine lv_goto (tgt := 114) hx hb d_M_settle_110 (by decide) ?_
        refine lv_ior hx hb d_M_settle_114 ?_
        obtain ⟨hin, h⟩ := h
        refine va_iast hx hb hK hP hD hS 1 0 rfl rfl hin d_M_settle_115 (fun H locs hP hD hS => ?_)
        have hP : va_P G vwCl [((ad 27), .inl (K 1, 6, .inl f_o_hasPart)), ((ad 21), .inl (K 0, 6, .inl (upd f_o_rowLast v_o_depth.toNatClampNeg ((f_o_partLast v_o_depth.toNatClampNeg) ||| (f_o_rowLast v_o_depth.toNatClampNeg))))), ((ad 20), .inl (K 0, 6, .inl (upd f_o_rowFirst v_o_depth.toNatClampNeg ((f_o_rowFirst v_o_depth.toNatClampNeg) ||| (0 : Int32))))), ((ad 25), .inl (K 1, 6, .inl f_o_rowEmpty)), ((ad 17), .inl (K 0, 24, .inl u1))] H := hP
        have hD : va_D A [((ad 27), .inl (K 1, 6, .inl f_o_hasPart)), ((ad 21), .inl (K 0, 6, .inl (upd f_o_rowLast v_o_depth.toNatClampNeg ((f_o_partLast v_o_depth.toNatClampNeg) ||| (f_o_rowLast v_o_depth.toNatClampNeg))))), ((ad 20), .inl (K 0, 6, .inl (upd f_o_rowFirst v_o_depth.toNatClampNeg ((f_o_rowFirst v_o_depth.toNatClampNeg) ||| (0 : Int32))))), ((ad 25), .inl (K 1, 6, .inl f_o_rowEmpty)), ((ad 17), .inl (K 0, 24, .inl u1))] := hD
        refine lv_aload_n hx hb d_M_settle_116 rfl (lv_at hl 0 rfl) ?_
        refine va_get (ci := 12) (v := .ref (ad 25)) hx hb htg in_M hown hK (gR hR rN hS) 0 rfl rfl 25 (by decide) (htg _ m_635) (fun _ h9 => h9) rfl d_M_settle_117 ?_
        refine lv_aload_n hx hb d_M_settle_120 rfl (lv_at hl 0 rfl) ?_
        refine va_get (ci := 12) (v := .int v_o_depth) hx hb htg in_M hown hK (gR hR rN hS) 0 rfl rfl 14 (by decide) (htg _ m_624) (fun _ h9 => h9) rfl d_M_settle_121 ?_
        refine lv_aload_n hx hb d_M_settle_124 rfl (lv_at hl 0 rfl) ?_
        refine va_get (ci := 12) (v := .ref (ad 25)) hx hb htg in_M hown hK (gR hR rN hS) 0 rfl rfl 25 (by decide) (htg _ m_635) (fun _ h9 => h9) rfl d_M_settle_125 ?_
        refine lv_aload_n hx hb d_M_settle_128 rfl (lv_at hl 0 rfl) ?_
        refine va_get (ci := 12) (v := .int v_o_depth) hx hb htg in_M hown hK (gR hR rN hS) 0 rfl rfl 14 (by decide) (htg _ m_624) (fun _ h9 => h9) rfl d_M_settle_129 ?_
        obtain ⟨hin, h⟩ := h
        refine va_zald hx hb hK hP 3 1 rfl rfl hin d_M_settle_132 ?_
        refine lv_if_eq (tgt := 152) hx hb d_M_settle_133 (by decide) (fun hc => ?_) (fun hc => ?_)
        · replace h := h.1 hc
          refine lv_iconst (v := 0) hx hb d_M_settle_152 (by decide) ?_
          obtain ⟨hin, h⟩ := h
          refine va_zast hx hb hK hP hD hS 3 1 rfl rfl hin d_M_settle_153 (fun H locs hP hD hS => ?_)
          have hP : va_P G vwCl [((ad 27), .inl (K 1, 6, .inl f_o_hasPart)), ((ad 21), .inl (K 0, 6, .inl (upd f_o_rowLast v_o_depth.toNatClampNeg ((f_o_partLast v_o_depth.toNatClampNeg) ||| (f_o_rowLast v_o_depth.toNatClampNeg))))), ((ad 20), .inl (K 0, 6, .inl (upd f_o_rowFirst v_o_depth.toNatClampNeg ((f_o_rowFirst v_o_depth.toNatClampNeg) ||| (0 : Int32))))), ((ad 25), .inl (K 1, 6, .inl (upd f_o_rowEmpty v_o_depth.toNatClampNeg (vp_nar .boolean 0)))), ((ad 17), .inl (K 0, 24, .inl u1))] H := hP
          have hD : va_D A [((ad 27), .inl (K 1, 6, .inl f_o_hasPart)), ((ad 21), .inl (K 0, 6, .inl (upd f_o_rowLast v_o_depth.toNatClampNeg ((f_o_partLast v_o_depth.toNatClampNeg) ||| (f_o_rowLast v_o_depth.toNatClampNeg))))), ((ad 20), .inl (K 0, 6, .inl (upd f_o_rowFirst v_o_depth.toNatClampNeg ((f_o_rowFirst v_o_depth.toNatClampNeg) ||| (0 : Int32))))), ((ad 25), .inl (K 1, 6, .inl (upd f_o_rowEmpty v_o_depth.toNatClampNeg (vp_nar .boolean 0)))), ((ad 17), .inl (K 0, 24, .inl u1))] := hD
          refine lv_aload_n hx hb d_M_settle_154 rfl (lv_at hl 0 rfl) ?_
          refine va_get (ci := 12) (v := .ref (ad 27)) hx hb htg in_M hown hK (gR hR rN hS) 0 rfl rfl 27 (by decide) (htg _ m_637) (fun _ h9 => h9) rfl d_M_settle_155 ?_
          refine lv_aload_n hx hb d_M_settle_158 rfl (lv_at hl 0 rfl) ?_
          refine va_get (ci := 12) (v := .int v_o_depth) hx hb htg in_M hown hK (gR hR rN hS) 0 rfl rfl 14 (by decide) (htg _ m_624) (fun _ h9 => h9) rfl d_M_settle_159 ?_
          refine lv_iconst (v := 0) hx hb d_M_settle_162 (by decide) ?_
          obtain ⟨hin, h⟩ := h
          refine va_zast hx hb hK hP hD hS 0 1 rfl rfl hin d_M_settle_163 (fun H locs hP hD hS => ?_)
          have hP : va_P G vwCl [((ad 27), .inl (K 1, 6, .inl (upd f_o_hasPart v_o_depth.toNatClampNeg (vp_nar .boolean 0)))), ((ad 21), .inl (K 0, 6, .inl (upd f_o_rowLast v_o_depth.toNatClampNeg ((f_o_partLast v_o_depth.toNatClampNeg) ||| (f_o_rowLast v_o_depth.toNatClampNeg))))), ((ad 20), .inl (K 0, 6, .inl (upd f_o_rowFirst v_o_depth.toNatClampNeg ((f_o_rowFirst v_o_depth.toNatClampNeg) ||| (0 : Int32))))), ((ad 25), .inl (K 1, 6, .inl (upd f_o_rowEmpty v_o_depth.toNatClampNeg (vp_nar .boolean 0)))), ((ad 17), .inl (K 0, 24, .inl u1))] H := hP
          have hD : va_D A [((ad 27), .inl (K 1, 6, .inl (upd f_o_hasPart v_o_depth.toNatClampNeg (vp_nar .boolean 0)))), ((ad 21), .inl (K 0, 6, .inl (upd f_o_rowLast v_o_depth.toNatClampNeg ((f_o_partLast v_o_depth.toNatClampNeg) ||| (f_o_rowLast v_o_depth.toNatClampNeg))))), ((ad 20), .inl (K 0, 6, .inl (upd f_o_rowFirst v_o_depth.toNatClampNeg ((f_o_rowFirst v_o_depth.toNatClampNeg) ||| (0 : Int32))))), ((ad 25), .inl (K 1, 6, .inl (upd f_o_rowEmpty v_o_depth.toNatClampNeg (vp_nar .boolean 0)))), ((ad 17), .inl (K 0, 24, .inl u1))] := hD
          exact hret ((upd f_o_hasPart v_o_depth.toNatClampNeg (vp_nar .boolean 0)), (upd f_o_rowLast v_o_depth.toNatClampNeg ((f_o_partLast v_o_depth.toNatClampNeg) ||| (f_o_rowLast v_o_depth.toNatClampNeg))), u1, (upd f_o_rowFirst v_o_depth.toNatClampNeg ((f_o_rowFirst v_o_depth.toNatClampNeg) ||| (0 : Int32))), (upd f_o_rowEmpty v_o_depth.toNatClampNeg (vp_nar .boolean 0))) _ _ _ _ h (hP.sub [0, 1, 4, 2, 3] rfl) (hD.sub [0, 1, 4, 2, 3] (by decide) rfl) hS d_M_settle_164
        · replace h := h.2 hc
          refine lv_aload_n hx hb d_M_settle_136 rfl (lv_at hl 0 rfl) ?_
          refine va_get (ci := 12) (v := .ref (ad 26)) hx hb htg in_M hown hK (gR hR rN hS) 0 rfl rfl 26 (by decide) (htg _ m_636) (fun _ h9 => h9) rfl d_M_settle_137 ?_
          refine lv_aload_n hx hb d_M_settle_140 rfl (lv_at hl 0 rfl) ?_
          refine va_get (ci := 12) (v := .int v_o_depth) hx hb htg in_M hown hK (gR hR rN hS) 0 rfl rfl 14 (by decide) (htg _ m_624) (fun _ h9 => h9) rfl d_M_settle_141 ?_
          obtain ⟨hin, h⟩ := h
          refine va_zald hx hb hK (gR hR rN hS) 3 1 rfl rfl hin d_M_settle_144 ?_
          refine lv_if_eq (tgt := 152) hx hb d_M_settle_145 (by decide) (fun hc => ?_) (fun hc => ?_)
          · replace h := h.1 hc
            refine lv_iconst (v := 0) hx hb d_M_settle_152 (by decide) ?_
            obtain ⟨hin, h⟩ := h
            refine va_zast hx hb hK hP hD hS 3 1 rfl rfl hin d_M_settle_153 (fun H locs hP hD hS => ?_)
            have hP : va_P G vwCl [((ad 27), .inl (K 1, 6, .inl f_o_hasPart)), ((ad 21), .inl (K 0, 6, .inl (upd f_o_rowLast v_o_depth.toNatClampNeg ((f_o_partLast v_o_depth.toNatClampNeg) ||| (f_o_rowLast v_o_depth.toNatClampNeg))))), ((ad 20), .inl (K 0, 6, .inl (upd f_o_rowFirst v_o_depth.toNatClampNeg ((f_o_rowFirst v_o_depth.toNatClampNeg) ||| (0 : Int32))))), ((ad 25), .inl (K 1, 6, .inl (upd f_o_rowEmpty v_o_depth.toNatClampNeg (vp_nar .boolean 0)))), ((ad 17), .inl (K 0, 24, .inl u1))] H := hP
            have hD : va_D A [((ad 27), .inl (K 1, 6, .inl f_o_hasPart)), ((ad 21), .inl (K 0, 6, .inl (upd f_o_rowLast v_o_depth.toNatClampNeg ((f_o_partLast v_o_depth.toNatClampNeg) ||| (f_o_rowLast v_o_depth.toNatClampNeg))))), ((ad 20), .inl (K 0, 6, .inl (upd f_o_rowFirst v_o_depth.toNatClampNeg ((f_o_rowFirst v_o_depth.toNatClampNeg) ||| (0 : Int32))))), ((ad 25), .inl (K 1, 6, .inl (upd f_o_rowEmpty v_o_depth.toNatClampNeg (vp_nar .boolean 0)))), ((ad 17), .inl (K 0, 24, .inl u1))] := hD
            refine lv_aload_n hx hb d_M_settle_154 rfl (lv_at hl 0 rfl) ?_
            refine va_get (ci := 12) (v := .ref (ad 27)) hx hb htg in_M hown hK (gR hR rN hS) 0 rfl rfl 27 (by decide) (htg _ m_637) (fun _ h9 => h9) rfl d_M_settle_155 ?_
            refine lv_aload_n hx hb d_M_settle_158 rfl (lv_at hl 0 rfl) ?_
            refine va_get (ci := 12) (v := .int v_o_depth) hx hb htg in_M hown hK (gR hR rN hS) 0 rfl rfl 14 (by decide) (htg _ m_624) (fun _ h9 => h9) rfl d_M_settle_159 ?_
            refine lv_iconst (v := 0) hx hb d_M_settle_162 (by decide) ?_
            obtain ⟨hin, h⟩ := h
            refine va_zast hx hb hK hP hD hS 0 1 rfl rfl hin d_M_settle_163 (fun H locs hP hD hS => ?_)
            have hP : va_P G vwCl [((ad 27), .inl (K 1, 6, .inl (upd f_o_hasPart v_o_depth.toNatClampNeg (vp_nar .boolean 0)))), ((ad 21), .inl (K 0, 6, .inl (upd f_o_rowLast v_o_depth.toNatClampNeg ((f_o_partLast v_o_depth.toNatClampNeg) ||| (f_o_rowLast v_o_depth.toNatClampNeg))))), ((ad 20), .inl (K 0, 6, .inl (upd f_o_rowFirst v_o_depth.toNatClampNeg ((f_o_rowFirst v_o_depth.toNatClampNeg) ||| (0 : Int32))))), ((ad 25), .inl (K 1, 6, .inl (upd f_o_rowEmpty v_o_depth.toNatClampNeg (vp_nar .boolean 0)))), ((ad 17), .inl (K 0, 24, .inl u1))] H := hP
            have hD : va_D A [((ad 27), .inl (K 1, 6, .inl (upd f_o_hasPart v_o_depth.toNatClampNeg (vp_nar .boolean 0)))), ((ad 21), .inl (K 0, 6, .inl (upd f_o_rowLast v_o_depth.toNatClampNeg ((f_o_partLast v_o_depth.toNatClampNeg) ||| (f_o_rowLast v_o_depth.toNatClampNeg))))), ((ad 20), .inl (K 0, 6, .inl (upd f_o_rowFirst v_o_depth.toNatClampNeg ((f_o_rowFirst v_o_depth.toNatClampNeg) ||| (0 : Int32))))), ((ad 25), .inl (K 1, 6, .inl (upd f_o_rowEmpty v_o_depth.toNatClampNeg (vp_nar .boolean 0)))), ((ad 17), .inl (K 0, 24, .inl u1))] := hD
            exact hret ((upd f_o_hasPart v_o_depth.toNatClampNeg (vp_nar .boolean 0)), (upd f_o_rowLast v_o_depth.toNatClampNeg ((f_o_partLast v_o_depth.toNatClampNeg) ||| (f_o_rowLast v_o_depth.toNatClampNeg))), u1, (upd f_o_rowFirst v_o_depth.toNatClampNeg ((f_o_rowFirst v_o_depth.toNatClampNeg) ||| (0 : Int32))), (upd f_o_rowEmpty v_o_depth.toNatClampNeg (vp_nar .boolean 0))) _ _ _ _ h (hP.sub [0, 1, 4, 2, 3] rfl) (hD.sub [0, 1, 4, 2, 3] (by decide) rfl) hS d_M_settle_164
          · replace h := h.2 hc
            refine lv_iconst (v := 1) hx hb d_M_settle_148 (by decide) ?_
            refine lv_goto (tgt := 153) hx hb d_M_settle_149 (by decide) ?_
            obtain ⟨hin, h⟩ := h
            refine va_zast hx hb hK hP hD hS 3 1 rfl rfl hin d_M_settle_153 (fun H locs hP hD hS => ?_)
            have hP : va_P G vwCl [((ad 27), .inl (K 1, 6, .inl f_o_hasPart)), ((ad 21), .inl (K 0, 6, .inl (upd f_o_rowLast v_o_depth.toNatClampNeg ((f_o_partLast v_o_depth.toNatClampNeg) ||| (f_o_rowLast v_o_depth.toNatClampNeg))))), ((ad 20), .inl (K 0, 6, .inl (upd f_o_rowFirst v_o_depth.toNatClampNeg ((f_o_rowFirst v_o_depth.toNatClampNeg) ||| (0 : Int32))))), ((ad 25), .inl (K 1, 6, .inl (upd f_o_rowEmpty v_o_depth.toNatClampNeg (vp_nar .boolean 1)))), ((ad 17), .inl (K 0, 24, .inl u1))] H := hP
            have hD : va_D A [((ad 27), .inl (K 1, 6, .inl f_o_hasPart)), ((ad 21), .inl (K 0, 6, .inl (upd f_o_rowLast v_o_depth.toNatClampNeg ((f_o_partLast v_o_depth.toNatClampNeg) ||| (f_o_rowLast v_o_depth.toNatClampNeg))))), ((ad 20), .inl (K 0, 6, .inl (upd f_o_rowFirst v_o_depth.toNatClampNeg ((f_o_rowFirst v_o_depth.toNatClampNeg) ||| (0 : Int32))))), ((ad 25), .inl (K 1, 6, .inl (upd f_o_rowEmpty v_o_depth.toNatClampNeg (vp_nar .boolean 1)))), ((ad 17), .inl (K 0, 24, .inl u1))] := hD
            refine lv_aload_n hx hb d_M_settle_154 rfl (lv_at hl 0 rfl) ?_
            refine va_get (ci := 12) (v := .ref (ad 27)) hx hb htg in_M hown hK (gR hR rN hS) 0 rfl rfl 27 (by decide) (htg _ m_637) (fun _ h9 => h9) rfl d_M_settle_155 ?_
            refine lv_aload_n hx hb d_M_settle_158 rfl (lv_at hl 0 rfl) ?_
            refine va_get (ci := 12) (v := .int v_o_depth) hx hb htg in_M hown hK (gR hR rN hS) 0 rfl rfl 14 (by decide) (htg _ m_624) (fun _ h9 => h9) rfl d_M_settle_159 ?_
            refine lv_iconst (v := 0) hx hb d_M_settle_162 (by decide) ?_
            obtain ⟨hin, h⟩ := h
            refine va_zast hx hb hK hP hD hS 0 1 rfl rfl hin d_M_settle_163 (fun H locs hP hD hS => ?_)
            have hP : va_P G vwCl [((ad 27), .inl (K 1, 6, .inl (upd f_o_hasPart v_o_depth.toNatClampNeg (vp_nar .boolean 0)))), ((ad 21), .inl (K 0, 6, .inl (upd f_o_rowLast v_o_depth.toNatClampNeg ((f_o_partLast v_o_depth.toNatClampNeg) ||| (f_o_rowLast v_o_depth.toNatClampNeg))))), ((ad 20), .inl (K 0, 6, .inl (upd f_o_rowFirst v_o_depth.toNatClampNeg ((f_o_rowFirst v_o_depth.toNatClampNeg) ||| (0 : Int32))))), ((ad 25), .inl (K 1, 6, .inl (upd f_o_rowEmpty v_o_depth.toNatClampNeg (vp_nar .boolean 1)))), ((ad 17), .inl (K 0, 24, .inl u1))] H := hP
            have hD : va_D A [((ad 27), .inl (K 1, 6, .inl (upd f_o_hasPart v_o_depth.toNatClampNeg (vp_nar .boolean 0)))), ((ad 21), .inl (K 0, 6, .inl (upd f_o_rowLast v_o_depth.toNatClampNeg ((f_o_partLast v_o_depth.toNatClampNeg) ||| (f_o_rowLast v_o_depth.toNatClampNeg))))), ((ad 20), .inl (K 0, 6, .inl (upd f_o_rowFirst v_o_depth.toNatClampNeg ((f_o_rowFirst v_o_depth.toNatClampNeg) ||| (0 : Int32))))), ((ad 25), .inl (K 1, 6, .inl (upd f_o_rowEmpty v_o_depth.toNatClampNeg (vp_nar .boolean 1)))), ((ad 17), .inl (K 0, 24, .inl u1))] := hD
            exact hret ((upd f_o_hasPart v_o_depth.toNatClampNeg (vp_nar .boolean 0)), (upd f_o_rowLast v_o_depth.toNatClampNeg ((f_o_partLast v_o_depth.toNatClampNeg) ||| (f_o_rowLast v_o_depth.toNatClampNeg))), u1, (upd f_o_rowFirst v_o_depth.toNatClampNeg ((f_o_rowFirst v_o_depth.toNatClampNeg) ||| (0 : Int32))), (upd f_o_rowEmpty v_o_depth.toNatClampNeg (vp_nar .boolean 1))) _ _ _ _ h (hP.sub [0, 1, 4, 2, 3] rfl) (hD.sub [0, 1, 4, 2, 3] (by decide) rfl) hS d_M_settle_164
    · replace h := h.2 hc
      refine lv_aload_n hx hb d_M_settle_57 rfl (lv_at hl 0 rfl) ?_
      refine va_get (ci := 12) (v := .ref (ad 22)) hx hb htg in_M hown hK (gR hR rN hS) 0 rfl rfl 22 (by decide) (htg _ m_632) (fun _ h9 => h9) rfl d_M_settle_58 ?_
      refine lv_aload_n hx hb d_M_settle_61 rfl (lv_at hl 0 rfl) ?_
      refine va_get (ci := 12) (v := .int v_o_depth) hx hb htg in_M hown hK (gR hR rN hS) 0 rfl rfl 14 (by decide) (htg _ m_624) (fun _ h9 => h9) rfl d_M_settle_62 ?_
      obtain ⟨hin, h⟩ := h
      refine va_iald hx hb hK (gR hR rN hS) 1 0 rfl rfl hin d_M_settle_65 ?_
      refine lv_goto (tgt := 70) hx hb d_M_settle_66 (by decide) ?_
      refine lv_ior hx hb d_M_settle_70 ?_
      obtain ⟨hin, h⟩ := h
      refine va_iast hx hb hK hP hD hS 2 0 rfl rfl hin d_M_settle_71 (fun H locs hP hD hS => ?_)
      have hP : va_P G vwCl [((ad 27), .inl (K 1, 6, .inl f_o_hasPart)), ((ad 21), .inl (K 0, 6, .inl f_o_rowLast)), ((ad 20), .inl (K 0, 6, .inl (upd f_o_rowFirst v_o_depth.toNatClampNeg ((f_o_rowFirst v_o_depth.toNatClampNeg) ||| (f_o_partFirst v_o_depth.toNatClampNeg))))), ((ad 25), .inl (K 1, 6, .inl f_o_rowEmpty)), ((ad 17), .inl (K 0, 24, .inl u1))] H := hP
      have hD : va_D A [((ad 27), .inl (K 1, 6, .inl f_o_hasPart)), ((ad 21), .inl (K 0, 6, .inl f_o_rowLast)), ((ad 20), .inl (K 0, 6, .inl (upd f_o_rowFirst v_o_depth.toNatClampNeg ((f_o_rowFirst v_o_depth.toNatClampNeg) ||| (f_o_partFirst v_o_depth.toNatClampNeg))))), ((ad 25), .inl (K 1, 6, .inl f_o_rowEmpty)), ((ad 17), .inl (K 0, 24, .inl u1))] := hD
      refine lv_aload_n hx hb d_M_settle_72 rfl (lv_at hl 0 rfl) ?_
      refine va_get (ci := 12) (v := .ref (ad 21)) hx hb htg in_M hown hK (gR hR rN hS) 0 rfl rfl 21 (by decide) (htg _ m_631) (fun _ h9 => h9) rfl d_M_settle_73 ?_
      refine lv_aload_n hx hb d_M_settle_76 rfl (lv_at hl 0 rfl) ?_
      refine va_get (ci := 12) (v := .int v_o_depth) hx hb htg in_M hown hK (gR hR rN hS) 0 rfl rfl 14 (by decide) (htg _ m_624) (fun _ h9 => h9) rfl d_M_settle_77 ?_
      refine lv_aload_n hx hb d_M_settle_80 rfl (lv_at hl 0 rfl) ?_
      refine va_get (ci := 12) (v := .ref (ad 23)) hx hb htg in_M hown hK (gR hR rN hS) 0 rfl rfl 23 (by decide) (htg _ m_633) (fun _ h9 => h9) rfl d_M_settle_81 ?_
      refine lv_aload_n hx hb d_M_settle_84 rfl (lv_at hl 0 rfl) ?_
      refine va_get (ci := 12) (v := .int v_o_depth) hx hb htg in_M hown hK (gR hR rN hS) 0 rfl rfl 14 (by decide) (htg _ m_624) (fun _ h9 => h9) rfl d_M_settle_85 ?_
      obtain ⟨hin, h⟩ := h
      refine va_iald hx hb hK (gR hR rN hS) 2 0 rfl rfl hin d_M_settle_88 ?_
      refine lv_aload_n hx hb d_M_settle_89 rfl (lv_at hl 0 rfl) ?_
      refine va_get (ci := 12) (v := .ref (ad 26)) hx hb htg in_M hown hK (gR hR rN hS) 0 rfl rfl 26 (by decide) (htg _ m_636) (fun _ h9 => h9) rfl d_M_settle_90 ?_
      refine lv_aload_n hx hb d_M_settle_93 rfl (lv_at hl 0 rfl) ?_
      refine va_get (ci := 12) (v := .int v_o_depth) hx hb htg in_M hown hK (gR hR rN hS) 0 rfl rfl 14 (by decide) (htg _ m_624) (fun _ h9 => h9) rfl d_M_settle_94 ?_
      obtain ⟨hin, h⟩ := h
      refine va_zald hx hb hK (gR hR rN hS) 3 1 rfl rfl hin d_M_settle_97 ?_
      refine lv_if_eq (tgt := 113) hx hb d_M_settle_98 (by decide) (fun hc => ?_) (fun hc => ?_)
      · replace h := h.1 hc
        refine lv_iconst (v := 0) hx hb d_M_settle_113 (by decide) ?_
        refine lv_ior hx hb d_M_settle_114 ?_
        obtain ⟨hin, h⟩ := h
        refine va_iast hx hb hK hP hD hS 1 0 rfl rfl hin d_M_settle_115 (fun H locs hP hD hS => ?_)
        have hP : va_P G vwCl [((ad 27), .inl (K 1, 6, .inl f_o_hasPart)), ((ad 21), .inl (K 0, 6, .inl (upd f_o_rowLast v_o_depth.toNatClampNeg ((f_o_partLast v_o_depth.toNatClampNeg) ||| (0 : Int32))))), ((ad 20), .inl (K 0, 6, .inl (upd f_o_rowFirst v_o_depth.toNatClampNeg ((f_o_rowFirst v_o_depth.toNatClampNeg) ||| (f_o_partFirst v_o_depth.toNatClampNeg))))), ((ad 25), .inl (K 1, 6, .inl f_o_rowEmpty)), ((ad 17), .inl (K 0, 24, .inl u1))] H := hP
        have hD : va_D A [((ad 27), .inl (K 1, 6, .inl f_o_hasPart)), ((ad 21), .inl (K 0, 6, .inl (upd f_o_rowLast v_o_depth.toNatClampNeg ((f_o_partLast v_o_depth.toNatClampNeg) ||| (0 : Int32))))), ((ad 20), .inl (K 0, 6, .inl (upd f_o_rowFirst v_o_depth.toNatClampNeg ((f_o_rowFirst v_o_depth.toNatClampNeg) ||| (f_o_partFirst v_o_depth.toNatClampNeg))))), ((ad 25), .inl (K 1, 6, .inl f_o_rowEmpty)), ((ad 17), .inl (K 0, 24, .inl u1))] := hD
        refine lv_aload_n hx hb d_M_settle_116 rfl (lv_at hl 0 rfl) ?_
        refine va_get (ci := 12) (v := .ref (ad 25)) hx hb htg in_M hown hK (gR hR rN hS) 0 rfl rfl 25 (by decide) (htg _ m_635) (fun _ h9 => h9) rfl d_M_settle_117 ?_
        refine lv_aload_n hx hb d_M_settle_120 rfl (lv_at hl 0 rfl) ?_
        refine va_get (ci := 12) (v := .int v_o_depth) hx hb htg in_M hown hK (gR hR rN hS) 0 rfl rfl 14 (by decide) (htg _ m_624) (fun _ h9 => h9) rfl d_M_settle_121 ?_
        refine lv_aload_n hx hb d_M_settle_124 rfl (lv_at hl 0 rfl) ?_
        refine va_get (ci := 12) (v := .ref (ad 25)) hx hb htg in_M hown hK (gR hR rN hS) 0 rfl rfl 25 (by decide) (htg _ m_635) (fun _ h9 => h9) rfl d_M_settle_125 ?_
        refine lv_aload_n hx hb d_M_settle_128 rfl (lv_at hl 0 rfl) ?_
        refine va_get (ci := 12) (v := .int v_o_depth) hx hb htg in_M hown hK (gR hR rN hS) 0 rfl rfl 14 (by decide) (htg _ m_624) (fun _ h9 => h9) rfl d_M_settle_129 ?_
        obtain ⟨hin, h⟩ := h
        refine va_zald hx hb hK hP 3 1 rfl rfl hin d_M_settle_132 ?_
        refine lv_if_eq (tgt := 152) hx hb d_M_settle_133 (by decide) (fun hc => ?_) (fun hc => ?_)
        · replace h := h.1 hc
          refine lv_iconst (v := 0) hx hb d_M_settle_152 (by decide) ?_
          obtain ⟨hin, h⟩ := h
          refine va_zast hx hb hK hP hD hS 3 1 rfl rfl hin d_M_settle_153 (fun H locs hP hD hS => ?_)
          have hP : va_P G vwCl [((ad 27), .inl (K 1, 6, .inl f_o_hasPart)), ((ad 21), .inl (K 0, 6, .inl (upd f_o_rowLast v_o_depth.toNatClampNeg ((f_o_partLast v_o_depth.toNatClampNeg) ||| (0 : Int32))))), ((ad 20), .inl (K 0, 6, .inl (upd f_o_rowFirst v_o_depth.toNatClampNeg ((f_o_rowFirst v_o_depth.toNatClampNeg) ||| (f_o_partFirst v_o_depth.toNatClampNeg))))), ((ad 25), .inl (K 1, 6, .inl (upd f_o_rowEmpty v_o_depth.toNatClampNeg (vp_nar .boolean 0)))), ((ad 17), .inl (K 0, 24, .inl u1))] H := hP
          have hD : va_D A [((ad 27), .inl (K 1, 6, .inl f_o_hasPart)), ((ad 21), .inl (K 0, 6, .inl (upd f_o_rowLast v_o_depth.toNatClampNeg ((f_o_partLast v_o_depth.toNatClampNeg) ||| (0 : Int32))))), ((ad 20), .inl (K 0, 6, .inl (upd f_o_rowFirst v_o_depth.toNatClampNeg ((f_o_rowFirst v_o_depth.toNatClampNeg) ||| (f_o_partFirst v_o_depth.toNatClampNeg))))), ((ad 25), .inl (K 1, 6, .inl (upd f_o_rowEmpty v_o_depth.toNatClampNeg (vp_nar .boolean 0)))), ((ad 17), .inl (K 0, 24, .inl u1))] := hD
          refine lv_aload_n hx hb d_M_settle_154 rfl (lv_at hl 0 rfl) ?_
          refine va_get (ci := 12) (v := .ref (ad 27)) hx hb htg in_M hown hK (gR hR rN hS) 0 rfl rfl 27 (by decide) (htg _ m_637) (fun _ h9 => h9) rfl d_M_settle_155 ?_
          refine lv_aload_n hx hb d_M_settle_158 rfl (lv_at hl 0 rfl) ?_
          refine va_get (ci := 12) (v := .int v_o_depth) hx hb htg in_M hown hK (gR hR rN hS) 0 rfl rfl 14 (by decide) (htg _ m_624) (fun _ h9 => h9) rfl d_M_settle_159 ?_
          refine lv_iconst (v := 0) hx hb d_M_settle_162 (by decide) ?_
          obtain ⟨hin, h⟩ := h
          refine va_zast hx hb hK hP hD hS 0 1 rfl rfl hin d_M_settle_163 (fun H locs hP hD hS => ?_)
          have hP : va_P G vwCl [((ad 27), .inl (K 1, 6, .inl (upd f_o_hasPart v_o_depth.toNatClampNeg (vp_nar .boolean 0)))), ((ad 21), .inl (K 0, 6, .inl (upd f_o_rowLast v_o_depth.toNatClampNeg ((f_o_partLast v_o_depth.toNatClampNeg) ||| (0 : Int32))))), ((ad 20), .inl (K 0, 6, .inl (upd f_o_rowFirst v_o_depth.toNatClampNeg ((f_o_rowFirst v_o_depth.toNatClampNeg) ||| (f_o_partFirst v_o_depth.toNatClampNeg))))), ((ad 25), .inl (K 1, 6, .inl (upd f_o_rowEmpty v_o_depth.toNatClampNeg (vp_nar .boolean 0)))), ((ad 17), .inl (K 0, 24, .inl u1))] H := hP
          have hD : va_D A [((ad 27), .inl (K 1, 6, .inl (upd f_o_hasPart v_o_depth.toNatClampNeg (vp_nar .boolean 0)))), ((ad 21), .inl (K 0, 6, .inl (upd f_o_rowLast v_o_depth.toNatClampNeg ((f_o_partLast v_o_depth.toNatClampNeg) ||| (0 : Int32))))), ((ad 20), .inl (K 0, 6, .inl (upd f_o_rowFirst v_o_depth.toNatClampNeg ((f_o_rowFirst v_o_depth.toNatClampNeg) ||| (f_o_partFirst v_o_depth.toNatClampNeg))))), ((ad 25), .inl (K 1, 6, .inl (upd f_o_rowEmpty v_o_depth.toNatClampNeg (vp_nar .boolean 0)))), ((ad 17), .inl (K 0, 24, .inl u1))] := hD
          exact hret ((upd f_o_hasPart v_o_depth.toNatClampNeg (vp_nar .boolean 0)), (upd f_o_rowLast v_o_depth.toNatClampNeg ((f_o_partLast v_o_depth.toNatClampNeg) ||| (0 : Int32))), u1, (upd f_o_rowFirst v_o_depth.toNatClampNeg ((f_o_rowFirst v_o_depth.toNatClampNeg) ||| (f_o_partFirst v_o_depth.toNatClampNeg))), (upd f_o_rowEmpty v_o_depth.toNatClampNeg (vp_nar .boolean 0))) _ _ _ _ h (hP.sub [0, 1, 4, 2, 3] rfl) (hD.sub [0, 1, 4, 2, 3] (by decide) rfl) hS d_M_settle_164
        · replace h := h.2 hc
          refine lv_aload_n hx hb d_M_settle_136 rfl (lv_at hl 0 rfl) ?_
          refine va_get (ci := 12) (v := .ref (ad 26)) hx hb htg in_M hown hK (gR hR rN hS) 0 rfl rfl 26 (by decide) (htg _ m_636) (fun _ h9 => h9) rfl d_M_settle_137 ?_
          refine lv_aload_n hx hb d_M_settle_140 rfl (lv_at hl 0 rfl) ?_
          refine va_get (ci := 12) (v := .int v_o_depth) hx hb htg in_M hown hK (gR hR rN hS) 0 rfl rfl 14 (by decide) (htg _ m_624) (fun _ h9 => h9) rfl d_M_settle_141 ?_
          obtain ⟨hin, h⟩ := h
          refine va_zald hx hb hK (gR hR rN hS) 3 1 rfl rfl hin d_M_settle_144 ?_
          refine lv_if_eq (tgt := 152) hx hb d_M_settle_145 (by decide) (fun hc => ?_) (fun hc => ?_)
          · replace h := h.1 hc
            refine lv_iconst (v := 0) hx hb d_M_settle_152 (by decide) ?_
            obtain ⟨hin, h⟩ := h
            refine va_zast hx hb hK hP hD hS 3 1 rfl rfl hin d_M_settle_153 (fun H locs hP hD hS => ?_)
            have hP : va_P G vwCl [((ad 27), .inl (K 1, 6, .inl f_o_hasPart)), ((ad 21), .inl (K 0, 6, .inl (upd f_o_rowLast v_o_depth.toNatClampNeg ((f_o_partLast v_o_depth.toNatClampNeg) ||| (0 : Int32))))), ((ad 20), .inl (K 0, 6, .inl (upd f_o_rowFirst v_o_depth.toNatClampNeg ((f_o_rowFirst v_o_depth.toNatClampNeg) ||| (f_o_partFirst v_o_depth.toNatClampNeg))))), ((ad 25), .inl (K 1, 6, .inl (upd f_o_rowEmpty v_o_depth.toNatClampNeg (vp_nar .boolean 0)))), ((ad 17), .inl (K 0, 24, .inl u1))] H := hP
            have hD : va_D A [((ad 27), .inl (K 1, 6, .inl f_o_hasPart)), ((ad 21), .inl (K 0, 6, .inl (upd f_o_rowLast v_o_depth.toNatClampNeg ((f_o_partLast v_o_depth.toNatClampNeg) ||| (0 : Int32))))), ((ad 20), .inl (K 0, 6, .inl (upd f_o_rowFirst v_o_depth.toNatClampNeg ((f_o_rowFirst v_o_depth.toNatClampNeg) ||| (f_o_partFirst v_o_depth.toNatClampNeg))))), ((ad 25), .inl (K 1, 6, .inl (upd f_o_rowEmpty v_o_depth.toNatClampNeg (vp_nar .boolean 0)))), ((ad 17), .inl (K 0, 24, .inl u1))] := hD
            refine lv_aload_n hx hb d_M_settle_154 rfl (lv_at hl 0 rfl) ?_
            refine va_get (ci := 12) (v := .ref (ad 27)) hx hb htg in_M hown hK (gR hR rN hS) 0 rfl rfl 27 (by decide) (htg _ m_637) (fun _ h9 => h9) rfl d_M_settle_155 ?_
            refine lv_aload_n hx hb d_M_settle_158 rfl (lv_at hl 0 rfl) ?_
            refine va_get (ci := 12) (v := .int v_o_depth) hx hb htg in_M hown hK (gR hR rN hS) 0 rfl rfl 14 (by decide) (htg _ m_624) (fun _ h9 => h9) rfl d_M_settle_159 ?_
            refine lv_iconst (v := 0) hx hb d_M_settle_162 (by decide) ?_
            obtain ⟨hin, h⟩ := h
            refine va_zast hx hb hK hP hD hS 0 1 rfl rfl hin d_M_settle_163 (fun H locs hP hD hS => ?_)
            have hP : va_P G vwCl [((ad 27), .inl (K 1, 6, .inl (upd f_o_hasPart v_o_depth.toNatClampNeg (vp_nar .boolean 0)))), ((ad 21), .inl (K 0, 6, .inl (upd f_o_rowLast v_o_depth.toNatClampNeg ((f_o_partLast v_o_depth.toNatClampNeg) ||| (0 : Int32))))), ((ad 20), .inl (K 0, 6, .inl (upd f_o_rowFirst v_o_depth.toNatClampNeg ((f_o_rowFirst v_o_depth.toNatClampNeg) ||| (f_o_partFirst v_o_depth.toNatClampNeg))))), ((ad 25), .inl (K 1, 6, .inl (upd f_o_rowEmpty v_o_depth.toNatClampNeg (vp_nar .boolean 0)))), ((ad 17), .inl (K 0, 24, .inl u1))] H := hP
            have hD : va_D A [((ad 27), .inl (K 1, 6, .inl (upd f_o_hasPart v_o_depth.toNatClampNeg (vp_nar .boolean 0)))), ((ad 21), .inl (K 0, 6, .inl (upd f_o_rowLast v_o_depth.toNatClampNeg ((f_o_partLast v_o_depth.toNatClampNeg) ||| (0 : Int32))))), ((ad 20), .inl (K 0, 6, .inl (upd f_o_rowFirst v_o_depth.toNatClampNeg ((f_o_rowFirst v_o_depth.toNatClampNeg) ||| (f_o_partFirst v_o_depth.toNatClampNeg))))), ((ad 25), .inl (K 1, 6, .inl (upd f_o_rowEmpty v_o_depth.toNatClampNeg (vp_nar .boolean 0)))), ((ad 17), .inl (K 0, 24, .inl u1))] := hD
            exact hret ((upd f_o_hasPart v_o_depth.toNatClampNeg (vp_nar .boolean 0)), (upd f_o_rowLast v_o_depth.toNatClampNeg ((f_o_partLast v_o_depth.toNatClampNeg) ||| (0 : Int32))), u1, (upd f_o_rowFirst v_o_depth.toNatClampNeg ((f_o_rowFirst v_o_depth.toNatClampNeg) ||| (f_o_partFirst v_o_depth.toNatClampNeg))), (upd f_o_rowEmpty v_o_depth.toNatClampNeg (vp_nar .boolean 0))) _ _ _ _ h (hP.sub [0, 1, 4, 2, 3] rfl) (hD.sub [0, 1, 4, 2, 3] (by decide) rfl) hS d_M_settle_164
          · replace h := h.2 hc
            refine lv_iconst (v := 1) hx hb d_M_settle_148 (by decide) ?_
            refine lv_goto (tgt := 153) hx hb d_M_settle_149 (by decide) ?_
            obtain ⟨hin, h⟩ := h
            refine va_zast hx hb hK hP hD hS 3 1 rfl rfl hin d_M_settle_153 (fun H locs hP hD hS => ?_)
            have hP : va_P G vwCl [((ad 27), .inl (K 1, 6, .inl f_o_hasPart)), ((ad 21), .inl (K 0, 6, .inl (upd f_o_rowLast v_o_depth.toNatClampNeg ((f_o_partLast v_o_depth.toNatClampNeg) ||| (0 : Int32))))), ((ad 20), .inl (K 0, 6, .inl (upd f_o_rowFirst v_o_depth.toNatClampNeg ((f_o_rowFirst v_o_depth.toNatClampNeg) ||| (f_o_partFirst v_o_depth.toNatClampNeg))))), ((ad 25), .inl (K 1, 6, .inl (upd f_o_rowEmpty v_o_depth.toNatClampNeg (vp_nar .boolean 1)))), ((ad 17), .inl (K 0, 24, .inl u1))] H := hP
            have hD : va_D A [((ad 27), .inl (K 1, 6, .inl f_o_hasPart)), ((ad 21), .inl (K 0, 6, .inl (upd f_o_rowLast v_o_depth.toNatClampNeg ((f_o_partLast v_o_depth.toNatClampNeg) ||| (0 : Int32))))), ((ad 20), .inl (K 0, 6, .inl (upd f_o_rowFirst v_o_depth.toNatClampNeg ((f_o_rowFirst v_o_depth.toNatClampNeg) ||| (f_o_partFirst v_o_depth.toNatClampNeg))))), ((ad 25), .inl (K 1, 6, .inl (upd f_o_rowEmpty v_o_depth.toNatClampNeg (vp_nar .boolean 1)))), ((ad 17), .inl (K 0, 24, .inl u1))] := hD
            refine lv_aload_n hx hb d_M_settle_154 rfl (lv_at hl 0 rfl) ?_
            refine va_get (ci := 12) (v := .ref (ad 27)) hx hb htg in_M hown hK (gR hR rN hS) 0 rfl rfl 27 (by decide) (htg _ m_637) (fun _ h9 => h9) rfl d_M_settle_155 ?_
            refine lv_aload_n hx hb d_M_settle_158 rfl (lv_at hl 0 rfl) ?_
            refine va_get (ci := 12) (v := .int v_o_depth) hx hb htg in_M hown hK (gR hR rN hS) 0 rfl rfl 14 (by decide) (htg _ m_624) (fun _ h9 => h9) rfl d_M_settle_159 ?_
            refine lv_iconst (v := 0) hx hb d_M_settle_162 (by decide) ?_
            obtain ⟨hin, h⟩ := h
            refine va_zast hx hb hK hP hD hS 0 1 rfl rfl hin d_M_settle_163 (fun H locs hP hD hS => ?_)
            have hP : va_P G vwCl [((ad 27), .inl (K 1, 6, .inl (upd f_o_hasPart v_o_depth.toNatClampNeg (vp_nar .boolean 0)))), ((ad 21), .inl (K 0, 6, .inl (upd f_o_rowLast v_o_depth.toNatClampNeg ((f_o_partLast v_o_depth.toNatClampNeg) ||| (0 : Int32))))), ((ad 20), .inl (K 0, 6, .inl (upd f_o_rowFirst v_o_depth.toNatClampNeg ((f_o_rowFirst v_o_depth.toNatClampNeg) ||| (f_o_partFirst v_o_depth.toNatClampNeg))))), ((ad 25), .inl (K 1, 6, .inl (upd f_o_rowEmpty v_o_depth.toNatClampNeg (vp_nar .boolean 1)))), ((ad 17), .inl (K 0, 24, .inl u1))] H := hP
            have hD : va_D A [((ad 27), .inl (K 1, 6, .inl (upd f_o_hasPart v_o_depth.toNatClampNeg (vp_nar .boolean 0)))), ((ad 21), .inl (K 0, 6, .inl (upd f_o_rowLast v_o_depth.toNatClampNeg ((f_o_partLast v_o_depth.toNatClampNeg) ||| (0 : Int32))))), ((ad 20), .inl (K 0, 6, .inl (upd f_o_rowFirst v_o_depth.toNatClampNeg ((f_o_rowFirst v_o_depth.toNatClampNeg) ||| (f_o_partFirst v_o_depth.toNatClampNeg))))), ((ad 25), .inl (K 1, 6, .inl (upd f_o_rowEmpty v_o_depth.toNatClampNeg (vp_nar .boolean 1)))), ((ad 17), .inl (K 0, 24, .inl u1))] := hD
            exact hret ((upd f_o_hasPart v_o_depth.toNatClampNeg (vp_nar .boolean 0)), (upd f_o_rowLast v_o_depth.toNatClampNeg ((f_o_partLast v_o_depth.toNatClampNeg) ||| (0 : Int32))), u1, (upd f_o_rowFirst v_o_depth.toNatClampNeg ((f_o_rowFirst v_o_depth.toNatClampNeg) ||| (f_o_partFirst v_o_depth.toNatClampNeg))), (upd f_o_rowEmpty v_o_depth.toNatClampNeg (vp_nar .boolean 1))) _ _ _ _ h (hP.sub [0, 1, 4, 2, 3] rfl) (hD.sub [0, 1, 4, 2, 3] (by decide) rfl) hS d_M_settle_164
      · replace h := h.2 hc
        refine lv_aload_n hx hb d_M_settle_101 rfl (lv_at hl 0 rfl) ?_
        refine va_get (ci := 12) (v := .ref (ad 21)) hx hb htg in_M hown hK (gR hR rN hS) 0 rfl rfl 21 (by decide) (htg _ m_631) (fun _ h9 => h9) rfl d_M_settle_102 ?_
        refine lv_aload_n hx hb d_M_settle_105 rfl (lv_at hl 0 rfl) ?_
        refine va_get (ci := 12) (v := .int v_o_depth) hx hb htg in_M hown hK (gR hR rN hS) 0 rfl rfl 14 (by decide) (htg _ m_624) (fun _ h9 => h9) rfl d_M_settle_106 ?_
        obtain ⟨hin, h⟩ := h
        refine va_iald hx hb hK hP 1 0 rfl rfl hin d_M_settle_109 ?_
        refine lv_goto (tgt := 114) hx hb d_M_settle_110 (by decide) ?_
        refine lv_ior hx hb d_M_settle_114 ?_
        obtain ⟨hin, h⟩ := h
        refine va_iast hx hb hK hP hD hS 1 0 rfl rfl hin d_M_settle_115 (fun H locs hP hD hS => ?_)
        have hP : va_P G vwCl [((ad 27), .inl (K 1, 6, .inl f_o_hasPart)), ((ad 21), .inl (K 0, 6, .inl (upd f_o_rowLast v_o_depth.toNatClampNeg ((f_o_partLast v_o_depth.toNatClampNeg) ||| (f_o_rowLast v_o_depth.toNatClampNeg))))), ((ad 20), .inl (K 0, 6, .inl (upd f_o_rowFirst v_o_depth.toNatClampNeg ((f_o_rowFirst v_o_depth.toNatClampNeg) ||| (f_o_partFirst v_o_depth.toNatClampNeg))))), ((ad 25), .inl (K 1, 6, .inl f_o_rowEmpty)), ((ad 17), .inl (K 0, 24, .inl u1))] H := hP
        have hD : va_D A [((ad 27), .inl (K 1, 6, .inl f_o_hasPart)), ((ad 21), .inl (K 0, 6, .inl (upd f_o_rowLast v_o_depth.toNatClampNeg ((f_o_partLast v_o_depth.toNatClampNeg) ||| (f_o_rowLast v_o_depth.toNatClampNeg))))), ((ad 20), .inl (K 0, 6, .inl (upd f_o_rowFirst v_o_depth.toNatClampNeg ((f_o_rowFirst v_o_depth.toNatClampNeg) ||| (f_o_partFirst v_o_depth.toNatClampNeg))))), ((ad 25), .inl (K 1, 6, .inl f_o_rowEmpty)), ((ad 17), .inl (K 0, 24, .inl u1))] := hD
        refine lv_aload_n hx hb d_M_settle_116 rfl (lv_at hl 0 rfl) ?_
        refine va_get (ci := 12) (v := .ref (ad 25)) hx hb htg in_M hown hK (gR hR rN hS) 0 rfl rfl 25 (by decide) (htg _ m_635) (fun _ h9 => h9) rfl d_M_settle_117 ?_
        refine lv_aload_n hx hb d_M_settle_120 rfl (lv_at hl 0 rfl) ?_
        refine va_get (ci := 12) (v := .int v_o_depth) hx hb htg in_M hown hK (gR hR rN hS) 0 rfl rfl 14 (by decide) (htg _ m_624) (fun _ h9 => h9) rfl d_M_settle_121 ?_
        refine lv_aload_n hx hb d_M_settle_124 rfl (lv_at hl 0 rfl) ?_
        refine va_get (ci := 12) (v := .ref (ad 25)) hx hb htg in_M hown hK (gR hR rN hS) 0 rfl rfl 25 (by decide) (htg _ m_635) (fun _ h9 => h9) rfl d_M_settle_125 ?_
        refine lv_aload_n hx hb d_M_settle_128 rfl (lv_at hl 0 rfl) ?_
        refine va_get (ci := 12) (v := .int v_o_depth) hx hb htg in_M hown hK (gR hR rN hS) 0 rfl rfl 14 (by decide) (htg _ m_624) (fun _ h9 => h9) rfl d_M_settle_129 ?_
        obtain ⟨hin, h⟩ := h
        refine va_zald hx hb hK hP 3 1 rfl rfl hin d_M_settle_132 ?_
        refine lv_if_eq (tgt := 152) hx hb d_M_settle_133 (by decide) (fun hc => ?_) (fun hc => ?_)
        · replace h := h.1 hc
          refine lv_iconst (v := 0) hx hb d_M_settle_152 (by decide) ?_
          obtain ⟨hin, h⟩ := h
          refine va_zast hx hb hK hP hD hS 3 1 rfl rfl hin d_M_settle_153 (fun H locs hP hD hS => ?_)
          have hP : va_P G vwCl [((ad 27), .inl (K 1, 6, .inl f_o_hasPart)), ((ad 21), .inl (K 0, 6, .inl (upd f_o_rowLast v_o_depth.toNatClampNeg ((f_o_partLast v_o_depth.toNatClampNeg) ||| (f_o_rowLast v_o_depth.toNatClampNeg))))), ((ad 20), .inl (K 0, 6, .inl (upd f_o_rowFirst v_o_depth.toNatClampNeg ((f_o_rowFirst v_o_depth.toNatClampNeg) ||| (f_o_partFirst v_o_depth.toNatClampNeg))))), ((ad 25), .inl (K 1, 6, .inl (upd f_o_rowEmpty v_o_depth.toNatClampNeg (vp_nar .boolean 0)))), ((ad 17), .inl (K 0, 24, .inl u1))] H := hP
          have hD : va_D A [((ad 27), .inl (K 1, 6, .inl f_o_hasPart)), ((ad 21), .inl (K 0, 6, .inl (upd f_o_rowLast v_o_depth.toNatClampNeg ((f_o_partLast v_o_depth.toNatClampNeg) ||| (f_o_rowLast v_o_depth.toNatClampNeg))))), ((ad 20), .inl (K 0, 6, .inl (upd f_o_rowFirst v_o_depth.toNatClampNeg ((f_o_rowFirst v_o_depth.toNatClampNeg) ||| (f_o_partFirst v_o_depth.toNatClampNeg))))), ((ad 25), .inl (K 1, 6, .inl (upd f_o_rowEmpty v_o_depth.toNatClampNeg (vp_nar .boolean 0)))), ((ad 17), .inl (K 0, 24, .inl u1))] := hD
          refine lv_aload_n hx hb d_M_settle_154 rfl (lv_at hl 0 rfl) ?_
          refine va_get (ci := 12) (v := .ref (ad 27)) hx hb htg in_M hown hK (gR hR rN hS) 0 rfl rfl 27 (by decide) (htg _ m_637) (fun _ h9 => h9) rfl d_M_settle_155 ?_
          refine lv_aload_n hx hb d_M_settle_158 rfl (lv_at hl 0 rfl) ?_
          refine va_get (ci := 12) (v := .int v_o_depth) hx hb htg in_M hown hK (gR hR rN hS) 0 rfl rfl 14 (by decide) (htg _ m_624) (fun _ h9 => h9) rfl d_M_settle_159 ?_
          refine lv_iconst (v := 0) hx hb d_M_settle_162 (by decide) ?_
          obtain ⟨hin, h⟩ := h
          refine va_zast hx hb hK hP hD hS 0 1 rfl rfl hin d_M_settle_163 (fun H locs hP hD hS => ?_)
          have hP : va_P G vwCl [((ad 27), .inl (K 1, 6, .inl (upd f_o_hasPart v_o_depth.toNatClampNeg (vp_nar .boolean 0)))), ((ad 21), .inl (K 0, 6, .inl (upd f_o_rowLast v_o_depth.toNatClampNeg ((f_o_partLast v_o_depth.toNatClampNeg) ||| (f_o_rowLast v_o_depth.toNatClampNeg))))), ((ad 20), .inl (K 0, 6, .inl (upd f_o_rowFirst v_o_depth.toNatClampNeg ((f_o_rowFirst v_o_depth.toNatClampNeg) ||| (f_o_partFirst v_o_depth.toNatClampNeg))))), ((ad 25), .inl (K 1, 6, .inl (upd f_o_rowEmpty v_o_depth.toNatClampNeg (vp_nar .boolean 0)))), ((ad 17), .inl (K 0, 24, .inl u1))] H := hP
          have hD : va_D A [((ad 27), .inl (K 1, 6, .inl (upd f_o_hasPart v_o_depth.toNatClampNeg (vp_nar .boolean 0)))), ((ad 21), .inl (K 0, 6, .inl (upd f_o_rowLast v_o_depth.toNatClampNeg ((f_o_partLast v_o_depth.toNatClampNeg) ||| (f_o_rowLast v_o_depth.toNatClampNeg))))), ((ad 20), .inl (K 0, 6, .inl (upd f_o_rowFirst v_o_depth.toNatClampNeg ((f_o_rowFirst v_o_depth.toNatClampNeg) ||| (f_o_partFirst v_o_depth.toNatClampNeg))))), ((ad 25), .inl (K 1, 6, .inl (upd f_o_rowEmpty v_o_depth.toNatClampNeg (vp_nar .boolean 0)))), ((ad 17), .inl (K 0, 24, .inl u1))] := hD
          exact hret ((upd f_o_hasPart v_o_depth.toNatClampNeg (vp_nar .boolean 0)), (upd f_o_rowLast v_o_depth.toNatClampNeg ((f_o_partLast v_o_depth.toNatClampNeg) ||| (f_o_rowLast v_o_depth.toNatClampNeg))), u1, (upd f_o_rowFirst v_o_depth.toNatClampNeg ((f_o_rowFirst v_o_depth.toNatClampNeg) ||| (f_o_partFirst v_o_depth.toNatClampNeg))), (upd f_o_rowEmpty v_o_depth.toNatClampNeg (vp_nar .boolean 0))) _ _ _ _ h (hP.sub [0, 1, 4, 2, 3] rfl) (hD.sub [0, 1, 4, 2, 3] (by decide) rfl) hS d_M_settle_164
        · replace h := h.2 hc
          refine lv_aload_n hx hb d_M_settle_136 rfl (lv_at hl 0 rfl) ?_
          refine va_get (ci := 12) (v := .ref (ad 26)) hx hb htg in_M hown hK (gR hR rN hS) 0 rfl rfl 26 (by decide) (htg _ m_636) (fun _ h9 => h9) rfl d_M_settle_137 ?_
          refine lv_aload_n hx hb d_M_settle_140 rfl (lv_at hl 0 rfl) ?_
          refine va_get (ci := 12) (v := .int v_o_depth) hx hb htg in_M hown hK (gR hR rN hS) 0 rfl rfl 14 (by decide) (htg _ m_624) (fun _ h9 => h9) rfl d_M_settle_141 ?_
          obtain ⟨hin, h⟩ := h
          refine va_zald hx hb hK (gR hR rN hS) 3 1 rfl rfl hin d_M_settle_144 ?_
          refine lv_if_eq (tgt := 152) hx hb d_M_settle_145 (by decide) (fun hc => ?_) (fun hc => ?_)
          · replace h := h.1 hc
            refine lv_iconst (v := 0) hx hb d_M_settle_152 (by decide) ?_
            obtain ⟨hin, h⟩ := h
            refine va_zast hx hb hK hP hD hS 3 1 rfl rfl hin d_M_settle_153 (fun H locs hP hD hS => ?_)
            have hP : va_P G vwCl [((ad 27), .inl (K 1, 6, .inl f_o_hasPart)), ((ad 21), .inl (K 0, 6, .inl (upd f_o_rowLast v_o_depth.toNatClampNeg ((f_o_partLast v_o_depth.toNatClampNeg) ||| (f_o_rowLast v_o_depth.toNatClampNeg))))), ((ad 20), .inl (K 0, 6, .inl (upd f_o_rowFirst v_o_depth.toNatClampNeg ((f_o_rowFirst v_o_depth.toNatClampNeg) ||| (f_o_partFirst v_o_depth.toNatClampNeg))))), ((ad 25), .inl (K 1, 6, .inl (upd f_o_rowEmpty v_o_depth.toNatClampNeg (vp_nar .boolean 0)))), ((ad 17), .inl (K 0, 24, .inl u1))] H := hP
            have hD : va_D A [((ad 27), .inl (K 1, 6, .inl f_o_hasPart)), ((ad 21), .inl (K 0, 6, .inl (upd f_o_rowLast v_o_depth.toNatClampNeg ((f_o_partLast v_o_depth.toNatClampNeg) ||| (f_o_rowLast v_o_depth.toNatClampNeg))))), ((ad 20), .inl (K 0, 6, .inl (upd f_o_rowFirst v_o_depth.toNatClampNeg ((f_o_rowFirst v_o_depth.toNatClampNeg) ||| (f_o_partFirst v_o_depth.toNatClampNeg))))), ((ad 25), .inl (K 1, 6, .inl (upd f_o_rowEmpty v_o_depth.toNatClampNeg (vp_nar .boolean 0)))), ((ad 17), .inl (K 0, 24, .inl u1))] := hD
            refine lv_aload_n hx hb d_M_settle_154 rfl (lv_at hl 0 rfl) ?_
            refine va_get (ci := 12) (v := .ref (ad 27)) hx hb htg in_M hown hK (gR hR rN hS) 0 rfl rfl 27 (by decide) (htg _ m_637) (fun _ h9 => h9) rfl d_M_settle_155 ?_
            refine lv_aload_n hx hb d_M_settle_158 rfl (lv_at hl 0 rfl) ?_
            refine va_get (ci := 12) (v := .int v_o_depth) hx hb htg in_M hown hK (gR hR rN hS) 0 rfl rfl 14 (by decide) (htg _ m_624) (fun _ h9 => h9) rfl d_M_settle_159 ?_
            refine lv_iconst (v := 0) hx hb d_M_settle_162 (by decide) ?_
            obtain ⟨hin, h⟩ := h
            refine va_zast hx hb hK hP hD hS 0 1 rfl rfl hin d_M_settle_163 (fun H locs hP hD hS => ?_)
            have hP : va_P G vwCl [((ad 27), .inl (K 1, 6, .inl (upd f_o_hasPart v_o_depth.toNatClampNeg (vp_nar .boolean 0)))), ((ad 21), .inl (K 0, 6, .inl (upd f_o_rowLast v_o_depth.toNatClampNeg ((f_o_partLast v_o_depth.toNatClampNeg) ||| (f_o_rowLast v_o_depth.toNatClampNeg))))), ((ad 20), .inl (K 0, 6, .inl (upd f_o_rowFirst v_o_depth.toNatClampNeg ((f_o_rowFirst v_o_depth.toNatClampNeg) ||| (f_o_partFirst v_o_depth.toNatClampNeg))))), ((ad 25), .inl (K 1, 6, .inl (upd f_o_rowEmpty v_o_depth.toNatClampNeg (vp_nar .boolean 0)))), ((ad 17), .inl (K 0, 24, .inl u1))] H := hP
            have hD : va_D A [((ad 27), .inl (K 1, 6, .inl (upd f_o_hasPart v_o_depth.toNatClampNeg (vp_nar .boolean 0)))), ((ad 21), .inl (K 0, 6, .inl (upd f_o_rowLast v_o_depth.toNatClampNeg ((f_o_partLast v_o_depth.toNatClampNeg) ||| (f_o_rowLast v_o_depth.toNatClampNeg))))), ((ad 20), .inl (K 0, 6, .inl (upd f_o_rowFirst v_o_depth.toNatClampNeg ((f_o_rowFirst v_o_depth.toNatClampNeg) ||| (f_o_partFirst v_o_depth.toNatClampNeg))))), ((ad 25), .inl (K 1, 6, .inl (upd f_o_rowEmpty v_o_depth.toNatClampNeg (vp_nar .boolean 0)))), ((ad 17), .inl (K 0, 24, .inl u1))] := hD
            exact hret ((upd f_o_hasPart v_o_depth.toNatClampNeg (vp_nar .boolean 0)), (upd f_o_rowLast v_o_depth.toNatClampNeg ((f_o_partLast v_o_depth.toNatClampNeg) ||| (f_o_rowLast v_o_depth.toNatClampNeg))), u1, (upd f_o_rowFirst v_o_depth.toNatClampNeg ((f_o_rowFirst v_o_depth.toNatClampNeg) ||| (f_o_partFirst v_o_depth.toNatClampNeg))), (upd f_o_rowEmpty v_o_depth.toNatClampNeg (vp_nar .boolean 0))) _ _ _ _ h (hP.sub [0, 1, 4, 2, 3] rfl) (hD.sub [0, 1, 4, 2, 3] (by decide) rfl) hS d_M_settle_164
          · replace h := h.2 hc
            refine lv_iconst (v := 1) hx hb d_M_settle_148 (by decide) ?_
            refine lv_goto (tgt := 153) hx hb d_M_settle_149 (by decide) ?_
            obtain ⟨hin, h⟩ := h
            refine va_zast hx hb hK hP hD hS 3 1 rfl rfl hin d_M_settle_153 (fun H locs hP hD hS => ?_)
            have hP : va_P G vwCl [((ad 27), .inl (K 1, 6, .inl f_o_hasPart)), ((ad 21), .inl (K 0, 6, .inl (upd f_o_rowLast v_o_depth.toNatClampNeg ((f_o_partLast v_o_depth.toNatClampNeg) ||| (f_o_rowLast v_o_depth.toNatClampNeg))))), ((ad 20), .inl (K 0, 6, .inl (upd f_o_rowFirst v_o_depth.toNatClampNeg ((f_o_rowFirst v_o_depth.toNatClampNeg) ||| (f_o_partFirst v_o_depth.toNatClampNeg))))), ((ad 25), .inl (K 1, 6, .inl (upd f_o_rowEmpty v_o_depth.toNatClampNeg (vp_nar .boolean 1)))), ((ad 17), .inl (K 0, 24, .inl u1))] H := hP
            have hD : va_D A [((ad 27), .inl (K 1, 6, .inl f_o_hasPart)), ((ad 21), .inl (K 0, 6, .inl (upd f_o_rowLast v_o_depth.toNatClampNeg ((f_o_partLast v_o_depth.toNatClampNeg) ||| (f_o_rowLast v_o_depth.toNatClampNeg))))), ((ad 20), .inl (K 0, 6, .inl (upd f_o_rowFirst v_o_depth.toNatClampNeg ((f_o_rowFirst v_o_depth.toNatClampNeg) ||| (f_o_partFirst v_o_depth.toNatClampNeg))))), ((ad 25), .inl (K 1, 6, .inl (upd f_o_rowEmpty v_o_depth.toNatClampNeg (vp_nar .boolean 1)))), ((ad 17), .inl (K 0, 24, .inl u1))] := hD
            refine lv_aload_n hx hb d_M_settle_154 rfl (lv_at hl 0 rfl) ?_
            refine va_get (ci := 12) (v := .ref (ad 27)) hx hb htg in_M hown hK (gR hR rN hS) 0 rfl rfl 27 (by decide) (htg _ m_637) (fun _ h9 => h9) rfl d_M_settle_155 ?_
            refine lv_aload_n hx hb d_M_settle_158 rfl (lv_at hl 0 rfl) ?_
            refine va_get (ci := 12) (v := .int v_o_depth) hx hb htg in_M hown hK (gR hR rN hS) 0 rfl rfl 14 (by decide) (htg _ m_624) (fun _ h9 => h9) rfl d_M_settle_159 ?_
            refine lv_iconst (v := 0) hx hb d_M_settle_162 (by decide) ?_
            obtain ⟨hin, h⟩ := h
            refine va_zast hx hb hK hP hD hS 0 1 rfl rfl hin d_M_settle_163 (fun H locs hP hD hS => ?_)
            have hP : va_P G vwCl [((ad 27), .inl (K 1, 6, .inl (upd f_o_hasPart v_o_depth.toNatClampNeg (vp_nar .boolean 0)))), ((ad 21), .inl (K 0, 6, .inl (upd f_o_rowLast v_o_depth.toNatClampNeg ((f_o_partLast v_o_depth.toNatClampNeg) ||| (f_o_rowLast v_o_depth.toNatClampNeg))))), ((ad 20), .inl (K 0, 6, .inl (upd f_o_rowFirst v_o_depth.toNatClampNeg ((f_o_rowFirst v_o_depth.toNatClampNeg) ||| (f_o_partFirst v_o_depth.toNatClampNeg))))), ((ad 25), .inl (K 1, 6, .inl (upd f_o_rowEmpty v_o_depth.toNatClampNeg (vp_nar .boolean 1)))), ((ad 17), .inl (K 0, 24, .inl u1))] H := hP
            have hD : va_D A [((ad 27), .inl (K 1, 6, .inl (upd f_o_hasPart v_o_depth.toNatClampNeg (vp_nar .boolean 0)))), ((ad 21), .inl (K 0, 6, .inl (upd f_o_rowLast v_o_depth.toNatClampNeg ((f_o_partLast v_o_depth.toNatClampNeg) ||| (f_o_rowLast v_o_depth.toNatClampNeg))))), ((ad 20), .inl (K 0, 6, .inl (upd f_o_rowFirst v_o_depth.toNatClampNeg ((f_o_rowFirst v_o_depth.toNatClampNeg) ||| (f_o_partFirst v_o_depth.toNatClampNeg))))), ((ad 25), .inl (K 1, 6, .inl (upd f_o_rowEmpty v_o_depth.toNatClampNeg (vp_nar .boolean 1)))), ((ad 17), .inl (K 0, 24, .inl u1))] := hD
            exact hret ((upd f_o_hasPart v_o_depth.toNatClampNeg (vp_nar .boolean 0)), (upd f_o_rowLast v_o_depth.toNatClampNeg ((f_o_partLast v_o_depth.toNatClampNeg) ||| (f_o_rowLast v_o_depth.toNatClampNeg))), u1, (upd f_o_rowFirst v_o_depth.toNatClampNeg ((f_o_rowFirst v_o_depth.toNatClampNeg) ||| (f_o_partFirst v_o_depth.toNatClampNeg))), (upd f_o_rowEmpty v_o_depth.toNatClampNeg (vp_nar .boolean 1))) _ _ _ _ h (hP.sub [0, 1, 4, 2, 3] rfl) (hD.sub [0, 1, 4, 2, 3] (by decide) rfl) hS d_M_settle_164
  · replace h := h.2 hc
    exact hret (f_o_hasPart, f_o_rowLast, f_o_readBehind, f_o_rowFirst, f_o_rowEmpty) _ _ _ _ h (hP.sub [0, 1, 2, 3, 4] rfl) (hD.sub [0, 1, 2, 3, 4] (by decide) rfl) hS d_M_settle_12
def p_M_endRow (v_o_read : Int32) (v_o_depth : Int32) (f_o_hasPart : (Nat → Int32)) (f_o_rowLast : (Nat → Int32)) (f_o_partFirst : (Nat → Int32)) (f_o_readBehind : (Nat → Int32)) (f_o_rowFirst : (Nat → Int32)) (f_o_rowEmpty : (Nat → Int32)) (f_o_partLast : (Nat → Int32)) (f_o_partEmpty : (Nat → Int32)) (f_o_choiceFirst : (Nat → Int32)) (f_o_choiceLast : (Nat → Int32)) (f_o_choiceEmpty : (Nat → Int32)) (post : (Nat → Int32) → (Nat → Int32) → (Nat → Int32) → (Nat → Int32) → (Nat → Int32) → (Nat → Int32) → (Nat → Int32) → (Nat → Int32) → Prop) : Prop := (p_M_settle v_o_read v_o_depth f_o_hasPart f_o_rowLast f_o_partFirst f_o_readBehind f_o_rowFirst f_o_rowEmpty f_o_partLast f_o_partEmpty (fun u1 u2 u3 u4 u5 => (vp_in v_o_depth 6 ∧ (vp_in v_o_depth 6 ∧ (vp_in v_o_depth 6 ∧ (vp_in v_o_depth 6 ∧ (vp_in v_o_depth 6 ∧ (vp_in v_o_depth 6 ∧ (vp_in v_o_depth 6 ∧ ((¬ (f_o_choiceEmpty v_o_depth.toNatClampNeg) = 0 → (vp_in v_o_depth 6 ∧ (post u1 u2 u3 u4 u5 (upd f_o_choiceFirst v_o_depth.toNatClampNeg ((f_o_choiceFirst v_o_depth.toNatClampNeg) ||| (u4 v_o_depth.toNatClampNeg))) (upd f_o_choiceLast v_o_depth.toNatClampNeg ((f_o_choiceLast v_o_depth.toNatClampNeg) ||| (u2 v_o_depth.toNatClampNeg))) (upd f_o_choiceEmpty v_o_depth.toNatClampNeg (vp_nar .boolean 1))))) ∧ ((f_o_choiceEmpty v_o_depth.toNatClampNeg) = 0 → (vp_in v_o_depth 6 ∧ (((u5 v_o_depth.toNatClampNeg) = 0 → (vp_in v_o_depth 6 ∧ (post u1 u2 u3 u4 u5 (upd f_o_choiceFirst v_o_depth.toNatClampNeg ((f_o_choiceFirst v_o_depth.toNatClampNeg) ||| (u4 v_o_depth.toNatClampNeg))) (upd f_o_choiceLast v_o_depth.toNatClampNeg ((f_o_choiceLast v_o_depth.toNatClampNeg) ||| (u2 v_o_depth.toNatClampNeg))) (upd f_o_choiceEmpty v_o_depth.toNatClampNeg (vp_nar .boolean 0))))) ∧ (¬ (u5 v_o_depth.toNatClampNeg) = 0 → (vp_in v_o_depth 6 ∧ (post u1 u2 u3 u4 u5 (upd f_o_choiceFirst v_o_depth.toNatClampNeg ((f_o_choiceFirst v_o_depth.toNatClampNeg) ||| (u4 v_o_depth.toNatClampNeg))) (upd f_o_choiceLast v_o_depth.toNatClampNeg ((f_o_choiceLast v_o_depth.toNatClampNeg) ||| (u2 v_o_depth.toNatClampNeg))) (upd f_o_choiceEmpty v_o_depth.toNatClampNeg (vp_nar .boolean 1))))))))))))))))))
set_option maxHeartbeats 4000000 in
set_option maxRecDepth 100000 in
theorem k_M_endRow (l : Launch) (G : va_G) (K : Nat → ClassId) (a0 : Nat) (ad : Nat → Nat) (sz : Nat) (v_o_code : Int32) (v_o_typed : Int32) (v_o_rules : Int32) (v_o_at : Int32) (v_o_read : Int32) (v_o_depth : Int32) (v_o_wrong : Int32) (v_o_there : Int32) (v_o_ended : Int32) (v_o_mode : Int32) (v_o_kept : Int32) (v_o_came : Int32) (v_o_pending : Int32) (v_o_looked : Int32) (v_o_tokens : Int32) (v_o_oldest : Int32) (f_o_hasPart : (Nat → Int32)) (f_o_rowLast : (Nat → Int32)) (f_o_partFirst : (Nat → Int32)) (f_o_readBehind : (Nat → Int32)) (f_o_rowFirst : (Nat → Int32)) (f_o_rowEmpty : (Nat → Int32)) (f_o_partLast : (Nat → Int32)) (f_o_partEmpty : (Nat → Int32)) (f_o_choiceFirst : (Nat → Int32)) (f_o_choiceLast : (Nat → Int32)) (f_o_choiceEmpty : (Nat → Int32)) (post : (Nat → Int32) → (Nat → Int32) → (Nat → Int32) → (Nat → Int32) → (Nat → Int32) → (Nat → Int32) → (Nat → Int32) → (Nat → Int32) → Prop) (h : p_M_endRow v_o_read v_o_depth f_o_hasPart f_o_rowLast f_o_partFirst f_o_readBehind f_o_rowFirst f_o_rowEmpty f_o_partLast f_o_partEmpty f_o_choiceFirst f_o_choiceLast f_o_choiceEmpty post) : MWv l y_M_endRow (.code y_M_endRow c_M_endRow 1 none) { frames := 2, cells := 0, slots := 0, locals := 43 } G K [((ad 27), .inl (K 1, 6, .inl f_o_hasPart)), ((ad 21), .inl (K 0, 6, .inl f_o_rowLast)), ((ad 17), .inl (K 0, 24, .inl f_o_readBehind)), ((ad 20), .inl (K 0, 6, .inl f_o_rowFirst)), ((ad 25), .inl (K 1, 6, .inl f_o_rowEmpty)), ((ad 18), .inl (K 0, 6, .inl f_o_choiceFirst)), ((ad 19), .inl (K 0, 6, .inl f_o_choiceLast)), ((ad 24), .inl (K 1, 6, .inl f_o_choiceEmpty))] [(a0, .inr (12, oM v_o_code v_o_typed v_o_rules v_o_at v_o_read v_o_depth v_o_wrong v_o_there v_o_ended v_o_mode v_o_kept v_o_came v_o_pending v_o_looked v_o_tokens v_o_oldest ad)), ((ad 22), .inl (K 0, 6, .inl f_o_partFirst)), ((ad 23), .inl (K 0, 6, .inl f_o_partLast)), ((ad 26), .inl (K 1, 6, .inl f_o_partEmpty))] [.ref a0] sz (fun (u : (Nat → Int32) × (Nat → Int32) × (Nat → Int32) × (Nat → Int32) × (Nat → Int32) × (Nat → Int32) × (Nat → Int32) × (Nat → Int32)) => post u.1 u.2.1 u.2.2.1 u.2.2.2.1 u.2.2.2.2.1 u.2.2.2.2.2.1 u.2.2.2.2.2.2.1 u.2.2.2.2.2.2.2) (fun u => [((ad 27), .inl (K 1, 6, .inl u.1)), ((ad 21), .inl (K 0, 6, .inl u.2.1)), ((ad 17), .inl (K 0, 24, .inl u.2.2.1)), ((ad 20), .inl (K 0, 6, .inl u.2.2.2.1)), ((ad 25), .inl (K 1, 6, .inl u.2.2.2.2.1)), ((ad 18), .inl (K 0, 6, .inl u.2.2.2.2.2.1)), ((ad 19), .inl (K 0, 6, .inl u.2.2.2.2.2.2.1)), ((ad 24), .inl (K 1, 6, .inl u.2.2.2.2.2.2.2))]) 0 0 := by
  refine g_metWv (cc := c_M_endRow) (maxL := 1) (ret := none) (by decide) rfl rfl (Nat.le_of_ble_eq_true rfl) ?_
  intro p e s m below meth c A Q hx hb hml hown hname htg hK hN hP hD hA hS hR rN hret ls hl
  have hl : lv_has ls 1 [(0, .ref a0)] := hl
  refine lv_aload_n hx hb d_M_endRow_0 rfl (lv_at hl 0 rfl) ?_
  have hPc : va_P G vwCl [((ad 27), .inl (K 1, 6, .inl f_o_hasPart)), ((ad 21), .inl (K 0, 6, .inl f_o_rowLast)), ((ad 17), .inl (K 0, 24, .inl f_o_readBehind)), ((ad 20), .inl (K 0, 6, .inl f_o_rowFirst)), ((ad 25), .inl (K 1, 6, .inl f_o_rowEmpty))] _ := hP.sub [0, 1, 2, 3, 4] rfl
  have hDc : va_D A [((ad 27), .inl (K 1, 6, .inl f_o_hasPart)), ((ad 21), .inl (K 0, 6, .inl f_o_rowLast)), ((ad 17), .inl (K 0, 24, .inl f_o_readBehind)), ((ad 20), .inl (K 0, 6, .inl f_o_rowFirst)), ((ad 25), .inl (K 1, 6, .inl f_o_rowEmpty))] := hD.sub [0, 1, 2, 3, 4] (by decide) rfl
  have hRc : va_P G vwCl [(a0, .inr (12, oM v_o_code v_o_typed v_o_rules v_o_at v_o_read v_o_depth v_o_wrong v_o_there v_o_ended v_o_mode v_o_kept v_o_came v_o_pending v_o_looked v_o_tokens v_o_oldest ad)), ((ad 22), .inl (K 0, 6, .inl f_o_partFirst)), ((ad 23), .inl (K 0, 6, .inl f_o_partLast)), ((ad 26), .inl (K 1, 6, .inl f_o_partEmpty))] _ := (gR hR rN hS).sub [0, 1, 2, 3] rfl
  have hJc : gJ [((ad 27), .inl (K 1, 6, .inl f_o_hasPart)), ((ad 21), .inl (K 0, 6, .inl f_o_rowLast)), ((ad 17), .inl (K 0, 24, .inl f_o_readBehind)), ((ad 20), .inl (K 0, 6, .inl f_o_rowFirst)), ((ad 25), .inl (K 1, 6, .inl f_o_rowEmpty))] [(a0, .inr (12, oM v_o_code v_o_typed v_o_rules v_o_at v_o_read v_o_depth v_o_wrong v_o_there v_o_ended v_o_mode v_o_kept v_o_came v_o_pending v_o_looked v_o_tokens v_o_oldest ad)), ((ad 22), .inl (K 0, 6, .inl f_o_partFirst)), ((ad 23), .inl (K 0, 6, .inl f_o_partLast)), ((ad 26), .inl (K 1, 6, .inl f_o_partEmpty))] := gJ_A hDc (gN_sub rN [0, 1, 2, 3] rfl)
  refine g_callv (wr := [((ad 18), .inl (K 0, 6, .inl f_o_choiceFirst)), ((ad 19), .inl (K 0, 6, .inl f_o_choiceLast)), ((ad 24), .inl (K 1, 6, .inl f_o_choiceEmpty))]) (va_runV (As := []) (rest := []) ⟨hx, hb, hml, hown, htg⟩ (k_M_settle l G K a0 ad _ v_o_code v_o_typed v_o_rules v_o_at v_o_read v_o_depth v_o_wrong v_o_there v_o_ended v_o_mode v_o_kept v_o_came v_o_pending v_o_looked v_o_tokens v_o_oldest f_o_hasPart f_o_rowLast f_o_partFirst f_o_readBehind f_o_rowFirst f_o_rowEmpty f_o_partLast f_o_partEmpty _ h) (cwV 0 htg (gGoodV m_703 m_704 m_902 m_13 m_705) rfl rfl rfl (by decide +kernel) ⟨(Nat.le_of_ble_eq_true rfl), (Nat.le_of_ble_eq_true rfl)⟩) (gW_preV (ci := 12) (q0 := 0) hK hN hPc hDc hRc hJc hRc rfl rfl) rfl rfl hl.1 rfl (lv_room (Nat.le_of_ble_eq_true rfl)) d_M_endRow_1 ⟨(Nat.le_of_ble_eq_true rfl), (Nat.le_of_ble_eq_true rfl)⟩) hP hD hS hA [0, 1, 2, 3, 4] [5, 6, 7] rfl rfl (by decide) (by decide) (fun u H locs h hP hD hS => ?_)
  obtain ⟨u1, u2, u3, u4, u5⟩ := u
  try dsimp only at h
  have hP : va_P G vwCl [((ad 18), .inl (K 0, 6, .inl f_o_choiceFirst)), ((ad 19), .inl (K 0, 6, .inl f_o_choiceLast)), ((ad 24), .inl (K 1, 6, .inl f_o_choiceEmpty)), ((ad 27), .inl (K 1, 6, .inl u1)), ((ad 21), .inl (K 0, 6, .inl u2)), ((ad 17), .inl (K 0, 24, .inl u3)), ((ad 20), .inl (K 0, 6, .inl u4)), ((ad 25), .inl (K 1, 6, .inl u5))] H := hP
  have hD : va_D A [((ad 18), .inl (K 0, 6, .inl f_o_choiceFirst)), ((ad 19), .inl (K 0, 6, .inl f_o_choiceLast)), ((ad 24), .inl (K 1, 6, .inl f_o_choiceEmpty)), ((ad 27), .inl (K 1, 6, .inl u1)), ((ad 21), .inl (K 0, 6, .inl u2)), ((ad 17), .inl (K 0, 24, .inl u3)), ((ad 20), .inl (K 0, 6, .inl u4)), ((ad 25), .inl (K 1, 6, .inl u5))] := hD
  refine lv_aload_n hx hb d_M_endRow_4 rfl (lv_at hl 0 rfl) ?_
  refine va_get (ci := 12) (v := .ref (ad 18)) hx hb htg in_M hown hK (gR hR rN hS) 0 rfl rfl 18 (by decide) (htg _ m_628) (fun _ h9 => h9) rfl d_M_endRow_5 ?_
  refine lv_aload_n hx hb d_M_endRow_8 rfl (lv_at hl 0 rfl) ?_
  refine va_get (ci := 12) (v := .int v_o_depth) hx hb htg in_M hown hK (gR hR rN hS) 0 rfl rfl 14 (by decide) (htg _ m_624) (fun _ h9 => h9) rfl d_M_endRow_9 ?_
  refine lv_dup2_11 hx hb d_M_endRow_12 rfl rfl ?_
  obtain ⟨hin, h⟩ := h
  refine va_iald hx hb hK hP 0 0 rfl rfl hin d_M_endRow_13 ?_
  refine lv_aload_n hx hb d_M_endRow_14 rfl (lv_at hl 0 rfl) ?_
  refine va_get (ci := 12) (v := .ref (ad 20)) hx hb htg in_M hown hK (gR hR rN hS) 0 rfl rfl 20 (by decide) (htg _ m_630) (fun _ h9 => h9) rfl d_M_endRow_15 ?_
  refine lv_aload_n hx hb d_M_endRow_18 rfl (lv_at hl 0 rfl) ?_
  refine va_get (ci := 12) (v := .int v_o_depth) hx hb htg in_M hown hK (gR hR rN hS) 0 rfl rfl 14 (by decide) (htg _ m_624) (fun _ h9 => h9) rfl d_M_endRow_19 ?_
  obtain ⟨hin, h⟩ := h
  refine va_iald hx hb hK hP 6 0 rfl rfl hin d_M_endRow_22 ?_
  refine lv_ior hx hb d_M_endRow_23 ?_
  obtain ⟨hin, h⟩ := h
  refine va_iast hx hb hK hP hD hS 0 0 rfl rfl hin d_M_endRow_24 (fun H locs hP hD hS => ?_)
  have hP : va_P G vwCl [((ad 18), .inl (K 0, 6, .inl (upd f_o_choiceFirst v_o_depth.toNatClampNeg ((f_o_choiceFirst v_o_depth.toNatClampNeg) ||| (u4 v_o_depth.toNatClampNeg))))), ((ad 19), .inl (K 0, 6, .inl f_o_choiceLast)), ((ad 24), .inl (K 1, 6, .inl f_o_choiceEmpty)), ((ad 27), .inl (K 1, 6, .inl u1)), ((ad 21), .inl (K 0, 6, .inl u2)), ((ad 17), .inl (K 0, 24, .inl u3)), ((ad 20), .inl (K 0, 6, .inl u4)), ((ad 25), .inl (K 1, 6, .inl u5))] H := hP
  have hD : va_D A [((ad 18), .inl (K 0, 6, .inl (upd f_o_choiceFirst v_o_depth.toNatClampNeg ((f_o_choiceFirst v_o_depth.toNatClampNeg) ||| (u4 v_o_depth.toNatClampNeg))))), ((ad 19), .inl (K 0, 6, .inl f_o_choiceLast)), ((ad 24), .inl (K 1, 6, .inl f_o_choiceEmpty)), ((ad 27), .inl (K 1, 6, .inl u1)), ((ad 21), .inl (K 0, 6, .inl u2)), ((ad 17), .inl (K 0, 24, .inl u3)), ((ad 20), .inl (K 0, 6, .inl u4)), ((ad 25), .inl (K 1, 6, .inl u5))] := hD
  refine lv_aload_n hx hb d_M_endRow_25 rfl (lv_at hl 0 rfl) ?_
  refine va_get (ci := 12) (v := .ref (ad 19)) hx hb htg in_M hown hK (gR hR rN hS) 0 rfl rfl 19 (by decide) (htg _ m_629) (fun _ h9 => h9) rfl d_M_endRow_26 ?_
  refine lv_aload_n hx hb d_M_endRow_29 rfl (lv_at hl 0 rfl) ?_
  refine va_get (ci := 12) (v := .int v_o_depth) hx hb htg in_M hown hK (gR hR rN hS) 0 rfl rfl 14 (by decide) (htg _ m_624) (fun _ h9 => h9) rfl d_M_endRow_30 ?_
  refine lv_dup2_11 hx hb d_M_endRow_33 rfl rfl ?_
  obtain ⟨hin, h⟩ := h
  refine va_iald hx hb hK hP 1 0 rfl rfl hin d_M_endRow_34 ?_
  refine lv_aload_n hx hb d_M_endRow_35 rfl (lv_at hl 0 rfl) ?_
  refine va_get (ci := 12) (v := .ref (ad 21)) hx hb htg in_M hown hK (gR hR rN hS) 0 rfl rfl 21 (by decide) (htg _ m_631) (fun _ h9 => h9) rfl d_M_endRow_36 ?_
  refine lv_aload_n hx hb d_M_endRow_39 rfl (lv_at hl 0 rfl) ?_
  refine va_get (ci := 12) (v := .int v_o_depth) hx hb htg in_M hown hK (gR hR rN hS) 0 rfl rfl 14 (by decide) (htg _ m_624) (fun _ h9 => h9) rfl d_M_endRow_40 ?_
  obtain ⟨hin, h⟩ := h
  refine va_iald hx hb hK hP 4 0 rfl rfl hin d_M_endRow_43 ?_
  refine lv_ior hx hb d_M_endRow_44 ?_
  obtain ⟨hin, h⟩ := h
  refine va_iast hx hb hK hP hD hS 1 0 rfl rfl hin d_M_endRow_45 (fun H locs hP hD hS => ?_)
  have hP : va_P G vwCl [((ad 18), .inl (K 0, 6, .inl (upd f_o_choiceFirst v_o_depth.toNatClampNeg ((f_o_choiceFirst v_o_depth.toNatClampNeg) ||| (u4 v_o_depth.toNatClampNeg))))), ((ad 19), .inl (K 0, 6, .inl (upd f_o_choiceLast v_o_depth.toNatClampNeg ((f_o_choiceLast v_o_depth.toNatClampNeg) ||| (u2 v_o_depth.toNatClampNeg))))), ((ad 24), .inl (K 1, 6, .inl f_o_choiceEmpty)), ((ad 27), .inl (K 1, 6, .inl u1)), ((ad 21), .inl (K 0, 6, .inl u2)), ((ad 17), .inl (K 0, 24, .inl u3)), ((ad 20), .inl (K 0, 6, .inl u4)), ((ad 25), .inl (K 1, 6, .inl u5))] H := hP
  have hD : va_D A [((ad 18), .inl (K 0, 6, .inl (upd f_o_choiceFirst v_o_depth.toNatClampNeg ((f_o_choiceFirst v_o_depth.toNatClampNeg) ||| (u4 v_o_depth.toNatClampNeg))))), ((ad 19), .inl (K 0, 6, .inl (upd f_o_choiceLast v_o_depth.toNatClampNeg ((f_o_choiceLast v_o_depth.toNatClampNeg) ||| (u2 v_o_depth.toNatClampNeg))))), ((ad 24), .inl (K 1, 6, .inl f_o_choiceEmpty)), ((ad 27), .inl (K 1, 6, .inl u1)), ((ad 21), .inl (K 0, 6, .inl u2)), ((ad 17), .inl (K 0, 24, .inl u3)), ((ad 20), .inl (K 0, 6, .inl u4)), ((ad 25), .inl (K 1, 6, .inl u5))] := hD
  refine lv_aload_n hx hb d_M_endRow_46 rfl (lv_at hl 0 rfl) ?_
  refine va_get (ci := 12) (v := .ref (ad 24)) hx hb htg in_M hown hK (gR hR rN hS) 0 rfl rfl 24 (by decide) (htg _ m_634) (fun _ h9 => h9) rfl d_M_endRow_47 ?_
  refine lv_aload_n hx hb d_M_endRow_50 rfl (lv_at hl 0 rfl) ?_
  refine va_get (ci := 12) (v := .int v_o_depth) hx hb htg in_M hown hK (gR hR rN hS) 0 rfl rfl 14 (by decide) (htg _ m_624) (fun _ h9 => h9) rfl d_M_endRow_51 ?_
  refine lv_aload_n hx hb d_M_endRow_54 rfl (lv_at hl 0 rfl) ?_
  refine va_get (ci := 12) (v := .ref (ad 24)) hx hb htg in_M hown hK (gR hR rN hS) 0 rfl rfl 24 (by decide) (htg _ m_634) (fun _ h9 => h9) rfl d_M_endRow_55 ?_
  refine lv_aload_n hx hb d_M_endRow_58 rfl (lv_at hl 0 rfl) ?_
  refine va_get (ci := 12) (v := .int v_o_depth) hx hb htg in_M hown hK (gR hR rN hS) 0 rfl rfl 14 (by decide) (htg _ m_624) (fun _ h9 => h9) rfl d_M_endRow_59 ?_
  obtain ⟨hin, h⟩ := h
  refine va_zald hx hb hK hP 2 1 rfl rfl hin d_M_endRow_62 ?_
  refine lv_if_ne (tgt := 78) hx hb d_M_endRow_63 (by decide) (fun hc => ?_) (fun hc => ?_)
  · replace h := h.1 hc
    refine lv_iconst (v := 1) hx hb d_M_endRow_78 (by decide) ?_
    refine lv_goto (tgt := 83) hx hb d_M_endRow_79 (by decide) ?_
    obtain ⟨hin, h⟩ := h
    refine va_zast hx hb hK hP hD hS 2 1 rfl rfl hin d_M_endRow_83 (fun H locs hP hD hS => ?_)
    have hP : va_P G vwCl [((ad 18), .inl (K 0, 6, .inl (upd f_o_choiceFirst v_o_depth.toNatClampNeg ((f_o_choiceFirst v_o_depth.toNatClampNeg) ||| (u4 v_o_depth.toNatClampNeg))))), ((ad 19), .inl (K 0, 6, .inl (upd f_o_choiceLast v_o_depth.toNatClampNeg ((f_o_choiceLast v_o_depth.toNatClampNeg) ||| (u2 v_o_depth.toNatClampNeg))))), ((ad 24), .inl (K 1, 6, .inl (upd f_o_choiceEmpty v_o_depth.toNatClampNeg (vp_nar .boolean 1)))), ((ad 27), .inl (K 1, 6, .inl u1)), ((ad 21), .inl (K 0, 6, .inl u2)), ((ad 17), .inl (K 0, 24, .inl u3)), ((ad 20), .inl (K 0, 6, .inl u4)), ((ad 25), .inl (K 1, 6, .inl u5))] H := hP
    have hD : va_D A [((ad 18), .inl (K 0, 6, .inl (upd f_o_choiceFirst v_o_depth.toNatClampNeg ((f_o_choiceFirst v_o_depth.toNatClampNeg) ||| (u4 v_o_depth.toNatClampNeg))))), ((ad 19), .inl (K 0, 6, .inl (upd f_o_choiceLast v_o_depth.toNatClampNeg ((f_o_choiceLast v_o_depth.toNatClampNeg) ||| (u2 v_o_depth.toNatClampNeg))))), ((ad 24), .inl (K 1, 6, .inl (upd f_o_choiceEmpty v_o_depth.toNatClampNeg (vp_nar .boolean 1)))), ((ad 27), .inl (K 1, 6, .inl u1)), ((ad 21), .inl (K 0, 6, .inl u2)), ((ad 17), .inl (K 0, 24, .inl u3)), ((ad 20), .inl (K 0, 6, .inl u4)), ((ad 25), .inl (K 1, 6, .inl u5))] := hD
    exact hret (u1, u2, u3, u4, u5, (upd f_o_choiceFirst v_o_depth.toNatClampNeg ((f_o_choiceFirst v_o_depth.toNatClampNeg) ||| (u4 v_o_depth.toNatClampNeg))), (upd f_o_choiceLast v_o_depth.toNatClampNeg ((f_o_choiceLast v_o_depth.toNatClampNeg) ||| (u2 v_o_depth.toNatClampNeg))), (upd f_o_choiceEmpty v_o_depth.toNatClampNeg (vp_nar .boolean 1))) _ _ _ _ h (hP.sub [3, 4, 5, 6, 7, 0, 1, 2] rfl) (hD.sub [3, 4, 5, 6, 7, 0, 1, 2] (by decide) rfl) hS d_M_endRow_84
  · replace h := h.2 hc
    refine lv_aload_n hx hb d_M_endRow_66 rfl (lv_at hl 0 rfl) ?_
    refine va_get (ci := 12) (v := .ref (ad 25)) hx hb htg in_M hown hK (gR hR rN hS) 0 rfl rfl 25 (by decide) (htg _ m_635) (fun _ h9 => h9) rfl d_M_endRow_67 ?_
    refine lv_aload_n hx hb d_M_endRow_70 rfl (lv_at hl 0 rfl) ?_
    refine va_get (ci := 12) (v := .int v_o_depth) hx hb htg in_M hown hK (gR hR rN hS) 0 rfl rfl 14 (by decide) (htg _ m_624) (fun _ h9 => h9) rfl d_M_endRow_71 ?_
    obtain ⟨hin, h⟩ := h
    refine va_zald hx hb hK hP 7 1 rfl rfl hin d_M_endRow_74 ?_
    refine lv_if_eq (tgt := 82) hx hb d_M_endRow_75 (by decide) (fun hc => ?_) (fun hc => ?_)
    · replace h := h.1 hc
      refine lv_iconst (v := 0) hx hb d_M_endRow_82 (by decide) ?_
      obtain ⟨hin, h⟩ := h
      refine va_zast hx hb hK hP hD hS 2 1 rfl rfl hin d_M_endRow_83 (fun H locs hP hD hS => ?_)
      have hP : va_P G vwCl [((ad 18), .inl (K 0, 6, .inl (upd f_o_choiceFirst v_o_depth.toNatClampNeg ((f_o_choiceFirst v_o_depth.toNatClampNeg) ||| (u4 v_o_depth.toNatClampNeg))))), ((ad 19), .inl (K 0, 6, .inl (upd f_o_choiceLast v_o_depth.toNatClampNeg ((f_o_choiceLast v_o_depth.toNatClampNeg) ||| (u2 v_o_depth.toNatClampNeg))))), ((ad 24), .inl (K 1, 6, .inl (upd f_o_choiceEmpty v_o_depth.toNatClampNeg (vp_nar .boolean 0)))), ((ad 27), .inl (K 1, 6, .inl u1)), ((ad 21), .inl (K 0, 6, .inl u2)), ((ad 17), .inl (K 0, 24, .inl u3)), ((ad 20), .inl (K 0, 6, .inl u4)), ((ad 25), .inl (K 1, 6, .inl u5))] H := hP
      have hD : va_D A [((ad 18), .inl (K 0, 6, .inl (upd f_o_choiceFirst v_o_depth.toNatClampNeg ((f_o_choiceFirst v_o_depth.toNatClampNeg) ||| (u4 v_o_depth.toNatClampNeg))))), ((ad 19), .inl (K 0, 6, .inl (upd f_o_choiceLast v_o_depth.toNatClampNeg ((f_o_choiceLast v_o_depth.toNatClampNeg) ||| (u2 v_o_depth.toNatClampNeg))))), ((ad 24), .inl (K 1, 6, .inl (upd f_o_choiceEmpty v_o_depth.toNatClampNeg (vp_nar .boolean 0)))), ((ad 27), .inl (K 1, 6, .inl u1)), ((ad 21), .inl (K 0, 6, .inl u2)), ((ad 17), .inl (K 0, 24, .inl u3)), ((ad 20), .inl (K 0, 6, .inl u4)), ((ad 25), .inl (K 1, 6, .inl u5))] := hD
      exact hret (u1, u2, u3, u4, u5, (upd f_o_choiceFirst v_o_depth.toNatClampNeg ((f_o_choiceFirst v_o_depth.toNatClampNeg) ||| (u4 v_o_depth.toNatClampNeg))), (upd f_o_choiceLast v_o_depth.toNatClampNeg ((f_o_choiceLast v_o_depth.toNatClampNeg) ||| (u2 v_o_depth.toNatClampNeg))), (upd f_o_choiceEmpty v_o_depth.toNatClampNeg (vp_nar .boolean 0))) _ _ _ _ h (hP.sub [3, 4, 5, 6, 7, 0, 1, 2] rfl) (hD.sub [3, 4, 5, 6, 7, 0, 1, 2] (by decide) rfl) hS d_M_endRow_84
    · replace h := h.2 hc
      refine lv_iconst (v := 1) hx hb d_M_endRow_78 (by decide) ?_
      refine lv_goto (tgt := 83) hx hb d_M_endRow_79 (by decide) ?_
      obtain ⟨hin, h⟩ := h
      refine va_zast hx hb hK hP hD hS 2 1 rfl rfl hin d_M_endRow_83 (fun H locs hP hD hS => ?_)
      have hP : va_P G vwCl [((ad 18), .inl (K 0, 6, .inl (upd f_o_choiceFirst v_o_depth.toNatClampNeg ((f_o_choiceFirst v_o_depth.toNatClampNeg) ||| (u4 v_o_depth.toNatClampNeg))))), ((ad 19), .inl (K 0, 6, .inl (upd f_o_choiceLast v_o_depth.toNatClampNeg ((f_o_choiceLast v_o_depth.toNatClampNeg) ||| (u2 v_o_depth.toNatClampNeg))))), ((ad 24), .inl (K 1, 6, .inl (upd f_o_choiceEmpty v_o_depth.toNatClampNeg (vp_nar .boolean 1)))), ((ad 27), .inl (K 1, 6, .inl u1)), ((ad 21), .inl (K 0, 6, .inl u2)), ((ad 17), .inl (K 0, 24, .inl u3)), ((ad 20), .inl (K 0, 6, .inl u4)), ((ad 25), .inl (K 1, 6, .inl u5))] H := hP
      have hD : va_D A [((ad 18), .inl (K 0, 6, .inl (upd f_o_choiceFirst v_o_depth.toNatClampNeg ((f_o_choiceFirst v_o_depth.toNatClampNeg) ||| (u4 v_o_depth.toNatClampNeg))))), ((ad 19), .inl (K 0, 6, .inl (upd f_o_choiceLast v_o_depth.toNatClampNeg ((f_o_choiceLast v_o_depth.toNatClampNeg) ||| (u2 v_o_depth.toNatClampNeg))))), ((ad 24), .inl (K 1, 6, .inl (upd f_o_choiceEmpty v_o_depth.toNatClampNeg (vp_nar .boolean 1)))), ((ad 27), .inl (K 1, 6, .inl u1)), ((ad 21), .inl (K 0, 6, .inl u2)), ((ad 17), .inl (K 0, 24, .inl u3)), ((ad 20), .inl (K 0, 6, .inl u4)), ((ad 25), .inl (K 1, 6, .inl u5))] := hD
      exact hret (u1, u2, u3, u4, u5, (upd f_o_choiceFirst v_o_depth.toNatClampNeg ((f_o_choiceFirst v_o_depth.toNatClampNeg) ||| (u4 v_o_depth.toNatClampNeg))), (upd f_o_choiceLast v_o_depth.toNatClampNeg ((f_o_choiceLast v_o_depth.toNatClampNeg) ||| (u2 v_o_depth.toNatClampNeg))), (upd f_o_choiceEmpty v_o_depth.toNatClampNeg (vp_nar .boolean 1))) _ _ _ _ h (hP.sub [3, 4, 5, 6, 7, 0, 1, 2] rfl) (hD.sub [3, 4, 5, 6, 7, 0, 1, 2] (by decide) rfl) hS d_M_endRow_84
def p_M_part (v_o_read : Int32) (v_o_depth : Int32) (f_o_hasPart : (Nat → Int32)) (f_o_rowLast : (Nat → Int32)) (f_o_partFirst : (Nat → Int32)) (f_o_readBehind : (Nat → Int32)) (f_o_rowFirst : (Nat → Int32)) (f_o_rowEmpty : (Nat → Int32)) (f_o_partLast : (Nat → Int32)) (f_o_partEmpty : (Nat → Int32)) (x1 : Int32) (x2 : Int32) (x3 : Int32) (post : (Nat → Int32) → (Nat → Int32) → (Nat → Int32) → (Nat → Int32) → (Nat → Int32) → (Nat → Int32) → (Nat → Int32) → (Nat → Int32) → Prop) : Prop := (p_M_settle v_o_read v_o_depth f_o_hasPart f_o_rowLast f_o_partFirst f_o_readBehind f_o_rowFirst f_o_rowEmpty f_o_partLast f_o_partEmpty (fun u1 u2 u3 u4 u5 => (vp_in v_o_depth 6 ∧ (vp_in v_o_depth 6 ∧ (vp_in v_o_depth 6 ∧ (vp_in v_o_depth 6 ∧ (post (upd u1 v_o_depth.toNatClampNeg (vp_nar .boolean 1)) u2 (upd f_o_partFirst v_o_depth.toNatClampNeg x1) u3 u4 u5 (upd f_o_partLast v_o_depth.toNatClampNeg x2) (upd f_o_partEmpty v_o_depth.toNatClampNeg (vp_nar .boolean x3)))))))))
set_option maxHeartbeats 4000000 in
set_option maxRecDepth 100000 in
theorem k_M_part (l : Launch) (G : va_G) (K : Nat → ClassId) (a0 : Nat) (ad : Nat → Nat) (sz : Nat) (v_o_code : Int32) (v_o_typed : Int32) (v_o_rules : Int32) (v_o_at : Int32) (v_o_read : Int32) (v_o_depth : Int32) (v_o_wrong : Int32) (v_o_there : Int32) (v_o_ended : Int32) (v_o_mode : Int32) (v_o_kept : Int32) (v_o_came : Int32) (v_o_pending : Int32) (v_o_looked : Int32) (v_o_tokens : Int32) (v_o_oldest : Int32) (f_o_hasPart : (Nat → Int32)) (f_o_rowLast : (Nat → Int32)) (f_o_partFirst : (Nat → Int32)) (f_o_readBehind : (Nat → Int32)) (f_o_rowFirst : (Nat → Int32)) (f_o_rowEmpty : (Nat → Int32)) (f_o_partLast : (Nat → Int32)) (f_o_partEmpty : (Nat → Int32)) (x1 : Int32) (x2 : Int32) (x3 : Int32) (post : (Nat → Int32) → (Nat → Int32) → (Nat → Int32) → (Nat → Int32) → (Nat → Int32) → (Nat → Int32) → (Nat → Int32) → (Nat → Int32) → Prop) (h : p_M_part v_o_read v_o_depth f_o_hasPart f_o_rowLast f_o_partFirst f_o_readBehind f_o_rowFirst f_o_rowEmpty f_o_partLast f_o_partEmpty x1 x2 x3 post) : MWv l y_M_part (.code y_M_part c_M_part 4 none) { frames := 2, cells := 0, slots := 0, locals := 43 } G K [((ad 27), .inl (K 1, 6, .inl f_o_hasPart)), ((ad 21), .inl (K 0, 6, .inl f_o_rowLast)), ((ad 22), .inl (K 0, 6, .inl f_o_partFirst)), ((ad 17), .inl (K 0, 24, .inl f_o_readBehind)), ((ad 20), .inl (K 0, 6, .inl f_o_rowFirst)), ((ad 25), .inl (K 1, 6, .inl f_o_rowEmpty)), ((ad 23), .inl (K 0, 6, .inl f_o_partLast)), ((ad 26), .inl (K 1, 6, .inl f_o_partEmpty))] [(a0, .inr (12, oM v_o_code v_o_typed v_o_rules v_o_at v_o_read v_o_depth v_o_wrong v_o_there v_o_ended v_o_mode v_o_kept v_o_came v_o_pending v_o_looked v_o_tokens v_o_oldest ad))] [.ref a0, .int x1, .int x2, .int x3] sz (fun (u : (Nat → Int32) × (Nat → Int32) × (Nat → Int32) × (Nat → Int32) × (Nat → Int32) × (Nat → Int32) × (Nat → Int32) × (Nat → Int32)) => post u.1 u.2.1 u.2.2.1 u.2.2.2.1 u.2.2.2.2.1 u.2.2.2.2.2.1 u.2.2.2.2.2.2.1 u.2.2.2.2.2.2.2) (fun u => [((ad 27), .inl (K 1, 6, .inl u.1)), ((ad 21), .inl (K 0, 6, .inl u.2.1)), ((ad 22), .inl (K 0, 6, .inl u.2.2.1)), ((ad 17), .inl (K 0, 24, .inl u.2.2.2.1)), ((ad 20), .inl (K 0, 6, .inl u.2.2.2.2.1)), ((ad 25), .inl (K 1, 6, .inl u.2.2.2.2.2.1)), ((ad 23), .inl (K 0, 6, .inl u.2.2.2.2.2.2.1)), ((ad 26), .inl (K 1, 6, .inl u.2.2.2.2.2.2.2))]) 0 0 := by
  refine g_metWv (cc := c_M_part) (maxL := 4) (ret := none) (by decide) rfl rfl (Nat.le_of_ble_eq_true rfl) ?_
  intro p e s m below meth c A Q hx hb hml hown hname htg hK hN hP hD hA hS hR rN hret ls hl
  have hl : lv_has ls 4 [(0, .ref a0), (1, .int x1), (2, .int x2), (3, .int x3)] := hl
  refine lv_aload_n hx hb d_M_part_0 rfl (lv_at hl 0 rfl) ?_
  have hPc : va_P G vwCl [((ad 27), .inl (K 1, 6, .inl f_o_hasPart)), ((ad 21), .inl (K 0, 6, .inl f_o_rowLast)), ((ad 17), .inl (K 0, 24, .inl f_o_readBehind)), ((ad 20), .inl (K 0, 6, .inl f_o_rowFirst)), ((ad 25), .inl (K 1, 6, .inl f_o_rowEmpty))] _ := hP.sub [0, 1, 3, 4, 5] rfl
  have hDc : va_D A [((ad 27), .inl (K 1, 6, .inl f_o_hasPart)), ((ad 21), .inl (K 0, 6, .inl f_o_rowLast)), ((ad 17), .inl (K 0, 24, .inl f_o_readBehind)), ((ad 20), .inl (K 0, 6, .inl f_o_rowFirst)), ((ad 25), .inl (K 1, 6, .inl f_o_rowEmpty))] := hD.sub [0, 1, 3, 4, 5] (by decide) rfl
  have hRc : va_P G vwCl [(a0, .inr (12, oM v_o_code v_o_typed v_o_rules v_o_at v_o_read v_o_depth v_o_wrong v_o_there v_o_ended v_o_mode v_o_kept v_o_came v_o_pending v_o_looked v_o_tokens v_o_oldest ad)), ((ad 22), .inl (K 0, 6, .inl f_o_partFirst)), ((ad 23), .inl (K 0, 6, .inl f_o_partLast)), ((ad 26), .inl (K 1, 6, .inl f_o_partEmpty))] _ := (hP.app (gR hR rN hS)).sub [8, 2, 6, 7] rfl
  have hJc : gJ [((ad 27), .inl (K 1, 6, .inl f_o_hasPart)), ((ad 21), .inl (K 0, 6, .inl f_o_rowLast)), ((ad 17), .inl (K 0, 24, .inl f_o_readBehind)), ((ad 20), .inl (K 0, 6, .inl f_o_rowFirst)), ((ad 25), .inl (K 1, 6, .inl f_o_rowEmpty))] [(a0, .inr (12, oM v_o_code v_o_typed v_o_rules v_o_at v_o_read v_o_depth v_o_wrong v_o_there v_o_ended v_o_mode v_o_kept v_o_came v_o_pending v_o_looked v_o_tokens v_o_oldest ad)), ((ad 22), .inl (K 0, 6, .inl f_o_partFirst)), ((ad 23), .inl (K 0, 6, .inl f_o_partLast)), ((ad 26), .inl (K 1, 6, .inl f_o_partEmpty))] := gJ_sub hD rN [0, 1, 3, 4, 5] [8, 2, 6, 7] rfl rfl (by decide)
  refine g_callv (wr := [((ad 22), .inl (K 0, 6, .inl f_o_partFirst)), ((ad 23), .inl (K 0, 6, .inl f_o_partLast)), ((ad 26), .inl (K 1, 6, .inl f_o_partEmpty))]) (va_runV (As := []) (rest := []) ⟨hx, hb, hml, hown, htg⟩ (k_M_settle l G K a0 ad _ v_o_code v_o_typed v_o_rules v_o_at v_o_read v_o_depth v_o_wrong v_o_there v_o_ended v_o_mode v_o_kept v_o_came v_o_pending v_o_looked v_o_tokens v_o_oldest f_o_hasPart f_o_rowLast f_o_partFirst f_o_readBehind f_o_rowFirst f_o_rowEmpty f_o_partLast f_o_partEmpty _ h) (cwV 0 htg (gGoodV m_703 m_704 m_902 m_13 m_705) rfl rfl rfl (by decide +kernel) ⟨(Nat.le_of_ble_eq_true rfl), (Nat.le_of_ble_eq_true rfl)⟩) (gW_preV (ci := 12) (q0 := 0) hK hN hPc hDc hRc hJc hRc rfl rfl) rfl rfl hl.1 rfl (lv_room (Nat.le_of_ble_eq_true rfl)) d_M_part_1 ⟨(Nat.le_of_ble_eq_true rfl), (Nat.le_of_ble_eq_true rfl)⟩) hP hD hS hA [0, 1, 3, 4, 5] [2, 6, 7] rfl rfl (by decide) (by decide) (fun u H locs h hP hD hS => ?_)
  obtain ⟨u1, u2, u3, u4, u5⟩ := u
  try dsimp only at h
  have hP : va_P G vwCl [((ad 22), .inl (K 0, 6, .inl f_o_partFirst)), ((ad 23), .inl (K 0, 6, .inl f_o_partLast)), ((ad 26), .inl (K 1, 6, .inl f_o_partEmpty)), ((ad 27), .inl (K 1, 6, .inl u1)), ((ad 21), .inl (K 0, 6, .inl u2)), ((ad 17), .inl (K 0, 24, .inl u3)), ((ad 20), .inl (K 0, 6, .inl u4)), ((ad 25), .inl (K 1, 6, .inl u5))] H := hP
  have hD : va_D A [((ad 22), .inl (K 0, 6, .inl f_o_partFirst)), ((ad 23), .inl (K 0, 6, .inl f_o_partLast)), ((ad 26), .inl (K 1, 6, .inl f_o_partEmpty)), ((ad 27), .inl (K 1, 6, .inl u1)), ((ad 21), .inl (K 0, 6, .inl u2)), ((ad 17), .inl (K 0, 24, .inl u3)), ((ad 20), .inl (K 0, 6, .inl u4)), ((ad 25), .inl (K 1, 6, .inl u5))] := hD
  refine lv_aload_n hx hb d_M_part_4 rfl (lv_at hl 0 rfl) ?_
  refine va_get (ci := 12) (v := .ref (ad 22)) hx hb htg in_M hown hK (gR hR rN hS) 0 rfl rfl 22 (by decide) (htg _ m_632) (fun _ h9 => h9) rfl d_M_part_5 ?_
  refine lv_aload_n hx hb d_M_part_8 rfl (lv_at hl 0 rfl) ?_
  refine va_get (ci := 12) (v := .int v_o_depth) hx hb htg in_M hown hK (gR hR rN hS) 0 rfl rfl 14 (by decide) (htg _ m_624) (fun _ h9 => h9) rfl d_M_part_9 ?_
  refine lv_iload_n hx hb d_M_part_12 rfl (lv_at hl 1 rfl) ?_
  obtain ⟨hin, h⟩ := h
  refine va_iast hx hb hK hP hD hS 0 0 rfl rfl hin d_M_part_13 (fun H locs hP hD hS => ?_)
  have hP : va_P G vwCl [((ad 22), .inl (K 0, 6, .inl (upd f_o_partFirst v_o_depth.toNatClampNeg x1))), ((ad 23), .inl (K 0, 6, .inl f_o_partLast)), ((ad 26), .inl (K 1, 6, .inl f_o_partEmpty)), ((ad 27), .inl (K 1, 6, .inl u1)), ((ad 21), .inl (K 0, 6, .inl u2)), ((ad 17), .inl (K 0, 24, .inl u3)), ((ad 20), .inl (K 0, 6, .inl u4)), ((ad 25), .inl (K 1, 6, .inl u5))] H := hP
  have hD : va_D A [((ad 22), .inl (K 0, 6, .inl (upd f_o_partFirst v_o_depth.toNatClampNeg x1))), ((ad 23), .inl (K 0, 6, .inl f_o_partLast)), ((ad 26), .inl (K 1, 6, .inl f_o_partEmpty)), ((ad 27), .inl (K 1, 6, .inl u1)), ((ad 21), .inl (K 0, 6, .inl u2)), ((ad 17), .inl (K 0, 24, .inl u3)), ((ad 20), .inl (K 0, 6, .inl u4)), ((ad 25), .inl (K 1, 6, .inl u5))] := hD
  refine lv_aload_n hx hb d_M_part_14 rfl (lv_at hl 0 rfl) ?_
  refine va_get (ci := 12) (v := .ref (ad 23)) hx hb htg in_M hown hK (gR hR rN hS) 0 rfl rfl 23 (by decide) (htg _ m_633) (fun _ h9 => h9) rfl d_M_part_15 ?_
  refine lv_aload_n hx hb d_M_part_18 rfl (lv_at hl 0 rfl) ?_
  refine va_get (ci := 12) (v := .int v_o_depth) hx hb htg in_M hown hK (gR hR rN hS) 0 rfl rfl 14 (by decide) (htg _ m_624) (fun _ h9 => h9) rfl d_M_part_19 ?_
  refine lv_iload_n hx hb d_M_part_22 rfl (lv_at hl 2 rfl) ?_
  obtain ⟨hin, h⟩ := h
  refine va_iast hx hb hK hP hD hS 1 0 rfl rfl hin d_M_part_23 (fun H locs hP hD hS => ?_)
  have hP : va_P G vwCl [((ad 22), .inl (K 0, 6, .inl (upd f_o_partFirst v_o_depth.toNatClampNeg x1))), ((ad 23), .inl (K 0, 6, .inl (upd f_o_partLast v_o_depth.toNatClampNeg x2))), ((ad 26), .inl (K 1, 6, .inl f_o_partEmpty)), ((ad 27), .inl (K 1, 6, .inl u1)), ((ad 21), .inl (K 0, 6, .inl u2)), ((ad 17), .inl (K 0, 24, .inl u3)), ((ad 20), .inl (K 0, 6, .inl u4)), ((ad 25), .inl (K 1, 6, .inl u5))] H := hP
  have hD : va_D A [((ad 22), .inl (K 0, 6, .inl (upd f_o_partFirst v_o_depth.toNatClampNeg x1))), ((ad 23), .inl (K 0, 6, .inl (upd f_o_partLast v_o_depth.toNatClampNeg x2))), ((ad 26), .inl (K 1, 6, .inl f_o_partEmpty)), ((ad 27), .inl (K 1, 6, .inl u1)), ((ad 21), .inl (K 0, 6, .inl u2)), ((ad 17), .inl (K 0, 24, .inl u3)), ((ad 20), .inl (K 0, 6, .inl u4)), ((ad 25), .inl (K 1, 6, .inl u5))] := hD
  refine lv_aload_n hx hb d_M_part_24 rfl (lv_at hl 0 rfl) ?_
  refine va_get (ci := 12) (v := .ref (ad 26)) hx hb htg in_M hown hK (gR hR rN hS) 0 rfl rfl 26 (by decide) (htg _ m_636) (fun _ h9 => h9) rfl d_M_part_25 ?_
  refine lv_aload_n hx hb d_M_part_28 rfl (lv_at hl 0 rfl) ?_
  refine va_get (ci := 12) (v := .int v_o_depth) hx hb htg in_M hown hK (gR hR rN hS) 0 rfl rfl 14 (by decide) (htg _ m_624) (fun _ h9 => h9) rfl d_M_part_29 ?_
  refine lv_iload_n hx hb d_M_part_32 rfl (lv_at hl 3 rfl) ?_
  obtain ⟨hin, h⟩ := h
  refine va_zast hx hb hK hP hD hS 2 1 rfl rfl hin d_M_part_33 (fun H locs hP hD hS => ?_)
  have hP : va_P G vwCl [((ad 22), .inl (K 0, 6, .inl (upd f_o_partFirst v_o_depth.toNatClampNeg x1))), ((ad 23), .inl (K 0, 6, .inl (upd f_o_partLast v_o_depth.toNatClampNeg x2))), ((ad 26), .inl (K 1, 6, .inl (upd f_o_partEmpty v_o_depth.toNatClampNeg (vp_nar .boolean x3)))), ((ad 27), .inl (K 1, 6, .inl u1)), ((ad 21), .inl (K 0, 6, .inl u2)), ((ad 17), .inl (K 0, 24, .inl u3)), ((ad 20), .inl (K 0, 6, .inl u4)), ((ad 25), .inl (K 1, 6, .inl u5))] H := hP
  have hD : va_D A [((ad 22), .inl (K 0, 6, .inl (upd f_o_partFirst v_o_depth.toNatClampNeg x1))), ((ad 23), .inl (K 0, 6, .inl (upd f_o_partLast v_o_depth.toNatClampNeg x2))), ((ad 26), .inl (K 1, 6, .inl (upd f_o_partEmpty v_o_depth.toNatClampNeg (vp_nar .boolean x3)))), ((ad 27), .inl (K 1, 6, .inl u1)), ((ad 21), .inl (K 0, 6, .inl u2)), ((ad 17), .inl (K 0, 24, .inl u3)), ((ad 20), .inl (K 0, 6, .inl u4)), ((ad 25), .inl (K 1, 6, .inl u5))] := hD
  refine lv_aload_n hx hb d_M_part_34 rfl (lv_at hl 0 rfl) ?_
  refine va_get (ci := 12) (v := .ref (ad 27)) hx hb htg in_M hown hK (gR hR rN hS) 0 rfl rfl 27 (by decide) (htg _ m_637) (fun _ h9 => h9) rfl d_M_part_35 ?_
  refine lv_aload_n hx hb d_M_part_38 rfl (lv_at hl 0 rfl) ?_
  refine va_get (ci := 12) (v := .int v_o_depth) hx hb htg in_M hown hK (gR hR rN hS) 0 rfl rfl 14 (by decide) (htg _ m_624) (fun _ h9 => h9) rfl d_M_part_39 ?_
  refine lv_iconst (v := 1) hx hb d_M_part_42 (by decide) ?_
  obtain ⟨hin, h⟩ := h
  refine va_zast hx hb hK hP hD hS 3 1 rfl rfl hin d_M_part_43 (fun H locs hP hD hS => ?_)
  have hP : va_P G vwCl [((ad 22), .inl (K 0, 6, .inl (upd f_o_partFirst v_o_depth.toNatClampNeg x1))), ((ad 23), .inl (K 0, 6, .inl (upd f_o_partLast v_o_depth.toNatClampNeg x2))), ((ad 26), .inl (K 1, 6, .inl (upd f_o_partEmpty v_o_depth.toNatClampNeg (vp_nar .boolean x3)))), ((ad 27), .inl (K 1, 6, .inl (upd u1 v_o_depth.toNatClampNeg (vp_nar .boolean 1)))), ((ad 21), .inl (K 0, 6, .inl u2)), ((ad 17), .inl (K 0, 24, .inl u3)), ((ad 20), .inl (K 0, 6, .inl u4)), ((ad 25), .inl (K 1, 6, .inl u5))] H := hP
  have hD : va_D A [((ad 22), .inl (K 0, 6, .inl (upd f_o_partFirst v_o_depth.toNatClampNeg x1))), ((ad 23), .inl (K 0, 6, .inl (upd f_o_partLast v_o_depth.toNatClampNeg x2))), ((ad 26), .inl (K 1, 6, .inl (upd f_o_partEmpty v_o_depth.toNatClampNeg (vp_nar .boolean x3)))), ((ad 27), .inl (K 1, 6, .inl (upd u1 v_o_depth.toNatClampNeg (vp_nar .boolean 1)))), ((ad 21), .inl (K 0, 6, .inl u2)), ((ad 17), .inl (K 0, 24, .inl u3)), ((ad 20), .inl (K 0, 6, .inl u4)), ((ad 25), .inl (K 1, 6, .inl u5))] := hD
  exact hret ((upd u1 v_o_depth.toNatClampNeg (vp_nar .boolean 1)), u2, (upd f_o_partFirst v_o_depth.toNatClampNeg x1), u3, u4, u5, (upd f_o_partLast v_o_depth.toNatClampNeg x2), (upd f_o_partEmpty v_o_depth.toNatClampNeg (vp_nar .boolean x3))) _ _ _ _ h (hP.sub [3, 4, 0, 5, 6, 7, 1, 2] rfl) (hD.sub [3, 4, 0, 5, 6, 7, 1, 2] (by decide) rfl) hS d_M_part_44
def p_M_place (v_o_read : Int32) (v_o_depth : Int32) (f_o_readLetters : (Nat → Int32)) (f_o_readBehind : (Nat → Int32)) (f_o_hasPart : (Nat → Int32)) (f_o_rowLast : (Nat → Int32)) (f_o_partFirst : (Nat → Int32)) (f_o_rowFirst : (Nat → Int32)) (f_o_rowEmpty : (Nat → Int32)) (f_o_partLast : (Nat → Int32)) (f_o_partEmpty : (Nat → Int32)) (x1 : Int32) (post : Int32 → (Nat → Int32) → (Nat → Int32) → (Nat → Int32) → (Nat → Int32) → (Nat → Int32) → (Nat → Int32) → (Nat → Int32) → (Nat → Int32) → (Nat → Int32) → Prop) : Prop := (vp_in v_o_read 24 ∧ (vp_in v_o_read 24 ∧ (p_M_part (v_o_read + 1) v_o_depth f_o_hasPart f_o_rowLast f_o_partFirst (upd f_o_readBehind v_o_read.toNatClampNeg 0) f_o_rowFirst f_o_rowEmpty f_o_partLast f_o_partEmpty ((1 : Int32) <<< (((v_o_read + 1) - 1) &&& 31)) ((1 : Int32) <<< (((v_o_read + 1) - 1) &&& 31)) 0 (fun u1 u2 u3 u4 u5 u6 u7 u8 => (post (v_o_read + 1) (upd f_o_readLetters v_o_read.toNatClampNeg x1) u4 u1 u2 u3 u5 u6 u7 u8)))))
set_option maxHeartbeats 4000000 in
set_option maxRecDepth 100000 in
theorem k_M_place (l : Launch) (G : va_G) (K : Nat → ClassId) (a0 : Nat) (ad : Nat → Nat) (sz : Nat) (v_o_code : Int32) (v_o_typed : Int32) (v_o_rules : Int32) (v_o_at : Int32) (v_o_read : Int32) (v_o_depth : Int32) (v_o_wrong : Int32) (v_o_there : Int32) (v_o_ended : Int32) (v_o_mode : Int32) (v_o_kept : Int32) (v_o_came : Int32) (v_o_pending : Int32) (v_o_looked : Int32) (v_o_tokens : Int32) (v_o_oldest : Int32) (f_o_readLetters : (Nat → Int32)) (f_o_readBehind : (Nat → Int32)) (f_o_hasPart : (Nat → Int32)) (f_o_rowLast : (Nat → Int32)) (f_o_partFirst : (Nat → Int32)) (f_o_rowFirst : (Nat → Int32)) (f_o_rowEmpty : (Nat → Int32)) (f_o_partLast : (Nat → Int32)) (f_o_partEmpty : (Nat → Int32)) (x1 : Int32) (post : Int32 → (Nat → Int32) → (Nat → Int32) → (Nat → Int32) → (Nat → Int32) → (Nat → Int32) → (Nat → Int32) → (Nat → Int32) → (Nat → Int32) → (Nat → Int32) → Prop) (h : p_M_place v_o_read v_o_depth f_o_readLetters f_o_readBehind f_o_hasPart f_o_rowLast f_o_partFirst f_o_rowFirst f_o_rowEmpty f_o_partLast f_o_partEmpty x1 post) : MWv l y_M_place (.code y_M_place c_M_place 2 none) { frames := 3, cells := 0, slots := 0, locals := 66 } G K [(a0, .inr (12, oM v_o_code v_o_typed v_o_rules v_o_at v_o_read v_o_depth v_o_wrong v_o_there v_o_ended v_o_mode v_o_kept v_o_came v_o_pending v_o_looked v_o_tokens v_o_oldest ad)), ((ad 16), .inl (K 0, 24, .inl f_o_readLetters)), ((ad 17), .inl (K 0, 24, .inl f_o_readBehind)), ((ad 27), .inl (K 1, 6, .inl f_o_hasPart)), ((ad 21), .inl (K 0, 6, .inl f_o_rowLast)), ((ad 22), .inl (K 0, 6, .inl f_o_partFirst)), ((ad 20), .inl (K 0, 6, .inl f_o_rowFirst)), ((ad 25), .inl (K 1, 6, .inl f_o_rowEmpty)), ((ad 23), .inl (K 0, 6, .inl f_o_partLast)), ((ad 26), .inl (K 1, 6, .inl f_o_partEmpty))] [] [.ref a0, .int x1] sz (fun (u : Int32 × (Nat → Int32) × (Nat → Int32) × (Nat → Int32) × (Nat → Int32) × (Nat → Int32) × (Nat → Int32) × (Nat → Int32) × (Nat → Int32) × (Nat → Int32)) => post u.1 u.2.1 u.2.2.1 u.2.2.2.1 u.2.2.2.2.1 u.2.2.2.2.2.1 u.2.2.2.2.2.2.1 u.2.2.2.2.2.2.2.1 u.2.2.2.2.2.2.2.2.1 u.2.2.2.2.2.2.2.2.2) (fun u => [(a0, .inr (12, oM v_o_code v_o_typed v_o_rules v_o_at u.1 v_o_depth v_o_wrong v_o_there v_o_ended v_o_mode v_o_kept v_o_came v_o_pending v_o_looked v_o_tokens v_o_oldest ad)), ((ad 16), .inl (K 0, 24, .inl u.2.1)), ((ad 17), .inl (K 0, 24, .inl u.2.2.1)), ((ad 27), .inl (K 1, 6, .inl u.2.2.2.1)), ((ad 21), .inl (K 0, 6, .inl u.2.2.2.2.1)), ((ad 22), .inl (K 0, 6, .inl u.2.2.2.2.2.1)), ((ad 20), .inl (K 0, 6, .inl u.2.2.2.2.2.2.1)), ((ad 25), .inl (K 1, 6, .inl u.2.2.2.2.2.2.2.1)), ((ad 23), .inl (K 0, 6, .inl u.2.2.2.2.2.2.2.2.1)), ((ad 26), .inl (K 1, 6, .inl u.2.2.2.2.2.2.2.2.2))]) 0 0 := by
  refine g_metWv (cc := c_M_place) (maxL := 2) (ret := none) (by decide) rfl rfl (Nat.le_of_ble_eq_true rfl) ?_
  intro p e s m below meth c A Q hx hb hml hown hname htg hK hN hP hD hA hS hR rN hret ls hl
  have hl : lv_has ls 2 [(0, .ref a0), (1, .int x1)] := hl
  refine lv_aload_n hx hb d_M_place_0 rfl (lv_at hl 0 rfl) ?_
  refine va_get (ci := 12) (v := .ref (ad 16)) hx hb htg in_M hown hK hP 0 rfl rfl 16 (by decide) (htg _ m_626) (fun _ h9 => h9) rfl d_M_place_1 ?_
  refine lv_aload_n hx hb d_M_place_4 rfl (lv_at hl 0 rfl) ?_
  refine va_get (ci := 12) (v := .int v_o_read) hx hb htg in_M hown hK hP 0 rfl rfl 13 (by decide) (htg _ m_623) (fun _ h9 => h9) rfl d_M_place_5 ?_
  refine lv_iload_n hx hb d_M_place_8 rfl (lv_at hl 1 rfl) ?_
  obtain ⟨hin, h⟩ := h
  refine va_iast hx hb hK hP hD hS 1 0 rfl rfl hin d_M_place_9 (fun H locs hP hD hS => ?_)
  have hP : va_P G vwCl [(a0, .inr (12, oM v_o_code v_o_typed v_o_rules v_o_at v_o_read v_o_depth v_o_wrong v_o_there v_o_ended v_o_mode v_o_kept v_o_came v_o_pending v_o_looked v_o_tokens v_o_oldest ad)), ((ad 16), .inl (K 0, 24, .inl (upd f_o_readLetters v_o_read.toNatClampNeg x1))), ((ad 17), .inl (K 0, 24, .inl f_o_readBehind)), ((ad 27), .inl (K 1, 6, .inl f_o_hasPart)), ((ad 21), .inl (K 0, 6, .inl f_o_rowLast)), ((ad 22), .inl (K 0, 6, .inl f_o_partFirst)), ((ad 20), .inl (K 0, 6, .inl f_o_rowFirst)), ((ad 25), .inl (K 1, 6, .inl f_o_rowEmpty)), ((ad 23), .inl (K 0, 6, .inl f_o_partLast)), ((ad 26), .inl (K 1, 6, .inl f_o_partEmpty))] H := hP
  have hD : va_D A [(a0, .inr (12, oM v_o_code v_o_typed v_o_rules v_o_at v_o_read v_o_depth v_o_wrong v_o_there v_o_ended v_o_mode v_o_kept v_o_came v_o_pending v_o_looked v_o_tokens v_o_oldest ad)), ((ad 16), .inl (K 0, 24, .inl (upd f_o_readLetters v_o_read.toNatClampNeg x1))), ((ad 17), .inl (K 0, 24, .inl f_o_readBehind)), ((ad 27), .inl (K 1, 6, .inl f_o_hasPart)), ((ad 21), .inl (K 0, 6, .inl f_o_rowLast)), ((ad 22), .inl (K 0, 6, .inl f_o_partFirst)), ((ad 20), .inl (K 0, 6, .inl f_o_rowFirst)), ((ad 25), .inl (K 1, 6, .inl f_o_rowEmpty)), ((ad 23), .inl (K 0, 6, .inl f_o_partLast)), ((ad 26), .inl (K 1, 6, .inl f_o_partEmpty))] := hD
  refine lv_aload_n hx hb d_M_place_10 rfl (lv_at hl 0 rfl) ?_
  refine va_get (ci := 12) (v := .ref (ad 17)) hx hb htg in_M hown hK hP 0 rfl rfl 17 (by decide) (htg _ m_627) (fun _ h9 => h9) rfl d_M_place_11 ?_
  refine lv_aload_n hx hb d_M_place_14 rfl (lv_at hl 0 rfl) ?_
  refine va_get (ci := 12) (v := .int v_o_read) hx hb htg in_M hown hK hP 0 rfl rfl 13 (by decide) (htg _ m_623) (fun _ h9 => h9) rfl d_M_place_15 ?_
  refine lv_iconst (v := 0) hx hb d_M_place_18 (by decide) ?_
  obtain ⟨hin, h⟩ := h
  refine va_iast hx hb hK hP hD hS 2 0 rfl rfl hin d_M_place_19 (fun H locs hP hD hS => ?_)
  have hP : va_P G vwCl [(a0, .inr (12, oM v_o_code v_o_typed v_o_rules v_o_at v_o_read v_o_depth v_o_wrong v_o_there v_o_ended v_o_mode v_o_kept v_o_came v_o_pending v_o_looked v_o_tokens v_o_oldest ad)), ((ad 16), .inl (K 0, 24, .inl (upd f_o_readLetters v_o_read.toNatClampNeg x1))), ((ad 17), .inl (K 0, 24, .inl (upd f_o_readBehind v_o_read.toNatClampNeg 0))), ((ad 27), .inl (K 1, 6, .inl f_o_hasPart)), ((ad 21), .inl (K 0, 6, .inl f_o_rowLast)), ((ad 22), .inl (K 0, 6, .inl f_o_partFirst)), ((ad 20), .inl (K 0, 6, .inl f_o_rowFirst)), ((ad 25), .inl (K 1, 6, .inl f_o_rowEmpty)), ((ad 23), .inl (K 0, 6, .inl f_o_partLast)), ((ad 26), .inl (K 1, 6, .inl f_o_partEmpty))] H := hP
  have hD : va_D A [(a0, .inr (12, oM v_o_code v_o_typed v_o_rules v_o_at v_o_read v_o_depth v_o_wrong v_o_there v_o_ended v_o_mode v_o_kept v_o_came v_o_pending v_o_looked v_o_tokens v_o_oldest ad)), ((ad 16), .inl (K 0, 24, .inl (upd f_o_readLetters v_o_read.toNatClampNeg x1))), ((ad 17), .inl (K 0, 24, .inl (upd f_o_readBehind v_o_read.toNatClampNeg 0))), ((ad 27), .inl (K 1, 6, .inl f_o_hasPart)), ((ad 21), .inl (K 0, 6, .inl f_o_rowLast)), ((ad 22), .inl (K 0, 6, .inl f_o_partFirst)), ((ad 20), .inl (K 0, 6, .inl f_o_rowFirst)), ((ad 25), .inl (K 1, 6, .inl f_o_rowEmpty)), ((ad 23), .inl (K 0, 6, .inl f_o_partLast)), ((ad 26), .inl (K 1, 6, .inl f_o_partEmpty))] := hD
  refine lv_aload_n hx hb d_M_place_20 rfl (lv_at hl 0 rfl) ?_
  refine lv_dup hx hb d_M_place_21 rfl ?_
  refine va_get (ci := 12) (v := .int v_o_read) hx hb htg in_M hown hK hP 0 rfl rfl 13 (by decide) (htg _ m_623) (fun _ h9 => h9) rfl d_M_place_22 ?_
  refine lv_iconst (v := 1) hx hb d_M_place_25 (by decide) ?_
  refine lv_iadd hx hb d_M_place_26 ?_
  refine va_put (ci := 12) (v := .int (v_o_read + 1)) (ty := .int) hx hb htg in_M t_M tok_M nm_M hown hK hP hD hS 0 rfl rfl 13 (by decide) (htg _ m_623) (fun _ h9 => h9) rfl (by decide +kernel) rfl rfl (Nat.le_of_ble_eq_true rfl) d_M_place_27 (fun H locs hP hD hS => ?_)
  have hP : va_P G vwCl [(a0, .inr (12, oM v_o_code v_o_typed v_o_rules v_o_at (v_o_read + 1) v_o_depth v_o_wrong v_o_there v_o_ended v_o_mode v_o_kept v_o_came v_o_pending v_o_looked v_o_tokens v_o_oldest ad)), ((ad 16), .inl (K 0, 24, .inl (upd f_o_readLetters v_o_read.toNatClampNeg x1))), ((ad 17), .inl (K 0, 24, .inl (upd f_o_readBehind v_o_read.toNatClampNeg 0))), ((ad 27), .inl (K 1, 6, .inl f_o_hasPart)), ((ad 21), .inl (K 0, 6, .inl f_o_rowLast)), ((ad 22), .inl (K 0, 6, .inl f_o_partFirst)), ((ad 20), .inl (K 0, 6, .inl f_o_rowFirst)), ((ad 25), .inl (K 1, 6, .inl f_o_rowEmpty)), ((ad 23), .inl (K 0, 6, .inl f_o_partLast)), ((ad 26), .inl (K 1, 6, .inl f_o_partEmpty))] H := hP
  have hD : va_D A [(a0, .inr (12, oM v_o_code v_o_typed v_o_rules v_o_at (v_o_read + 1) v_o_depth v_o_wrong v_o_there v_o_ended v_o_mode v_o_kept v_o_came v_o_pending v_o_looked v_o_tokens v_o_oldest ad)), ((ad 16), .inl (K 0, 24, .inl (upd f_o_readLetters v_o_read.toNatClampNeg x1))), ((ad 17), .inl (K 0, 24, .inl (upd f_o_readBehind v_o_read.toNatClampNeg 0))), ((ad 27), .inl (K 1, 6, .inl f_o_hasPart)), ((ad 21), .inl (K 0, 6, .inl f_o_rowLast)), ((ad 22), .inl (K 0, 6, .inl f_o_partFirst)), ((ad 20), .inl (K 0, 6, .inl f_o_rowFirst)), ((ad 25), .inl (K 1, 6, .inl f_o_rowEmpty)), ((ad 23), .inl (K 0, 6, .inl f_o_partLast)), ((ad 26), .inl (K 1, 6, .inl f_o_partEmpty))] := hD
  refine lv_aload_n hx hb d_M_place_30 rfl (lv_at hl 0 rfl) ?_
  refine lv_iconst (v := 1) hx hb d_M_place_31 (by decide) ?_
  refine lv_aload_n hx hb d_M_place_32 rfl (lv_at hl 0 rfl) ?_
  refine va_get (ci := 12) (v := .int (v_o_read + 1)) hx hb htg in_M hown hK hP 0 rfl rfl 13 (by decide) (htg _ m_623) (fun _ h9 => h9) rfl d_M_place_33 ?_
  refine lv_iconst (v := 1) hx hb d_M_place_36 (by decide) ?_
  refine lv_isub hx hb d_M_place_37 ?_
  refine lv_ishl hx hb d_M_place_38 ?_
  refine lv_iconst (v := 1) hx hb d_M_place_39 (by decide) ?_
  refine lv_aload_n hx hb d_M_place_40 rfl (lv_at hl 0 rfl) ?_
  refine va_get (ci := 12) (v := .int (v_o_read + 1)) hx hb htg in_M hown hK hP 0 rfl rfl 13 (by decide) (htg _ m_623) (fun _ h9 => h9) rfl d_M_place_41 ?_
  refine lv_iconst (v := 1) hx hb d_M_place_44 (by decide) ?_
  refine lv_isub hx hb d_M_place_45 ?_
  refine lv_ishl hx hb d_M_place_46 ?_
  refine lv_iconst (v := 0) hx hb d_M_place_47 (by decide) ?_
  have hPc : va_P G vwCl [((ad 27), .inl (K 1, 6, .inl f_o_hasPart)), ((ad 21), .inl (K 0, 6, .inl f_o_rowLast)), ((ad 22), .inl (K 0, 6, .inl f_o_partFirst)), ((ad 17), .inl (K 0, 24, .inl (upd f_o_readBehind v_o_read.toNatClampNeg 0))), ((ad 20), .inl (K 0, 6, .inl f_o_rowFirst)), ((ad 25), .inl (K 1, 6, .inl f_o_rowEmpty)), ((ad 23), .inl (K 0, 6, .inl f_o_partLast)), ((ad 26), .inl (K 1, 6, .inl f_o_partEmpty))] _ := hP.sub [3, 4, 5, 2, 6, 7, 8, 9] rfl
  have hDc : va_D A [((ad 27), .inl (K 1, 6, .inl f_o_hasPart)), ((ad 21), .inl (K 0, 6, .inl f_o_rowLast)), ((ad 22), .inl (K 0, 6, .inl f_o_partFirst)), ((ad 17), .inl (K 0, 24, .inl (upd f_o_readBehind v_o_read.toNatClampNeg 0))), ((ad 20), .inl (K 0, 6, .inl f_o_rowFirst)), ((ad 25), .inl (K 1, 6, .inl f_o_rowEmpty)), ((ad 23), .inl (K 0, 6, .inl f_o_partLast)), ((ad 26), .inl (K 1, 6, .inl f_o_partEmpty))] := hD.sub [3, 4, 5, 2, 6, 7, 8, 9] (by decide) rfl
  have hRc : va_P G vwCl [(a0, .inr (12, oM v_o_code v_o_typed v_o_rules v_o_at (v_o_read + 1) v_o_depth v_o_wrong v_o_there v_o_ended v_o_mode v_o_kept v_o_came v_o_pending v_o_looked v_o_tokens v_o_oldest ad))] _ := hP.sub [0] rfl
  have hJc : gJ [((ad 27), .inl (K 1, 6, .inl f_o_hasPart)), ((ad 21), .inl (K 0, 6, .inl f_o_rowLast)), ((ad 22), .inl (K 0, 6, .inl f_o_partFirst)), ((ad 17), .inl (K 0, 24, .inl (upd f_o_readBehind v_o_read.toNatClampNeg 0))), ((ad 20), .inl (K 0, 6, .inl f_o_rowFirst)), ((ad 25), .inl (K 1, 6, .inl f_o_rowEmpty)), ((ad 23), .inl (K 0, 6, .inl f_o_partLast)), ((ad 26), .inl (K 1, 6, .inl f_o_partEmpty))] [(a0, .inr (12, oM v_o_code v_o_typed v_o_rules v_o_at (v_o_read + 1) v_o_depth v_o_wrong v_o_there v_o_ended v_o_mode v_o_kept v_o_came v_o_pending v_o_looked v_o_tokens v_o_oldest ad))] := gJ_sub hD rN [3, 4, 5, 2, 6, 7, 8, 9] [0] rfl rfl (by decide)
  refine g_callv (wr := [(a0, .inr (12, oM v_o_code v_o_typed v_o_rules v_o_at (v_o_read + 1) v_o_depth v_o_wrong v_o_there v_o_ended v_o_mode v_o_kept v_o_came v_o_pending v_o_looked v_o_tokens v_o_oldest ad)), ((ad 16), .inl (K 0, 24, .inl (upd f_o_readLetters v_o_read.toNatClampNeg x1)))]) (va_runV (As := [.int ((1 : Int32) <<< (((v_o_read + 1) - 1) &&& 31)), .int ((1 : Int32) <<< (((v_o_read + 1) - 1) &&& 31)), .int 0]) (rest := []) ⟨hx, hb, hml, hown, htg⟩ (k_M_part l G K a0 ad _ v_o_code v_o_typed v_o_rules v_o_at (v_o_read + 1) v_o_depth v_o_wrong v_o_there v_o_ended v_o_mode v_o_kept v_o_came v_o_pending v_o_looked v_o_tokens v_o_oldest f_o_hasPart f_o_rowLast f_o_partFirst (upd f_o_readBehind v_o_read.toNatClampNeg 0) f_o_rowFirst f_o_rowEmpty f_o_partLast f_o_partEmpty ((1 : Int32) <<< (((v_o_read + 1) - 1) &&& 31)) ((1 : Int32) <<< (((v_o_read + 1) - 1) &&& 31)) 0 _ h) (cwV 3 htg (gGoodV m_700 m_701 m_896 m_13 m_702) rfl rfl rfl (by decide +kernel) ⟨(Nat.le_of_ble_eq_true rfl), (Nat.le_of_ble_eq_true rfl)⟩) (gW_preV (ci := 12) (q0 := 0) hK hN hPc hDc hRc hJc hRc rfl rfl) rfl rfl hl.1 rfl (lv_room (Nat.le_of_ble_eq_true rfl)) d_M_place_48 ⟨(Nat.le_of_ble_eq_true rfl), (Nat.le_of_ble_eq_true rfl)⟩) hP hD hS hA [3, 4, 5, 2, 6, 7, 8, 9] [0, 1] rfl rfl (by decide) (by decide) (fun u H locs h hP hD hS => ?_)
  obtain ⟨u1, u2, u3, u4, u5, u6, u7, u8⟩ := u
  try dsimp only at h
  have hP : va_P G vwCl [(a0, .inr (12, oM v_o_code v_o_typed v_o_rules v_o_at (v_o_read + 1) v_o_depth v_o_wrong v_o_there v_o_ended v_o_mode v_o_kept v_o_came v_o_pending v_o_looked v_o_tokens v_o_oldest ad)), ((ad 16), .inl (K 0, 24, .inl (upd f_o_readLetters v_o_read.toNatClampNeg x1))), ((ad 27), .inl (K 1, 6, .inl u1)), ((ad 21), .inl (K 0, 6, .inl u2)), ((ad 22), .inl (K 0, 6, .inl u3)), ((ad 17), .inl (K 0, 24, .inl u4)), ((ad 20), .inl (K 0, 6, .inl u5)), ((ad 25), .inl (K 1, 6, .inl u6)), ((ad 23), .inl (K 0, 6, .inl u7)), ((ad 26), .inl (K 1, 6, .inl u8))] H := hP
  have hD : va_D A [(a0, .inr (12, oM v_o_code v_o_typed v_o_rules v_o_at (v_o_read + 1) v_o_depth v_o_wrong v_o_there v_o_ended v_o_mode v_o_kept v_o_came v_o_pending v_o_looked v_o_tokens v_o_oldest ad)), ((ad 16), .inl (K 0, 24, .inl (upd f_o_readLetters v_o_read.toNatClampNeg x1))), ((ad 27), .inl (K 1, 6, .inl u1)), ((ad 21), .inl (K 0, 6, .inl u2)), ((ad 22), .inl (K 0, 6, .inl u3)), ((ad 17), .inl (K 0, 24, .inl u4)), ((ad 20), .inl (K 0, 6, .inl u5)), ((ad 25), .inl (K 1, 6, .inl u6)), ((ad 23), .inl (K 0, 6, .inl u7)), ((ad 26), .inl (K 1, 6, .inl u8))] := hD
  exact hret ((v_o_read + 1), (upd f_o_readLetters v_o_read.toNatClampNeg x1), u4, u1, u2, u3, u5, u6, u7, u8) _ _ _ _ h (hP.sub [0, 1, 5, 2, 3, 4, 6, 7, 8, 9] rfl) (hD.sub [0, 1, 5, 2, 3, 4, 6, 7, 8, 9] (by decide) rfl) hS d_M_place_51
def p_M_refuse (v_o_at : Int32) (v_o_wrong : Int32) (post : Int32 → Prop) : Prop := ((¬ v_o_wrong = (-1) → (post v_o_wrong)) ∧ (v_o_wrong = (-1) → (post v_o_at)))
set_option maxHeartbeats 4000000 in
set_option maxRecDepth 100000 in
theorem k_M_refuse (l : Launch) (G : va_G) (K : Nat → ClassId) (a0 : Nat) (ad : Nat → Nat) (sz : Nat) (v_o_code : Int32) (v_o_typed : Int32) (v_o_rules : Int32) (v_o_at : Int32) (v_o_read : Int32) (v_o_depth : Int32) (v_o_wrong : Int32) (v_o_there : Int32) (v_o_ended : Int32) (v_o_mode : Int32) (v_o_kept : Int32) (v_o_came : Int32) (v_o_pending : Int32) (v_o_looked : Int32) (v_o_tokens : Int32) (v_o_oldest : Int32) (post : Int32 → Prop) (h : p_M_refuse v_o_at v_o_wrong post) : MWv l y_M_refuse (.code y_M_refuse c_M_refuse 1 none) { frames := 0, cells := 0, slots := 0, locals := 0 } G K [(a0, .inr (12, oM v_o_code v_o_typed v_o_rules v_o_at v_o_read v_o_depth v_o_wrong v_o_there v_o_ended v_o_mode v_o_kept v_o_came v_o_pending v_o_looked v_o_tokens v_o_oldest ad))] [] [.ref a0] sz (fun (u : Int32) => post u) (fun u => [(a0, .inr (12, oM v_o_code v_o_typed v_o_rules v_o_at v_o_read v_o_depth u v_o_there v_o_ended v_o_mode v_o_kept v_o_came v_o_pending v_o_looked v_o_tokens v_o_oldest ad))]) 0 0 := by
  refine g_metWv (cc := c_M_refuse) (maxL := 1) (ret := none) (by decide) rfl rfl (Nat.le_of_ble_eq_true rfl) ?_
  intro p e s m below meth c A Q hx hb hml hown hname htg hK hN hP hD hA hS hR rN hret ls hl
  have hl : lv_has ls 1 [(0, .ref a0)] := hl
  refine lv_aload_n hx hb d_M_refuse_0 rfl (lv_at hl 0 rfl) ?_
  refine lv_aload_n hx hb d_M_refuse_1 rfl (lv_at hl 0 rfl) ?_
  refine va_get (ci := 12) (v := .int v_o_wrong) hx hb htg in_M hown hK hP 0 rfl rfl 15 (by decide) (htg _ m_625) (fun _ h9 => h9) rfl d_M_refuse_2 ?_
  refine lv_iconst (v := (-1)) hx hb d_M_refuse_5 (by decide) ?_
  refine lv_icmp_ne (tgt := 16) hx hb d_M_refuse_6 (by decide) (fun hc => ?_) (fun hc => ?_)
  · replace h := h.1 hc
    refine lv_aload_n hx hb d_M_refuse_16 rfl (lv_at hl 0 rfl) ?_
    refine va_get (ci := 12) (v := .int v_o_wrong) hx hb htg in_M hown hK hP 0 rfl rfl 15 (by decide) (htg _ m_625) (fun _ h9 => h9) rfl d_M_refuse_17 ?_
    refine va_put (ci := 12) (v := .int v_o_wrong) (ty := .int) hx hb htg in_M t_M tok_M nm_M hown hK hP hD hS 0 rfl rfl 15 (by decide) (htg _ m_625) (fun _ h9 => h9) rfl (by decide +kernel) rfl rfl (Nat.le_of_ble_eq_true rfl) d_M_refuse_20 (fun H locs hP hD hS => ?_)
    have hP : va_P G vwCl [(a0, .inr (12, oM v_o_code v_o_typed v_o_rules v_o_at v_o_read v_o_depth v_o_wrong v_o_there v_o_ended v_o_mode v_o_kept v_o_came v_o_pending v_o_looked v_o_tokens v_o_oldest ad))] H := hP
    have hD : va_D A [(a0, .inr (12, oM v_o_code v_o_typed v_o_rules v_o_at v_o_read v_o_depth v_o_wrong v_o_there v_o_ended v_o_mode v_o_kept v_o_came v_o_pending v_o_looked v_o_tokens v_o_oldest ad))] := hD
    exact hret v_o_wrong _ _ _ _ h (hP.sub [0] rfl) (hD.sub [0] (by decide) rfl) hS d_M_refuse_23
  · replace h := h.2 hc
    refine lv_aload_n hx hb d_M_refuse_9 rfl (lv_at hl 0 rfl) ?_
    refine va_get (ci := 12) (v := .int v_o_at) hx hb htg in_M hown hK hP 0 rfl rfl 12 (by decide) (htg _ m_622) (fun _ h9 => h9) rfl d_M_refuse_10 ?_
    refine lv_goto (tgt := 20) hx hb d_M_refuse_13 (by decide) ?_
    refine va_put (ci := 12) (v := .int v_o_at) (ty := .int) hx hb htg in_M t_M tok_M nm_M hown hK hP hD hS 0 rfl rfl 15 (by decide) (htg _ m_625) (fun _ h9 => h9) rfl (by decide +kernel) rfl rfl (Nat.le_of_ble_eq_true rfl) d_M_refuse_20 (fun H locs hP hD hS => ?_)
    have hP : va_P G vwCl [(a0, .inr (12, oM v_o_code v_o_typed v_o_rules v_o_at v_o_read v_o_depth v_o_at v_o_there v_o_ended v_o_mode v_o_kept v_o_came v_o_pending v_o_looked v_o_tokens v_o_oldest ad))] H := hP
    have hD : va_D A [(a0, .inr (12, oM v_o_code v_o_typed v_o_rules v_o_at v_o_read v_o_depth v_o_at v_o_there v_o_ended v_o_mode v_o_kept v_o_came v_o_pending v_o_looked v_o_tokens v_o_oldest ad))] := hD
    exact hret v_o_at _ _ _ _ h (hP.sub [0] rfl) (hD.sub [0] (by decide) rfl) hS d_M_refuse_23
