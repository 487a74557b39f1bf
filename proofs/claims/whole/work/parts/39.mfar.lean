theorem d_M_has_0 : decode c_M_has 0 = .ok (.aload_n 0, 1) := by decide +kernel
theorem d_M_has_1 : decode c_M_has 1 = .ok (.iload_n 1, 1) := by decide +kernel
theorem d_M_has_2 : decode c_M_has 2 = .ok (.bipush 32, 2) := by decide +kernel
theorem d_M_has_4 : decode c_M_has 4 = .ok (.idiv, 1) := by decide +kernel
theorem d_M_has_5 : decode c_M_has 5 = .ok (.iaload, 1) := by decide +kernel
theorem d_M_has_6 : decode c_M_has 6 = .ok (.iload_n 1, 1) := by decide +kernel
theorem d_M_has_7 : decode c_M_has 7 = .ok (.bipush 32, 2) := by decide +kernel
theorem d_M_has_9 : decode c_M_has 9 = .ok (.irem, 1) := by decide +kernel
theorem d_M_has_10 : decode c_M_has 10 = .ok (.ishr, 1) := by decide +kernel
theorem d_M_has_11 : decode c_M_has 11 = .ok (.iconst 1, 1) := by decide +kernel
theorem d_M_has_12 : decode c_M_has 12 = .ok (.iand, 1) := by decide +kernel
theorem d_M_has_13 : decode c_M_has 13 = .ok (.iconst 1, 1) := by decide +kernel
theorem d_M_has_14 : decode c_M_has 14 = .ok (.if_icmp .ne 7, 3) := by decide +kernel
theorem d_M_has_17 : decode c_M_has 17 = .ok (.iconst 1, 1) := by decide +kernel
theorem d_M_has_18 : decode c_M_has 18 = .ok (.goto 4, 3) := by decide +kernel
theorem d_M_has_21 : decode c_M_has 21 = .ok (.iconst 0, 1) := by decide +kernel
theorem d_M_has_22 : decode c_M_has 22 = .ok (.ireturn, 1) := by decide +kernel
theorem d_M_put_0 : decode c_M_put 0 = .ok (.aload_n 0, 1) := by decide +kernel
theorem d_M_put_1 : decode c_M_put 1 = .ok (.iload_n 1, 1) := by decide +kernel
theorem d_M_put_2 : decode c_M_put 2 = .ok (.bipush 32, 2) := by decide +kernel
theorem d_M_put_4 : decode c_M_put 4 = .ok (.idiv, 1) := by decide +kernel
theorem d_M_put_5 : decode c_M_put 5 = .ok (.dup2, 1) := by decide +kernel
theorem d_M_put_6 : decode c_M_put 6 = .ok (.iaload, 1) := by decide +kernel
theorem d_M_put_7 : decode c_M_put 7 = .ok (.iconst 1, 1) := by decide +kernel
theorem d_M_put_8 : decode c_M_put 8 = .ok (.iload_n 1, 1) := by decide +kernel
theorem d_M_put_9 : decode c_M_put 9 = .ok (.bipush 32, 2) := by decide +kernel
theorem d_M_put_11 : decode c_M_put 11 = .ok (.irem, 1) := by decide +kernel
theorem d_M_put_12 : decode c_M_put 12 = .ok (.ishl, 1) := by decide +kernel
theorem d_M_put_13 : decode c_M_put 13 = .ok (.ior, 1) := by decide +kernel
theorem d_M_put_14 : decode c_M_put 14 = .ok (.iastore, 1) := by decide +kernel
theorem d_M_put_15 : decode c_M_put 15 = .ok (.return_, 1) := by decide +kernel
theorem d_M_follow_0 : decode c_M_follow 0 = .ok (.iload_n 3, 1) := by decide +kernel
theorem d_M_follow_1 : decode c_M_follow 1 = .ok (.sipush 515, 3) := by decide +kernel
theorem d_M_follow_4 : decode c_M_follow 4 = .ok (.idiv, 1) := by decide +kernel
theorem d_M_follow_5 : decode c_M_follow 5 = .ok (.istore 5, 2) := by decide +kernel
theorem d_M_follow_7 : decode c_M_follow 7 = .ok (.iload_n 3, 1) := by decide +kernel
theorem d_M_follow_8 : decode c_M_follow 8 = .ok (.sipush 515, 3) := by decide +kernel
theorem d_M_follow_11 : decode c_M_follow 11 = .ok (.irem, 1) := by decide +kernel
theorem d_M_follow_12 : decode c_M_follow 12 = .ok (.istore 6, 2) := by decide +kernel
theorem d_M_follow_14 : decode c_M_follow 14 = .ok (.iload 5, 2) := by decide +kernel
theorem d_M_follow_16 : decode c_M_follow 16 = .ok (.sipush 514, 3) := by decide +kernel
theorem d_M_follow_19 : decode c_M_follow 19 = .ok (.if_icmp .ne 7, 3) := by decide +kernel
theorem d_M_follow_22 : decode c_M_follow 22 = .ok (.iconst (-1), 1) := by decide +kernel
theorem d_M_follow_23 : decode c_M_follow 23 = .ok (.goto 12, 3) := by decide +kernel
theorem d_M_follow_26 : decode c_M_follow 26 = .ok (.aload_n 0, 1) := by decide +kernel
theorem d_M_follow_27 : decode c_M_follow 27 = .ok (.iload_n 1, 1) := by decide +kernel
theorem d_M_follow_28 : decode c_M_follow 28 = .ok (.iload 5, 2) := by decide +kernel
theorem d_M_follow_30 : decode c_M_follow 30 = .ok (.iload 4, 2) := by decide +kernel
theorem d_M_follow_32 : decode c_M_follow 32 = .ok (.invokevirtual 232, 3) := by decide +kernel
theorem d_M_follow_35 : decode c_M_follow 35 = .ok (.istore 7, 2) := by decide +kernel
theorem d_M_follow_37 : decode c_M_follow 37 = .ok (.iload 6, 2) := by decide +kernel
theorem d_M_follow_39 : decode c_M_follow 39 = .ok (.sipush 514, 3) := by decide +kernel
theorem d_M_follow_42 : decode c_M_follow 42 = .ok (.if_icmp .ne 7, 3) := by decide +kernel
theorem d_M_follow_45 : decode c_M_follow 45 = .ok (.iconst (-1), 1) := by decide +kernel
theorem d_M_follow_46 : decode c_M_follow 46 = .ok (.goto 12, 3) := by decide +kernel
theorem d_M_follow_49 : decode c_M_follow 49 = .ok (.aload_n 0, 1) := by decide +kernel
theorem d_M_follow_50 : decode c_M_follow 50 = .ok (.iload_n 2, 1) := by decide +kernel
theorem d_M_follow_51 : decode c_M_follow 51 = .ok (.iload 6, 2) := by decide +kernel
theorem d_M_follow_53 : decode c_M_follow 53 = .ok (.iload 4, 2) := by decide +kernel
theorem d_M_follow_55 : decode c_M_follow 55 = .ok (.invokevirtual 232, 3) := by decide +kernel
theorem d_M_follow_58 : decode c_M_follow 58 = .ok (.istore 8, 2) := by decide +kernel
theorem d_M_follow_60 : decode c_M_follow 60 = .ok (.sipush 515, 3) := by decide +kernel
theorem d_M_follow_63 : decode c_M_follow 63 = .ok (.iload 7, 2) := by decide +kernel
theorem d_M_follow_65 : decode c_M_follow 65 = .ok (.iconst (-1), 1) := by decide +kernel
theorem d_M_follow_66 : decode c_M_follow 66 = .ok (.if_icmp .ne 9, 3) := by decide +kernel
theorem d_M_follow_69 : decode c_M_follow 69 = .ok (.sipush 514, 3) := by decide +kernel
theorem d_M_follow_72 : decode c_M_follow 72 = .ok (.goto 5, 3) := by decide +kernel
theorem d_M_follow_75 : decode c_M_follow 75 = .ok (.iload 7, 2) := by decide +kernel
theorem d_M_follow_77 : decode c_M_follow 77 = .ok (.imul, 1) := by decide +kernel
theorem d_M_follow_78 : decode c_M_follow 78 = .ok (.iload 8, 2) := by decide +kernel
theorem d_M_follow_80 : decode c_M_follow 80 = .ok (.iconst (-1), 1) := by decide +kernel
theorem d_M_follow_81 : decode c_M_follow 81 = .ok (.if_icmp .ne 9, 3) := by decide +kernel
theorem d_M_follow_84 : decode c_M_follow 84 = .ok (.sipush 514, 3) := by decide +kernel
theorem d_M_follow_87 : decode c_M_follow 87 = .ok (.goto 5, 3) := by decide +kernel
theorem d_M_follow_90 : decode c_M_follow 90 = .ok (.iload 8, 2) := by decide +kernel
theorem d_M_follow_92 : decode c_M_follow 92 = .ok (.iadd, 1) := by decide +kernel
theorem d_M_follow_93 : decode c_M_follow 93 = .ok (.ireturn, 1) := by decide +kernel
theorem d_M_parts_0 : decode c_M_parts 0 = .ok (.iload_n 3, 1) := by decide +kernel
theorem d_M_parts_1 : decode c_M_parts 1 = .ok (.sipush 515, 3) := by decide +kernel
theorem d_M_parts_4 : decode c_M_parts 4 = .ok (.idiv, 1) := by decide +kernel
theorem d_M_parts_5 : decode c_M_parts 5 = .ok (.sipush 514, 3) := by decide +kernel
theorem d_M_parts_8 : decode c_M_parts 8 = .ok (.if_icmp .eq 21, 3) := by decide +kernel
theorem d_M_parts_11 : decode c_M_parts 11 = .ok (.aload_n 0, 1) := by decide +kernel
theorem d_M_parts_12 : decode c_M_parts 12 = .ok (.iload_n 1, 1) := by decide +kernel
theorem d_M_parts_13 : decode c_M_parts 13 = .ok (.iload_n 3, 1) := by decide +kernel
theorem d_M_parts_14 : decode c_M_parts 14 = .ok (.sipush 515, 3) := by decide +kernel
theorem d_M_parts_17 : decode c_M_parts 17 = .ok (.idiv, 1) := by decide +kernel
theorem d_M_parts_18 : decode c_M_parts 18 = .ok (.invokevirtual 219, 3) := by decide +kernel
theorem d_M_parts_21 : decode c_M_parts 21 = .ok (.iconst (-1), 1) := by decide +kernel
theorem d_M_parts_22 : decode c_M_parts 22 = .ok (.if_icmp .eq 7, 3) := by decide +kernel
theorem d_M_parts_25 : decode c_M_parts 25 = .ok (.iconst 1, 1) := by decide +kernel
theorem d_M_parts_26 : decode c_M_parts 26 = .ok (.goto 4, 3) := by decide +kernel
theorem d_M_parts_29 : decode c_M_parts 29 = .ok (.iconst 0, 1) := by decide +kernel
theorem d_M_parts_30 : decode c_M_parts 30 = .ok (.istore 4, 2) := by decide +kernel
theorem d_M_parts_32 : decode c_M_parts 32 = .ok (.iload_n 3, 1) := by decide +kernel
theorem d_M_parts_33 : decode c_M_parts 33 = .ok (.sipush 515, 3) := by decide +kernel
theorem d_M_parts_36 : decode c_M_parts 36 = .ok (.irem, 1) := by decide +kernel
theorem d_M_parts_37 : decode c_M_parts 37 = .ok (.sipush 514, 3) := by decide +kernel
theorem d_M_parts_40 : decode c_M_parts 40 = .ok (.if_icmp .eq 21, 3) := by decide +kernel
theorem d_M_parts_43 : decode c_M_parts 43 = .ok (.aload_n 0, 1) := by decide +kernel
theorem d_M_parts_44 : decode c_M_parts 44 = .ok (.iload_n 2, 1) := by decide +kernel
theorem d_M_parts_45 : decode c_M_parts 45 = .ok (.iload_n 3, 1) := by decide +kernel
theorem d_M_parts_46 : decode c_M_parts 46 = .ok (.sipush 515, 3) := by decide +kernel
theorem d_M_parts_49 : decode c_M_parts 49 = .ok (.irem, 1) := by decide +kernel
theorem d_M_parts_50 : decode c_M_parts 50 = .ok (.invokevirtual 219, 3) := by decide +kernel
theorem d_M_parts_53 : decode c_M_parts 53 = .ok (.iconst (-1), 1) := by decide +kernel
theorem d_M_parts_54 : decode c_M_parts 54 = .ok (.if_icmp .eq 7, 3) := by decide +kernel
theorem d_M_parts_57 : decode c_M_parts 57 = .ok (.iconst 1, 1) := by decide +kernel
theorem d_M_parts_58 : decode c_M_parts 58 = .ok (.goto 4, 3) := by decide +kernel
theorem d_M_parts_61 : decode c_M_parts 61 = .ok (.iconst 0, 1) := by decide +kernel
theorem d_M_parts_62 : decode c_M_parts 62 = .ok (.istore 5, 2) := by decide +kernel
theorem d_M_parts_64 : decode c_M_parts 64 = .ok (.iload 4, 2) := by decide +kernel
theorem d_M_parts_66 : decode c_M_parts 66 = .ok (.iload 5, 2) := by decide +kernel
theorem d_M_parts_68 : decode c_M_parts 68 = .ok (.if_icmp .eq 7, 3) := by decide +kernel
theorem d_M_parts_71 : decode c_M_parts 71 = .ok (.iconst 1, 1) := by decide +kernel
theorem d_M_parts_72 : decode c_M_parts 72 = .ok (.goto 4, 3) := by decide +kernel
theorem d_M_parts_75 : decode c_M_parts 75 = .ok (.iconst 0, 1) := by decide +kernel
theorem d_M_parts_76 : decode c_M_parts 76 = .ok (.ireturn, 1) := by decide +kernel
theorem d_M_far_0 : decode c_M_far 0 = .ok (.iconst 0, 1) := by decide +kernel
theorem d_M_far_1 : decode c_M_far 1 = .ok (.istore 4, 2) := by decide +kernel
theorem d_M_far_3 : decode c_M_far 3 = .ok (.iload 4, 2) := by decide +kernel
theorem d_M_far_5 : decode c_M_far 5 = .ok (.sipush 8290, 3) := by decide +kernel
theorem d_M_far_8 : decode c_M_far 8 = .ok (.if_icmp .ge 25, 3) := by decide +kernel
theorem d_M_far_11 : decode c_M_far 11 = .ok (.aload_n 0, 1) := by decide +kernel
theorem d_M_far_12 : decode c_M_far 12 = .ok (.getfield 122, 3) := by decide +kernel
theorem d_M_far_15 : decode c_M_far 15 = .ok (.iload 4, 2) := by decide +kernel
theorem d_M_far_17 : decode c_M_far 17 = .ok (.iconst 0, 1) := by decide +kernel
theorem d_M_far_18 : decode c_M_far 18 = .ok (.iastore, 1) := by decide +kernel
theorem d_M_far_19 : decode c_M_far 19 = .ok (.aload_n 0, 1) := by decide +kernel
theorem d_M_far_20 : decode c_M_far 20 = .ok (.getfield 125, 3) := by decide +kernel
theorem d_M_far_23 : decode c_M_far 23 = .ok (.iload 4, 2) := by decide +kernel
theorem d_M_far_25 : decode c_M_far 25 = .ok (.iconst 0, 1) := by decide +kernel
theorem d_M_far_26 : decode c_M_far 26 = .ok (.iastore, 1) := by decide +kernel
theorem d_M_far_27 : decode c_M_far 27 = .ok (.iinc 4 1, 3) := by decide +kernel
theorem d_M_far_30 : decode c_M_far 30 = .ok (.goto (-27), 3) := by decide +kernel
theorem d_M_far_33 : decode c_M_far 33 = .ok (.aload_n 0, 1) := by decide +kernel
theorem d_M_far_34 : decode c_M_far 34 = .ok (.getfield 122, 3) := by decide +kernel
theorem d_M_far_37 : decode c_M_far 37 = .ok (.iload_n 3, 1) := by decide +kernel
theorem d_M_far_38 : decode c_M_far 38 = .ok (.invokestatic 249, 3) := by decide +kernel
theorem d_M_far_41 : decode c_M_far 41 = .ok (.aload_n 0, 1) := by decide +kernel
theorem d_M_far_42 : decode c_M_far 42 = .ok (.getfield 125, 3) := by decide +kernel
theorem d_M_far_45 : decode c_M_far 45 = .ok (.iload_n 3, 1) := by decide +kernel
theorem d_M_far_46 : decode c_M_far 46 = .ok (.invokestatic 249, 3) := by decide +kernel
theorem d_M_far_49 : decode c_M_far 49 = .ok (.iconst 0, 1) := by decide +kernel
theorem d_M_far_50 : decode c_M_far 50 = .ok (.istore 4, 2) := by decide +kernel
theorem d_M_far_52 : decode c_M_far 52 = .ok (.iconst 1, 1) := by decide +kernel
theorem d_M_far_53 : decode c_M_far 53 = .ok (.istore 5, 2) := by decide +kernel
theorem d_M_far_55 : decode c_M_far 55 = .ok (.iload 5, 2) := by decide +kernel
theorem d_M_far_57 : decode c_M_far 57 = .ok (.ifCond .eq 214, 3) := by decide +kernel
theorem d_M_far_60 : decode c_M_far 60 = .ok (.iconst 0, 1) := by decide +kernel
theorem d_M_far_61 : decode c_M_far 61 = .ok (.istore 5, 2) := by decide +kernel
theorem d_M_far_63 : decode c_M_far 63 = .ok (.iconst 0, 1) := by decide +kernel
theorem d_M_far_64 : decode c_M_far 64 = .ok (.istore 6, 2) := by decide +kernel
theorem d_M_far_66 : decode c_M_far 66 = .ok (.iload 6, 2) := by decide +kernel
theorem d_M_far_68 : decode c_M_far 68 = .ok (.sipush 8290, 3) := by decide +kernel
theorem d_M_far_71 : decode c_M_far 71 = .ok (.if_icmp .ge 17, 3) := by decide +kernel
theorem d_M_far_74 : decode c_M_far 74 = .ok (.aload_n 0, 1) := by decide +kernel
theorem d_M_far_75 : decode c_M_far 75 = .ok (.getfield 128, 3) := by decide +kernel
theorem d_M_far_78 : decode c_M_far 78 = .ok (.iload 6, 2) := by decide +kernel
theorem d_M_far_80 : decode c_M_far 80 = .ok (.iconst 0, 1) := by decide +kernel
theorem d_M_far_81 : decode c_M_far 81 = .ok (.iastore, 1) := by decide +kernel
theorem d_M_far_82 : decode c_M_far 82 = .ok (.iinc 6 1, 3) := by decide +kernel
theorem d_M_far_85 : decode c_M_far 85 = .ok (.goto (-19), 3) := by decide +kernel
theorem d_M_far_88 : decode c_M_far 88 = .ok (.iconst 0, 1) := by decide +kernel
theorem d_M_far_89 : decode c_M_far 89 = .ok (.istore 6, 2) := by decide +kernel
theorem d_M_far_91 : decode c_M_far 91 = .ok (.iload 6, 2) := by decide +kernel
theorem d_M_far_93 : decode c_M_far 93 = .ok (.sipush 8290, 3) := by decide +kernel
theorem d_M_far_96 : decode c_M_far 96 = .ok (.if_icmp .ge 138, 3) := by decide +kernel
theorem d_M_far_99 : decode c_M_far 99 = .ok (.iconst 0, 1) := by decide +kernel
theorem d_M_far_100 : decode c_M_far 100 = .ok (.istore 7, 2) := by decide +kernel
theorem d_M_far_102 : decode c_M_far 102 = .ok (.iload 7, 2) := by decide +kernel
theorem d_M_far_104 : decode c_M_far 104 = .ok (.bipush 32, 2) := by decide +kernel
theorem d_M_far_106 : decode c_M_far 106 = .ok (.if_icmp .ge 122, 3) := by decide +kernel
theorem d_M_far_109 : decode c_M_far 109 = .ok (.aload_n 0, 1) := by decide +kernel
theorem d_M_far_110 : decode c_M_far 110 = .ok (.getfield 125, 3) := by decide +kernel
theorem d_M_far_113 : decode c_M_far 113 = .ok (.iload 6, 2) := by decide +kernel
theorem d_M_far_115 : decode c_M_far 115 = .ok (.iaload, 1) := by decide +kernel
theorem d_M_far_116 : decode c_M_far 116 = .ok (.ifCond .eq 112, 3) := by decide +kernel
theorem d_M_far_119 : decode c_M_far 119 = .ok (.bipush 32, 2) := by decide +kernel
theorem d_M_far_121 : decode c_M_far 121 = .ok (.iload 6, 2) := by decide +kernel
theorem d_M_far_123 : decode c_M_far 123 = .ok (.imul, 1) := by decide +kernel
theorem d_M_far_124 : decode c_M_far 124 = .ok (.iload 7, 2) := by decide +kernel
theorem d_M_far_126 : decode c_M_far 126 = .ok (.iadd, 1) := by decide +kernel
theorem d_M_far_127 : decode c_M_far 127 = .ok (.istore 8, 2) := by decide +kernel
theorem d_M_far_129 : decode c_M_far 129 = .ok (.aload_n 0, 1) := by decide +kernel
theorem d_M_far_130 : decode c_M_far 130 = .ok (.getfield 125, 3) := by decide +kernel
theorem d_M_far_133 : decode c_M_far 133 = .ok (.iload 8, 2) := by decide +kernel
theorem d_M_far_135 : decode c_M_far 135 = .ok (.invokestatic 253, 3) := by decide +kernel
theorem d_M_far_138 : decode c_M_far 138 = .ok (.ifCond .ne 6, 3) := by decide +kernel
theorem d_M_far_141 : decode c_M_far 141 = .ok (.goto 81, 3) := by decide +kernel
theorem d_M_far_144 : decode c_M_far 144 = .ok (.aload_n 0, 1) := by decide +kernel
theorem d_M_far_145 : decode c_M_far 145 = .ok (.iload_n 1, 1) := by decide +kernel
theorem d_M_far_146 : decode c_M_far 146 = .ok (.iload_n 2, 1) := by decide +kernel
theorem d_M_far_147 : decode c_M_far 147 = .ok (.iload 8, 2) := by decide +kernel
theorem d_M_far_149 : decode c_M_far 149 = .ok (.invokevirtual 257, 3) := by decide +kernel
theorem d_M_far_152 : decode c_M_far 152 = .ok (.ifCond .eq 6, 3) := by decide +kernel
theorem d_M_far_155 : decode c_M_far 155 = .ok (.iload 4, 2) := by decide +kernel
theorem d_M_far_157 : decode c_M_far 157 = .ok (.ireturn, 1) := by decide +kernel
theorem d_M_far_158 : decode c_M_far 158 = .ok (.iconst 0, 1) := by decide +kernel
theorem d_M_far_159 : decode c_M_far 159 = .ok (.istore 9, 2) := by decide +kernel
theorem d_M_far_161 : decode c_M_far 161 = .ok (.iload 9, 2) := by decide +kernel
theorem d_M_far_163 : decode c_M_far 163 = .ok (.bipush 6, 2) := by decide +kernel
theorem d_M_far_165 : decode c_M_far 165 = .ok (.if_icmp .ge 57, 3) := by decide +kernel
theorem d_M_far_168 : decode c_M_far 168 = .ok (.aload_n 0, 1) := by decide +kernel
theorem d_M_far_169 : decode c_M_far 169 = .ok (.iload_n 1, 1) := by decide +kernel
theorem d_M_far_170 : decode c_M_far 170 = .ok (.iload_n 2, 1) := by decide +kernel
theorem d_M_far_171 : decode c_M_far 171 = .ok (.iload 8, 2) := by decide +kernel
theorem d_M_far_173 : decode c_M_far 173 = .ok (.iload 9, 2) := by decide +kernel
theorem d_M_far_175 : decode c_M_far 175 = .ok (.invokevirtual 260, 3) := by decide +kernel
theorem d_M_far_178 : decode c_M_far 178 = .ok (.istore 10, 2) := by decide +kernel
theorem d_M_far_180 : decode c_M_far 180 = .ok (.aload_n 0, 1) := by decide +kernel
theorem d_M_far_181 : decode c_M_far 181 = .ok (.getfield 122, 3) := by decide +kernel
theorem d_M_far_184 : decode c_M_far 184 = .ok (.iload 10, 2) := by decide +kernel
theorem d_M_far_186 : decode c_M_far 186 = .ok (.invokestatic 253, 3) := by decide +kernel
theorem d_M_far_189 : decode c_M_far 189 = .ok (.ifCond .eq 6, 3) := by decide +kernel
theorem d_M_far_192 : decode c_M_far 192 = .ok (.goto 24, 3) := by decide +kernel
theorem d_M_far_195 : decode c_M_far 195 = .ok (.aload_n 0, 1) := by decide +kernel
theorem d_M_far_196 : decode c_M_far 196 = .ok (.getfield 122, 3) := by decide +kernel
theorem d_M_far_199 : decode c_M_far 199 = .ok (.iload 10, 2) := by decide +kernel
theorem d_M_far_201 : decode c_M_far 201 = .ok (.invokestatic 249, 3) := by decide +kernel
theorem d_M_far_204 : decode c_M_far 204 = .ok (.aload_n 0, 1) := by decide +kernel
theorem d_M_far_205 : decode c_M_far 205 = .ok (.getfield 128, 3) := by decide +kernel
theorem d_M_far_208 : decode c_M_far 208 = .ok (.iload 10, 2) := by decide +kernel
theorem d_M_far_210 : decode c_M_far 210 = .ok (.invokestatic 249, 3) := by decide +kernel
theorem d_M_far_213 : decode c_M_far 213 = .ok (.iconst 1, 1) := by decide +kernel
theorem d_M_far_214 : decode c_M_far 214 = .ok (.istore 5, 2) := by decide +kernel
theorem d_M_far_216 : decode c_M_far 216 = .ok (.iinc 9 1, 3) := by decide +kernel
theorem d_M_far_219 : decode c_M_far 219 = .ok (.goto (-58), 3) := by decide +kernel
theorem d_M_far_222 : decode c_M_far 222 = .ok (.iinc 7 1, 3) := by decide +kernel
theorem d_M_far_225 : decode c_M_far 225 = .ok (.goto (-123), 3) := by decide +kernel
theorem d_M_far_228 : decode c_M_far 228 = .ok (.iinc 6 1, 3) := by decide +kernel
theorem d_M_far_231 : decode c_M_far 231 = .ok (.goto (-140), 3) := by decide +kernel
theorem d_M_far_234 : decode c_M_far 234 = .ok (.iconst 0, 1) := by decide +kernel
theorem d_M_far_235 : decode c_M_far 235 = .ok (.istore 6, 2) := by decide +kernel
theorem d_M_far_237 : decode c_M_far 237 = .ok (.iload 6, 2) := by decide +kernel
theorem d_M_far_239 : decode c_M_far 239 = .ok (.sipush 8290, 3) := by decide +kernel
theorem d_M_far_242 : decode c_M_far 242 = .ok (.if_icmp .ge 23, 3) := by decide +kernel
theorem d_M_far_245 : decode c_M_far 245 = .ok (.aload_n 0, 1) := by decide +kernel
theorem d_M_far_246 : decode c_M_far 246 = .ok (.getfield 125, 3) := by decide +kernel
theorem d_M_far_249 : decode c_M_far 249 = .ok (.iload 6, 2) := by decide +kernel
theorem d_M_far_251 : decode c_M_far 251 = .ok (.aload_n 0, 1) := by decide +kernel
theorem d_M_far_252 : decode c_M_far 252 = .ok (.getfield 128, 3) := by decide +kernel
theorem d_M_far_255 : decode c_M_far 255 = .ok (.iload 6, 2) := by decide +kernel
theorem d_M_far_257 : decode c_M_far 257 = .ok (.iaload, 1) := by decide +kernel
theorem d_M_far_258 : decode c_M_far 258 = .ok (.iastore, 1) := by decide +kernel
theorem d_M_far_259 : decode c_M_far 259 = .ok (.iinc 6 1, 3) := by decide +kernel
theorem d_M_far_262 : decode c_M_far 262 = .ok (.goto (-25), 3) := by decide +kernel
theorem d_M_far_265 : decode c_M_far 265 = .ok (.iinc 4 1, 3) := by decide +kernel
theorem d_M_far_268 : decode c_M_far 268 = .ok (.goto (-213), 3) := by decide +kernel
theorem d_M_far_271 : decode c_M_far 271 = .ok (.iconst (-1), 1) := by decide +kernel
theorem d_M_far_272 : decode c_M_far 272 = .ok (.ireturn, 1) := by decide +kernel
def p_M_has (n_p0 : Nat) (f_p0 : (Nat → Int32)) (x1 : Int32) (post : Int32 → Prop) : Prop := (vp_in (x1 / 32) n_p0 ∧ ((¬ (((f_p0 (x1 / 32).toNatClampNeg) >>> ((x1 - x1 / 32 * 32) &&& 31)) &&& (1 : Int32)) = 1 → (post 0)) ∧ ((((f_p0 (x1 / 32).toNatClampNeg) >>> ((x1 - x1 / 32 * 32) &&& 31)) &&& (1 : Int32)) = 1 → (post 1))))
set_option maxHeartbeats 4000000 in
set_option maxRecDepth 100000 in
theorem k_M_has (l : Launch) (G : va_G) (K : Nat → ClassId) (a0 : Nat) (n_p0 : Nat) (f_p0 : (Nat → Int32)) (x1 : Int32) (post : Int32 → Prop) (h : p_M_has n_p0 f_p0 x1 post) : MSi l y_M_has (.code y_M_has c_M_has 2 (some .boolean)) { frames := 0, cells := 0, slots := 0, locals := 0 } G K [(a0, .inl (K 0, n_p0, .inl f_p0))] [.ref a0, .int x1] post := by
  refine g_metSi (cc := c_M_has) (maxL := 2) (ret := some .boolean) (rt := .boolean) (by decide) rfl rfl (Nat.le_of_ble_eq_true rfl) ?_
  intro p e s m below meth c Q hx hb hml hown htg hK hN hP hret ls hl
  have hl : lv_has ls 2 [(0, .ref a0), (1, .int x1)] := hl
  refine lv_aload_n hx hb d_M_has_0 rfl (lv_at hl 0 rfl) ?_
  refine lv_iload_n hx hb d_M_has_1 rfl (lv_at hl 1 rfl) ?_
  refine lv_bipush (v := 32) hx hb d_M_has_2 (by decide) ?_
  refine lv_idiv hx hb d_M_has_4 (by decide) ?_
  obtain ⟨hin, h⟩ := h
  refine va_iald hx hb hK hP 0 0 rfl rfl hin d_M_has_5 ?_
  refine lv_iload_n hx hb d_M_has_6 rfl (lv_at hl 1 rfl) ?_
  refine lv_bipush (v := 32) hx hb d_M_has_7 (by decide) ?_
  refine lv_irem hx hb d_M_has_9 (by decide) ?_
  refine lv_ishr hx hb d_M_has_10 ?_
  refine lv_iconst (v := 1) hx hb d_M_has_11 (by decide) ?_
  refine lv_iand hx hb d_M_has_12 ?_
  refine lv_iconst (v := 1) hx hb d_M_has_13 (by decide) ?_
  refine lv_icmp_ne (tgt := 21) hx hb d_M_has_14 (by decide) (fun hc => ?_) (fun hc => ?_)
  · replace h := h.1 hc
    refine lv_iconst (v := 0) hx hb d_M_has_21 (by decide) ?_
    exact hret _ _ _ h (by decide +kernel) d_M_has_22
  · replace h := h.2 hc
    refine lv_iconst (v := 1) hx hb d_M_has_17 (by decide) ?_
    refine lv_goto (tgt := 22) hx hb d_M_has_18 (by decide) ?_
    exact hret _ _ _ h (by decide +kernel) d_M_has_22
def p_M_put (n_p0 : Nat) (f_p0 : (Nat → Int32)) (x1 : Int32) (post : (Nat → Int32) → Prop) : Prop := (vp_in (x1 / 32) n_p0 ∧ (vp_in (x1 / 32) n_p0 ∧ (post (upd f_p0 (x1 / 32).toNatClampNeg ((f_p0 (x1 / 32).toNatClampNeg) ||| ((1 : Int32) <<< ((x1 - x1 / 32 * 32) &&& 31)))))))
set_option maxHeartbeats 4000000 in
set_option maxRecDepth 100000 in
theorem k_M_put (l : Launch) (G : va_G) (K : Nat → ClassId) (a0 : Nat) (sz : Nat) (n_p0 : Nat) (f_p0 : (Nat → Int32)) (x1 : Int32) (post : (Nat → Int32) → Prop) (h : p_M_put n_p0 f_p0 x1 post) : MWv l y_M_put (.code y_M_put c_M_put 2 none) { frames := 0, cells := 0, slots := 0, locals := 0 } G K [(a0, .inl (K 0, n_p0, .inl f_p0))] [] [.ref a0, .int x1] sz (fun (u : (Nat → Int32)) => post u) (fun u => [(a0, .inl (K 0, n_p0, .inl u))]) 0 0 := by
  refine g_metWv (cc := c_M_put) (maxL := 2) (ret := none) (by decide) rfl rfl (Nat.le_of_ble_eq_true rfl) ?_
  intro p e s m below meth c A Q hx hb hml hown hname htg hK hN hP hD hA hS hR rN hret ls hl
  have hl : lv_has ls 2 [(0, .ref a0), (1, .int x1)] := hl
  refine lv_aload_n hx hb d_M_put_0 rfl (lv_at hl 0 rfl) ?_
  refine lv_iload_n hx hb d_M_put_1 rfl (lv_at hl 1 rfl) ?_
  refine lv_bipush (v := 32) hx hb d_M_put_2 (by decide) ?_
  refine lv_idiv hx hb d_M_put_4 (by decide) ?_
  refine lv_dup2_11 hx hb d_M_put_5 rfl rfl ?_
  obtain ⟨hin, h⟩ := h
  refine va_iald hx hb hK hP 0 0 rfl rfl hin d_M_put_6 ?_
  refine lv_iconst (v := 1) hx hb d_M_put_7 (by decide) ?_
  refine lv_iload_n hx hb d_M_put_8 rfl (lv_at hl 1 rfl) ?_
  refine lv_bipush (v := 32) hx hb d_M_put_9 (by decide) ?_
  refine lv_irem hx hb d_M_put_11 (by decide) ?_
  refine lv_ishl hx hb d_M_put_12 ?_
  refine lv_ior hx hb d_M_put_13 ?_
  obtain ⟨hin, h⟩ := h
  refine va_iast hx hb hK hP hD hS 0 0 rfl rfl hin d_M_put_14 (fun H locs hP hD hS => ?_)
  have hP : va_P G vwCl [(a0, .inl (K 0, n_p0, .inl (upd f_p0 (x1 / 32).toNatClampNeg ((f_p0 (x1 / 32).toNatClampNeg) ||| ((1 : Int32) <<< ((x1 - x1 / 32 * 32) &&& 31))))))] H := hP
  have hD : va_D A [(a0, .inl (K 0, n_p0, .inl (upd f_p0 (x1 / 32).toNatClampNeg ((f_p0 (x1 / 32).toNatClampNeg) ||| ((1 : Int32) <<< ((x1 - x1 / 32 * 32) &&& 31))))))] := hD
  exact hret (upd f_p0 (x1 / 32).toNatClampNeg ((f_p0 (x1 / 32).toNatClampNeg) ||| ((1 : Int32) <<< ((x1 - x1 / 32 * 32) &&& 31)))) _ _ _ _ h (hP.sub [0] rfl) (hD.sub [0] (by decide) rfl) hS d_M_put_15
def p_M_follow (f_o_step : (Nat → Int32)) (x1 : Int32) (x2 : Int32) (x3 : Int32) (x4 : Int32) (post : Int32 → Prop) : Prop := ((¬ (x3 / 515) = 514 → (p_M_go f_o_step x1 (x3 / 515) x4 (fun r1 => ((¬ (x3 - x3 / 515 * 515) = 514 → (p_M_go f_o_step x2 (x3 - x3 / 515 * 515) x4 (fun r2 => ((¬ r1 = (-1) → ((¬ r2 = (-1) → (post ((515 * r1) + r2))) ∧ (r2 = (-1) → (post ((515 * r1) + 514))))) ∧ (r1 = (-1) → ((¬ r2 = (-1) → (post ((515 * 514) + r2))) ∧ (r2 = (-1) → (post ((515 * 514) + 514))))))))) ∧ ((x3 - x3 / 515 * 515) = 514 → ((¬ r1 = (-1) → (post ((515 * r1) + 514))) ∧ (r1 = (-1) → (post ((515 * 514) + 514))))))))) ∧ ((x3 / 515) = 514 → ((¬ (x3 - x3 / 515 * 515) = 514 → (p_M_go f_o_step x2 (x3 - x3 / 515 * 515) x4 (fun r3 => ((¬ r3 = (-1) → (post ((515 * 514) + r3))) ∧ (r3 = (-1) → (post ((515 * 514) + 514))))))) ∧ ((x3 - x3 / 515 * 515) = 514 → (post ((515 * 514) + 514))))))
set_option maxHeartbeats 4000000 in
set_option maxRecDepth 100000 in
theorem k_M_follow (l : Launch) (G : va_G) (K : Nat → ClassId) (a0 : Nat) (ad : Nat → Nat) (v_o_code : Int32) (v_o_typed : Int32) (v_o_rules : Int32) (v_o_at : Int32) (v_o_read : Int32) (v_o_depth : Int32) (v_o_wrong : Int32) (v_o_there : Int32) (v_o_ended : Int32) (v_o_mode : Int32) (v_o_kept : Int32) (v_o_came : Int32) (v_o_pending : Int32) (v_o_looked : Int32) (v_o_tokens : Int32) (v_o_oldest : Int32) (f_o_step : (Nat → Int32)) (x1 : Int32) (x2 : Int32) (x3 : Int32) (x4 : Int32) (post : Int32 → Prop) (h : p_M_follow f_o_step x1 x2 x3 x4 post) : MSi l y_M_follow (.code y_M_follow c_M_follow 9 (some .int)) { frames := 1, cells := 0, slots := 0, locals := 23 } G K [(a0, .inr (12, oM v_o_code v_o_typed v_o_rules v_o_at v_o_read v_o_depth v_o_wrong v_o_there v_o_ended v_o_mode v_o_kept v_o_came v_o_pending v_o_looked v_o_tokens v_o_oldest ad)), ((ad 30), .inl (K 0, 9252, .inl f_o_step))] [.ref a0, .int x1, .int x2, .int x3, .int x4] post := by
  refine g_metSi (cc := c_M_follow) (maxL := 9) (ret := some .int) (rt := .int) (by decide) rfl rfl (Nat.le_of_ble_eq_true rfl) ?_
  intro p e s m below meth c Q hx hb hml hown htg hK hN hP hret ls hl
  have hl : lv_has ls 9 [(0, .ref a0), (1, .int x1), (2, .int x2), (3, .int x3), (4, .int x4)] := hl
  refine lv_iload_n hx hb d_M_follow_0 rfl (lv_at hl 3 rfl) ?_
  refine lv_sipush (v := 515) hx hb d_M_follow_1 (by decide) ?_
  refine lv_idiv hx hb d_M_follow_4 (by decide) ?_
  refine lv_istore (lv' := [(5, .int (x3 / 515)), (0, .ref a0), (1, .int x1), (2, .int x2), (3, .int x3), (4, .int x4)]) hx hb d_M_follow_5 hl (by decide) rfl (fun ls hl => ?_)
  refine lv_iload_n hx hb d_M_follow_7 rfl (lv_at hl 4 rfl) ?_
  refine lv_sipush (v := 515) hx hb d_M_follow_8 (by decide) ?_
  refine lv_irem hx hb d_M_follow_11 (by decide) ?_
  refine lv_istore (lv' := [(6, .int (x3 - x3 / 515 * 515)), (5, .int (x3 / 515)), (0, .ref a0), (1, .int x1), (2, .int x2), (3, .int x3), (4, .int x4)]) hx hb d_M_follow_12 hl (by decide) rfl (fun ls hl => ?_)
  refine lv_iload hx hb d_M_follow_14 (lv_at hl 1 rfl) ?_
  refine lv_sipush (v := 514) hx hb d_M_follow_16 (by decide) ?_
  refine lv_icmp_ne (tgt := 26) hx hb d_M_follow_19 (by decide) (fun hc => ?_) (fun hc => ?_)
  · replace h := h.1 hc
    refine lv_aload_n hx hb d_M_follow_26 rfl (lv_at hl 2 rfl) ?_
    refine lv_iload_n hx hb d_M_follow_27 rfl (lv_at hl 3 rfl) ?_
    refine lv_iload hx hb d_M_follow_28 (lv_at hl 1 rfl) ?_
    refine lv_iload hx hb d_M_follow_30 (lv_at hl 6 rfl) ?_
    have hPc : va_P G vwCl [(a0, .inr (12, oM v_o_code v_o_typed v_o_rules v_o_at v_o_read v_o_depth v_o_wrong v_o_there v_o_ended v_o_mode v_o_kept v_o_came v_o_pending v_o_looked v_o_tokens v_o_oldest ad)), ((ad 30), .inl (K 0, 9252, .inl f_o_step))] _ := hP.sub [0, 1] rfl
    refine vp_callSi (va_Run.run (va_runV (As := [.int x1, .int (x3 / 515), .int x4]) (rest := []) ⟨hx, hb, hml, hown, htg⟩ (k_M_go l G K a0 ad v_o_code v_o_typed v_o_rules v_o_at v_o_read v_o_depth v_o_wrong v_o_there v_o_ended v_o_mode v_o_kept v_o_came v_o_pending v_o_looked v_o_tokens v_o_oldest f_o_step x1 (x3 / 515) x4 _ h) (cwV 3 htg (gGoodV m_752 m_753 m_885 m_13 m_754) rfl rfl rfl (by decide +kernel) ⟨(Nat.le_of_ble_eq_true rfl), (Nat.le_of_ble_eq_true rfl)⟩) (gS_preV (ci := 12) (q0 := 0) hK hN hPc rfl rfl) rfl rfl hl.1 rfl (lv_room (Nat.le_of_ble_eq_true rfl)) d_M_follow_32 ⟨(Nat.le_of_ble_eq_true rfl), (Nat.le_of_ble_eq_true rfl)⟩)) (fun r1 h => ?_)
    refine lv_istore (lv' := [(7, .int r1), (6, .int (x3 - x3 / 515 * 515)), (5, .int (x3 / 515)), (0, .ref a0), (1, .int x1), (2, .int x2), (3, .int x3), (4, .int x4)]) hx hb d_M_follow_35 hl (by decide) rfl (fun ls hl => ?_)
    refine lv_iload hx hb d_M_follow_37 (lv_at hl 1 rfl) ?_
    refine lv_sipush (v := 514) hx hb d_M_follow_39 (by decide) ?_
    refine lv_icmp_ne (tgt := 49) hx hb d_M_follow_42 (by decide) (fun hc => ?_) (fun hc => ?_)
    · replace h := h.1 hc
      refine lv_aload_n hx hb d_M_follow_49 rfl (lv_at hl 3 rfl) ?_
      refine lv_iload_n hx hb d_M_follow_50 rfl (lv_at hl 5 rfl) ?_
      refine lv_iload hx hb d_M_follow_51 (lv_at hl 1 rfl) ?_
      refine lv_iload hx hb d_M_follow_53 (lv_at hl 7 rfl) ?_
      have hPc : va_P G vwCl [(a0, .inr (12, oM v_o_code v_o_typed v_o_rules v_o_at v_o_read v_o_depth v_o_wrong v_o_there v_o_ended v_o_mode v_o_kept v_o_came v_o_pending v_o_looked v_o_tokens v_o_oldest ad)), ((ad 30), .inl (K 0, 9252, .inl f_o_step))] _ := hP.sub [0, 1] rfl
      refine vp_callSi (va_Run.run (va_runV (As := [.int x2, .int (x3 - x3 / 515 * 515), .int x4]) (rest := []) ⟨hx, hb, hml, hown, htg⟩ (k_M_go l G K a0 ad v_o_code v_o_typed v_o_rules v_o_at v_o_read v_o_depth v_o_wrong v_o_there v_o_ended v_o_mode v_o_kept v_o_came v_o_pending v_o_looked v_o_tokens v_o_oldest f_o_step x2 (x3 - x3 / 515 * 515) x4 _ h) (cwV 3 htg (gGoodV m_752 m_753 m_885 m_13 m_754) rfl rfl rfl (by decide +kernel) ⟨(Nat.le_of_ble_eq_true rfl), (Nat.le_of_ble_eq_true rfl)⟩) (gS_preV (ci := 12) (q0 := 0) hK hN hPc rfl rfl) rfl rfl hl.1 rfl (lv_room (Nat.le_of_ble_eq_true rfl)) d_M_follow_55 ⟨(Nat.le_of_ble_eq_true rfl), (Nat.le_of_ble_eq_true rfl)⟩)) (fun r2 h => ?_)
      refine lv_istore (lv' := [(8, .int r2), (7, .int r1), (6, .int (x3 - x3 / 515 * 515)), (5, .int (x3 / 515)), (0, .ref a0), (1, .int x1), (2, .int x2), (3, .int x3), (4, .int x4)]) hx hb d_M_follow_58 hl (by decide) rfl (fun ls hl => ?_)
      refine lv_sipush (v := 515) hx hb d_M_follow_60 (by decide) ?_
      refine lv_iload hx hb d_M_follow_63 (lv_at hl 1 rfl) ?_
      refine lv_iconst (v := (-1)) hx hb d_M_follow_65 (by decide) ?_
      refine lv_icmp_ne (tgt := 75) hx hb d_M_follow_66 (by decide) (fun hc => ?_) (fun hc => ?_)
      · replace h := h.1 hc
        refine lv_iload hx hb d_M_follow_75 (lv_at hl 1 rfl) ?_
        refine lv_imul hx hb d_M_follow_77 ?_
        refine lv_iload hx hb d_M_follow_78 (lv_at hl 0 rfl) ?_
        refine lv_iconst (v := (-1)) hx hb d_M_follow_80 (by decide) ?_
        refine lv_icmp_ne (tgt := 90) hx hb d_M_follow_81 (by decide) (fun hc => ?_) (fun hc => ?_)
        · replace h := h.1 hc
          refine lv_iload hx hb d_M_follow_90 (lv_at hl 0 rfl) ?_
          refine lv_iadd hx hb d_M_follow_92 ?_
          exact hret _ _ _ h (vp_nar_int _) d_M_follow_93
        · replace h := h.2 hc
          refine lv_sipush (v := 514) hx hb d_M_follow_84 (by decide) ?_
          refine lv_goto (tgt := 92) hx hb d_M_follow_87 (by decide) ?_
          refine lv_iadd hx hb d_M_follow_92 ?_
          exact hret _ _ _ h (vp_nar_int _) d_M_follow_93
      · replace h := h.2 hc
        refine lv_sipush (v := 514) hx hb d_M_follow_69 (by decide) ?_
        refine lv_goto (tgt := 77) hx hb d_M_follow_72 (by decide) ?_
        refine lv_imul hx hb d_M_follow_77 ?_
        refine lv_iload hx hb d_M_follow_78 (lv_at hl 0 rfl) ?_
        refine lv_iconst (v := (-1)) hx hb d_M_follow_80 (by decide) ?_
        refine lv_icmp_ne (tgt := 90) hx hb d_M_follow_81 (by decide) (fun hc => ?_) (fun hc => ?_)
        · replace h := h.1 hc
          refine lv_iload hx hb d_M_follow_90 (lv_at hl 0 rfl) ?_
          refine lv_iadd hx hb d_M_follow_92 ?_
          exact hret _ _ _ h (vp_nar_int _) d_M_follow_93
        · replace h := h.2 hc
          refine lv_sipush (v := 514) hx hb d_M_follow_84 (by decide) ?_
          refine lv_goto (tgt := 92) hx hb d_M_follow_87 (by decide) ?_
          refine lv_iadd hx hb d_M_follow_92 ?_
          exact hret _ _ _ h (vp_nar_int _) d_M_follow_93
    · replace h := h.2 hc
      refine lv_iconst (v := (-1)) hx hb d_M_follow_45 (by decide) ?_
      refine lv_goto (tgt := 58) hx hb d_M_follow_46 (by decide) ?_
      refine lv_istore (lv' := [(8, .int (-1)), (7, .int r1), (6, .int (x3 - x3 / 515 * 515)), (5, .int (x3 / 515)), (0, .ref a0), (1, .int x1), (2, .int x2), (3, .int x3), (4, .int x4)]) hx hb d_M_follow_58 hl (by decide) rfl (fun ls hl => ?_)
      refine lv_sipush (v := 515) hx hb d_M_follow_60 (by decide) ?_
      refine lv_iload hx hb d_M_follow_63 (lv_at hl 1 rfl) ?_
      refine lv_iconst (v := (-1)) hx hb d_M_follow_65 (by decide) ?_
      refine lv_icmp_ne (tgt := 75) hx hb d_M_follow_66 (by decide) (fun hc => ?_) (fun hc => ?_)
      · replace h := h.1 hc
        refine lv_iload hx hb d_M_follow_75 (lv_at hl 1 rfl) ?_
        refine lv_imul hx hb d_M_follow_77 ?_
        refine lv_iload hx hb d_M_follow_78 (lv_at hl 0 rfl) ?_
        refine lv_iconst (v := (-1)) hx hb d_M_follow_80 (by decide) ?_
        refine lv_icmp_ne (tgt := 90) hx hb d_M_follow_81 (by decide) (fun hc => absurd (by decide) hc) (fun _ => ?_)
        refine lv_sipush (v := 514) hx hb d_M_follow_84 (by decide) ?_
        refine lv_goto (tgt := 92) hx hb d_M_follow_87 (by decide) ?_
        refine lv_iadd hx hb d_M_follow_92 ?_
        exact hret _ _ _ h (vp_nar_int _) d_M_follow_93
      · replace h := h.2 hc
        refine lv_sipush (v := 514) hx hb d_M_follow_69 (by decide) ?_
        refine lv_goto (tgt := 77) hx hb d_M_follow_72 (by decide) ?_
        refine lv_imul hx hb d_M_follow_77 ?_
        refine lv_iload hx hb d_M_follow_78 (lv_at hl 0 rfl) ?_
        refine lv_iconst (v := (-1)) hx hb d_M_follow_80 (by decide) ?_
        refine lv_icmp_ne (tgt := 90) hx hb d_M_follow_81 (by decide) (fun hc => absurd (by decide) hc) (fun _ => ?_)
        refine lv_sipush (v := 514) hx hb d_M_follow_84 (by decide) ?_
        refine lv_goto (tgt := 92) hx hb d_M_follow_87 (by decide) ?_
        refine lv_iadd hx hb d_M_follow_92 ?_
        exact hret _ _ _ h (vp_nar_int _) d_M_follow_93
  · replace h := h.2 hc
    refine lv_iconst (v := (-1)) hx hb d_M_follow_22 (by decide) ?_
    refine lv_goto (tgt := 35) hx hb d_M_follow_23 (by decide) ?_
    refine lv_istore (lv' := [(7, .int (-1)), (6, .int (x3 - x3 / 515 * 515)), (5, .int (x3 / 515)), (0, .ref a0), (1, .int x1), (2, .int x2), (3, .int x3), (4, .int x4)]) hx hb d_M_follow_35 hl (by decide) rfl (fun ls hl => ?_)
    refine lv_iload hx hb d_M_follow_37 (lv_at hl 1 rfl) ?_
    refine lv_sipush (v := 514) hx hb d_M_follow_39 (by decide) ?_
    refine lv_icmp_ne (tgt := 49) hx hb d_M_follow_42 (by decide) (fun hc => ?_) (fun hc => ?_)
    · replace h := h.1 hc
      refine lv_aload_n hx hb d_M_follow_49 rfl (lv_at hl 3 rfl) ?_
      refine lv_iload_n hx hb d_M_follow_50 rfl (lv_at hl 5 rfl) ?_
      refine lv_iload hx hb d_M_follow_51 (lv_at hl 1 rfl) ?_
      refine lv_iload hx hb d_M_follow_53 (lv_at hl 7 rfl) ?_
      have hPc : va_P G vwCl [(a0, .inr (12, oM v_o_code v_o_typed v_o_rules v_o_at v_o_read v_o_depth v_o_wrong v_o_there v_o_ended v_o_mode v_o_kept v_o_came v_o_pending v_o_looked v_o_tokens v_o_oldest ad)), ((ad 30), .inl (K 0, 9252, .inl f_o_step))] _ := hP.sub [0, 1] rfl
      refine vp_callSi (va_Run.run (va_runV (As := [.int x2, .int (x3 - x3 / 515 * 515), .int x4]) (rest := []) ⟨hx, hb, hml, hown, htg⟩ (k_M_go l G K a0 ad v_o_code v_o_typed v_o_rules v_o_at v_o_read v_o_depth v_o_wrong v_o_there v_o_ended v_o_mode v_o_kept v_o_came v_o_pending v_o_looked v_o_tokens v_o_oldest f_o_step x2 (x3 - x3 / 515 * 515) x4 _ h) (cwV 3 htg (gGoodV m_752 m_753 m_885 m_13 m_754) rfl rfl rfl (by decide +kernel) ⟨(Nat.le_of_ble_eq_true rfl), (Nat.le_of_ble_eq_true rfl)⟩) (gS_preV (ci := 12) (q0 := 0) hK hN hPc rfl rfl) rfl rfl hl.1 rfl (lv_room (Nat.le_of_ble_eq_true rfl)) d_M_follow_55 ⟨(Nat.le_of_ble_eq_true rfl), (Nat.le_of_ble_eq_true rfl)⟩)) (fun r3 h => ?_)
      refine lv_istore (lv' := [(8, .int r3), (7, .int (-1)), (6, .int (x3 - x3 / 515 * 515)), (5, .int (x3 / 515)), (0, .ref a0), (1, .int x1), (2, .int x2), (3, .int x3), (4, .int x4)]) hx hb d_M_follow_58 hl (by decide) rfl (fun ls hl => ?_)
      refine lv_sipush (v := 515) hx hb d_M_follow_60 (by decide) ?_
      refine lv_iload hx hb d_M_follow_63 (lv_at hl 1 rfl) ?_
      refine lv_iconst (v := (-1)) hx hb d_M_follow_65 (by decide) ?_
      refine lv_icmp_ne (tgt := 75) hx hb d_M_follow_66 (by decide) (fun hc => absurd (by decide) hc) (fun _ => ?_)
      refine lv_sipush (v := 514) hx hb d_M_follow_69 (by decide) ?_
      refine lv_goto (tgt := 77) hx hb d_M_follow_72 (by decide) ?_
      refine lv_imul hx hb d_M_follow_77 ?_
      refine lv_iload hx hb d_M_follow_78 (lv_at hl 0 rfl) ?_
      refine lv_iconst (v := (-1)) hx hb d_M_follow_80 (by decide) ?_
      refine lv_icmp_ne (tgt := 90) hx hb d_M_follow_81 (by decide) (fun hc => ?_) (fun hc => ?_)
      · replace h := h.1 hc
        refine lv_iload hx hb d_M_follow_90 (lv_at hl 0 rfl) ?_
        refine lv_iadd hx hb d_M_follow_92 ?_
        exact hret _ _ _ h (vp_nar_int _) d_M_follow_93
      · replace h := h.2 hc
        refine lv_sipush (v := 514) hx hb d_M_follow_84 (by decide) ?_
        refine lv_goto (tgt := 92) hx hb d_M_follow_87 (by decide) ?_
        refine lv_iadd hx hb d_M_follow_92 ?_
        exact hret _ _ _ h (vp_nar_int _) d_M_follow_93
    · replace h := h.2 hc
      refine lv_iconst (v := (-1)) hx hb d_M_follow_45 (by decide) ?_
      refine lv_goto (tgt := 58) hx hb d_M_follow_46 (by decide) ?_
      refine lv_istore (lv' := [(8, .int (-1)), (7, .int (-1)), (6, .int (x3 - x3 / 515 * 515)), (5, .int (x3 / 515)), (0, .ref a0), (1, .int x1), (2, .int x2), (3, .int x3), (4, .int x4)]) hx hb d_M_follow_58 hl (by decide) rfl (fun ls hl => ?_)
      refine lv_sipush (v := 515) hx hb d_M_follow_60 (by decide) ?_
      refine lv_iload hx hb d_M_follow_63 (lv_at hl 1 rfl) ?_
      refine lv_iconst (v := (-1)) hx hb d_M_follow_65 (by decide) ?_
      refine lv_icmp_ne (tgt := 75) hx hb d_M_follow_66 (by decide) (fun hc => absurd (by decide) hc) (fun _ => ?_)
      refine lv_sipush (v := 514) hx hb d_M_follow_69 (by decide) ?_
      refine lv_goto (tgt := 77) hx hb d_M_follow_72 (by decide) ?_
      refine lv_imul hx hb d_M_follow_77 ?_
      refine lv_iload hx hb d_M_follow_78 (lv_at hl 0 rfl) ?_
      refine lv_iconst (v := (-1)) hx hb d_M_follow_80 (by decide) ?_
      refine lv_icmp_ne (tgt := 90) hx hb d_M_follow_81 (by decide) (fun hc => absurd (by decide) hc) (fun _ => ?_)
      refine lv_sipush (v := 514) hx hb d_M_follow_84 (by decide) ?_
      refine lv_goto (tgt := 92) hx hb d_M_follow_87 (by decide) ?_
      refine lv_iadd hx hb d_M_follow_92 ?_
      exact hret _ _ _ h (vp_nar_int _) d_M_follow_93
def p_M_parts (v_o_rules : Int32) (f_o_modeOf : (Nat → Int32)) (f_o_set : (Nat → Int32)) (f_o_lastOf : (Nat → Int32)) (x1 : Int32) (x2 : Int32) (x3 : Int32) (post : Int32 → Prop) : Prop := (((x3 / 515) = 514 → (((x3 - x3 / 515 * 515) = 514 → (post 0)) ∧ (¬ (x3 - x3 / 515 * 515) = 514 → (p_M_wins v_o_rules f_o_modeOf f_o_set f_o_lastOf x2 (x3 - x3 / 515 * 515) (fun r1 => ((r1 = (-1) → (post 0)) ∧ (¬ r1 = (-1) → (post 1)))))))) ∧ (¬ (x3 / 515) = 514 → (p_M_wins v_o_rules f_o_modeOf f_o_set f_o_lastOf x1 (x3 / 515) (fun r2 => ((r2 = (-1) → (((x3 - x3 / 515 * 515) = 514 → (post 0)) ∧ (¬ (x3 - x3 / 515 * 515) = 514 → (p_M_wins v_o_rules f_o_modeOf f_o_set f_o_lastOf x2 (x3 - x3 / 515 * 515) (fun r3 => ((r3 = (-1) → (post 0)) ∧ (¬ r3 = (-1) → (post 1)))))))) ∧ (¬ r2 = (-1) → (((x3 - x3 / 515 * 515) = 514 → (post 1)) ∧ (¬ (x3 - x3 / 515 * 515) = 514 → (p_M_wins v_o_rules f_o_modeOf f_o_set f_o_lastOf x2 (x3 - x3 / 515 * 515) (fun r4 => ((r4 = (-1) → (post 1)) ∧ (¬ r4 = (-1) → (post 0)))))))))))))
set_option maxHeartbeats 4000000 in
set_option maxRecDepth 100000 in
theorem k_M_parts (l : Launch) (G : va_G) (K : Nat → ClassId) (a0 : Nat) (ad : Nat → Nat) (v_o_code : Int32) (v_o_typed : Int32) (v_o_rules : Int32) (v_o_at : Int32) (v_o_read : Int32) (v_o_depth : Int32) (v_o_wrong : Int32) (v_o_there : Int32) (v_o_ended : Int32) (v_o_mode : Int32) (v_o_kept : Int32) (v_o_came : Int32) (v_o_pending : Int32) (v_o_looked : Int32) (v_o_tokens : Int32) (v_o_oldest : Int32) (f_o_modeOf : (Nat → Int32)) (f_o_set : (Nat → Int32)) (f_o_lastOf : (Nat → Int32)) (x1 : Int32) (x2 : Int32) (x3 : Int32) (post : Int32 → Prop) (h : p_M_parts v_o_rules f_o_modeOf f_o_set f_o_lastOf x1 x2 x3 post) : MSi l y_M_parts (.code y_M_parts c_M_parts 6 (some .boolean)) { frames := 1, cells := 0, slots := 0, locals := 23 } G K [(a0, .inr (12, oM v_o_code v_o_typed v_o_rules v_o_at v_o_read v_o_depth v_o_wrong v_o_there v_o_ended v_o_mode v_o_kept v_o_came v_o_pending v_o_looked v_o_tokens v_o_oldest ad)), ((ad 4), .inl (K 0, 16, .inl f_o_modeOf)), ((ad 29), .inl (K 0, 1542, .inl f_o_set)), ((ad 7), .inl (K 0, 16, .inl f_o_lastOf))] [.ref a0, .int x1, .int x2, .int x3] post := by
  refine g_metSi (cc := c_M_parts) (maxL := 6) (ret := some .boolean) (rt := .boolean) (by decide) rfl rfl (Nat.le_of_ble_eq_true rfl) ?_
  intro p e s m below meth c Q hx hb hml hown htg hK hN hP hret ls hl
  have hl : lv_has ls 6 [(0, .ref a0), (1, .int x1), (2, .int x2), (3, .int x3)] := hl
  refine lv_iload_n hx hb d_M_parts_0 rfl (lv_at hl 3 rfl) ?_
  refine lv_sipush (v := 515) hx hb d_M_parts_1 (by decide) ?_
  refine lv_idiv hx hb d_M_parts_4 (by decide) ?_
  refine lv_sipush (v := 514) hx hb d_M_parts_5 (by decide) ?_
  refine lv_icmp_eq (tgt := 29) hx hb d_M_parts_8 (by decide) (fun hc => ?_) (fun hc => ?_)
  · replace h := h.1 hc
    refine lv_iconst (v := 0) hx hb d_M_parts_29 (by decide) ?_
    refine lv_istore (lv' := [(4, .int 0), (0, .ref a0), (1, .int x1), (2, .int x2), (3, .int x3)]) hx hb d_M_parts_30 hl (by decide) rfl (fun ls hl => ?_)
    refine lv_iload_n hx hb d_M_parts_32 rfl (lv_at hl 4 rfl) ?_
    refine lv_sipush (v := 515) hx hb d_M_parts_33 (by decide) ?_
    refine lv_irem hx hb d_M_parts_36 (by decide) ?_
    refine lv_sipush (v := 514) hx hb d_M_parts_37 (by decide) ?_
    refine lv_icmp_eq (tgt := 61) hx hb d_M_parts_40 (by decide) (fun hc => ?_) (fun hc => ?_)
    · replace h := h.1 hc
      refine lv_iconst (v := 0) hx hb d_M_parts_61 (by decide) ?_
      refine lv_istore (lv' := [(5, .int 0), (4, .int 0), (0, .ref a0), (1, .int x1), (2, .int x2), (3, .int x3)]) hx hb d_M_parts_62 hl (by decide) rfl (fun ls hl => ?_)
      refine lv_iload hx hb d_M_parts_64 (lv_at hl 1 rfl) ?_
      refine lv_iload hx hb d_M_parts_66 (lv_at hl 0 rfl) ?_
      refine lv_icmp_eq (tgt := 75) hx hb d_M_parts_68 (by decide) (fun _ => ?_) (fun hc => absurd (by decide) hc)
      refine lv_iconst (v := 0) hx hb d_M_parts_75 (by decide) ?_
      exact hret _ _ _ h (by decide +kernel) d_M_parts_76
    · replace h := h.2 hc
      refine lv_aload_n hx hb d_M_parts_43 rfl (lv_at hl 1 rfl) ?_
      refine lv_iload_n hx hb d_M_parts_44 rfl (lv_at hl 3 rfl) ?_
      refine lv_iload_n hx hb d_M_parts_45 rfl (lv_at hl 4 rfl) ?_
      refine lv_sipush (v := 515) hx hb d_M_parts_46 (by decide) ?_
      refine lv_irem hx hb d_M_parts_49 (by decide) ?_
      have hPc : va_P G vwCl [(a0, .inr (12, oM v_o_code v_o_typed v_o_rules v_o_at v_o_read v_o_depth v_o_wrong v_o_there v_o_ended v_o_mode v_o_kept v_o_came v_o_pending v_o_looked v_o_tokens v_o_oldest ad)), ((ad 4), .inl (K 0, 16, .inl f_o_modeOf)), ((ad 29), .inl (K 0, 1542, .inl f_o_set)), ((ad 7), .inl (K 0, 16, .inl f_o_lastOf))] _ := hP.sub [0, 1, 2, 3] rfl
      refine vp_callSi (va_Run.run (va_runV (As := [.int x2, .int (x3 - x3 / 515 * 515)]) (rest := []) ⟨hx, hb, hml, hown, htg⟩ (k_M_wins l G K a0 ad v_o_code v_o_typed v_o_rules v_o_at v_o_read v_o_depth v_o_wrong v_o_there v_o_ended v_o_mode v_o_kept v_o_came v_o_pending v_o_looked v_o_tokens v_o_oldest f_o_modeOf f_o_set f_o_lastOf x2 (x3 - x3 / 515 * 515) _ h) (cwV 2 htg (gGoodV m_740 m_741 m_904 m_13 m_742) rfl rfl rfl (by decide +kernel) ⟨(Nat.le_of_ble_eq_true rfl), (Nat.le_of_ble_eq_true rfl)⟩) (gS_preV (ci := 12) (q0 := 0) hK hN hPc rfl rfl) rfl rfl hl.1 rfl (lv_room (Nat.le_of_ble_eq_true rfl)) d_M_parts_50 ⟨(Nat.le_of_ble_eq_true rfl), (Nat.le_of_ble_eq_true rfl)⟩)) (fun r1 h => ?_)
      refine lv_iconst (v := (-1)) hx hb d_M_parts_53 (by decide) ?_
      refine lv_icmp_eq (tgt := 61) hx hb d_M_parts_54 (by decide) (fun hc => ?_) (fun hc => ?_)
      · replace h := h.1 hc
        refine lv_iconst (v := 0) hx hb d_M_parts_61 (by decide) ?_
        refine lv_istore (lv' := [(5, .int 0), (4, .int 0), (0, .ref a0), (1, .int x1), (2, .int x2), (3, .int x3)]) hx hb d_M_parts_62 hl (by decide) rfl (fun ls hl => ?_)
        refine lv_iload hx hb d_M_parts_64 (lv_at hl 1 rfl) ?_
        refine lv_iload hx hb d_M_parts_66 (lv_at hl 0 rfl) ?_
        refine lv_icmp_eq (tgt := 75) hx hb d_M_parts_68 (by decide) (fun _ => ?_) (fun hc => absurd (by decide) hc)
        refine lv_iconst (v := 0) hx hb d_M_parts_75 (by decide) ?_
        exact hret _ _ _ h (by decide +kernel) d_M_parts_76
      · replace h := h.2 hc
        refine lv_iconst (v := 1) hx hb d_M_parts_57 (by decide) ?_
        refine lv_goto (tgt := 62) hx hb d_M_parts_58 (by decide) ?_
        refine lv_istore (lv' := [(5, .int 1), (4, .int 0), (0, .ref a0), (1, .int x1), (2, .int x2), (3, .int x3)]) hx hb d_M_parts_62 hl (by decide) rfl (fun ls hl => ?_)
        refine lv_iload hx hb d_M_parts_64 (lv_at hl 1 rfl) ?_
        refine lv_iload hx hb d_M_parts_66 (lv_at hl 0 rfl) ?_
        refine lv_icmp_eq (tgt := 75) hx hb d_M_parts_68 (by decide) (fun hc => absurd hc (by decide)) (fun _ => ?_)
        refine lv_iconst (v := 1) hx hb d_M_parts_71 (by decide) ?_
        refine lv_goto (tgt := 76) hx hb d_M_parts_72 (by decide) ?_
        exact hret _ _ _ h (by decide +kernel) d_M_parts_76
  · replace h := h.2 hc
    refine lv_aload_n hx hb d_M_parts_11 rfl (lv_at hl 0 rfl) ?_
    refine lv_iload_n hx hb d_M_parts_12 rfl (lv_at hl 1 rfl) ?_
    refine lv_iload_n hx hb d_M_parts_13 rfl (lv_at hl 3 rfl) ?_
    refine lv_sipush (v := 515) hx hb d_M_parts_14 (by decide) ?_
    refine lv_idiv hx hb d_M_parts_17 (by decide) ?_
    have hPc : va_P G vwCl [(a0, .inr (12, oM v_o_code v_o_typed v_o_rules v_o_at v_o_read v_o_depth v_o_wrong v_o_there v_o_ended v_o_mode v_o_kept v_o_came v_o_pending v_o_looked v_o_tokens v_o_oldest ad)), ((ad 4), .inl (K 0, 16, .inl f_o_modeOf)), ((ad 29), .inl (K 0, 1542, .inl f_o_set)), ((ad 7), .inl (K 0, 16, .inl f_o_lastOf))] _ := hP.sub [0, 1, 2, 3] rfl
    refine vp_callSi (va_Run.run (va_runV (As := [.int x1, .int (x3 / 515)]) (rest := []) ⟨hx, hb, hml, hown, htg⟩ (k_M_wins l G K a0 ad v_o_code v_o_typed v_o_rules v_o_at v_o_read v_o_depth v_o_wrong v_o_there v_o_ended v_o_mode v_o_kept v_o_came v_o_pending v_o_looked v_o_tokens v_o_oldest f_o_modeOf f_o_set f_o_lastOf x1 (x3 / 515) _ h) (cwV 2 htg (gGoodV m_740 m_741 m_904 m_13 m_742) rfl rfl rfl (by decide +kernel) ⟨(Nat.le_of_ble_eq_true rfl), (Nat.le_of_ble_eq_true rfl)⟩) (gS_preV (ci := 12) (q0 := 0) hK hN hPc rfl rfl) rfl rfl hl.1 rfl (lv_room (Nat.le_of_ble_eq_true rfl)) d_M_parts_18 ⟨(Nat.le_of_ble_eq_true rfl), (Nat.le_of_ble_eq_true rfl)⟩)) (fun r2 h => ?_)
    refine lv_iconst (v := (-1)) hx hb d_M_parts_21 (by decide) ?_
    refine lv_icmp_eq (tgt := 29) hx hb d_M_parts_22 (by decide) (fun hc => ?_) (fun hc => ?_)
    · replace h := h.1 hc
      refine lv_iconst (v := 0) hx hb d_M_parts_29 (by decide) ?_
      refine lv_istore (lv' := [(4, .int 0), (0, .ref a0), (1, .int x1), (2, .int x2), (3, .int x3)]) hx hb d_M_parts_30 hl (by decide) rfl (fun ls hl => ?_)
      refine lv_iload_n hx hb d_M_parts_32 rfl (lv_at hl 4 rfl) ?_
      refine lv_sipush (v := 515) hx hb d_M_parts_33 (by decide) ?_
      refine lv_irem hx hb d_M_parts_36 (by decide) ?_
      refine lv_sipush (v := 514) hx hb d_M_parts_37 (by decide) ?_
      refine lv_icmp_eq (tgt := 61) hx hb d_M_parts_40 (by decide) (fun hc => ?_) (fun hc => ?_)
      · replace h := h.1 hc
        refine lv_iconst (v := 0) hx hb d_M_parts_61 (by decide) ?_
        refine lv_istore (lv' := [(5, .int 0), (4, .int 0), (0, .ref a0), (1, .int x1), (2, .int x2), (3, .int x3)]) hx hb d_M_parts_62 hl (by decide) rfl (fun ls hl => ?_)
        refine lv_iload hx hb d_M_parts_64 (lv_at hl 1 rfl) ?_
        refine lv_iload hx hb d_M_parts_66 (lv_at hl 0 rfl) ?_
        refine lv_icmp_eq (tgt := 75) hx hb d_M_parts_68 (by decide) (fun _ => ?_) (fun hc => absurd (by decide) hc)
        refine lv_iconst (v := 0) hx hb d_M_parts_75 (by decide) ?_
        exact hret _ _ _ h (by decide +kernel) d_M_parts_76
      · replace h := h.2 hc
        refine lv_aload_n hx hb d_M_parts_43 rfl (lv_at hl 1 rfl) ?_
        refine lv_iload_n hx hb d_M_parts_44 rfl (lv_at hl 3 rfl) ?_
        refine lv_iload_n hx hb d_M_parts_45 rfl (lv_at hl 4 rfl) ?_
        refine lv_sipush (v := 515) hx hb d_M_parts_46 (by decide) ?_
        refine lv_irem hx hb d_M_parts_49 (by decide) ?_
        have hPc : va_P G vwCl [(a0, .inr (12, oM v_o_code v_o_typed v_o_rules v_o_at v_o_read v_o_depth v_o_wrong v_o_there v_o_ended v_o_mode v_o_kept v_o_came v_o_pending v_o_looked v_o_tokens v_o_oldest ad)), ((ad 4), .inl (K 0, 16, .inl f_o_modeOf)), ((ad 29), .inl (K 0, 1542, .inl f_o_set)), ((ad 7), .inl (K 0, 16, .inl f_o_lastOf))] _ := hP.sub [0, 1, 2, 3] rfl
        refine vp_callSi (va_Run.run (va_runV (As := [.int x2, .int (x3 - x3 / 515 * 515)]) (rest := []) ⟨hx, hb, hml, hown, htg⟩ (k_M_wins l G K a0 ad v_o_code v_o_typed v_o_rules v_o_at v_o_read v_o_depth v_o_wrong v_o_there v_o_ended v_o_mode v_o_kept v_o_came v_o_pending v_o_looked v_o_tokens v_o_oldest f_o_modeOf f_o_set f_o_lastOf x2 (x3 - x3 / 515 * 515) _ h) (cwV 2 htg (gGoodV m_740 m_741 m_904 m_13 m_742) rfl rfl rfl (by decide +kernel) ⟨(Nat.le_of_ble_eq_true rfl), (Nat.le_of_ble_eq_true rfl)⟩) (gS_preV (ci := 12) (q0 := 0) hK hN hPc rfl rfl) rfl rfl hl.1 rfl (lv_room (Nat.le_of_ble_eq_true rfl)) d_M_parts_50 ⟨(Nat.le_of_ble_eq_true rfl), (Nat.le_of_ble_eq_true rfl)⟩)) (fun r3 h => ?_)
        refine lv_iconst (v := (-1)) hx hb d_M_parts_53 (by decide) ?_
        refine lv_icmp_eq (tgt := 61) hx hb d_M_parts_54 (by decide) (fun hc => ?_) (fun hc => ?_)
        · replace h := h.1 hc
          refine lv_iconst (v := 0) hx hb d_M_parts_61 (by decide) ?_
          refine lv_istore (lv' := [(5, .int 0), (4, .int 0), (0, .ref a0), (1, .int x1), (2, .int x2), (3, .int x3)]) hx hb d_M_parts_62 hl (by decide) rfl (fun ls hl => ?_)
          refine lv_iload hx hb d_M_parts_64 (lv_at hl 1 rfl) ?_
          refine lv_iload hx hb d_M_parts_66 (lv_at hl 0 rfl) ?_
          refine lv_icmp_eq (tgt := 75) hx hb d_M_parts_68 (by decide) (fun _ => ?_) (fun hc => absurd (by decide) hc)
          refine lv_iconst (v := 0) hx hb d_M_parts_75 (by decide) ?_
          exact hret _ _ _ h (by decide +kernel) d_M_parts_76
        · replace h := h.2 hc
          refine lv_iconst (v := 1) hx hb d_M_parts_57 (by decide) ?_
          refine lv_goto (tgt := 62) hx hb d_M_parts_58 (by decide) ?_
          refine lv_istore (lv' := [(5, .int 1), (4, .int 0), (0, .ref a0), (1, .int x1), (2, .int x2), (3, .int x3)]) hx hb d_M_parts_62 hl (by decide) rfl (fun ls hl => ?_)
          refine lv_iload hx hb d_M_parts_64 (lv_at hl 1 rfl) ?_
          refine lv_iload hx hb d_M_parts_66 (lv_at hl 0 rfl) ?_
          refine lv_icmp_eq (tgt := 75) hx hb d_M_parts_68 (by decide) (fun hc => absurd hc (by decide)) (fun _ => ?_)
          refine lv_iconst (v := 1) hx hb d_M_parts_71 (by decide) ?_
          refine lv_goto (tgt := 76) hx hb d_M_parts_72 (by decide) ?_
          exact hret _ _ _ h (by decide +kernel) d_M_parts_76
    · replace h := h.2 hc
      refine lv_iconst (v := 1) hx hb d_M_parts_25 (by decide) ?_
      refine lv_goto (tgt := 30) hx hb d_M_parts_26 (by decide) ?_
      refine lv_istore (lv' := [(4, .int 1), (0, .ref a0), (1, .int x1), (2, .int x2), (3, .int x3)]) hx hb d_M_parts_30 hl (by decide) rfl (fun ls hl => ?_)
      refine lv_iload_n hx hb d_M_parts_32 rfl (lv_at hl 4 rfl) ?_
      refine lv_sipush (v := 515) hx hb d_M_parts_33 (by decide) ?_
      refine lv_irem hx hb d_M_parts_36 (by decide) ?_
      refine lv_sipush (v := 514) hx hb d_M_parts_37 (by decide) ?_
      refine lv_icmp_eq (tgt := 61) hx hb d_M_parts_40 (by decide) (fun hc => ?_) (fun hc => ?_)
      · replace h := h.1 hc
        refine lv_iconst (v := 0) hx hb d_M_parts_61 (by decide) ?_
        refine lv_istore (lv' := [(5, .int 0), (4, .int 1), (0, .ref a0), (1, .int x1), (2, .int x2), (3, .int x3)]) hx hb d_M_parts_62 hl (by decide) rfl (fun ls hl => ?_)
        refine lv_iload hx hb d_M_parts_64 (lv_at hl 1 rfl) ?_
        refine lv_iload hx hb d_M_parts_66 (lv_at hl 0 rfl) ?_
        refine lv_icmp_eq (tgt := 75) hx hb d_M_parts_68 (by decide) (fun hc => absurd hc (by decide)) (fun _ => ?_)
        refine lv_iconst (v := 1) hx hb d_M_parts_71 (by decide) ?_
        refine lv_goto (tgt := 76) hx hb d_M_parts_72 (by decide) ?_
        exact hret _ _ _ h (by decide +kernel) d_M_parts_76
      · replace h := h.2 hc
        refine lv_aload_n hx hb d_M_parts_43 rfl (lv_at hl 1 rfl) ?_
        refine lv_iload_n hx hb d_M_parts_44 rfl (lv_at hl 3 rfl) ?_
        refine lv_iload_n hx hb d_M_parts_45 rfl (lv_at hl 4 rfl) ?_
        refine lv_sipush (v := 515) hx hb d_M_parts_46 (by decide) ?_
        refine lv_irem hx hb d_M_parts_49 (by decide) ?_
        have hPc : va_P G vwCl [(a0, .inr (12, oM v_o_code v_o_typed v_o_rules v_o_at v_o_read v_o_depth v_o_wrong v_o_there v_o_ended v_o_mode v_o_kept v_o_came v_o_pending v_o_looked v_o_tokens v_o_oldest ad)), ((ad 4), .inl (K 0, 16, .inl f_o_modeOf)), ((ad 29), .inl (K 0, 1542, .inl f_o_set)), ((ad 7), .inl (K 0, 16, .inl f_o_lastOf))] _ := hP.sub [0, 1, 2, 3] rfl
        refine vp_callSi (va_Run.run (va_runV (As := [.int x2, .int (x3 - x3 / 515 * 515)]) (rest := []) ⟨hx, hb, hml, hown, htg⟩ (k_M_wins l G K a0 ad v_o_code v_o_typed v_o_rules v_o_at v_o_read v_o_depth v_o_wrong v_o_there v_o_ended v_o_mode v_o_kept v_o_came v_o_pending v_o_looked v_o_tokens v_o_oldest f_o_modeOf f_o_set f_o_lastOf x2 (x3 - x3 / 515 * 515) _ h) (cwV 2 htg (gGoodV m_740 m_741 m_904 m_13 m_742) rfl rfl rfl (by decide +kernel) ⟨(Nat.le_of_ble_eq_true rfl), (Nat.le_of_ble_eq_true rfl)⟩) (gS_preV (ci := 12) (q0 := 0) hK hN hPc rfl rfl) rfl rfl hl.1 rfl (lv_room (Nat.le_of_ble_eq_true rfl)) d_M_parts_50 ⟨(Nat.le_of_ble_eq_true rfl), (Nat.le_of_ble_eq_true rfl)⟩)) (fun r4 h => ?_)
        refine lv_iconst (v := (-1)) hx hb d_M_parts_53 (by decide) ?_
        refine lv_icmp_eq (tgt := 61) hx hb d_M_parts_54 (by decide) (fun hc => ?_) (fun hc => ?_)
        · replace h := h.1 hc
          refine lv_iconst (v := 0) hx hb d_M_parts_61 (by decide) ?_
          refine lv_istore (lv' := [(5, .int 0), (4, .int 1), (0, .ref a0), (1, .int x1), (2, .int x2), (3, .int x3)]) hx hb d_M_parts_62 hl (by decide) rfl (fun ls hl => ?_)
          refine lv_iload hx hb d_M_parts_64 (lv_at hl 1 rfl) ?_
          refine lv_iload hx hb d_M_parts_66 (lv_at hl 0 rfl) ?_
          refine lv_icmp_eq (tgt := 75) hx hb d_M_parts_68 (by decide) (fun hc => absurd hc (by decide)) (fun _ => ?_)
          refine lv_iconst (v := 1) hx hb d_M_parts_71 (by decide) ?_
          refine lv_goto (tgt := 76) hx hb d_M_parts_72 (by decide) ?_
          exact hret _ _ _ h (by decide +kernel) d_M_parts_76
        · replace h := h.2 hc
          refine lv_iconst (v := 1) hx hb d_M_parts_57 (by decide) ?_
          refine lv_goto (tgt := 62) hx hb d_M_parts_58 (by decide) ?_
          refine lv_istore (lv' := [(5, .int 1), (4, .int 1), (0, .ref a0), (1, .int x1), (2, .int x2), (3, .int x3)]) hx hb d_M_parts_62 hl (by decide) rfl (fun ls hl => ?_)
          refine lv_iload hx hb d_M_parts_64 (lv_at hl 1 rfl) ?_
          refine lv_iload hx hb d_M_parts_66 (lv_at hl 0 rfl) ?_
          refine lv_icmp_eq (tgt := 75) hx hb d_M_parts_68 (by decide) (fun _ => ?_) (fun hc => absurd (by decide) hc)
          refine lv_iconst (v := 0) hx hb d_M_parts_75 (by decide) ?_
          exact hret _ _ _ h (by decide +kernel) d_M_parts_76
def p_M_far_265  (post : Int32 → (Nat → Int32) → (Nat → Int32) → (Nat → Int32) → Prop) (K_55 : Int32 → Int32 → (Nat → Int32) → (Nat → Int32) → (Nat → Int32) → Prop) (l4 : Int32) (l5 : Int32) (f_o_seen : (Nat → Int32)) (f_o_front : (Nat → Int32)) (f_o_ahead : (Nat → Int32)) : Prop := (K_55 (l4 + 1) l5 f_o_seen f_o_front f_o_ahead)
def p_M_far_237  (post : Int32 → (Nat → Int32) → (Nat → Int32) → (Nat → Int32) → Prop) (K_55 : Int32 → Int32 → (Nat → Int32) → (Nat → Int32) → (Nat → Int32) → Prop) : Nat → Int32 → Int32 → Int32 → (Nat → Int32) → (Nat → Int32) → (Nat → Int32) → Prop
  | 0 => fun _ _ _ _ _ _ => False
  | n + 1 => fun l4 l5 l6 f_o_seen f_o_front f_o_ahead => ((8290 ≤ l6 → (p_M_far_265 post K_55 l4 l5 f_o_seen f_o_front f_o_ahead)) ∧ (¬ 8290 ≤ l6 → (vp_in l6 8290 ∧ (vp_in l6 8290 ∧ (p_M_far_237 post K_55 n l4 l5 (l6 + 1) f_o_seen (upd f_o_front l6.toNatClampNeg (f_o_ahead l6.toNatClampNeg)) f_o_ahead)))))
def p_M_far_234  (post : Int32 → (Nat → Int32) → (Nat → Int32) → (Nat → Int32) → Prop) (K_55 : Int32 → Int32 → (Nat → Int32) → (Nat → Int32) → (Nat → Int32) → Prop) (l4 : Int32) (l5 : Int32) (f_o_seen : (Nat → Int32)) (f_o_front : (Nat → Int32)) (f_o_ahead : (Nat → Int32)) : Prop := (∃ k, p_M_far_237 post K_55 k l4 l5 0 f_o_seen f_o_front f_o_ahead)
def p_M_far_228  (post : Int32 → (Nat → Int32) → (Nat → Int32) → (Nat → Int32) → Prop) (K_55 : Int32 → Int32 → (Nat → Int32) → (Nat → Int32) → (Nat → Int32) → Prop) (K_91 : Int32 → Int32 → Int32 → (Nat → Int32) → (Nat → Int32) → (Nat → Int32) → Prop) (l4 : Int32) (l5 : Int32) (l6 : Int32) (f_o_seen : (Nat → Int32)) (f_o_front : (Nat → Int32)) (f_o_ahead : (Nat → Int32)) : Prop := (K_91 l4 l5 (l6 + 1) f_o_seen f_o_front f_o_ahead)
def p_M_far_222  (post : Int32 → (Nat → Int32) → (Nat → Int32) → (Nat → Int32) → Prop) (K_55 : Int32 → Int32 → (Nat → Int32) → (Nat → Int32) → (Nat → Int32) → Prop) (K_91 : Int32 → Int32 → Int32 → (Nat → Int32) → (Nat → Int32) → (Nat → Int32) → Prop) (K_102 : Int32 → Int32 → Int32 → Int32 → (Nat → Int32) → (Nat → Int32) → (Nat → Int32) → Prop) (l4 : Int32) (l5 : Int32) (l6 : Int32) (l7 : Int32) (f_o_seen : (Nat → Int32)) (f_o_front : (Nat → Int32)) (f_o_ahead : (Nat → Int32)) : Prop := (K_102 l4 l5 l6 (l7 + 1) f_o_seen f_o_front f_o_ahead)
def p_M_far_216  (post : Int32 → (Nat → Int32) → (Nat → Int32) → (Nat → Int32) → Prop) (K_55 : Int32 → Int32 → (Nat → Int32) → (Nat → Int32) → (Nat → Int32) → Prop) (K_91 : Int32 → Int32 → Int32 → (Nat → Int32) → (Nat → Int32) → (Nat → Int32) → Prop) (K_102 : Int32 → Int32 → Int32 → Int32 → (Nat → Int32) → (Nat → Int32) → (Nat → Int32) → Prop) (K_161 : Int32 → Int32 → Int32 → Int32 → Int32 → Int32 → (Nat → Int32) → (Nat → Int32) → (Nat → Int32) → Prop) (l4 : Int32) (l5 : Int32) (l6 : Int32) (l7 : Int32) (l8 : Int32) (l9 : Int32) (f_o_seen : (Nat → Int32)) (f_o_front : (Nat → Int32)) (f_o_ahead : (Nat → Int32)) : Prop := (K_161 l4 l5 l6 l7 l8 (l9 + 1) f_o_seen f_o_front f_o_ahead)
def p_M_far_161 (f_o_step : (Nat → Int32)) (x1 : Int32) (x2 : Int32) (post : Int32 → (Nat → Int32) → (Nat → Int32) → (Nat → Int32) → Prop) (K_55 : Int32 → Int32 → (Nat → Int32) → (Nat → Int32) → (Nat → Int32) → Prop) (K_91 : Int32 → Int32 → Int32 → (Nat → Int32) → (Nat → Int32) → (Nat → Int32) → Prop) (K_102 : Int32 → Int32 → Int32 → Int32 → (Nat → Int32) → (Nat → Int32) → (Nat → Int32) → Prop) : Nat → Int32 → Int32 → Int32 → Int32 → Int32 → Int32 → (Nat → Int32) → (Nat → Int32) → (Nat → Int32) → Prop
  | 0 => fun _ _ _ _ _ _ _ _ _ => False
  | n + 1 => fun l4 l5 l6 l7 l8 l9 f_o_seen f_o_front f_o_ahead => ((6 ≤ l9 → (p_M_far_222 post K_55 K_91 K_102 l4 l5 l6 l7 f_o_seen f_o_front f_o_ahead)) ∧ (¬ 6 ≤ l9 → (p_M_follow f_o_step x1 x2 l8 l9 (fun r17101 => (p_M_has 8290 f_o_seen r17101 (fun r17102 => ((r17102 = 0 → (p_M_put 8290 f_o_seen r17101 (fun u17103 => (p_M_put 8290 f_o_ahead r17101 (fun u17105 => (p_M_far_216 post K_55 K_91 K_102 (p_M_far_161 f_o_step x1 x2 post K_55 K_91 K_102 n) l4 1 l6 l7 l8 l9 u17103 f_o_front u17105)))))) ∧ (¬ r17102 = 0 → (p_M_far_216 post K_55 K_91 K_102 (p_M_far_161 f_o_step x1 x2 post K_55 K_91 K_102 n) l4 l5 l6 l7 l8 l9 f_o_seen f_o_front f_o_ahead)))))))))
def p_M_far_102 (v_o_rules : Int32) (f_o_modeOf : (Nat → Int32)) (f_o_set : (Nat → Int32)) (f_o_lastOf : (Nat → Int32)) (f_o_step : (Nat → Int32)) (x1 : Int32) (x2 : Int32) (post : Int32 → (Nat → Int32) → (Nat → Int32) → (Nat → Int32) → Prop) (K_55 : Int32 → Int32 → (Nat → Int32) → (Nat → Int32) → (Nat → Int32) → Prop) (K_91 : Int32 → Int32 → Int32 → (Nat → Int32) → (Nat → Int32) → (Nat → Int32) → Prop) : Nat → Int32 → Int32 → Int32 → Int32 → (Nat → Int32) → (Nat → Int32) → (Nat → Int32) → Prop
  | 0 => fun _ _ _ _ _ _ _ => False
  | n + 1 => fun l4 l5 l6 l7 f_o_seen f_o_front f_o_ahead => ((32 ≤ l7 → (p_M_far_228 post K_55 K_91 l4 l5 l6 f_o_seen f_o_front f_o_ahead)) ∧ (¬ 32 ≤ l7 → (vp_in l6 8290 ∧ (((f_o_front l6.toNatClampNeg) = 0 → (p_M_far_228 post K_55 K_91 l4 l5 l6 f_o_seen f_o_front f_o_ahead)) ∧ (¬ (f_o_front l6.toNatClampNeg) = 0 → (p_M_has 8290 f_o_front ((32 * l6) + l7) (fun r11201 => ((¬ r11201 = 0 → (p_M_parts v_o_rules f_o_modeOf f_o_set f_o_lastOf x1 x2 ((32 * l6) + l7) (fun r11202 => ((r11202 = 0 → (∃ k, p_M_far_161 f_o_step x1 x2 post K_55 K_91 (p_M_far_102 v_o_rules f_o_modeOf f_o_set f_o_lastOf f_o_step x1 x2 post K_55 K_91 n) k l4 l5 l6 l7 ((32 * l6) + l7) 0 f_o_seen f_o_front f_o_ahead)) ∧ (¬ r11202 = 0 → (post l4 f_o_seen f_o_front f_o_ahead)))))) ∧ (r11201 = 0 → (p_M_far_222 post K_55 K_91 (p_M_far_102 v_o_rules f_o_modeOf f_o_set f_o_lastOf f_o_step x1 x2 post K_55 K_91 n) l4 l5 l6 l7 f_o_seen f_o_front f_o_ahead))))))))))
def p_M_far_91 (v_o_rules : Int32) (f_o_modeOf : (Nat → Int32)) (f_o_set : (Nat → Int32)) (f_o_lastOf : (Nat → Int32)) (f_o_step : (Nat → Int32)) (x1 : Int32) (x2 : Int32) (post : Int32 → (Nat → Int32) → (Nat → Int32) → (Nat → Int32) → Prop) (K_55 : Int32 → Int32 → (Nat → Int32) → (Nat → Int32) → (Nat → Int32) → Prop) : Nat → Int32 → Int32 → Int32 → (Nat → Int32) → (Nat → Int32) → (Nat → Int32) → Prop
  | 0 => fun _ _ _ _ _ _ => False
  | n + 1 => fun l4 l5 l6 f_o_seen f_o_front f_o_ahead => ((8290 ≤ l6 → (p_M_far_234 post K_55 l4 l5 f_o_seen f_o_front f_o_ahead)) ∧ (¬ 8290 ≤ l6 → (∃ k, p_M_far_102 v_o_rules f_o_modeOf f_o_set f_o_lastOf f_o_step x1 x2 post K_55 (p_M_far_91 v_o_rules f_o_modeOf f_o_set f_o_lastOf f_o_step x1 x2 post K_55 n) k l4 l5 l6 0 f_o_seen f_o_front f_o_ahead)))
def p_M_far_88 (v_o_rules : Int32) (f_o_modeOf : (Nat → Int32)) (f_o_set : (Nat → Int32)) (f_o_lastOf : (Nat → Int32)) (f_o_step : (Nat → Int32)) (x1 : Int32) (x2 : Int32) (post : Int32 → (Nat → Int32) → (Nat → Int32) → (Nat → Int32) → Prop) (K_55 : Int32 → Int32 → (Nat → Int32) → (Nat → Int32) → (Nat → Int32) → Prop) (l4 : Int32) (l5 : Int32) (f_o_seen : (Nat → Int32)) (f_o_front : (Nat → Int32)) (f_o_ahead : (Nat → Int32)) : Prop := (∃ k, p_M_far_91 v_o_rules f_o_modeOf f_o_set f_o_lastOf f_o_step x1 x2 post K_55 k l4 l5 0 f_o_seen f_o_front f_o_ahead)
def p_M_far_66 (v_o_rules : Int32) (f_o_modeOf : (Nat → Int32)) (f_o_set : (Nat → Int32)) (f_o_lastOf : (Nat → Int32)) (f_o_step : (Nat → Int32)) (x1 : Int32) (x2 : Int32) (post : Int32 → (Nat → Int32) → (Nat → Int32) → (Nat → Int32) → Prop) (K_55 : Int32 → Int32 → (Nat → Int32) → (Nat → Int32) → (Nat → Int32) → Prop) : Nat → Int32 → Int32 → Int32 → (Nat → Int32) → (Nat → Int32) → (Nat → Int32) → Prop
  | 0 => fun _ _ _ _ _ _ => False
  | n + 1 => fun l4 l5 l6 f_o_seen f_o_front f_o_ahead => ((8290 ≤ l6 → (p_M_far_88 v_o_rules f_o_modeOf f_o_set f_o_lastOf f_o_step x1 x2 post K_55 l4 l5 f_o_seen f_o_front f_o_ahead)) ∧ (¬ 8290 ≤ l6 → (vp_in l6 8290 ∧ (p_M_far_66 v_o_rules f_o_modeOf f_o_set f_o_lastOf f_o_step x1 x2 post K_55 n l4 l5 (l6 + 1) f_o_seen f_o_front (upd f_o_ahead l6.toNatClampNeg 0)))))
def p_M_far_55 (v_o_rules : Int32) (f_o_modeOf : (Nat → Int32)) (f_o_set : (Nat → Int32)) (f_o_lastOf : (Nat → Int32)) (f_o_step : (Nat → Int32)) (x1 : Int32) (x2 : Int32) (post : Int32 → (Nat → Int32) → (Nat → Int32) → (Nat → Int32) → Prop) : Nat → Int32 → Int32 → (Nat → Int32) → (Nat → Int32) → (Nat → Int32) → Prop
  | 0 => fun _ _ _ _ _ => False
  | n + 1 => fun l4 l5 f_o_seen f_o_front f_o_ahead => ((l5 = 0 → (post (-1) f_o_seen f_o_front f_o_ahead)) ∧ (¬ l5 = 0 → (∃ k, p_M_far_66 v_o_rules f_o_modeOf f_o_set f_o_lastOf f_o_step x1 x2 post (p_M_far_55 v_o_rules f_o_modeOf f_o_set f_o_lastOf f_o_step x1 x2 post n) k l4 0 0 f_o_seen f_o_front f_o_ahead)))
def p_M_far_33 (v_o_rules : Int32) (f_o_modeOf : (Nat → Int32)) (f_o_set : (Nat → Int32)) (f_o_lastOf : (Nat → Int32)) (f_o_step : (Nat → Int32)) (x1 : Int32) (x2 : Int32) (x3 : Int32) (post : Int32 → (Nat → Int32) → (Nat → Int32) → (Nat → Int32) → Prop) (f_o_seen : (Nat → Int32)) (f_o_front : (Nat → Int32)) (f_o_ahead : (Nat → Int32)) : Prop := (p_M_put 8290 f_o_seen x3 (fun u4301 => (p_M_put 8290 f_o_front x3 (fun u4303 => (∃ k, p_M_far_55 v_o_rules f_o_modeOf f_o_set f_o_lastOf f_o_step x1 x2 post k 0 1 u4301 u4303 f_o_ahead)))))
def p_M_far_3 (v_o_rules : Int32) (f_o_modeOf : (Nat → Int32)) (f_o_set : (Nat → Int32)) (f_o_lastOf : (Nat → Int32)) (f_o_step : (Nat → Int32)) (x1 : Int32) (x2 : Int32) (x3 : Int32) (post : Int32 → (Nat → Int32) → (Nat → Int32) → (Nat → Int32) → Prop) : Nat → Int32 → (Nat → Int32) → (Nat → Int32) → (Nat → Int32) → Prop
  | 0 => fun _ _ _ _ => False
  | n + 1 => fun l4 f_o_seen f_o_front f_o_ahead => ((8290 ≤ l4 → (p_M_far_33 v_o_rules f_o_modeOf f_o_set f_o_lastOf f_o_step x1 x2 x3 post f_o_seen f_o_front f_o_ahead)) ∧ (¬ 8290 ≤ l4 → (vp_in l4 8290 ∧ (vp_in l4 8290 ∧ (p_M_far_3 v_o_rules f_o_modeOf f_o_set f_o_lastOf f_o_step x1 x2 x3 post n (l4 + 1) (upd f_o_seen l4.toNatClampNeg 0) (upd f_o_front l4.toNatClampNeg 0) f_o_ahead)))))
def p_M_far (v_o_rules : Int32) (f_o_seen : (Nat → Int32)) (f_o_front : (Nat → Int32)) (f_o_ahead : (Nat → Int32)) (f_o_modeOf : (Nat → Int32)) (f_o_set : (Nat → Int32)) (f_o_lastOf : (Nat → Int32)) (f_o_step : (Nat → Int32)) (x1 : Int32) (x2 : Int32) (x3 : Int32) (post : Int32 → (Nat → Int32) → (Nat → Int32) → (Nat → Int32) → Prop) : Prop := (∃ k, p_M_far_3 v_o_rules f_o_modeOf f_o_set f_o_lastOf f_o_step x1 x2 x3 post k 0 f_o_seen f_o_front f_o_ahead)
set_option maxHeartbeats 4000000 in
set_option maxRecDepth 100000 in
theorem c_M_far_265 (l : Launch) (G : va_G) (K : Nat → ClassId) (a0 : Nat) (ad : Nat → Nat) (v_o_code : Int32) (v_o_typed : Int32) (v_o_rules : Int32) (v_o_at : Int32) (v_o_read : Int32) (v_o_depth : Int32) (v_o_wrong : Int32) (v_o_there : Int32) (v_o_ended : Int32) (v_o_mode : Int32) (v_o_kept : Int32) (v_o_came : Int32) (v_o_pending : Int32) (v_o_looked : Int32) (v_o_tokens : Int32) (v_o_oldest : Int32) (f_o_modeOf : (Nat → Int32)) (f_o_set : (Nat → Int32)) (f_o_lastOf : (Nat → Int32)) (f_o_step : (Nat → Int32)) (x1 : Int32) (x2 : Int32) (x3 : Int32) (post : Int32 → (Nat → Int32) → (Nat → Int32) → (Nat → Int32) → Prop) {p : Program} {e : Env} {s : State} {m : MethodId} {below : List Frame} {meth : Method} {c : Code} {A : Nat → Prop} {Q : State → Prop} (hx : p.tables.exec = Jvm.exec) (hb : c.code = c_M_far) (hml : c.maxLocals = 11) (hown : s.vm.findClass y_M_far.cls = some m.cls) (hname : meth.name = y_M_far.name) (htg : ∀ w ∈ GT, w.before ([.ref a0, .int x1, .int x2, .int x3] : List Value).toArray s = true) (hK : va_K G vwCl (TY K) s) (hN : gNw s) (hA : ∀ q : Nat, s.heap.size ≤ q → A q) (hR : va_P G vwCl [(a0, .inr (12, oM v_o_code v_o_typed v_o_rules v_o_at v_o_read v_o_depth v_o_wrong v_o_there v_o_ended v_o_mode v_o_kept v_o_came v_o_pending v_o_looked v_o_tokens v_o_oldest ad)), ((ad 4), .inl (K 0, 16, .inl f_o_modeOf)), ((ad 29), .inl (K 0, 1542, .inl f_o_set)), ((ad 7), .inl (K 0, 16, .inl f_o_lastOf)), ((ad 30), .inl (K 0, 9252, .inl f_o_step))] s.heap) (rN : ∀ (k : Nat) (q : Nat × va_E), ([(a0, .inr (12, oM v_o_code v_o_typed v_o_rules v_o_at v_o_read v_o_depth v_o_wrong v_o_there v_o_ended v_o_mode v_o_kept v_o_came v_o_pending v_o_looked v_o_tokens v_o_oldest ad)), ((ad 4), .inl (K 0, 16, .inl f_o_modeOf)), ((ad 29), .inl (K 0, 1542, .inl f_o_set)), ((ad 7), .inl (K 0, 16, .inl f_o_lastOf)), ((ad 30), .inl (K 0, 9252, .inl f_o_step))] : va_W)[k]? = some q → ¬ A q.1) (hret : ∀ (r : Int32) (u : (Nat → Int32) × (Nat → Int32) × (Nat → Int32)) (H : Heap) (locs : List Loc) (ls : Array Slot) (pc : Nat), (fun r (u : (Nat → Int32) × (Nat → Int32) × (Nat → Int32)) => post r u.1 u.2.1 u.2.2) r u → narrow .int (.int r) = .int r → va_P G vwCl ((fun u => [((ad 53), .inl (K 0, 8290, .inl u.1)), ((ad 54), .inl (K 0, 8290, .inl u.2.1)), ((ad 55), .inl (K 0, 8290, .inl u.2.2))]) u) H → va_D A ((fun u => [((ad 53), .inl (K 0, 8290, .inl u.1)), ((ad 54), .inl (K 0, 8290, .inl u.2.1)), ((ad 55), .inl (K 0, 8290, .inl u.2.2))]) u) → va_S A s.heap H locs → decode c_M_far pc = .ok (.ireturn, 1) → W p l e { frames := 2, cells := 0, slots := 0, locals := 51 } s m ([.ref a0, .int x1, .int x2, .int x3] : List Value).toArray below meth c H locs 0 0 Q (F0 m pc ls [.int r])) : ∀ (K_55 : Int32 → Int32 → (Nat → Int32) → (Nat → Int32) → (Nat → Int32) → Prop) (hK_55 : ∀ (l4 : Int32) (l5 : Int32) (f_o_seen : (Nat → Int32)) (f_o_front : (Nat → Int32)) (f_o_ahead : (Nat → Int32)) (H : Heap) (locs : List Loc), va_P G vwCl [((ad 53), .inl (K 0, 8290, .inl f_o_seen)), ((ad 54), .inl (K 0, 8290, .inl f_o_front)), ((ad 55), .inl (K 0, 8290, .inl f_o_ahead))] H → va_D A [((ad 53), .inl (K 0, 8290, .inl f_o_seen)), ((ad 54), .inl (K 0, 8290, .inl f_o_front)), ((ad 55), .inl (K 0, 8290, .inl f_o_ahead))] → va_S A s.heap H locs → ∀ (ls : Array Slot), lv_has ls 11 [(0, .ref a0), (1, .int x1), (2, .int x2), (4, .int l4), (5, .int l5)] → K_55 l4 l5 f_o_seen f_o_front f_o_ahead → W p l e { frames := 2, cells := 0, slots := 0, locals := 51 } s m ([.ref a0, .int x1, .int x2, .int x3] : List Value).toArray below meth c H locs 0 0 Q (F0 m 55 ls [])) (l4 : Int32) (l5 : Int32) (f_o_seen : (Nat → Int32)) (f_o_front : (Nat → Int32)) (f_o_ahead : (Nat → Int32)) (H : Heap) (locs : List Loc), va_P G vwCl [((ad 53), .inl (K 0, 8290, .inl f_o_seen)), ((ad 54), .inl (K 0, 8290, .inl f_o_front)), ((ad 55), .inl (K 0, 8290, .inl f_o_ahead))] H → va_D A [((ad 53), .inl (K 0, 8290, .inl f_o_seen)), ((ad 54), .inl (K 0, 8290, .inl f_o_front)), ((ad 55), .inl (K 0, 8290, .inl f_o_ahead))] → va_S A s.heap H locs → ∀ (ls : Array Slot), lv_has ls 11 [(0, .ref a0), (1, .int x1), (2, .int x2), (4, .int l4), (5, .int l5)] → p_M_far_265 post K_55 l4 l5 f_o_seen f_o_front f_o_ahead → W p l e { frames := 2, cells := 0, slots := 0, locals := 51 } s m ([.ref a0, .int x1, .int x2, .int x3] : List Value).toArray below meth c H locs 0 0 Q (F0 m 265 ls []) := by
  intro K_55 hK_55 l4 l5 f_o_seen f_o_front f_o_ahead  H locs hP hD hS ls hl h
  refine lv_iinc (v := (l4 + 1)) (lv' := [(4, .int (l4 + 1)), (0, .ref a0), (1, .int x1), (2, .int x2), (5, .int l5)]) hx hb d_M_far_265 hl (k := 3) rfl (by first | rfl | decide) (by decide) rfl (fun ls hl => ?_)
  refine lv_goto (tgt := 55) hx hb d_M_far_268 (by decide) ?_
  exact hK_55 (l4 + 1) l5 f_o_seen f_o_front f_o_ahead  _ _ (hP.sub [0, 1, 2] rfl) (hD.sub [0, 1, 2] (by decide) rfl) hS _ (lv_sub hl [1, 2, 3, 0, 4] rfl) h
set_option maxHeartbeats 4000000 in
set_option maxRecDepth 100000 in
theorem c_M_far_237 (l : Launch) (G : va_G) (K : Nat → ClassId) (a0 : Nat) (ad : Nat → Nat) (v_o_code : Int32) (v_o_typed : Int32) (v_o_rules : Int32) (v_o_at : Int32) (v_o_read : Int32) (v_o_depth : Int32) (v_o_wrong : Int32) (v_o_there : Int32) (v_o_ended : Int32) (v_o_mode : Int32) (v_o_kept : Int32) (v_o_came : Int32) (v_o_pending : Int32) (v_o_looked : Int32) (v_o_tokens : Int32) (v_o_oldest : Int32) (f_o_modeOf : (Nat → Int32)) (f_o_set : (Nat → Int32)) (f_o_lastOf : (Nat → Int32)) (f_o_step : (Nat → Int32)) (x1 : Int32) (x2 : Int32) (x3 : Int32) (post : Int32 → (Nat → Int32) → (Nat → Int32) → (Nat → Int32) → Prop) {p : Program} {e : Env} {s : State} {m : MethodId} {below : List Frame} {meth : Method} {c : Code} {A : Nat → Prop} {Q : State → Prop} (hx : p.tables.exec = Jvm.exec) (hb : c.code = c_M_far) (hml : c.maxLocals = 11) (hown : s.vm.findClass y_M_far.cls = some m.cls) (hname : meth.name = y_M_far.name) (htg : ∀ w ∈ GT, w.before ([.ref a0, .int x1, .int x2, .int x3] : List Value).toArray s = true) (hK : va_K G vwCl (TY K) s) (hN : gNw s) (hA : ∀ q : Nat, s.heap.size ≤ q → A q) (hR : va_P G vwCl [(a0, .inr (12, oM v_o_code v_o_typed v_o_rules v_o_at v_o_read v_o_depth v_o_wrong v_o_there v_o_ended v_o_mode v_o_kept v_o_came v_o_pending v_o_looked v_o_tokens v_o_oldest ad)), ((ad 4), .inl (K 0, 16, .inl f_o_modeOf)), ((ad 29), .inl (K 0, 1542, .inl f_o_set)), ((ad 7), .inl (K 0, 16, .inl f_o_lastOf)), ((ad 30), .inl (K 0, 9252, .inl f_o_step))] s.heap) (rN : ∀ (k : Nat) (q : Nat × va_E), ([(a0, .inr (12, oM v_o_code v_o_typed v_o_rules v_o_at v_o_read v_o_depth v_o_wrong v_o_there v_o_ended v_o_mode v_o_kept v_o_came v_o_pending v_o_looked v_o_tokens v_o_oldest ad)), ((ad 4), .inl (K 0, 16, .inl f_o_modeOf)), ((ad 29), .inl (K 0, 1542, .inl f_o_set)), ((ad 7), .inl (K 0, 16, .inl f_o_lastOf)), ((ad 30), .inl (K 0, 9252, .inl f_o_step))] : va_W)[k]? = some q → ¬ A q.1) (hret : ∀ (r : Int32) (u : (Nat → Int32) × (Nat → Int32) × (Nat → Int32)) (H : Heap) (locs : List Loc) (ls : Array Slot) (pc : Nat), (fun r (u : (Nat → Int32) × (Nat → Int32) × (Nat → Int32)) => post r u.1 u.2.1 u.2.2) r u → narrow .int (.int r) = .int r → va_P G vwCl ((fun u => [((ad 53), .inl (K 0, 8290, .inl u.1)), ((ad 54), .inl (K 0, 8290, .inl u.2.1)), ((ad 55), .inl (K 0, 8290, .inl u.2.2))]) u) H → va_D A ((fun u => [((ad 53), .inl (K 0, 8290, .inl u.1)), ((ad 54), .inl (K 0, 8290, .inl u.2.1)), ((ad 55), .inl (K 0, 8290, .inl u.2.2))]) u) → va_S A s.heap H locs → decode c_M_far pc = .ok (.ireturn, 1) → W p l e { frames := 2, cells := 0, slots := 0, locals := 51 } s m ([.ref a0, .int x1, .int x2, .int x3] : List Value).toArray below meth c H locs 0 0 Q (F0 m pc ls [.int r])) : ∀ (K_55 : Int32 → Int32 → (Nat → Int32) → (Nat → Int32) → (Nat → Int32) → Prop) (hK_55 : ∀ (l4 : Int32) (l5 : Int32) (f_o_seen : (Nat → Int32)) (f_o_front : (Nat → Int32)) (f_o_ahead : (Nat → Int32)) (H : Heap) (locs : List Loc), va_P G vwCl [((ad 53), .inl (K 0, 8290, .inl f_o_seen)), ((ad 54), .inl (K 0, 8290, .inl f_o_front)), ((ad 55), .inl (K 0, 8290, .inl f_o_ahead))] H → va_D A [((ad 53), .inl (K 0, 8290, .inl f_o_seen)), ((ad 54), .inl (K 0, 8290, .inl f_o_front)), ((ad 55), .inl (K 0, 8290, .inl f_o_ahead))] → va_S A s.heap H locs → ∀ (ls : Array Slot), lv_has ls 11 [(0, .ref a0), (1, .int x1), (2, .int x2), (4, .int l4), (5, .int l5)] → K_55 l4 l5 f_o_seen f_o_front f_o_ahead → W p l e { frames := 2, cells := 0, slots := 0, locals := 51 } s m ([.ref a0, .int x1, .int x2, .int x3] : List Value).toArray below meth c H locs 0 0 Q (F0 m 55 ls [])) (n : Nat) (l4 : Int32) (l5 : Int32) (l6 : Int32) (f_o_seen : (Nat → Int32)) (f_o_front : (Nat → Int32)) (f_o_ahead : (Nat → Int32)) (H : Heap) (locs : List Loc), va_P G vwCl [((ad 53), .inl (K 0, 8290, .inl f_o_seen)), ((ad 54), .inl (K 0, 8290, .inl f_o_front)), ((ad 55), .inl (K 0, 8290, .inl f_o_ahead))] H → va_D A [((ad 53), .inl (K 0, 8290, .inl f_o_seen)), ((ad 54), .inl (K 0, 8290, .inl f_o_front)), ((ad 55), .inl (K 0, 8290, .inl f_o_ahead))] → va_S A s.heap H locs → ∀ (ls : Array Slot), lv_has ls 11 [(0, .ref a0), (1, .int x1), (2, .int x2), (4, .int l4), (5, .int l5), (6, .int l6)] → p_M_far_237 post K_55 n l4 l5 l6 f_o_seen f_o_front f_o_ahead → W p l e { frames := 2, cells := 0, slots := 0, locals := 51 } s m ([.ref a0, .int x1, .int x2, .int x3] : List Value).toArray below meth c H locs 0 0 Q (F0 m 237 ls []) := by
  intro K_55 hK_55
  intro n
  induction n with
  | zero =>
    intro l4 l5 l6 f_o_seen f_o_front f_o_ahead  H locs hP hD hS ls hl h
    exact False.elim h
  | succ n ih =>
    intro l4 l5 l6 f_o_seen f_o_front f_o_ahead  H locs hP hD hS ls hl h
    refine lv_iload hx hb d_M_far_237 (lv_at hl 5 rfl) ?_
    refine lv_sipush (v := 8290) hx hb d_M_far_239 (by decide) ?_
    refine lv_icmp_ge (tgt := 265) hx hb d_M_far_242 (by decide) (fun hc => ?_) (fun hc => ?_)
    · replace h := h.1 hc
      exact (c_M_far_265 l G K a0 ad v_o_code v_o_typed v_o_rules v_o_at v_o_read v_o_depth v_o_wrong v_o_there v_o_ended v_o_mode v_o_kept v_o_came v_o_pending v_o_looked v_o_tokens v_o_oldest f_o_modeOf f_o_set f_o_lastOf f_o_step x1 x2 x3 post hx hb hml hown hname htg hK hN hA hR rN hret) _ hK_55 l4 l5 f_o_seen f_o_front f_o_ahead  _ _ (hP.sub [0, 1, 2] rfl) (hD.sub [0, 1, 2] (by decide) rfl) hS _ (lv_sub hl [0, 1, 2, 3, 4] rfl) h
    · replace h := h.2 hc
      refine lv_aload_n hx hb d_M_far_245 rfl (lv_at hl 0 rfl) ?_
      refine va_get (ci := 12) (v := .ref (ad 54)) hx hb htg in_M hown hK (gR hR rN hS) 0 rfl rfl 54 (by decide) (htg _ m_664) (fun _ h9 => h9) rfl d_M_far_246 ?_
      refine lv_iload hx hb d_M_far_249 (lv_at hl 5 rfl) ?_
      refine lv_aload_n hx hb d_M_far_251 rfl (lv_at hl 0 rfl) ?_
      refine va_get (ci := 12) (v := .ref (ad 55)) hx hb htg in_M hown hK (gR hR rN hS) 0 rfl rfl 55 (by decide) (htg _ m_665) (fun _ h9 => h9) rfl d_M_far_252 ?_
      refine lv_iload hx hb d_M_far_255 (lv_at hl 5 rfl) ?_
      obtain ⟨hin, h⟩ := h
      refine va_iald hx hb hK hP 2 0 rfl rfl hin d_M_far_257 ?_
      obtain ⟨hin, h⟩ := h
      refine va_iast hx hb hK hP hD hS 1 0 rfl rfl hin d_M_far_258 (fun H locs hP hD hS => ?_)
      have hP : va_P G vwCl [((ad 53), .inl (K 0, 8290, .inl f_o_seen)), ((ad 54), .inl (K 0, 8290, .inl (upd f_o_front l6.toNatClampNeg (f_o_ahead l6.toNatClampNeg)))), ((ad 55), .inl (K 0, 8290, .inl f_o_ahead))] H := hP
      have hD : va_D A [((ad 53), .inl (K 0, 8290, .inl f_o_seen)), ((ad 54), .inl (K 0, 8290, .inl (upd f_o_front l6.toNatClampNeg (f_o_ahead l6.toNatClampNeg)))), ((ad 55), .inl (K 0, 8290, .inl f_o_ahead))] := hD
      refine lv_iinc (v := (l6 + 1)) (lv' := [(6, .int (l6 + 1)), (0, .ref a0), (1, .int x1), (2, .int x2), (4, .int l4), (5, .int l5)]) hx hb d_M_far_259 hl (k := 5) rfl (by first | rfl | decide) (by decide) rfl (fun ls hl => ?_)
      refine lv_goto (tgt := 237) hx hb d_M_far_262 (by decide) ?_
      exact ih l4 l5 (l6 + 1) f_o_seen (upd f_o_front l6.toNatClampNeg (f_o_ahead l6.toNatClampNeg)) f_o_ahead  _ _ (hP.sub [0, 1, 2] rfl) (hD.sub [0, 1, 2] (by decide) rfl) hS _ (lv_sub hl [1, 2, 3, 4, 5, 0] rfl) h
set_option maxHeartbeats 4000000 in
set_option maxRecDepth 100000 in
theorem c_M_far_234 (l : Launch) (G : va_G) (K : Nat → ClassId) (a0 : Nat) (ad : Nat → Nat) (v_o_code : Int32) (v_o_typed : Int32) (v_o_rules : Int32) (v_o_at : Int32) (v_o_read : Int32) (v_o_depth : Int32) (v_o_wrong : Int32) (v_o_there : Int32) (v_o_ended : Int32) (v_o_mode : Int32) (v_o_kept : Int32) (v_o_came : Int32) (v_o_pending : Int32) (v_o_looked : Int32) (v_o_tokens : Int32) (v_o_oldest : Int32) (f_o_modeOf : (Nat → Int32)) (f_o_set : (Nat → Int32)) (f_o_lastOf : (Nat → Int32)) (f_o_step : (Nat → Int32)) (x1 : Int32) (x2 : Int32) (x3 : Int32) (post : Int32 → (Nat → Int32) → (Nat → Int32) → (Nat → Int32) → Prop) {p : Program} {e : Env} {s : State} {m : MethodId} {below : List Frame} {meth : Method} {c : Code} {A : Nat → Prop} {Q : State → Prop} (hx : p.tables.exec = Jvm.exec) (hb : c.code = c_M_far) (hml : c.maxLocals = 11) (hown : s.vm.findClass y_M_far.cls = some m.cls) (hname : meth.name = y_M_far.name) (htg : ∀ w ∈ GT, w.before ([.ref a0, .int x1, .int x2, .int x3] : List Value).toArray s = true) (hK : va_K G vwCl (TY K) s) (hN : gNw s) (hA : ∀ q : Nat, s.heap.size ≤ q → A q) (hR : va_P G vwCl [(a0, .inr (12, oM v_o_code v_o_typed v_o_rules v_o_at v_o_read v_o_depth v_o_wrong v_o_there v_o_ended v_o_mode v_o_kept v_o_came v_o_pending v_o_looked v_o_tokens v_o_oldest ad)), ((ad 4), .inl (K 0, 16, .inl f_o_modeOf)), ((ad 29), .inl (K 0, 1542, .inl f_o_set)), ((ad 7), .inl (K 0, 16, .inl f_o_lastOf)), ((ad 30), .inl (K 0, 9252, .inl f_o_step))] s.heap) (rN : ∀ (k : Nat) (q : Nat × va_E), ([(a0, .inr (12, oM v_o_code v_o_typed v_o_rules v_o_at v_o_read v_o_depth v_o_wrong v_o_there v_o_ended v_o_mode v_o_kept v_o_came v_o_pending v_o_looked v_o_tokens v_o_oldest ad)), ((ad 4), .inl (K 0, 16, .inl f_o_modeOf)), ((ad 29), .inl (K 0, 1542, .inl f_o_set)), ((ad 7), .inl (K 0, 16, .inl f_o_lastOf)), ((ad 30), .inl (K 0, 9252, .inl f_o_step))] : va_W)[k]? = some q → ¬ A q.1) (hret : ∀ (r : Int32) (u : (Nat → Int32) × (Nat → Int32) × (Nat → Int32)) (H : Heap) (locs : List Loc) (ls : Array Slot) (pc : Nat), (fun r (u : (Nat → Int32) × (Nat → Int32) × (Nat → Int32)) => post r u.1 u.2.1 u.2.2) r u → narrow .int (.int r) = .int r → va_P G vwCl ((fun u => [((ad 53), .inl (K 0, 8290, .inl u.1)), ((ad 54), .inl (K 0, 8290, .inl u.2.1)), ((ad 55), .inl (K 0, 8290, .inl u.2.2))]) u) H → va_D A ((fun u => [((ad 53), .inl (K 0, 8290, .inl u.1)), ((ad 54), .inl (K 0, 8290, .inl u.2.1)), ((ad 55), .inl (K 0, 8290, .inl u.2.2))]) u) → va_S A s.heap H locs → decode c_M_far pc = .ok (.ireturn, 1) → W p l e { frames := 2, cells := 0, slots := 0, locals := 51 } s m ([.ref a0, .int x1, .int x2, .int x3] : List Value).toArray below meth c H locs 0 0 Q (F0 m pc ls [.int r])) : ∀ (K_55 : Int32 → Int32 → (Nat → Int32) → (Nat → Int32) → (Nat → Int32) → Prop) (hK_55 : ∀ (l4 : Int32) (l5 : Int32) (f_o_seen : (Nat → Int32)) (f_o_front : (Nat → Int32)) (f_o_ahead : (Nat → Int32)) (H : Heap) (locs : List Loc), va_P G vwCl [((ad 53), .inl (K 0, 8290, .inl f_o_seen)), ((ad 54), .inl (K 0, 8290, .inl f_o_front)), ((ad 55), .inl (K 0, 8290, .inl f_o_ahead))] H → va_D A [((ad 53), .inl (K 0, 8290, .inl f_o_seen)), ((ad 54), .inl (K 0, 8290, .inl f_o_front)), ((ad 55), .inl (K 0, 8290, .inl f_o_ahead))] → va_S A s.heap H locs → ∀ (ls : Array Slot), lv_has ls 11 [(0, .ref a0), (1, .int x1), (2, .int x2), (4, .int l4), (5, .int l5)] → K_55 l4 l5 f_o_seen f_o_front f_o_ahead → W p l e { frames := 2, cells := 0, slots := 0, locals := 51 } s m ([.ref a0, .int x1, .int x2, .int x3] : List Value).toArray below meth c H locs 0 0 Q (F0 m 55 ls [])) (l4 : Int32) (l5 : Int32) (f_o_seen : (Nat → Int32)) (f_o_front : (Nat → Int32)) (f_o_ahead : (Nat → Int32)) (H : Heap) (locs : List Loc), va_P G vwCl [((ad 53), .inl (K 0, 8290, .inl f_o_seen)), ((ad 54), .inl (K 0, 8290, .inl f_o_front)), ((ad 55), .inl (K 0, 8290, .inl f_o_ahead))] H → va_D A [((ad 53), .inl (K 0, 8290, .inl f_o_seen)), ((ad 54), .inl (K 0, 8290, .inl f_o_front)), ((ad 55), .inl (K 0, 8290, .inl f_o_ahead))] → va_S A s.heap H locs → ∀ (ls : Array Slot), lv_has ls 11 [(0, .ref a0), (1, .int x1), (2, .int x2), (4, .int l4), (5, .int l5)] → p_M_far_234 post K_55 l4 l5 f_o_seen f_o_front f_o_ahead → W p l e { frames := 2, cells := 0, slots := 0, locals := 51 } s m ([.ref a0, .int x1, .int x2, .int x3] : List Value).toArray below meth c H locs 0 0 Q (F0 m 234 ls []) := by
  intro K_55 hK_55 l4 l5 f_o_seen f_o_front f_o_ahead  H locs hP hD hS ls hl h
  refine lv_iconst (v := 0) hx hb d_M_far_234 (by decide) ?_
  refine lv_istore (lv' := [(6, .int 0), (0, .ref a0), (1, .int x1), (2, .int x2), (4, .int l4), (5, .int l5)]) hx hb d_M_far_235 hl (by decide) rfl (fun ls hl => ?_)
  obtain ⟨k, h⟩ := h
  exact (c_M_far_237 l G K a0 ad v_o_code v_o_typed v_o_rules v_o_at v_o_read v_o_depth v_o_wrong v_o_there v_o_ended v_o_mode v_o_kept v_o_came v_o_pending v_o_looked v_o_tokens v_o_oldest f_o_modeOf f_o_set f_o_lastOf f_o_step x1 x2 x3 post hx hb hml hown hname htg hK hN hA hR rN hret) _ hK_55 k l4 l5 0 f_o_seen f_o_front f_o_ahead  _ _ (hP.sub [0, 1, 2] rfl) (hD.sub [0, 1, 2] (by decide) rfl) hS _ (lv_sub hl [1, 2, 3, 4, 5, 0] rfl) h
set_option maxHeartbeats 4000000 in
set_option maxRecDepth 100000 in
theorem c_M_far_228 (l : Launch) (G : va_G) (K : Nat → ClassId) (a0 : Nat) (ad : Nat → Nat) (v_o_code : Int32) (v_o_typed : Int32) (v_o_rules : Int32) (v_o_at : Int32) (v_o_read : Int32) (v_o_depth : Int32) (v_o_wrong : Int32) (v_o_there : Int32) (v_o_ended : Int32) (v_o_mode : Int32) (v_o_kept : Int32) (v_o_came : Int32) (v_o_pending : Int32) (v_o_looked : Int32) (v_o_tokens : Int32) (v_o_oldest : Int32) (f_o_modeOf : (Nat → Int32)) (f_o_set : (Nat → Int32)) (f_o_lastOf : (Nat → Int32)) (f_o_step : (Nat → Int32)) (x1 : Int32) (x2 : Int32) (x3 : Int32) (post : Int32 → (Nat → Int32) → (Nat → Int32) → (Nat → Int32) → Prop) {p : Program} {e : Env} {s : State} {m : MethodId} {below : List Frame} {meth : Method} {c : Code} {A : Nat → Prop} {Q : State → Prop} (hx : p.tables.exec = Jvm.exec) (hb : c.code = c_M_far) (hml : c.maxLocals = 11) (hown : s.vm.findClass y_M_far.cls = some m.cls) (hname : meth.name = y_M_far.name) (htg : ∀ w ∈ GT, w.before ([.ref a0, .int x1, .int x2, .int x3] : List Value).toArray s = true) (hK : va_K G vwCl (TY K) s) (hN : gNw s) (hA : ∀ q : Nat, s.heap.size ≤ q → A q) (hR : va_P G vwCl [(a0, .inr (12, oM v_o_code v_o_typed v_o_rules v_o_at v_o_read v_o_depth v_o_wrong v_o_there v_o_ended v_o_mode v_o_kept v_o_came v_o_pending v_o_looked v_o_tokens v_o_oldest ad)), ((ad 4), .inl (K 0, 16, .inl f_o_modeOf)), ((ad 29), .inl (K 0, 1542, .inl f_o_set)), ((ad 7), .inl (K 0, 16, .inl f_o_lastOf)), ((ad 30), .inl (K 0, 9252, .inl f_o_step))] s.heap) (rN : ∀ (k : Nat) (q : Nat × va_E), ([(a0, .inr (12, oM v_o_code v_o_typed v_o_rules v_o_at v_o_read v_o_depth v_o_wrong v_o_there v_o_ended v_o_mode v_o_kept v_o_came v_o_pending v_o_looked v_o_tokens v_o_oldest ad)), ((ad 4), .inl (K 0, 16, .inl f_o_modeOf)), ((ad 29), .inl (K 0, 1542, .inl f_o_set)), ((ad 7), .inl (K 0, 16, .inl f_o_lastOf)), ((ad 30), .inl (K 0, 9252, .inl f_o_step))] : va_W)[k]? = some q → ¬ A q.1) (hret : ∀ (r : Int32) (u : (Nat → Int32) × (Nat → Int32) × (Nat → Int32)) (H : Heap) (locs : List Loc) (ls : Array Slot) (pc : Nat), (fun r (u : (Nat → Int32) × (Nat → Int32) × (Nat → Int32)) => post r u.1 u.2.1 u.2.2) r u → narrow .int (.int r) = .int r → va_P G vwCl ((fun u => [((ad 53), .inl (K 0, 8290, .inl u.1)), ((ad 54), .inl (K 0, 8290, .inl u.2.1)), ((ad 55), .inl (K 0, 8290, .inl u.2.2))]) u) H → va_D A ((fun u => [((ad 53), .inl (K 0, 8290, .inl u.1)), ((ad 54), .inl (K 0, 8290, .inl u.2.1)), ((ad 55), .inl (K 0, 8290, .inl u.2.2))]) u) → va_S A s.heap H locs → decode c_M_far pc = .ok (.ireturn, 1) → W p l e { frames := 2, cells := 0, slots := 0, locals := 51 } s m ([.ref a0, .int x1, .int x2, .int x3] : List Value).toArray below meth c H locs 0 0 Q (F0 m pc ls [.int r])) : ∀ (K_55 : Int32 → Int32 → (Nat → Int32) → (Nat → Int32) → (Nat → Int32) → Prop) (hK_55 : ∀ (l4 : Int32) (l5 : Int32) (f_o_seen : (Nat → Int32)) (f_o_front : (Nat → Int32)) (f_o_ahead : (Nat → Int32)) (H : Heap) (locs : List Loc), va_P G vwCl [((ad 53), .inl (K 0, 8290, .inl f_o_seen)), ((ad 54), .inl (K 0, 8290, .inl f_o_front)), ((ad 55), .inl (K 0, 8290, .inl f_o_ahead))] H → va_D A [((ad 53), .inl (K 0, 8290, .inl f_o_seen)), ((ad 54), .inl (K 0, 8290, .inl f_o_front)), ((ad 55), .inl (K 0, 8290, .inl f_o_ahead))] → va_S A s.heap H locs → ∀ (ls : Array Slot), lv_has ls 11 [(0, .ref a0), (1, .int x1), (2, .int x2), (4, .int l4), (5, .int l5)] → K_55 l4 l5 f_o_seen f_o_front f_o_ahead → W p l e { frames := 2, cells := 0, slots := 0, locals := 51 } s m ([.ref a0, .int x1, .int x2, .int x3] : List Value).toArray below meth c H locs 0 0 Q (F0 m 55 ls [])) (K_91 : Int32 → Int32 → Int32 → (Nat → Int32) → (Nat → Int32) → (Nat → Int32) → Prop) (hK_91 : ∀ (l4 : Int32) (l5 : Int32) (l6 : Int32) (f_o_seen : (Nat → Int32)) (f_o_front : (Nat → Int32)) (f_o_ahead : (Nat → Int32)) (H : Heap) (locs : List Loc), va_P G vwCl [((ad 53), .inl (K 0, 8290, .inl f_o_seen)), ((ad 54), .inl (K 0, 8290, .inl f_o_front)), ((ad 55), .inl (K 0, 8290, .inl f_o_ahead))] H → va_D A [((ad 53), .inl (K 0, 8290, .inl f_o_seen)), ((ad 54), .inl (K 0, 8290, .inl f_o_front)), ((ad 55), .inl (K 0, 8290, .inl f_o_ahead))] → va_S A s.heap H locs → ∀ (ls : Array Slot), lv_has ls 11 [(0, .ref a0), (1, .int x1), (2, .int x2), (4, .int l4), (5, .int l5), (6, .int l6)] → K_91 l4 l5 l6 f_o_seen f_o_front f_o_ahead → W p l e { frames := 2, cells := 0, slots := 0, locals := 51 } s m ([.ref a0, .int x1, .int x2, .int x3] : List Value).toArray below meth c H locs 0 0 Q (F0 m 91 ls [])) (l4 : Int32) (l5 : Int32) (l6 : Int32) (f_o_seen : (Nat → Int32)) (f_o_front : (Nat → Int32)) (f_o_ahead : (Nat → Int32)) (H : Heap) (locs : List Loc), va_P G vwCl [((ad 53), .inl (K 0, 8290, .inl f_o_seen)), ((ad 54), .inl (K 0, 8290, .inl f_o_front)), ((ad 55), .inl (K 0, 8290, .inl f_o_ahead))] H → va_D A [((ad 53), .inl (K 0, 8290, .inl f_o_seen)), ((ad 54), .inl (K 0, 8290, .inl f_o_front)), ((ad 55), .inl (K 0, 8290, .inl f_o_ahead))] → va_S A s.heap H locs → ∀ (ls : Array Slot), lv_has ls 11 [(0, .ref a0), (1, .int x1), (2, .int x2), (4, .int l4), (5, .int l5), (6, .int l6)] → p_M_far_228 post K_55 K_91 l4 l5 l6 f_o_seen f_o_front f_o_ahead → W p l e { frames := 2, cells := 0, slots := 0, locals := 51 } s m ([.ref a0, .int x1, .int x2, .int x3] : List Value).toArray below meth c H locs 0 0 Q (F0 m 228 ls []) := by
  intro K_55 hK_55 K_91 hK_91 l4 l5 l6 f_o_seen f_o_front f_o_ahead  H locs hP hD hS ls hl h
  refine lv_iinc (v := (l6 + 1)) (lv' := [(6, .int (l6 + 1)), (0, .ref a0), (1, .int x1), (2, .int x2), (4, .int l4), (5, .int l5)]) hx hb d_M_far_228 hl (k := 5) rfl (by first | rfl | decide) (by decide) rfl (fun ls hl => ?_)
  refine lv_goto (tgt := 91) hx hb d_M_far_231 (by decide) ?_
  exact hK_91 l4 l5 (l6 + 1) f_o_seen f_o_front f_o_ahead  _ _ (hP.sub [0, 1, 2] rfl) (hD.sub [0, 1, 2] (by decide) rfl) hS _ (lv_sub hl [1, 2, 3, 4, 5, 0] rfl) h
set_option maxHeartbeats 4000000 in
set_option maxRecDepth 100000 in
theorem c_M_far_222 (l : Launch) (G : va_G) (K : Nat → ClassId) (a0 : Nat) (ad : Nat → Nat) (v_o_code : Int32) (v_o_typed : Int32) (v_o_rules : Int32) (v_o_at : Int32) (v_o_read : Int32) (v_o_depth : Int32) (v_o_wrong : Int32) (v_o_there : Int32) (v_o_ended : Int32) (v_o_mode : Int32) (v_o_kept : Int32) (v_o_came : Int32) (v_o_pending : Int32) (v_o_looked : Int32) (v_o_tokens : Int32) (v_o_oldest : Int32) (f_o_modeOf : (Nat → Int32)) (f_o_set : (Nat → Int32)) (f_o_lastOf : (Nat → Int32)) (f_o_step : (Nat → Int32)) (x1 : Int32) (x2 : Int32) (x3 : Int32) (post : Int32 → (Nat → Int32) → (Nat → Int32) → (Nat → Int32) → Prop) {p : Program} {e : Env} {s : State} {m : MethodId} {below : List Frame} {meth : Method} {c : Code} {A : Nat → Prop} {Q : State → Prop} (hx : p.tables.exec = Jvm.exec) (hb : c.code = c_M_far) (hml : c.maxLocals = 11) (hown : s.vm.findClass y_M_far.cls = some m.cls) (hname : meth.name = y_M_far.name) (htg : ∀ w ∈ GT, w.before ([.ref a0, .int x1, .int x2, .int x3] : List Value).toArray s = true) (hK : va_K G vwCl (TY K) s) (hN : gNw s) (hA : ∀ q : Nat, s.heap.size ≤ q → A q) (hR : va_P G vwCl [(a0, .inr (12, oM v_o_code v_o_typed v_o_rules v_o_at v_o_read v_o_depth v_o_wrong v_o_there v_o_ended v_o_mode v_o_kept v_o_came v_o_pending v_o_looked v_o_tokens v_o_oldest ad)), ((ad 4), .inl (K 0, 16, .inl f_o_modeOf)), ((ad 29), .inl (K 0, 1542, .inl f_o_set)), ((ad 7), .inl (K 0, 16, .inl f_o_lastOf)), ((ad 30), .inl (K 0, 9252, .inl f_o_step))] s.heap) (rN : ∀ (k : Nat) (q : Nat × va_E), ([(a0, .inr (12, oM v_o_code v_o_typed v_o_rules v_o_at v_o_read v_o_depth v_o_wrong v_o_there v_o_ended v_o_mode v_o_kept v_o_came v_o_pending v_o_looked v_o_tokens v_o_oldest ad)), ((ad 4), .inl (K 0, 16, .inl f_o_modeOf)), ((ad 29), .inl (K 0, 1542, .inl f_o_set)), ((ad 7), .inl (K 0, 16, .inl f_o_lastOf)), ((ad 30), .inl (K 0, 9252, .inl f_o_step))] : va_W)[k]? = some q → ¬ A q.1) (hret : ∀ (r : Int32) (u : (Nat → Int32) × (Nat → Int32) × (Nat → Int32)) (H : Heap) (locs : List Loc) (ls : Array Slot) (pc : Nat), (fun r (u : (Nat → Int32) × (Nat → Int32) × (Nat → Int32)) => post r u.1 u.2.1 u.2.2) r u → narrow .int (.int r) = .int r → va_P G vwCl ((fun u => [((ad 53), .inl (K 0, 8290, .inl u.1)), ((ad 54), .inl (K 0, 8290, .inl u.2.1)), ((ad 55), .inl (K 0, 8290, .inl u.2.2))]) u) H → va_D A ((fun u => [((ad 53), .inl (K 0, 8290, .inl u.1)), ((ad 54), .inl (K 0, 8290, .inl u.2.1)), ((ad 55), .inl (K 0, 8290, .inl u.2.2))]) u) → va_S A s.heap H locs → decode c_M_far pc = .ok (.ireturn, 1) → W p l e { frames := 2, cells := 0, slots := 0, locals := 51 } s m ([.ref a0, .int x1, .int x2, .int x3] : List Value).toArray below meth c H locs 0 0 Q (F0 m pc ls [.int r])) : ∀ (K_55 : Int32 → Int32 → (Nat → Int32) → (Nat → Int32) → (Nat → Int32) → Prop) (hK_55 : ∀ (l4 : Int32) (l5 : Int32) (f_o_seen : (Nat → Int32)) (f_o_front : (Nat → Int32)) (f_o_ahead : (Nat → Int32)) (H : Heap) (locs : List Loc), va_P G vwCl [((ad 53), .inl (K 0, 8290, .inl f_o_seen)), ((ad 54), .inl (K 0, 8290, .inl f_o_front)), ((ad 55), .inl (K 0, 8290, .inl f_o_ahead))] H → va_D A [((ad 53), .inl (K 0, 8290, .inl f_o_seen)), ((ad 54), .inl (K 0, 8290, .inl f_o_front)), ((ad 55), .inl (K 0, 8290, .inl f_o_ahead))] → va_S A s.heap H locs → ∀ (ls : Array Slot), lv_has ls 11 [(0, .ref a0), (1, .int x1), (2, .int x2), (4, .int l4), (5, .int l5)] → K_55 l4 l5 f_o_seen f_o_front f_o_ahead → W p l e { frames := 2, cells := 0, slots := 0, locals := 51 } s m ([.ref a0, .int x1, .int x2, .int x3] : List Value).toArray below meth c H locs 0 0 Q (F0 m 55 ls [])) (K_91 : Int32 → Int32 → Int32 → (Nat → Int32) → (Nat → Int32) → (Nat → Int32) → Prop) (hK_91 : ∀ (l4 : Int32) (l5 : Int32) (l6 : Int32) (f_o_seen : (Nat → Int32)) (f_o_front : (Nat → Int32)) (f_o_ahead : (Nat → Int32)) (H : Heap) (locs : List Loc), va_P G vwCl [((ad 53), .inl (K 0, 8290, .inl f_o_seen)), ((ad 54), .inl (K 0, 8290, .inl f_o_front)), ((ad 55), .inl (K 0, 8290, .inl f_o_ahead))] H → va_D A [((ad 53), .inl (K 0, 8290, .inl f_o_seen)), ((ad 54), .inl (K 0, 8290, .inl f_o_front)), ((ad 55), .inl (K 0, 8290, .inl f_o_ahead))] → va_S A s.heap H locs → ∀ (ls : Array Slot), lv_has ls 11 [(0, .ref a0), (1, .int x1), (2, .int x2), (4, .int l4), (5, .int l5), (6, .int l6)] → K_91 l4 l5 l6 f_o_seen f_o_front f_o_ahead → W p l e { frames := 2, cells := 0, slots := 0, locals := 51 } s m ([.ref a0, .int x1, .int x2, .int x3] : List Value).toArray below meth c H locs 0 0 Q (F0 m 91 ls [])) (K_102 : Int32 → Int32 → Int32 → Int32 → (Nat → Int32) → (Nat → Int32) → (Nat → Int32) → Prop) (hK_102 : ∀ (l4 : Int32) (l5 : Int32) (l6 : Int32) (l7 : Int32) (f_o_seen : (Nat → Int32)) (f_o_front : (Nat → Int32)) (f_o_ahead : (Nat → Int32)) (H : Heap) (locs : List Loc), va_P G vwCl [((ad 53), .inl (K 0, 8290, .inl f_o_seen)), ((ad 54), .inl (K 0, 8290, .inl f_o_front)), ((ad 55), .inl (K 0, 8290, .inl f_o_ahead))] H → va_D A [((ad 53), .inl (K 0, 8290, .inl f_o_seen)), ((ad 54), .inl (K 0, 8290, .inl f_o_front)), ((ad 55), .inl (K 0, 8290, .inl f_o_ahead))] → va_S A s.heap H locs → ∀ (ls : Array Slot), lv_has ls 11 [(0, .ref a0), (1, .int x1), (2, .int x2), (4, .int l4), (5, .int l5), (6, .int l6), (7, .int l7)] → K_102 l4 l5 l6 l7 f_o_seen f_o_front f_o_ahead → W p l e { frames := 2, cells := 0, slots := 0, locals := 51 } s m ([.ref a0, .int x1, .int x2, .int x3] : List Value).toArray below meth c H locs 0 0 Q (F0 m 102 ls [])) (l4 : Int32) (l5 : Int32) (l6 : Int32) (l7 : Int32) (f_o_seen : (Nat → Int32)) (f_o_front : (Nat → Int32)) (f_o_ahead : (Nat → Int32)) (H : Heap) (locs : List Loc), va_P G vwCl [((ad 53), .inl (K 0, 8290, .inl f_o_seen)), ((ad 54), .inl (K 0, 8290, .inl f_o_front)), ((ad 55), .inl (K 0, 8290, .inl f_o_ahead))] H → va_D A [((ad 53), .inl (K 0, 8290, .inl f_o_seen)), ((ad 54), .inl (K 0, 8290, .inl f_o_front)), ((ad 55), .inl (K 0, 8290, .inl f_o_ahead))] → va_S A s.heap H locs → ∀ (ls : Array Slot), lv_has ls 11 [(0, .ref a0), (1, .int x1), (2, .int x2), (4, .int l4), (5, .int l5), (6, .int l6), (7, .int l7)] → p_M_far_222 post K_55 K_91 K_102 l4 l5 l6 l7 f_o_seen f_o_front f_o_ahead → W p l e { frames := 2, cells := 0, slots := 0, locals := 51 } s m ([.ref a0, .int x1, .int x2, .int x3] : List Value).toArray below meth c H locs 0 0 Q (F0 m 222 ls []) := by
  intro K_55 hK_55 K_91 hK_91 K_102 hK_102 l4 l5 l6 l7 f_o_seen f_o_front f_o_ahead  H locs hP hD hS ls hl h
  refine lv_iinc (v := (l7 + 1)) (lv' := [(7, .int (l7 + 1)), (0, .ref a0), (1, .int x1), (2, .int x2), (4, .int l4), (5, .int l5), (6, .int l6)]) hx hb d_M_far_222 hl (k := 6) rfl (by first | rfl | decide) (by decide) rfl (fun ls hl => ?_)
  refine lv_goto (tgt := 102) hx hb d_M_far_225 (by decide) ?_
  exact hK_102 l4 l5 l6 (l7 + 1) f_o_seen f_o_front f_o_ahead  _ _ (hP.sub [0, 1, 2] rfl) (hD.sub [0, 1, 2] (by decide) rfl) hS _ (lv_sub hl [1, 2, 3, 4, 5, 6, 0] rfl) h
set_option maxHeartbeats 4000000 in
set_option maxRecDepth 100000 in
theorem c_M_far_216 (l : Launch) (G : va_G) (K : Nat → ClassId) (a0 : Nat) (ad : Nat → Nat) (v_o_code : Int32) (v_o_typed : Int32) (v_o_rules : Int32) (v_o_at : Int32) (v_o_read : Int32) (v_o_depth : Int32) (v_o_wrong : Int32) (v_o_there : Int32) (v_o_ended : Int32) (v_o_mode : Int32) (v_o_kept : Int32) (v_o_came : Int32) (v_o_pending : Int32) (v_o_looked : Int32) (v_o_tokens : Int32) (v_o_oldest : Int32) (f_o_modeOf : (Nat → Int32)) (f_o_set : (Nat → Int32)) (f_o_lastOf : (Nat → Int32)) (f_o_step : (Nat → Int32)) (x1 : Int32) (x2 : Int32) (x3 : Int32) (post : Int32 → (Nat → Int32) → (Nat → Int32) → (Nat → Int32) → Prop) {p : Program} {e : Env} {s : State} {m : MethodId} {below : List Frame} {meth : Method} {c : Code} {A : Nat → Prop} {Q : State → Prop} (hx : p.tables.exec = Jvm.exec) (hb : c.code = c_M_far) (hml : c.maxLocals = 11) (hown : s.vm.findClass y_M_far.cls = some m.cls) (hname : meth.name = y_M_far.name) (htg : ∀ w ∈ GT, w.before ([.ref a0, .int x1, .int x2, .int x3] : List Value).toArray s = true) (hK : va_K G vwCl (TY K) s) (hN : gNw s) (hA : ∀ q : Nat, s.heap.size ≤ q → A q) (hR : va_P G vwCl [(a0, .inr (12, oM v_o_code v_o_typed v_o_rules v_o_at v_o_read v_o_depth v_o_wrong v_o_there v_o_ended v_o_mode v_o_kept v_o_came v_o_pending v_o_looked v_o_tokens v_o_oldest ad)), ((ad 4), .inl (K 0, 16, .inl f_o_modeOf)), ((ad 29), .inl (K 0, 1542, .inl f_o_set)), ((ad 7), .inl (K 0, 16, .inl f_o_lastOf)), ((ad 30), .inl (K 0, 9252, .inl f_o_step))] s.heap) (rN : ∀ (k : Nat) (q : Nat × va_E), ([(a0, .inr (12, oM v_o_code v_o_typed v_o_rules v_o_at v_o_read v_o_depth v_o_wrong v_o_there v_o_ended v_o_mode v_o_kept v_o_came v_o_pending v_o_looked v_o_tokens v_o_oldest ad)), ((ad 4), .inl (K 0, 16, .inl f_o_modeOf)), ((ad 29), .inl (K 0, 1542, .inl f_o_set)), ((ad 7), .inl (K 0, 16, .inl f_o_lastOf)), ((ad 30), .inl (K 0, 9252, .inl f_o_step))] : va_W)[k]? = some q → ¬ A q.1) (hret : ∀ (r : Int32) (u : (Nat → Int32) × (Nat → Int32) × (Nat → Int32)) (H : Heap) (locs : List Loc) (ls : Array Slot) (pc : Nat), (fun r (u : (Nat → Int32) × (Nat → Int32) × (Nat → Int32)) => post r u.1 u.2.1 u.2.2) r u → narrow .int (.int r) = .int r → va_P G vwCl ((fun u => [((ad 53), .inl (K 0, 8290, .inl u.1)), ((ad 54), .inl (K 0, 8290, .inl u.2.1)), ((ad 55), .inl (K 0, 8290, .inl u.2.2))]) u) H → va_D A ((fun u => [((ad 53), .inl (K 0, 8290, .inl u.1)), ((ad 54), .inl (K 0, 8290, .inl u.2.1)), ((ad 55), .inl (K 0, 8290, .inl u.2.2))]) u) → va_S A s.heap H locs → decode c_M_far pc = .ok (.ireturn, 1) → W p l e { frames := 2, cells := 0, slots := 0, locals := 51 } s m ([.ref a0, .int x1, .int x2, .int x3] : List Value).toArray below meth c H locs 0 0 Q (F0 m pc ls [.int r])) : ∀ (K_55 : Int32 → Int32 → (Nat → Int32) → (Nat → Int32) → (Nat → Int32) → Prop) (hK_55 : ∀ (l4 : Int32) (l5 : Int32) (f_o_seen : (Nat → Int32)) (f_o_front : (Nat → Int32)) (f_o_ahead : (Nat → Int32)) (H : Heap) (locs : List Loc), va_P G vwCl [((ad 53), .inl (K 0, 8290, .inl f_o_seen)), ((ad 54), .inl (K 0, 8290, .inl f_o_front)), ((ad 55), .inl (K 0, 8290, .inl f_o_ahead))] H → va_D A [((ad 53), .inl (K 0, 8290, .inl f_o_seen)), ((ad 54), .inl (K 0, 8290, .inl f_o_front)), ((ad 55), .inl (K 0, 8290, .inl f_o_ahead))] → va_S A s.heap H locs → ∀ (ls : Array Slot), lv_has ls 11 [(0, .ref a0), (1, .int x1), (2, .int x2), (4, .int l4), (5, .int l5)] → K_55 l4 l5 f_o_seen f_o_front f_o_ahead → W p l e { frames := 2, cells := 0, slots := 0, locals := 51 } s m ([.ref a0, .int x1, .int x2, .int x3] : List Value).toArray below meth c H locs 0 0 Q (F0 m 55 ls [])) (K_91 : Int32 → Int32 → Int32 → (Nat → Int32) → (Nat → Int32) → (Nat → Int32) → Prop) (hK_91 : ∀ (l4 : Int32) (l5 : Int32) (l6 : Int32) (f_o_seen : (Nat → Int32)) (f_o_front : (Nat → Int32)) (f_o_ahead : (Nat → Int32)) (H : Heap) (locs : List Loc), va_P G vwCl [((ad 53), .inl (K 0, 8290, .inl f_o_seen)), ((ad 54), .inl (K 0, 8290, .inl f_o_front)), ((ad 55), .inl (K 0, 8290, .inl f_o_ahead))] H → va_D A [((ad 53), .inl (K 0, 8290, .inl f_o_seen)), ((ad 54), .inl (K 0, 8290, .inl f_o_front)), ((ad 55), .inl (K 0, 8290, .inl f_o_ahead))] → va_S A s.heap H locs → ∀ (ls : Array Slot), lv_has ls 11 [(0, .ref a0), (1, .int x1), (2, .int x2), (4, .int l4), (5, .int l5), (6, .int l6)] → K_91 l4 l5 l6 f_o_seen f_o_front f_o_ahead → W p l e { frames := 2, cells := 0, slots := 0, locals := 51 } s m ([.ref a0, .int x1, .int x2, .int x3] : List Value).toArray below meth c H locs 0 0 Q (F0 m 91 ls [])) (K_102 : Int32 → Int32 → Int32 → Int32 → (Nat → Int32) → (Nat → Int32) → (Nat → Int32) → Prop) (hK_102 : ∀ (l4 : Int32) (l5 : Int32) (l6 : Int32) (l7 : Int32) (f_o_seen : (Nat → Int32)) (f_o_front : (Nat → Int32)) (f_o_ahead : (Nat → Int32)) (H : Heap) (locs : List Loc), va_P G vwCl [((ad 53), .inl (K 0, 8290, .inl f_o_seen)), ((ad 54), .inl (K 0, 8290, .inl f_o_front)), ((ad 55), .inl (K 0, 8290, .inl f_o_ahead))] H → va_D A [((ad 53), .inl (K 0, 8290, .inl f_o_seen)), ((ad 54), .inl (K 0, 8290, .inl f_o_front)), ((ad 55), .inl (K 0, 8290, .inl f_o_ahead))] → va_S A s.heap H locs → ∀ (ls : Array Slot), lv_has ls 11 [(0, .ref a0), (1, .int x1), (2, .int x2), (4, .int l4), (5, .int l5), (6, .int l6), (7, .int l7)] → K_102 l4 l5 l6 l7 f_o_seen f_o_front f_o_ahead → W p l e { frames := 2, cells := 0, slots := 0, locals := 51 } s m ([.ref a0, .int x1, .int x2, .int x3] : List Value).toArray below meth c H locs 0 0 Q (F0 m 102 ls [])) (K_161 : Int32 → Int32 → Int32 → Int32 → Int32 → Int32 → (Nat → Int32) → (Nat → Int32) → (Nat → Int32) → Prop) (hK_161 : ∀ (l4 : Int32) (l5 : Int32) (l6 : Int32) (l7 : Int32) (l8 : Int32) (l9 : Int32) (f_o_seen : (Nat → Int32)) (f_o_front : (Nat → Int32)) (f_o_ahead : (Nat → Int32)) (H : Heap) (locs : List Loc), va_P G vwCl [((ad 53), .inl (K 0, 8290, .inl f_o_seen)), ((ad 54), .inl (K 0, 8290, .inl f_o_front)), ((ad 55), .inl (K 0, 8290, .inl f_o_ahead))] H → va_D A [((ad 53), .inl (K 0, 8290, .inl f_o_seen)), ((ad 54), .inl (K 0, 8290, .inl f_o_front)), ((ad 55), .inl (K 0, 8290, .inl f_o_ahead))] → va_S A s.heap H locs → ∀ (ls : Array Slot), lv_has ls 11 [(0, .ref a0), (1, .int x1), (2, .int x2), (4, .int l4), (5, .int l5), (6, .int l6), (7, .int l7), (8, .int l8), (9, .int l9)] → K_161 l4 l5 l6 l7 l8 l9 f_o_seen f_o_front f_o_ahead → W p l e { frames := 2, cells := 0, slots := 0, locals := 51 } s m ([.ref a0, .int x1, .int x2, .int x3] : List Value).toArray below meth c H locs 0 0 Q (F0 m 161 ls [])) (l4 : Int32) (l5 : Int32) (l6 : Int32) (l7 : Int32) (l8 : Int32) (l9 : Int32) (f_o_seen : (Nat → Int32)) (f_o_front : (Nat → Int32)) (f_o_ahead : (Nat → Int32)) (H : Heap) (locs : List Loc), va_P G vwCl [((ad 53), .inl (K 0, 8290, .inl f_o_seen)), ((ad 54), .inl (K 0, 8290, .inl f_o_front)), ((ad 55), .inl (K 0, 8290, .inl f_o_ahead))] H → va_D A [((ad 53), .inl (K 0, 8290, .inl f_o_seen)), ((ad 54), .inl (K 0, 8290, .inl f_o_front)), ((ad 55), .inl (K 0, 8290, .inl f_o_ahead))] → va_S A s.heap H locs → ∀ (ls : Array Slot), lv_has ls 11 [(0, .ref a0), (1, .int x1), (2, .int x2), (4, .int l4), (5, .int l5), (6, .int l6), (7, .int l7), (8, .int l8), (9, .int l9)] → p_M_far_216 post K_55 K_91 K_102 K_161 l4 l5 l6 l7 l8 l9 f_o_seen f_o_front f_o_ahead → W p l e { frames := 2, cells := 0, slots := 0, locals := 51 } s m ([.ref a0, .int x1, .int x2, .int x3] : List Value).toArray below meth c H locs 0 0 Q (F0 m 216 ls []) := by
  intro K_55 hK_55 K_91 hK_91 K_102 hK_102 K_161 hK_161 l4 l5 l6 l7 l8 l9 f_o_seen f_o_front f_o_ahead  H locs hP hD hS ls hl h
  refine lv_iinc (v := (l9 + 1)) (lv' := [(9, .int (l9 + 1)), (0, .ref a0), (1, .int x1), (2, .int x2), (4, .int l4), (5, .int l5), (6, .int l6), (7, .int l7), (8, .int l8)]) hx hb d_M_far_216 hl (k := 8) rfl (by first | rfl | decide) (by decide) rfl (fun ls hl => ?_)
  refine lv_goto (tgt := 161) hx hb d_M_far_219 (by decide) ?_
  exact hK_161 l4 l5 l6 l7 l8 (l9 + 1) f_o_seen f_o_front f_o_ahead  _ _ (hP.sub [0, 1, 2] rfl) (hD.sub [0, 1, 2] (by decide) rfl) hS _ (lv_sub hl [1, 2, 3, 4, 5, 6, 7, 8, 0] rfl) h
set_option maxHeartbeats 4000000 in
set_option maxRecDepth 100000 in
theorem c_M_far_161 (l : Launch) (G : va_G) (K : Nat → ClassId) (a0 : Nat) (ad : Nat → Nat) (v_o_code : Int32) (v_o_typed : Int32) (v_o_rules : Int32) (v_o_at : Int32) (v_o_read : Int32) (v_o_depth : Int32) (v_o_wrong : Int32) (v_o_there : Int32) (v_o_ended : Int32) (v_o_mode : Int32) (v_o_kept : Int32) (v_o_came : Int32) (v_o_pending : Int32) (v_o_looked : Int32) (v_o_tokens : Int32) (v_o_oldest : Int32) (f_o_modeOf : (Nat → Int32)) (f_o_set : (Nat → Int32)) (f_o_lastOf : (Nat → Int32)) (f_o_step : (Nat → Int32)) (x1 : Int32) (x2 : Int32) (x3 : Int32) (post : Int32 → (Nat → Int32) → (Nat → Int32) → (Nat → Int32) → Prop) {p : Program} {e : Env} {s : State} {m : MethodId} {below : List Frame} {meth : Method} {c : Code} {A : Nat → Prop} {Q : State → Prop} (hx : p.tables.exec = Jvm.exec) (hb : c.code = c_M_far) (hml : c.maxLocals = 11) (hown : s.vm.findClass y_M_far.cls = some m.cls) (hname : meth.name = y_M_far.name) (htg : ∀ w ∈ GT, w.before ([.ref a0, .int x1, .int x2, .int x3] : List Value).toArray s = true) (hK : va_K G vwCl (TY K) s) (hN : gNw s) (hA : ∀ q : Nat, s.heap.size ≤ q → A q) (hR : va_P G vwCl [(a0, .inr (12, oM v_o_code v_o_typed v_o_rules v_o_at v_o_read v_o_depth v_o_wrong v_o_there v_o_ended v_o_mode v_o_kept v_o_came v_o_pending v_o_looked v_o_tokens v_o_oldest ad)), ((ad 4), .inl (K 0, 16, .inl f_o_modeOf)), ((ad 29), .inl (K 0, 1542, .inl f_o_set)), ((ad 7), .inl (K 0, 16, .inl f_o_lastOf)), ((ad 30), .inl (K 0, 9252, .inl f_o_step))] s.heap) (rN : ∀ (k : Nat) (q : Nat × va_E), ([(a0, .inr (12, oM v_o_code v_o_typed v_o_rules v_o_at v_o_read v_o_depth v_o_wrong v_o_there v_o_ended v_o_mode v_o_kept v_o_came v_o_pending v_o_looked v_o_tokens v_o_oldest ad)), ((ad 4), .inl (K 0, 16, .inl f_o_modeOf)), ((ad 29), .inl (K 0, 1542, .inl f_o_set)), ((ad 7), .inl (K 0, 16, .inl f_o_lastOf)), ((ad 30), .inl (K 0, 9252, .inl f_o_step))] : va_W)[k]? = some q → ¬ A q.1) (hret : ∀ (r : Int32) (u : (Nat → Int32) × (Nat → Int32) × (Nat → Int32)) (H : Heap) (locs : List Loc) (ls : Array Slot) (pc : Nat), (fun r (u : (Nat → Int32) × (Nat → Int32) × (Nat → Int32)) => post r u.1 u.2.1 u.2.2) r u → narrow .int (.int r) = .int r → va_P G vwCl ((fun u => [((ad 53), .inl (K 0, 8290, .inl u.1)), ((ad 54), .inl (K 0, 8290, .inl u.2.1)), ((ad 55), .inl (K 0, 8290, .inl u.2.2))]) u) H → va_D A ((fun u => [((ad 53), .inl (K 0, 8290, .inl u.1)), ((ad 54), .inl (K 0, 8290, .inl u.2.1)), ((ad 55), .inl (K 0, 8290, .inl u.2.2))]) u) → va_S A s.heap H locs → decode c_M_far pc = .ok (.ireturn, 1) → W p l e { frames := 2, cells := 0, slots := 0, locals := 51 } s m ([.ref a0, .int x1, .int x2, .int x3] : List Value).toArray below meth c H locs 0 0 Q (F0 m pc ls [.int r])) : ∀ (K_55 : Int32 → Int32 → (Nat → Int32) → (Nat → Int32) → (Nat → Int32) → Prop) (hK_55 : ∀ (l4 : Int32) (l5 : Int32) (f_o_seen : (Nat → Int32)) (f_o_front : (Nat → Int32)) (f_o_ahead : (Nat → Int32)) (H : Heap) (locs : List Loc), va_P G vwCl [((ad 53), .inl (K 0, 8290, .inl f_o_seen)), ((ad 54), .inl (K 0, 8290, .inl f_o_front)), ((ad 55), .inl (K 0, 8290, .inl f_o_ahead))] H → va_D A [((ad 53), .inl (K 0, 8290, .inl f_o_seen)), ((ad 54), .inl (K 0, 8290, .inl f_o_front)), ((ad 55), .inl (K 0, 8290, .inl f_o_ahead))] → va_S A s.heap H locs → ∀ (ls : Array Slot), lv_has ls 11 [(0, .ref a0), (1, .int x1), (2, .int x2), (4, .int l4), (5, .int l5)] → K_55 l4 l5 f_o_seen f_o_front f_o_ahead → W p l e { frames := 2, cells := 0, slots := 0, locals := 51 } s m ([.ref a0, .int x1, .int x2, .int x3] : List Value).toArray below meth c H locs 0 0 Q (F0 m 55 ls [])) (K_91 : Int32 → Int32 → Int32 → (Nat → Int32) → (Nat → Int32) → (Nat → Int32) → Prop) (hK_91 : ∀ (l4 : Int32) (l5 : Int32) (l6 : Int32) (f_o_seen : (Nat → Int32)) (f_o_front : (Nat → Int32)) (f_o_ahead : (Nat → Int32)) (H : Heap) (locs : List Loc), va_P G vwCl [((ad 53), .inl (K 0, 8290, .inl f_o_seen)), ((ad 54), .inl (K 0, 8290, .inl f_o_front)), ((ad 55), .inl (K 0, 8290, .inl f_o_ahead))] H → va_D A [((ad 53), .inl (K 0, 8290, .inl f_o_seen)), ((ad 54), .inl (K 0, 8290, .inl f_o_front)), ((ad 55), .inl (K 0, 8290, .inl f_o_ahead))] → va_S A s.heap H locs → ∀ (ls : Array Slot), lv_has ls 11 [(0, .ref a0), (1, .int x1), (2, .int x2), (4, .int l4), (5, .int l5), (6, .int l6)] → K_91 l4 l5 l6 f_o_seen f_o_front f_o_ahead → W p l e { frames := 2, cells := 0, slots := 0, locals := 51 } s m ([.ref a0, .int x1, .int x2, .int x3] : List Value).toArray below meth c H locs 0 0 Q (F0 m 91 ls [])) (K_102 : Int32 → Int32 → Int32 → Int32 → (Nat → Int32) → (Nat → Int32) → (Nat → Int32) → Prop) (hK_102 : ∀ (l4 : Int32) (l5 : Int32) (l6 : Int32) (l7 : Int32) (f_o_seen : (Nat → Int32)) (f_o_front : (Nat → Int32)) (f_o_ahead : (Nat → Int32)) (H : Heap) (locs : List Loc), va_P G vwCl [((ad 53), .inl (K 0, 8290, .inl f_o_seen)), ((ad 54), .inl (K 0, 8290, .inl f_o_front)), ((ad 55), .inl (K 0, 8290, .inl f_o_ahead))] H → va_D A [((ad 53), .inl (K 0, 8290, .inl f_o_seen)), ((ad 54), .inl (K 0, 8290, .inl f_o_front)), ((ad 55), .inl (K 0, 8290, .inl f_o_ahead))] → va_S A s.heap H locs → ∀ (ls : Array Slot), lv_has ls 11 [(0, .ref a0), (1, .int x1), (2, .int x2), (4, .int l4), (5, .int l5), (6, .int l6), (7, .int l7)] → K_102 l4 l5 l6 l7 f_o_seen f_o_front f_o_ahead → W p l e { frames := 2, cells := 0, slots := 0, locals := 51 } s m ([.ref a0, .int x1, .int x2, .int x3] : List Value).toArray below meth c H locs 0 0 Q (F0 m 102 ls [])) (n : Nat) (l4 : Int32) (l5 : Int32) (l6 : Int32) (l7 : Int32) (l8 : Int32) (l9 : Int32) (f_o_seen : (Nat → Int32)) (f_o_front : (Nat → Int32)) (f_o_ahead : (Nat → Int32)) (H : Heap) (locs : List Loc), va_P G vwCl [((ad 53), .inl (K 0, 8290, .inl f_o_seen)), ((ad 54), .inl (K 0, 8290, .inl f_o_front)), ((ad 55), .inl (K 0, 8290, .inl f_o_ahead))] H → va_D A [((ad 53), .inl (K 0, 8290, .inl f_o_seen)), ((ad 54), .inl (K 0, 8290, .inl f_o_front)), ((ad 55), .inl (K 0, 8290, .inl f_o_ahead))] → va_S A s.heap H locs → ∀ (ls : Array Slot), lv_has ls 11 [(0, .ref a0), (1, .int x1), (2, .int x2), (4, .int l4), (5, .int l5), (6, .int l6), (7, .int l7), (8, .int l8), (9, .int l9)] → p_M_far_161 f_o_step x1 x2 post K_55 K_91 K_102 n l4 l5 l6 l7 l8 l9 f_o_seen f_o_front f_o_ahead → W p l e { frames := 2, cells := 0, slots := 0, locals := 51 } s m ([.ref a0, .int x1, .int x2, .int x3] : List Value).toArray below meth c H locs 0 0 Q (F0 m 161 ls []) := by
  intro K_55 hK_55 K_91 hK_91 K_102 hK_102
  intro n
  induction n with
  | zero =>
    intro l4 l5 l6 l7 l8 l9 f_o_seen f_o_front f_o_ahead  H locs hP hD hS ls hl h
    exact False.elim h
  | succ n ih =>
    intro l4 l5 l6 l7 l8 l9 f_o_seen f_o_front f_o_ahead  H locs hP hD hS ls hl h
    refine lv_iload hx hb d_M_far_161 (lv_at hl 8 rfl) ?_
    refine lv_bipush (v := 6) hx hb d_M_far_163 (by decide) ?_
    refine lv_icmp_ge (tgt := 222) hx hb d_M_far_165 (by decide) (fun hc => ?_) (fun hc => ?_)
    · replace h := h.1 hc
      exact (c_M_far_222 l G K a0 ad v_o_code v_o_typed v_o_rules v_o_at v_o_read v_o_depth v_o_wrong v_o_there v_o_ended v_o_mode v_o_kept v_o_came v_o_pending v_o_looked v_o_tokens v_o_oldest f_o_modeOf f_o_set f_o_lastOf f_o_step x1 x2 x3 post hx hb hml hown hname htg hK hN hA hR rN hret) _ hK_55 _ hK_91 _ hK_102 l4 l5 l6 l7 f_o_seen f_o_front f_o_ahead  _ _ (hP.sub [0, 1, 2] rfl) (hD.sub [0, 1, 2] (by decide) rfl) hS _ (lv_sub hl [0, 1, 2, 3, 4, 5, 6] rfl) h
    · replace h := h.2 hc
      refine lv_aload_n hx hb d_M_far_168 rfl (lv_at hl 0 rfl) ?_
      refine lv_iload_n hx hb d_M_far_169 rfl (lv_at hl 1 rfl) ?_
      refine lv_iload_n hx hb d_M_far_170 rfl (lv_at hl 2 rfl) ?_
      refine lv_iload hx hb d_M_far_171 (lv_at hl 7 rfl) ?_
      refine lv_iload hx hb d_M_far_173 (lv_at hl 8 rfl) ?_
      have hPc : va_P G vwCl [(a0, .inr (12, oM v_o_code v_o_typed v_o_rules v_o_at v_o_read v_o_depth v_o_wrong v_o_there v_o_ended v_o_mode v_o_kept v_o_came v_o_pending v_o_looked v_o_tokens v_o_oldest ad)), ((ad 30), .inl (K 0, 9252, .inl f_o_step))] _ := (gR hR rN hS).sub [0, 4] rfl
      refine vp_callSi (va_Run.run (va_runV (As := [.int x1, .int x2, .int l8, .int l9]) (rest := []) ⟨hx, hb, hml, hown, htg⟩ (k_M_follow l G K a0 ad v_o_code v_o_typed v_o_rules v_o_at v_o_read v_o_depth v_o_wrong v_o_there v_o_ended v_o_mode v_o_kept v_o_came v_o_pending v_o_looked v_o_tokens v_o_oldest f_o_step x1 x2 l8 l9 _ h) (cwV 4 htg (gGoodV m_790 m_791 m_884 m_13 m_792) rfl rfl rfl (by decide +kernel) ⟨(Nat.le_of_ble_eq_true rfl), (Nat.le_of_ble_eq_true rfl)⟩) (gS_preV (ci := 12) (q0 := 0) hK hN hPc rfl rfl) rfl rfl hl.1 rfl (lv_room (Nat.le_of_ble_eq_true rfl)) d_M_far_175 ⟨(Nat.le_of_ble_eq_true rfl), (Nat.le_of_ble_eq_true rfl)⟩)) (fun r17101 h => ?_)
      refine lv_istore (lv' := [(10, .int r17101), (0, .ref a0), (1, .int x1), (2, .int x2), (4, .int l4), (5, .int l5), (6, .int l6), (7, .int l7), (8, .int l8), (9, .int l9)]) hx hb d_M_far_178 hl (by decide) rfl (fun ls hl => ?_)
      refine lv_aload_n hx hb d_M_far_180 rfl (lv_at hl 1 rfl) ?_
      refine va_get (ci := 12) (v := .ref (ad 53)) hx hb htg in_M hown hK (gR hR rN hS) 0 rfl rfl 53 (by decide) (htg _ m_663) (fun _ h9 => h9) rfl d_M_far_181 ?_
      refine lv_iload hx hb d_M_far_184 (lv_at hl 0 rfl) ?_
      have hPc : va_P G vwCl [((ad 53), .inl (K 0, 8290, .inl f_o_seen))] _ := hP.sub [0] rfl
      refine vp_callSi (va_Run.run (va_runS (As := [.ref (ad 53), .int r17101]) (rest := []) ⟨hx, hb, hml, hown, htg⟩ (k_M_has l G K (ad 53) 8290 f_o_seen r17101 _ h) (va_cwS 2 htg (gGoodS m_784 m_785 m_13 m_786) rfl rfl rfl (by decide +kernel) ⟨(Nat.le_of_ble_eq_true rfl), (Nat.le_of_ble_eq_true rfl)⟩) (gS_pre hK hN hPc) rfl rfl hl.1 rfl (lv_room (Nat.le_of_ble_eq_true rfl)) d_M_far_186 ⟨(Nat.le_of_ble_eq_true rfl), (Nat.le_of_ble_eq_true rfl)⟩)) (fun r17102 h => ?_)
      refine lv_if_eq (tgt := 195) hx hb d_M_far_189 (by decide) (fun hc => ?_) (fun hc => ?_)
      · replace h := h.1 hc
        refine lv_aload_n hx hb d_M_far_195 rfl (lv_at hl 1 rfl) ?_
        refine va_get (ci := 12) (v := .ref (ad 53)) hx hb htg in_M hown hK (gR hR rN hS) 0 rfl rfl 53 (by decide) (htg _ m_663) (fun _ h9 => h9) rfl d_M_far_196 ?_
        refine lv_iload hx hb d_M_far_199 (lv_at hl 0 rfl) ?_
        have hPc : va_P G vwCl [((ad 53), .inl (K 0, 8290, .inl f_o_seen))] _ := hP.sub [0] rfl
        have hDc : va_D A [((ad 53), .inl (K 0, 8290, .inl f_o_seen))] := hD.sub [0] (by decide) rfl
        have hRc : va_P G vwCl [] _ := hP.sub [] rfl
        have hJc : gJ [((ad 53), .inl (K 0, 8290, .inl f_o_seen))] [] := gJ_nil
        refine g_callv (wr := [((ad 54), .inl (K 0, 8290, .inl f_o_front)), ((ad 55), .inl (K 0, 8290, .inl f_o_ahead))]) (va_runS (As := [.ref (ad 53), .int r17101]) (rest := []) ⟨hx, hb, hml, hown, htg⟩ (k_M_put l G K (ad 53) _ 8290 f_o_seen r17101 _ h) (va_cwS 2 htg (gGoodS m_781 m_782 m_13 m_783) rfl rfl rfl (by decide +kernel) ⟨(Nat.le_of_ble_eq_true rfl), (Nat.le_of_ble_eq_true rfl)⟩) (gW_pre hK hN hPc hDc hRc hJc) rfl rfl hl.1 rfl (lv_room (Nat.le_of_ble_eq_true rfl)) d_M_far_201 ⟨(Nat.le_of_ble_eq_true rfl), (Nat.le_of_ble_eq_true rfl)⟩) hP hD hS hA [0] [1, 2] rfl rfl (by decide) (by decide) (fun u H locs h hP hD hS => ?_)
        obtain ⟨u17103, rfl⟩ : ∃ z, z = u := ⟨_, rfl⟩
        try dsimp only at h
        have hP : va_P G vwCl [((ad 54), .inl (K 0, 8290, .inl f_o_front)), ((ad 55), .inl (K 0, 8290, .inl f_o_ahead)), ((ad 53), .inl (K 0, 8290, .inl u17103))] H := hP
        have hD : va_D A [((ad 54), .inl (K 0, 8290, .inl f_o_front)), ((ad 55), .inl (K 0, 8290, .inl f_o_ahead)), ((ad 53), .inl (K 0, 8290, .inl u17103))] := hD
        refine lv_aload_n hx hb d_M_far_204 rfl (lv_at hl 1 rfl) ?_
        refine va_get (ci := 12) (v := .ref (ad 55)) hx hb htg in_M hown hK (gR hR rN hS) 0 rfl rfl 55 (by decide) (htg _ m_665) (fun _ h9 => h9) rfl d_M_far_205 ?_
        refine lv_iload hx hb d_M_far_208 (lv_at hl 0 rfl) ?_
        have hPc : va_P G vwCl [((ad 55), .inl (K 0, 8290, .inl f_o_ahead))] _ := hP.sub [1] rfl
        have hDc : va_D A [((ad 55), .inl (K 0, 8290, .inl f_o_ahead))] := hD.sub [1] (by decide) rfl
        have hRc : va_P G vwCl [] _ := hP.sub [] rfl
        have hJc : gJ [((ad 55), .inl (K 0, 8290, .inl f_o_ahead))] [] := gJ_nil
        refine g_callv (wr := [((ad 54), .inl (K 0, 8290, .inl f_o_front)), ((ad 53), .inl (K 0, 8290, .inl u17103))]) (va_runS (As := [.ref (ad 55), .int r17101]) (rest := []) ⟨hx, hb, hml, hown, htg⟩ (k_M_put l G K (ad 55) _ 8290 f_o_ahead r17101 _ h) (va_cwS 2 htg (gGoodS m_781 m_782 m_13 m_783) rfl rfl rfl (by decide +kernel) ⟨(Nat.le_of_ble_eq_true rfl), (Nat.le_of_ble_eq_true rfl)⟩) (gW_pre hK hN hPc hDc hRc hJc) rfl rfl hl.1 rfl (lv_room (Nat.le_of_ble_eq_true rfl)) d_M_far_210 ⟨(Nat.le_of_ble_eq_true rfl), (Nat.le_of_ble_eq_true rfl)⟩) hP hD hS hA [1] [0, 2] rfl rfl (by decide) (by decide) (fun u H locs h hP hD hS => ?_)
        obtain ⟨u17105, rfl⟩ : ∃ z, z = u := ⟨_, rfl⟩
        try dsimp only at h
        have hP : va_P G vwCl [((ad 54), .inl (K 0, 8290, .inl f_o_front)), ((ad 53), .inl (K 0, 8290, .inl u17103)), ((ad 55), .inl (K 0, 8290, .inl u17105))] H := hP
        have hD : va_D A [((ad 54), .inl (K 0, 8290, .inl f_o_front)), ((ad 53), .inl (K 0, 8290, .inl u17103)), ((ad 55), .inl (K 0, 8290, .inl u17105))] := hD
        refine lv_iconst (v := 1) hx hb d_M_far_213 (by decide) ?_
        refine lv_istore (lv' := [(5, .int 1), (10, .int r17101), (0, .ref a0), (1, .int x1), (2, .int x2), (4, .int l4), (6, .int l6), (7, .int l7), (8, .int l8), (9, .int l9)]) hx hb d_M_far_214 hl (by decide) rfl (fun ls hl => ?_)
        exact (c_M_far_216 l G K a0 ad v_o_code v_o_typed v_o_rules v_o_at v_o_read v_o_depth v_o_wrong v_o_there v_o_ended v_o_mode v_o_kept v_o_came v_o_pending v_o_looked v_o_tokens v_o_oldest f_o_modeOf f_o_set f_o_lastOf f_o_step x1 x2 x3 post hx hb hml hown hname htg hK hN hA hR rN hret) _ hK_55 _ hK_91 _ hK_102 _ ih l4 1 l6 l7 l8 l9 u17103 f_o_front u17105  _ _ (hP.sub [1, 0, 2] rfl) (hD.sub [1, 0, 2] (by decide) rfl) hS _ (lv_sub hl [2, 3, 4, 5, 0, 6, 7, 8, 9] rfl) h
      · replace h := h.2 hc
        refine lv_goto (tgt := 216) hx hb d_M_far_192 (by decide) ?_
        exact (c_M_far_216 l G K a0 ad v_o_code v_o_typed v_o_rules v_o_at v_o_read v_o_depth v_o_wrong v_o_there v_o_ended v_o_mode v_o_kept v_o_came v_o_pending v_o_looked v_o_tokens v_o_oldest f_o_modeOf f_o_set f_o_lastOf f_o_step x1 x2 x3 post hx hb hml hown hname htg hK hN hA hR rN hret) _ hK_55 _ hK_91 _ hK_102 _ ih l4 l5 l6 l7 l8 l9 f_o_seen f_o_front f_o_ahead  _ _ (hP.sub [0, 1, 2] rfl) (hD.sub [0, 1, 2] (by decide) rfl) hS _ (lv_sub hl [1, 2, 3, 4, 5, 6, 7, 8, 9] rfl) h
set_option maxHeartbeats 4000000 in
set_option maxRecDepth 100000 in
theorem c_M_far_102 (l : Launch) (G : va_G) (K : Nat → ClassId) (a0 : Nat) (ad : Nat → Nat) (v_o_code : Int32) (v_o_typed : Int32) (v_o_rules : Int32) (v_o_at : Int32) (v_o_read : Int32) (v_o_depth : Int32) (v_o_wrong : Int32) (v_o_there : Int32) (v_o_ended : Int32) (v_o_mode : Int32) (v_o_kept : Int32) (v_o_came : Int32) (v_o_pending : Int32) (v_o_looked : Int32) (v_o_tokens : Int32) (v_o_oldest : Int32) (f_o_modeOf : (Nat → Int32)) (f_o_set : (Nat → Int32)) (f_o_lastOf : (Nat → Int32)) (f_o_step : (Nat → Int32)) (x1 : Int32) (x2 : Int32) (x3 : Int32) (post : Int32 → (Nat → Int32) → (Nat → Int32) → (Nat → Int32) → Prop) {p : Program} {e : Env} {s : State} {m : MethodId} {below : List Frame} {meth : Method} {c : Code} {A : Nat → Prop} {Q : State → Prop} (hx : p.tables.exec = Jvm.exec) (hb : c.code = c_M_far) (hml : c.maxLocals = 11) (hown : s.vm.findClass y_M_far.cls = some m.cls) (hname : meth.name = y_M_far.name) (htg : ∀ w ∈ GT, w.before ([.ref a0, .int x1, .int x2, .int x3] : List Value).toArray s = true) (hK : va_K G vwCl (TY K) s) (hN : gNw s) (hA : ∀ q : Nat, s.heap.size ≤ q → A q) (hR : va_P G vwCl [(a0, .inr (12, oM v_o_code v_o_typed v_o_rules v_o_at v_o_read v_o_depth v_o_wrong v_o_there v_o_ended v_o_mode v_o_kept v_o_came v_o_pending v_o_looked v_o_tokens v_o_oldest ad)), ((ad 4), .inl (K 0, 16, .inl f_o_modeOf)), ((ad 29), .inl (K 0, 1542, .inl f_o_set)), ((ad 7), .inl (K 0, 16, .inl f_o_lastOf)), ((ad 30), .inl (K 0, 9252, .inl f_o_step))] s.heap) (rN : ∀ (k : Nat) (q : Nat × va_E), ([(a0, .inr (12, oM v_o_code v_o_typed v_o_rules v_o_at v_o_read v_o_depth v_o_wrong v_o_there v_o_ended v_o_mode v_o_kept v_o_came v_o_pending v_o_looked v_o_tokens v_o_oldest ad)), ((ad 4), .inl (K 0, 16, .inl f_o_modeOf)), ((ad 29), .inl (K 0, 1542, .inl f_o_set)), ((ad 7), .inl (K 0, 16, .inl f_o_lastOf)), ((ad 30), .inl (K 0, 9252, .inl f_o_step))] : va_W)[k]? = some q → ¬ A q.1) (hret : ∀ (r : Int32) (u : (Nat → Int32) × (Nat → Int32) × (Nat → Int32)) (H : Heap) (locs : List Loc) (ls : Array Slot) (pc : Nat), (fun r (u : (Nat → Int32) × (Nat → Int32) × (Nat → Int32)) => post r u.1 u.2.1 u.2.2) r u → narrow .int (.int r) = .int r → va_P G vwCl ((fun u => [((ad 53), .inl (K 0, 8290, .inl u.1)), ((ad 54), .inl (K 0, 8290, .inl u.2.1)), ((ad 55), .inl (K 0, 8290, .inl u.2.2))]) u) H → va_D A ((fun u => [((ad 53), .inl (K 0, 8290, .inl u.1)), ((ad 54), .inl (K 0, 8290, .inl u.2.1)), ((ad 55), .inl (K 0, 8290, .inl u.2.2))]) u) → va_S A s.heap H locs → decode c_M_far pc = .ok (.ireturn, 1) → W p l e { frames := 2, cells := 0, slots := 0, locals := 51 } s m ([.ref a0, .int x1, .int x2, .int x3] : List Value).toArray below meth c H locs 0 0 Q (F0 m pc ls [.int r])) : ∀ (K_55 : Int32 → Int32 → (Nat → Int32) → (Nat → Int32) → (Nat → Int32) → Prop) (hK_55 : ∀ (l4 : Int32) (l5 : Int32) (f_o_seen : (Nat → Int32)) (f_o_front : (Nat → Int32)) (f_o_ahead : (Nat → Int32)) (H : Heap) (locs : List Loc), va_P G vwCl [((ad 53), .inl (K 0, 8290, .inl f_o_seen)), ((ad 54), .inl (K 0, 8290, .inl f_o_front)), ((ad 55), .inl (K 0, 8290, .inl f_o_ahead))] H → va_D A [((ad 53), .inl (K 0, 8290, .inl f_o_seen)), ((ad 54), .inl (K 0, 8290, .inl f_o_front)), ((ad 55), .inl (K 0, 8290, .inl f_o_ahead))] → va_S A s.heap H locs → ∀ (ls : Array Slot), lv_has ls 11 [(0, .ref a0), (1, .int x1), (2, .int x2), (4, .int l4), (5, .int l5)] → K_55 l4 l5 f_o_seen f_o_front f_o_ahead → W p l e { frames := 2, cells := 0, slots := 0, locals := 51 } s m ([.ref a0, .int x1, .int x2, .int x3] : List Value).toArray below meth c H locs 0 0 Q (F0 m 55 ls [])) (K_91 : Int32 → Int32 → Int32 → (Nat → Int32) → (Nat → Int32) → (Nat → Int32) → Prop) (hK_91 : ∀ (l4 : Int32) (l5 : Int32) (l6 : Int32) (f_o_seen : (Nat → Int32)) (f_o_front : (Nat → Int32)) (f_o_ahead : (Nat → Int32)) (H : Heap) (locs : List Loc), va_P G vwCl [((ad 53), .inl (K 0, 8290, .inl f_o_seen)), ((ad 54), .inl (K 0, 8290, .inl f_o_front)), ((ad 55), .inl (K 0, 8290, .inl f_o_ahead))] H → va_D A [((ad 53), .inl (K 0, 8290, .inl f_o_seen)), ((ad 54), .inl (K 0, 8290, .inl f_o_front)), ((ad 55), .inl (K 0, 8290, .inl f_o_ahead))] → va_S A s.heap H locs → ∀ (ls : Array Slot), lv_has ls 11 [(0, .ref a0), (1, .int x1), (2, .int x2), (4, .int l4), (5, .int l5), (6, .int l6)] → K_91 l4 l5 l6 f_o_seen f_o_front f_o_ahead → W p l e { frames := 2, cells := 0, slots := 0, locals := 51 } s m ([.ref a0, .int x1, .int x2, .int x3] : List Value).toArray below meth c H locs 0 0 Q (F0 m 91 ls [])) (n : Nat) (l4 : Int32) (l5 : Int32) (l6 : Int32) (l7 : Int32) (f_o_seen : (Nat → Int32)) (f_o_front : (Nat → Int32)) (f_o_ahead : (Nat → Int32)) (H : Heap) (locs : List Loc), va_P G vwCl [((ad 53), .inl (K 0, 8290, .inl f_o_seen)), ((ad 54), .inl (K 0, 8290, .inl f_o_front)), ((ad 55), .inl (K 0, 8290, .inl f_o_ahead))] H → va_D A [((ad 53), .inl (K 0, 8290, .inl f_o_seen)), ((ad 54), .inl (K 0, 8290, .inl f_o_front)), ((ad 55), .inl (K 0, 8290, .inl f_o_ahead))] → va_S A s.heap H locs → ∀ (ls : Array Slot), lv_has ls 11 [(0, .ref a0), (1, .int x1), (2, .int x2), (4, .int l4), (5, .int l5), (6, .int l6), (7, .int l7)] → p_M_far_102 v_o_rules f_o_modeOf f_o_set f_o_lastOf f_o_step x1 x2 post K_55 K_91 n l4 l5 l6 l7 f_o_seen f_o_front f_o_ahead → W p l e { frames := 2, cells := 0, slots := 0, locals := 51 } s m ([.ref a0, .int x1, .int x2, .int x3] : List Value).toArray below meth c H locs 0 0 Q (F0 m 102 ls []) := by
  intro K_55 hK_55 K_91 hK_91
  intro n
  induction n with
  | zero =>
    intro l4 l5 l6 l7 f_o_seen f_o_front f_o_ahead  H locs hP hD hS ls hl h
    exact False.elim h
  | succ n ih =>
    intro l4 l5 l6 l7 f_o_seen f_o_front f_o_ahead  H locs hP hD hS ls hl h
    refine lv_iload hx hb d_M_far_102 (lv_at hl 6 rfl) ?_
    refine lv_bipush (v := 32) hx hb d_M_far_104 (by decide) ?_
    refine lv_icmp_ge (tgt := 228) hx hb d_M_far_106 (by decide) (fun hc => ?_) (fun hc => ?_)
    · replace h := h.1 hc
      exact (c_M_far_228 l G K a0 ad v_o_code v_o_typed v_o_rules v_o_at v_o_read v_o_depth v_o_wrong v_o_there v_o_ended v_o_mode v_o_kept v_o_came v_o_pending v_o_looked v_o_tokens v_o_oldest f_o_modeOf f_o_set f_o_lastOf f_o_step x1 x2 x3 post hx hb hml hown hname htg hK hN hA hR rN hret) _ hK_55 _ hK_91 l4 l5 l6 f_o_seen f_o_front f_o_ahead  _ _ (hP.sub [0, 1, 2] rfl) (hD.sub [0, 1, 2] (by decide) rfl) hS _ (lv_sub hl [0, 1, 2, 3, 4, 5] rfl) h
    · replace h := h.2 hc
      refine lv_aload_n hx hb d_M_far_109 rfl (lv_at hl 0 rfl) ?_
      refine va_get (ci := 12) (v := .ref (ad 54)) hx hb htg in_M hown hK (gR hR rN hS) 0 rfl rfl 54 (by decide) (htg _ m_664) (fun _ h9 => h9) rfl d_M_far_110 ?_
      refine lv_iload hx hb d_M_far_113 (lv_at hl 5 rfl) ?_
      obtain ⟨hin, h⟩ := h
      refine va_iald hx hb hK hP 1 0 rfl rfl hin d_M_far_115 ?_
      refine lv_if_eq (tgt := 228) hx hb d_M_far_116 (by decide) (fun hc => ?_) (fun hc => ?_)
      · replace h := h.1 hc
        exact (c_M_far_228 l G K a0 ad v_o_code v_o_typed v_o_rules v_o_at v_o_read v_o_depth v_o_wrong v_o_there v_o_ended v_o_mode v_o_kept v_o_came v_o_pending v_o_looked v_o_tokens v_o_oldest f_o_modeOf f_o_set f_o_lastOf f_o_step x1 x2 x3 post hx hb hml hown hname htg hK hN hA hR rN hret) _ hK_55 _ hK_91 l4 l5 l6 f_o_seen f_o_front f_o_ahead  _ _ (hP.sub [0, 1, 2] rfl) (hD.sub [0, 1, 2] (by decide) rfl) hS _ (lv_sub hl [0, 1, 2, 3, 4, 5] rfl) h
      · replace h := h.2 hc
        refine lv_bipush (v := 32) hx hb d_M_far_119 (by decide) ?_
        refine lv_iload hx hb d_M_far_121 (lv_at hl 5 rfl) ?_
        refine lv_imul hx hb d_M_far_123 ?_
        refine lv_iload hx hb d_M_far_124 (lv_at hl 6 rfl) ?_
        refine lv_iadd hx hb d_M_far_126 ?_
        refine lv_istore (lv' := [(8, .int ((32 * l6) + l7)), (0, .ref a0), (1, .int x1), (2, .int x2), (4, .int l4), (5, .int l5), (6, .int l6), (7, .int l7)]) hx hb d_M_far_127 hl (by decide) rfl (fun ls hl => ?_)
        refine lv_aload_n hx hb d_M_far_129 rfl (lv_at hl 1 rfl) ?_
        refine va_get (ci := 12) (v := .ref (ad 54)) hx hb htg in_M hown hK (gR hR rN hS) 0 rfl rfl 54 (by decide) (htg _ m_664) (fun _ h9 => h9) rfl d_M_far_130 ?_
        refine lv_iload hx hb d_M_far_133 (lv_at hl 0 rfl) ?_
        have hPc : va_P G vwCl [((ad 54), .inl (K 0, 8290, .inl f_o_front))] _ := hP.sub [1] rfl
        refine vp_callSi (va_Run.run (va_runS (As := [.ref (ad 54), .int ((32 * l6) + l7)]) (rest := []) ⟨hx, hb, hml, hown, htg⟩ (k_M_has l G K (ad 54) 8290 f_o_front ((32 * l6) + l7) _ h) (va_cwS 2 htg (gGoodS m_784 m_785 m_13 m_786) rfl rfl rfl (by decide +kernel) ⟨(Nat.le_of_ble_eq_true rfl), (Nat.le_of_ble_eq_true rfl)⟩) (gS_pre hK hN hPc) rfl rfl hl.1 rfl (lv_room (Nat.le_of_ble_eq_true rfl)) d_M_far_135 ⟨(Nat.le_of_ble_eq_true rfl), (Nat.le_of_ble_eq_true rfl)⟩)) (fun r11201 h => ?_)
        refine lv_if_ne (tgt := 144) hx hb d_M_far_138 (by decide) (fun hc => ?_) (fun hc => ?_)
        · replace h := h.1 hc
          refine lv_aload_n hx hb d_M_far_144 rfl (lv_at hl 1 rfl) ?_
          refine lv_iload_n hx hb d_M_far_145 rfl (lv_at hl 2 rfl) ?_
          refine lv_iload_n hx hb d_M_far_146 rfl (lv_at hl 3 rfl) ?_
          refine lv_iload hx hb d_M_far_147 (lv_at hl 0 rfl) ?_
          have hPc : va_P G vwCl [(a0, .inr (12, oM v_o_code v_o_typed v_o_rules v_o_at v_o_read v_o_depth v_o_wrong v_o_there v_o_ended v_o_mode v_o_kept v_o_came v_o_pending v_o_looked v_o_tokens v_o_oldest ad)), ((ad 4), .inl (K 0, 16, .inl f_o_modeOf)), ((ad 29), .inl (K 0, 1542, .inl f_o_set)), ((ad 7), .inl (K 0, 16, .inl f_o_lastOf))] _ := (gR hR rN hS).sub [0, 1, 2, 3] rfl
          refine vp_callSi (va_Run.run (va_runV (As := [.int x1, .int x2, .int ((32 * l6) + l7)]) (rest := []) ⟨hx, hb, hml, hown, htg⟩ (k_M_parts l G K a0 ad v_o_code v_o_typed v_o_rules v_o_at v_o_read v_o_depth v_o_wrong v_o_there v_o_ended v_o_mode v_o_kept v_o_came v_o_pending v_o_looked v_o_tokens v_o_oldest f_o_modeOf f_o_set f_o_lastOf x1 x2 ((32 * l6) + l7) _ h) (cwV 3 htg (gGoodV m_787 m_788 m_897 m_13 m_789) rfl rfl rfl (by decide +kernel) ⟨(Nat.le_of_ble_eq_true rfl), (Nat.le_of_ble_eq_true rfl)⟩) (gS_preV (ci := 12) (q0 := 0) hK hN hPc rfl rfl) rfl rfl hl.1 rfl (lv_room (Nat.le_of_ble_eq_true rfl)) d_M_far_149 ⟨(Nat.le_of_ble_eq_true rfl), (Nat.le_of_ble_eq_true rfl)⟩)) (fun r11202 h => ?_)
          refine lv_if_eq (tgt := 158) hx hb d_M_far_152 (by decide) (fun hc => ?_) (fun hc => ?_)
          · replace h := h.1 hc
            refine lv_iconst (v := 0) hx hb d_M_far_158 (by decide) ?_
            refine lv_istore (lv' := [(9, .int 0), (8, .int ((32 * l6) + l7)), (0, .ref a0), (1, .int x1), (2, .int x2), (4, .int l4), (5, .int l5), (6, .int l6), (7, .int l7)]) hx hb d_M_far_159 hl (by decide) rfl (fun ls hl => ?_)
            obtain ⟨k, h⟩ := h
            exact (c_M_far_161 l G K a0 ad v_o_code v_o_typed v_o_rules v_o_at v_o_read v_o_depth v_o_wrong v_o_there v_o_ended v_o_mode v_o_kept v_o_came v_o_pending v_o_looked v_o_tokens v_o_oldest f_o_modeOf f_o_set f_o_lastOf f_o_step x1 x2 x3 post hx hb hml hown hname htg hK hN hA hR rN hret) _ hK_55 _ hK_91 _ ih k l4 l5 l6 l7 ((32 * l6) + l7) 0 f_o_seen f_o_front f_o_ahead  _ _ (hP.sub [0, 1, 2] rfl) (hD.sub [0, 1, 2] (by decide) rfl) hS _ (lv_sub hl [2, 3, 4, 5, 6, 7, 8, 1, 0] rfl) h
          · replace h := h.2 hc
            refine lv_iload hx hb d_M_far_155 (lv_at hl 4 rfl) ?_
            exact hret _ (f_o_seen, f_o_front, f_o_ahead) _ _ _ _ h (vp_nar_int _) (hP.sub [0, 1, 2] rfl) (hD.sub [0, 1, 2] (by decide) rfl) hS d_M_far_157
        · replace h := h.2 hc
          refine lv_goto (tgt := 222) hx hb d_M_far_141 (by decide) ?_
          exact (c_M_far_222 l G K a0 ad v_o_code v_o_typed v_o_rules v_o_at v_o_read v_o_depth v_o_wrong v_o_there v_o_ended v_o_mode v_o_kept v_o_came v_o_pending v_o_looked v_o_tokens v_o_oldest f_o_modeOf f_o_set f_o_lastOf f_o_step x1 x2 x3 post hx hb hml hown hname htg hK hN hA hR rN hret) _ hK_55 _ hK_91 _ ih l4 l5 l6 l7 f_o_seen f_o_front f_o_ahead  _ _ (hP.sub [0, 1, 2] rfl) (hD.sub [0, 1, 2] (by decide) rfl) hS _ (lv_sub hl [1, 2, 3, 4, 5, 6, 7] rfl) h
set_option maxHeartbeats 4000000 in
set_option maxRecDepth 100000 in
theorem c_M_far_91 (l : Launch) (G : va_G) (K : Nat → ClassId) (a0 : Nat) (ad : Nat → Nat) (v_o_code : Int32) (v_o_typed : Int32) (v_o_rules : Int32) (v_o_at : Int32) (v_o_read : Int32) (v_o_depth : Int32) (v_o_wrong : Int32) (v_o_there : Int32) (v_o_ended : Int32) (v_o_mode : Int32) (v_o_kept : Int32) (v_o_came : Int32) (v_o_pending : Int32) (v_o_looked : Int32) (v_o_tokens : Int32) (v_o_oldest : Int32) (f_o_modeOf : (Nat → Int32)) (f_o_set : (Nat → Int32)) (f_o_lastOf : (Nat → Int32)) (f_o_step : (Nat → Int32)) (x1 : Int32) (x2 : Int32) (x3 : Int32) (post : Int32 → (Nat → Int32) → (Nat → Int32) → (Nat → Int32) → Prop) {p : Program} {e : Env} {s : State} {m : MethodId} {below : List Frame} {meth : Method} {c : Code} {A : Nat → Prop} {Q : State → Prop} (hx : p.tables.exec = Jvm.exec) (hb : c.code = c_M_far) (hml : c.maxLocals = 11) (hown : s.vm.findClass y_M_far.cls = some m.cls) (hname : meth.name = y_M_far.name) (htg : ∀ w ∈ GT, w.before ([.ref a0, .int x1, .int x2, .int x3] : List Value).toArray s = true) (hK : va_K G vwCl (TY K) s) (hN : gNw s) (hA : ∀ q : Nat, s.heap.size ≤ q → A q) (hR : va_P G vwCl [(a0, .inr (12, oM v_o_code v_o_typed v_o_rules v_o_at v_o_read v_o_depth v_o_wrong v_o_there v_o_ended v_o_mode v_o_kept v_o_came v_o_pending v_o_looked v_o_tokens v_o_oldest ad)), ((ad 4), .inl (K 0, 16, .inl f_o_modeOf)), ((ad 29), .inl (K 0, 1542, .inl f_o_set)), ((ad 7), .inl (K 0, 16, .inl f_o_lastOf)), ((ad 30), .inl (K 0, 9252, .inl f_o_step))] s.heap) (rN : ∀ (k : Nat) (q : Nat × va_E), ([(a0, .inr (12, oM v_o_code v_o_typed v_o_rules v_o_at v_o_read v_o_depth v_o_wrong v_o_there v_o_ended v_o_mode v_o_kept v_o_came v_o_pending v_o_looked v_o_tokens v_o_oldest ad)), ((ad 4), .inl (K 0, 16, .inl f_o_modeOf)), ((ad 29), .inl (K 0, 1542, .inl f_o_set)), ((ad 7), .inl (K 0, 16, .inl f_o_lastOf)), ((ad 30), .inl (K 0, 9252, .inl f_o_step))] : va_W)[k]? = some q → ¬ A q.1) (hret : ∀ (r : Int32) (u : (Nat → Int32) × (Nat → Int32) × (Nat → Int32)) (H : Heap) (locs : List Loc) (ls : Array Slot) (pc : Nat), (fun r (u : (Nat → Int32) × (Nat → Int32) × (Nat → Int32)) => post r u.1 u.2.1 u.2.2) r u → narrow .int (.int r) = .int r → va_P G vwCl ((fun u => [((ad 53), .inl (K 0, 8290, .inl u.1)), ((ad 54), .inl (K 0, 8290, .inl u.2.1)), ((ad 55), .inl (K 0, 8290, .inl u.2.2))]) u) H → va_D A ((fun u => [((ad 53), .inl (K 0, 8290, .inl u.1)), ((ad 54), .inl (K 0, 8290, .inl u.2.1)), ((ad 55), .inl (K 0, 8290, .inl u.2.2))]) u) → va_S A s.heap H locs → decode c_M_far pc = .ok (.ireturn, 1) → W p l e { frames := 2, cells := 0, slots := 0, locals := 51 } s m ([.ref a0, .int x1, .int x2, .int x3] : List Value).toArray below meth c H locs 0 0 Q (F0 m pc ls [.int r])) : ∀ (K_55 : Int32 → Int32 → (Nat → Int32) → (Nat → Int32) → (Nat → Int32) → Prop) (hK_55 : ∀ (l4 : Int32) (l5 : Int32) (f_o_seen : (Nat → Int32)) (f_o_front : (Nat → Int32)) (f_o_ahead : (Nat → Int32)) (H : Heap) (locs : List Loc), va_P G vwCl [((ad 53), .inl (K 0, 8290, .inl f_o_seen)), ((ad 54), .inl (K 0, 8290, .inl f_o_front)), ((ad 55), .inl (K 0, 8290, .inl f_o_ahead))] H → va_D A [((ad 53), .inl (K 0, 8290, .inl f_o_seen)), ((ad 54), .inl (K 0, 8290, .inl f_o_front)), ((ad 55), .inl (K 0, 8290, .inl f_o_ahead))] → va_S A s.heap H locs → ∀ (ls : Array Slot), lv_has ls 11 [(0, .ref a0), (1, .int x1), (2, .int x2), (4, .int l4), (5, .int l5)] → K_55 l4 l5 f_o_seen f_o_front f_o_ahead → W p l e { frames := 2, cells := 0, slots := 0, locals := 51 } s m ([.ref a0, .int x1, .int x2, .int x3] : List Value).toArray below meth c H locs 0 0 Q (F0 m 55 ls [])) (n : Nat) (l4 : Int32) (l5 : Int32) (l6 : Int32) (f_o_seen : (Nat → Int32)) (f_o_front : (Nat → Int32)) (f_o_ahead : (Nat → Int32)) (H : Heap) (locs : List Loc), va_P G vwCl [((ad 53), .inl (K 0, 8290, .inl f_o_seen)), ((ad 54), .inl (K 0, 8290, .inl f_o_front)), ((ad 55), .inl (K 0, 8290, .inl f_o_ahead))] H → va_D A [((ad 53), .inl (K 0, 8290, .inl f_o_seen)), ((ad 54), .inl (K 0, 8290, .inl f_o_front)), ((ad 55), .inl (K 0, 8290, .inl f_o_ahead))] → va_S A s.heap H locs → ∀ (ls : Array Slot), lv_has ls 11 [(0, .ref a0), (1, .int x1), (2, .int x2), (4, .int l4), (5, .int l5), (6, .int l6)] → p_M_far_91 v_o_rules f_o_modeOf f_o_set f_o_lastOf f_o_step x1 x2 post K_55 n l4 l5 l6 f_o_seen f_o_front f_o_ahead → W p l e { frames := 2, cells := 0, slots := 0, locals := 51 } s m ([.ref a0, .int x1, .int x2, .int x3] : List Value).toArray below meth c H locs 0 0 Q (F0 m 91 ls []) := by
  intro K_55 hK_55
  intro n
  induction n with
  | zero =>
    intro l4 l5 l6 f_o_seen f_o_front f_o_ahead  H locs hP hD hS ls hl h
    exact False.elim h
  | succ n ih =>
    intro l4 l5 l6 f_o_seen f_o_front f_o_ahead  H locs hP hD hS ls hl h
    refine lv_iload hx hb d_M_far_91 (lv_at hl 5 rfl) ?_
    refine lv_sipush (v := 8290) hx hb d_M_far_93 (by decide) ?_
    refine lv_icmp_ge (tgt := 234) hx hb d_M_far_96 (by decide) (fun hc => ?_) (fun hc => ?_)
    · replace h := h.1 hc
      exact (c_M_far_234 l G K a0 ad v_o_code v_o_typed v_o_rules v_o_at v_o_read v_o_depth v_o_wrong v_o_there v_o_ended v_o_mode v_o_kept v_o_came v_o_pending v_o_looked v_o_tokens v_o_oldest f_o_modeOf f_o_set f_o_lastOf f_o_step x1 x2 x3 post hx hb hml hown hname htg hK hN hA hR rN hret) _ hK_55 l4 l5 f_o_seen f_o_front f_o_ahead  _ _ (hP.sub [0, 1, 2] rfl) (hD.sub [0, 1, 2] (by decide) rfl) hS _ (lv_sub hl [0, 1, 2, 3, 4] rfl) h
    · replace h := h.2 hc
      refine lv_iconst (v := 0) hx hb d_M_far_99 (by decide) ?_
      refine lv_istore (lv' := [(7, .int 0), (0, .ref a0), (1, .int x1), (2, .int x2), (4, .int l4), (5, .int l5), (6, .int l6)]) hx hb d_M_far_100 hl (by decide) rfl (fun ls hl => ?_)
      obtain ⟨k, h⟩ := h
      exact (c_M_far_102 l G K a0 ad v_o_code v_o_typed v_o_rules v_o_at v_o_read v_o_depth v_o_wrong v_o_there v_o_ended v_o_mode v_o_kept v_o_came v_o_pending v_o_looked v_o_tokens v_o_oldest f_o_modeOf f_o_set f_o_lastOf f_o_step x1 x2 x3 post hx hb hml hown hname htg hK hN hA hR rN hret) _ hK_55 _ ih k l4 l5 l6 0 f_o_seen f_o_front f_o_ahead  _ _ (hP.sub [0, 1, 2] rfl) (hD.sub [0, 1, 2] (by decide) rfl) hS _ (lv_sub hl [1, 2, 3, 4, 5, 6, 0] rfl) h
set_option maxHeartbeats 4000000 in
set_option maxRecDepth 100000 in
theorem c_M_far_88 (l : Launch) (G : va_G) (K : Nat → ClassId) (a0 : Nat) (ad : Nat → Nat) (v_o_code : Int32) (v_o_typed : Int32) (v_o_rules : Int32) (v_o_at : Int32) (v_o_read : Int32) (v_o_depth : Int32) (v_o_wrong : Int32) (v_o_there : Int32) (v_o_ended : Int32) (v_o_mode : Int32) (v_o_kept : Int32) (v_o_came : Int32) (v_o_pending : Int32) (v_o_looked : Int32) (v_o_tokens : Int32) (v_o_oldest : Int32) (f_o_modeOf : (Nat → Int32)) (f_o_set : (Nat → Int32)) (f_o_lastOf : (Nat → Int32)) (f_o_step : (Nat → Int32)) (x1 : Int32) (x2 : Int32) (x3 : Int32) (post : Int32 → (Nat → Int32) → (Nat → Int32) → (Nat → Int32) → Prop) {p : Program} {e : Env} {s : State} {m : MethodId} {below : List Frame} {meth : Method} {c : Code} {A : Nat → Prop} {Q : State → Prop} (hx : p.tables.exec = Jvm.exec) (hb : c.code = c_M_far) (hml : c.maxLocals = 11) (hown : s.vm.findClass y_M_far.cls = some m.cls) (hname : meth.name = y_M_far.name) (htg : ∀ w ∈ GT, w.before ([.ref a0, .int x1, .int x2, .int x3] : List Value).toArray s = true) (hK : va_K G vwCl (TY K) s) (hN : gNw s) (hA : ∀ q : Nat, s.heap.size ≤ q → A q) (hR : va_P G vwCl [(a0, .inr (12, oM v_o_code v_o_typed v_o_rules v_o_at v_o_read v_o_depth v_o_wrong v_o_there v_o_ended v_o_mode v_o_kept v_o_came v_o_pending v_o_looked v_o_tokens v_o_oldest ad)), ((ad 4), .inl (K 0, 16, .inl f_o_modeOf)), ((ad 29), .inl (K 0, 1542, .inl f_o_set)), ((ad 7), .inl (K 0, 16, .inl f_o_lastOf)), ((ad 30), .inl (K 0, 9252, .inl f_o_step))] s.heap) (rN : ∀ (k : Nat) (q : Nat × va_E), ([(a0, .inr (12, oM v_o_code v_o_typed v_o_rules v_o_at v_o_read v_o_depth v_o_wrong v_o_there v_o_ended v_o_mode v_o_kept v_o_came v_o_pending v_o_looked v_o_tokens v_o_oldest ad)), ((ad 4), .inl (K 0, 16, .inl f_o_modeOf)), ((ad 29), .inl (K 0, 1542, .inl f_o_set)), ((ad 7), .inl (K 0, 16, .inl f_o_lastOf)), ((ad 30), .inl (K 0, 9252, .inl f_o_step))] : va_W)[k]? = some q → ¬ A q.1) (hret : ∀ (r : Int32) (u : (Nat → Int32) × (Nat → Int32) × (Nat → Int32)) (H : Heap) (locs : List Loc) (ls : Array Slot) (pc : Nat), (fun r (u : (Nat → Int32) × (Nat → Int32) × (Nat → Int32)) => post r u.1 u.2.1 u.2.2) r u → narrow .int (.int r) = .int r → va_P G vwCl ((fun u => [((ad 53), .inl (K 0, 8290, .inl u.1)), ((ad 54), .inl (K 0, 8290, .inl u.2.1)), ((ad 55), .inl (K 0, 8290, .inl u.2.2))]) u) H → va_D A ((fun u => [((ad 53), .inl (K 0, 8290, .inl u.1)), ((ad 54), .inl (K 0, 8290, .inl u.2.1)), ((ad 55), .inl (K 0, 8290, .inl u.2.2))]) u) → va_S A s.heap H locs → decode c_M_far pc = .ok (.ireturn, 1) → W p l e { frames := 2, cells := 0, slots := 0, locals := 51 } s m ([.ref a0, .int x1, .int x2, .int x3] : List Value).toArray below meth c H locs 0 0 Q (F0 m pc ls [.int r])) : ∀ (K_55 : Int32 → Int32 → (Nat → Int32) → (Nat → Int32) → (Nat → Int32) → Prop) (hK_55 : ∀ (l4 : Int32) (l5 : Int32) (f_o_seen : (Nat → Int32)) (f_o_front : (Nat → Int32)) (f_o_ahead : (Nat → Int32)) (H : Heap) (locs : List Loc), va_P G vwCl [((ad 53), .inl (K 0, 8290, .inl f_o_seen)), ((ad 54), .inl (K 0, 8290, .inl f_o_front)), ((ad 55), .inl (K 0, 8290, .inl f_o_ahead))] H → va_D A [((ad 53), .inl (K 0, 8290, .inl f_o_seen)), ((ad 54), .inl (K 0, 8290, .inl f_o_front)), ((ad 55), .inl (K 0, 8290, .inl f_o_ahead))] → va_S A s.heap H locs → ∀ (ls : Array Slot), lv_has ls 11 [(0, .ref a0), (1, .int x1), (2, .int x2), (4, .int l4), (5, .int l5)] → K_55 l4 l5 f_o_seen f_o_front f_o_ahead → W p l e { frames := 2, cells := 0, slots := 0, locals := 51 } s m ([.ref a0, .int x1, .int x2, .int x3] : List Value).toArray below meth c H locs 0 0 Q (F0 m 55 ls [])) (l4 : Int32) (l5 : Int32) (f_o_seen : (Nat → Int32)) (f_o_front : (Nat → Int32)) (f_o_ahead : (Nat → Int32)) (H : Heap) (locs : List Loc), va_P G vwCl [((ad 53), .inl (K 0, 8290, .inl f_o_seen)), ((ad 54), .inl (K 0, 8290, .inl f_o_front)), ((ad 55), .inl (K 0, 8290, .inl f_o_ahead))] H → va_D A [((ad 53), .inl (K 0, 8290, .inl f_o_seen)), ((ad 54), .inl (K 0, 8290, .inl f_o_front)), ((ad 55), .inl (K 0, 8290, .inl f_o_ahead))] → va_S A s.heap H locs → ∀ (ls : Array Slot), lv_has ls 11 [(0, .ref a0), (1, .int x1), (2, .int x2), (4, .int l4), (5, .int l5)] → p_M_far_88 v_o_rules f_o_modeOf f_o_set f_o_lastOf f_o_step x1 x2 post K_55 l4 l5 f_o_seen f_o_front f_o_ahead → W p l e { frames := 2, cells := 0, slots := 0, locals := 51 } s m ([.ref a0, .int x1, .int x2, .int x3] : List Value).toArray below meth c H locs 0 0 Q (F0 m 88 ls []) := by
  intro K_55 hK_55 l4 l5 f_o_seen f_o_front f_o_ahead  H locs hP hD hS ls hl h
  refine lv_iconst (v := 0) hx hb d_M_far_88 (by decide) ?_
  refine lv_istore (lv' := [(6, .int 0), (0, .ref a0), (1, .int x1), (2, .int x2), (4, .int l4), (5, .int l5)]) hx hb d_M_far_89 hl (by decide) rfl (fun ls hl => ?_)
  obtain ⟨k, h⟩ := h
  exact (c_M_far_91 l G K a0 ad v_o_code v_o_typed v_o_rules v_o_at v_o_read v_o_depth v_o_wrong v_o_there v_o_ended v_o_mode v_o_kept v_o_came v_o_pending v_o_looked v_o_tokens v_o_oldest f_o_modeOf f_o_set f_o_lastOf f_o_step x1 x2 x3 post hx hb hml hown hname htg hK hN hA hR rN hret) _ hK_55 k l4 l5 0 f_o_seen f_o_front f_o_ahead  _ _ (hP.sub [0, 1, 2] rfl) (hD.sub [0, 1, 2] (by decide) rfl) hS _ (lv_sub hl [1, 2, 3, 4, 5, 0] rfl) h
set_option maxHeartbeats 4000000 in
set_option maxRecDepth 100000 in
theorem c_M_far_66 (l : Launch) (G : va_G) (K : Nat → ClassId) (a0 : Nat) (ad : Nat → Nat) (v_o_code : Int32) (v_o_typed : Int32) (v_o_rules : Int32) (v_o_at : Int32) (v_o_read : Int32) (v_o_depth : Int32) (v_o_wrong : Int32) (v_o_there : Int32) (v_o_ended : Int32) (v_o_mode : Int32) (v_o_kept : Int32) (v_o_came : Int32) (v_o_pending : Int32) (v_o_looked : Int32) (v_o_tokens : Int32) (v_o_oldest : Int32) (f_o_modeOf : (Nat → Int32)) (f_o_set : (Nat → Int32)) (f_o_lastOf : (Nat → Int32)) (f_o_step : (Nat → Int32)) (x1 : Int32) (x2 : Int32) (x3 : Int32) (post : Int32 → (Nat → Int32) → (Nat → Int32) → (Nat → Int32) → Prop) {p : Program} {e : Env} {s : State} {m : MethodId} {below : List Frame} {meth : Method} {c : Code} {A : Nat → Prop} {Q : State → Prop} (hx : p.tables.exec = Jvm.exec) (hb : c.code = c_M_far) (hml : c.maxLocals = 11) (hown : s.vm.findClass y_M_far.cls = some m.cls) (hname : meth.name = y_M_far.name) (htg : ∀ w ∈ GT, w.before ([.ref a0, .int x1, .int x2, .int x3] : List Value).toArray s = true) (hK : va_K G vwCl (TY K) s) (hN : gNw s) (hA : ∀ q : Nat, s.heap.size ≤ q → A q) (hR : va_P G vwCl [(a0, .inr (12, oM v_o_code v_o_typed v_o_rules v_o_at v_o_read v_o_depth v_o_wrong v_o_there v_o_ended v_o_mode v_o_kept v_o_came v_o_pending v_o_looked v_o_tokens v_o_oldest ad)), ((ad 4), .inl (K 0, 16, .inl f_o_modeOf)), ((ad 29), .inl (K 0, 1542, .inl f_o_set)), ((ad 7), .inl (K 0, 16, .inl f_o_lastOf)), ((ad 30), .inl (K 0, 9252, .inl f_o_step))] s.heap) (rN : ∀ (k : Nat) (q : Nat × va_E), ([(a0, .inr (12, oM v_o_code v_o_typed v_o_rules v_o_at v_o_read v_o_depth v_o_wrong v_o_there v_o_ended v_o_mode v_o_kept v_o_came v_o_pending v_o_looked v_o_tokens v_o_oldest ad)), ((ad 4), .inl (K 0, 16, .inl f_o_modeOf)), ((ad 29), .inl (K 0, 1542, .inl f_o_set)), ((ad 7), .inl (K 0, 16, .inl f_o_lastOf)), ((ad 30), .inl (K 0, 9252, .inl f_o_step))] : va_W)[k]? = some q → ¬ A q.1) (hret : ∀ (r : Int32) (u : (Nat → Int32) × (Nat → Int32) × (Nat → Int32)) (H : Heap) (locs : List Loc) (ls : Array Slot) (pc : Nat), (fun r (u : (Nat → Int32) × (Nat → Int32) × (Nat → Int32)) => post r u.1 u.2.1 u.2.2) r u → narrow .int (.int r) = .int r → va_P G vwCl ((fun u => [((ad 53), .inl (K 0, 8290, .inl u.1)), ((ad 54), .inl (K 0, 8290, .inl u.2.1)), ((ad 55), .inl (K 0, 8290, .inl u.2.2))]) u) H → va_D A ((fun u => [((ad 53), .inl (K 0, 8290, .inl u.1)), ((ad 54), .inl (K 0, 8290, .inl u.2.1)), ((ad 55), .inl (K 0, 8290, .inl u.2.2))]) u) → va_S A s.heap H locs → decode c_M_far pc = .ok (.ireturn, 1) → W p l e { frames := 2, cells := 0, slots := 0, locals := 51 } s m ([.ref a0, .int x1, .int x2, .int x3] : List Value).toArray below meth c H locs 0 0 Q (F0 m pc ls [.int r])) : ∀ (K_55 : Int32 → Int32 → (Nat → Int32) → (Nat → Int32) → (Nat → Int32) → Prop) (hK_55 : ∀ (l4 : Int32) (l5 : Int32) (f_o_seen : (Nat → Int32)) (f_o_front : (Nat → Int32)) (f_o_ahead : (Nat → Int32)) (H : Heap) (locs : List Loc), va_P G vwCl [((ad 53), .inl (K 0, 8290, .inl f_o_seen)), ((ad 54), .inl (K 0, 8290, .inl f_o_front)), ((ad 55), .inl (K 0, 8290, .inl f_o_ahead))] H → va_D A [((ad 53), .inl (K 0, 8290, .inl f_o_seen)), ((ad 54), .inl (K 0, 8290, .inl f_o_front)), ((ad 55), .inl (K 0, 8290, .inl f_o_ahead))] → va_S A s.heap H locs → ∀ (ls : Array Slot), lv_has ls 11 [(0, .ref a0), (1, .int x1), (2, .int x2), (4, .int l4), (5, .int l5)] → K_55 l4 l5 f_o_seen f_o_front f_o_ahead → W p l e { frames := 2, cells := 0, slots := 0, locals := 51 } s m ([.ref a0, .int x1, .int x2, .int x3] : List Value).toArray below meth c H locs 0 0 Q (F0 m 55 ls [])) (n : Nat) (l4 : Int32) (l5 : Int32) (l6 : Int32) (f_o_seen : (Nat → Int32)) (f_o_front : (Nat → Int32)) (f_o_ahead : (Nat → Int32)) (H : Heap) (locs : List Loc), va_P G vwCl [((ad 53), .inl (K 0, 8290, .inl f_o_seen)), ((ad 54), .inl (K 0, 8290, .inl f_o_front)), ((ad 55), .inl (K 0, 8290, .inl f_o_ahead))] H → va_D A [((ad 53), .inl (K 0, 8290, .inl f_o_seen)), ((ad 54), .inl (K 0, 8290, .inl f_o_front)), ((ad 55), .inl (K 0, 8290, .inl f_o_ahead))] → va_S A s.heap H locs → ∀ (ls : Array Slot), lv_has ls 11 [(0, .ref a0), (1, .int x1), (2, .int x2), (4, .int l4), (5, .int l5), (6, .int l6)] → p_M_far_66 v_o_rules f_o_modeOf f_o_set f_o_lastOf f_o_step x1 x2 post K_55 n l4 l5 l6 f_o_seen f_o_front f_o_ahead → W p l e { frames := 2, cells := 0, slots := 0, locals := 51 } s m ([.ref a0, .int x1, .int x2, .int x3] : List Value).toArray below meth c H locs 0 0 Q (F0 m 66 ls []) := by
  intro K_55 hK_55
  intro n
  induction n with
  | zero =>
    intro l4 l5 l6 f_o_seen f_o_front f_o_ahead  H locs hP hD hS ls hl h
    exact False.elim h
  | succ n ih =>
    intro l4 l5 l6 f_o_seen f_o_front f_o_ahead  H locs hP hD hS ls hl h
    refine lv_iload hx hb d_M_far_66 (lv_at hl 5 rfl) ?_
    refine lv_sipush (v := 8290) hx hb d_M_far_68 (by decide) ?_
    refine lv_icmp_ge (tgt := 88) hx hb d_M_far_71 (by decide) (fun hc => ?_) (fun hc => ?_)
    · replace h := h.1 hc
      exact (c_M_far_88 l G K a0 ad v_o_code v_o_typed v_o_rules v_o_at v_o_read v_o_depth v_o_wrong v_o_there v_o_ended v_o_mode v_o_kept v_o_came v_o_pending v_o_looked v_o_tokens v_o_oldest f_o_modeOf f_o_set f_o_lastOf f_o_step x1 x2 x3 post hx hb hml hown hname htg hK hN hA hR rN hret) _ hK_55 l4 l5 f_o_seen f_o_front f_o_ahead  _ _ (hP.sub [0, 1, 2] rfl) (hD.sub [0, 1, 2] (by decide) rfl) hS _ (lv_sub hl [0, 1, 2, 3, 4] rfl) h
    · replace h := h.2 hc
      refine lv_aload_n hx hb d_M_far_74 rfl (lv_at hl 0 rfl) ?_
      refine va_get (ci := 12) (v := .ref (ad 55)) hx hb htg in_M hown hK (gR hR rN hS) 0 rfl rfl 55 (by decide) (htg _ m_665) (fun _ h9 => h9) rfl d_M_far_75 ?_
      refine lv_iload hx hb d_M_far_78 (lv_at hl 5 rfl) ?_
      refine lv_iconst (v := 0) hx hb d_M_far_80 (by decide) ?_
      obtain ⟨hin, h⟩ := h
      refine va_iast hx hb hK hP hD hS 2 0 rfl rfl hin d_M_far_81 (fun H locs hP hD hS => ?_)
      have hP : va_P G vwCl [((ad 53), .inl (K 0, 8290, .inl f_o_seen)), ((ad 54), .inl (K 0, 8290, .inl f_o_front)), ((ad 55), .inl (K 0, 8290, .inl (upd f_o_ahead l6.toNatClampNeg 0)))] H := hP
      have hD : va_D A [((ad 53), .inl (K 0, 8290, .inl f_o_seen)), ((ad 54), .inl (K 0, 8290, .inl f_o_front)), ((ad 55), .inl (K 0, 8290, .inl (upd f_o_ahead l6.toNatClampNeg 0)))] := hD
      refine lv_iinc (v := (l6 + 1)) (lv' := [(6, .int (l6 + 1)), (0, .ref a0), (1, .int x1), (2, .int x2), (4, .int l4), (5, .int l5)]) hx hb d_M_far_82 hl (k := 5) rfl (by first | rfl | decide) (by decide) rfl (fun ls hl => ?_)
      refine lv_goto (tgt := 66) hx hb d_M_far_85 (by decide) ?_
      exact ih l4 l5 (l6 + 1) f_o_seen f_o_front (upd f_o_ahead l6.toNatClampNeg 0)  _ _ (hP.sub [0, 1, 2] rfl) (hD.sub [0, 1, 2] (by decide) rfl) hS _ (lv_sub hl [1, 2, 3, 4, 5, 0] rfl) h
set_option maxHeartbeats 4000000 in
set_option maxRecDepth 100000 in
theorem c_M_far_55 (l : Launch) (G : va_G) (K : Nat → ClassId) (a0 : Nat) (ad : Nat → Nat) (v_o_code : Int32) (v_o_typed : Int32) (v_o_rules : Int32) (v_o_at : Int32) (v_o_read : Int32) (v_o_depth : Int32) (v_o_wrong : Int32) (v_o_there : Int32) (v_o_ended : Int32) (v_o_mode : Int32) (v_o_kept : Int32) (v_o_came : Int32) (v_o_pending : Int32) (v_o_looked : Int32) (v_o_tokens : Int32) (v_o_oldest : Int32) (f_o_modeOf : (Nat → Int32)) (f_o_set : (Nat → Int32)) (f_o_lastOf : (Nat → Int32)) (f_o_step : (Nat → Int32)) (x1 : Int32) (x2 : Int32) (x3 : Int32) (post : Int32 → (Nat → Int32) → (Nat → Int32) → (Nat → Int32) → Prop) {p : Program} {e : Env} {s : State} {m : MethodId} {below : List Frame} {meth : Method} {c : Code} {A : Nat → Prop} {Q : State → Prop} (hx : p.tables.exec = Jvm.exec) (hb : c.code = c_M_far) (hml : c.maxLocals = 11) (hown : s.vm.findClass y_M_far.cls = some m.cls) (hname : meth.name = y_M_far.name) (htg : ∀ w ∈ GT, w.before ([.ref a0, .int x1, .int x2, .int x3] : List Value).toArray s = true) (hK : va_K G vwCl (TY K) s) (hN : gNw s) (hA : ∀ q : Nat, s.heap.size ≤ q → A q) (hR : va_P G vwCl [(a0, .inr (12, oM v_o_code v_o_typed v_o_rules v_o_at v_o_read v_o_depth v_o_wrong v_o_there v_o_ended v_o_mode v_o_kept v_o_came v_o_pending v_o_looked v_o_tokens v_o_oldest ad)), ((ad 4), .inl (K 0, 16, .inl f_o_modeOf)), ((ad 29), .inl (K 0, 1542, .inl f_o_set)), ((ad 7), .inl (K 0, 16, .inl f_o_lastOf)), ((ad 30), .inl (K 0, 9252, .inl f_o_step))] s.heap) (rN : ∀ (k : Nat) (q : Nat × va_E), ([(a0, .inr (12, oM v_o_code v_o_typed v_o_rules v_o_at v_o_read v_o_depth v_o_wrong v_o_there v_o_ended v_o_mode v_o_kept v_o_came v_o_pending v_o_looked v_o_tokens v_o_oldest ad)), ((ad 4), .inl (K 0, 16, .inl f_o_modeOf)), ((ad 29), .inl (K 0, 1542, .inl f_o_set)), ((ad 7), .inl (K 0, 16, .inl f_o_lastOf)), ((ad 30), .inl (K 0, 9252, .inl f_o_step))] : va_W)[k]? = some q → ¬ A q.1) (hret : ∀ (r : Int32) (u : (Nat → Int32) × (Nat → Int32) × (Nat → Int32)) (H : Heap) (locs : List Loc) (ls : Array Slot) (pc : Nat), (fun r (u : (Nat → Int32) × (Nat → Int32) × (Nat → Int32)) => post r u.1 u.2.1 u.2.2) r u → narrow .int (.int r) = .int r → va_P G vwCl ((fun u => [((ad 53), .inl (K 0, 8290, .inl u.1)), ((ad 54), .inl (K 0, 8290, .inl u.2.1)), ((ad 55), .inl (K 0, 8290, .inl u.2.2))]) u) H → va_D A ((fun u => [((ad 53), .inl (K 0, 8290, .inl u.1)), ((ad 54), .inl (K 0, 8290, .inl u.2.1)), ((ad 55), .inl (K 0, 8290, .inl u.2.2))]) u) → va_S A s.heap H locs → decode c_M_far pc = .ok (.ireturn, 1) → W p l e { frames := 2, cells := 0, slots := 0, locals := 51 } s m ([.ref a0, .int x1, .int x2, .int x3] : List Value).toArray below meth c H locs 0 0 Q (F0 m pc ls [.int r])) : ∀ (n : Nat) (l4 : Int32) (l5 : Int32) (f_o_seen : (Nat → Int32)) (f_o_front : (Nat → Int32)) (f_o_ahead : (Nat → Int32)) (H : Heap) (locs : List Loc), va_P G vwCl [((ad 53), .inl (K 0, 8290, .inl f_o_seen)), ((ad 54), .inl (K 0, 8290, .inl f_o_front)), ((ad 55), .inl (K 0, 8290, .inl f_o_ahead))] H → va_D A [((ad 53), .inl (K 0, 8290, .inl f_o_seen)), ((ad 54), .inl (K 0, 8290, .inl f_o_front)), ((ad 55), .inl (K 0, 8290, .inl f_o_ahead))] → va_S A s.heap H locs → ∀ (ls : Array Slot), lv_has ls 11 [(0, .ref a0), (1, .int x1), (2, .int x2), (4, .int l4), (5, .int l5)] → p_M_far_55 v_o_rules f_o_modeOf f_o_set f_o_lastOf f_o_step x1 x2 post n l4 l5 f_o_seen f_o_front f_o_ahead → W p l e { frames := 2, cells := 0, slots := 0, locals := 51 } s m ([.ref a0, .int x1, .int x2, .int x3] : List Value).toArray below meth c H locs 0 0 Q (F0 m 55 ls []) := by
  intro n
  induction n with
  | zero =>
    intro l4 l5 f_o_seen f_o_front f_o_ahead  H locs hP hD hS ls hl h
    exact False.elim h
  | succ n ih =>
    intro l4 l5 f_o_seen f_o_front f_o_ahead  H locs hP hD hS ls hl h
    refine lv_iload hx hb d_M_far_55 (lv_at hl 4 rfl) ?_
    refine lv_if_eq (tgt := 271) hx hb d_M_far_57 (by decide) (fun hc => ?_) (fun hc => ?_)
    · replace h := h.1 hc
      refine lv_iconst (v := (-1)) hx hb d_M_far_271 (by decide) ?_
      exact hret _ (f_o_seen, f_o_front, f_o_ahead) _ _ _ _ h (vp_nar_int _) (hP.sub [0, 1, 2] rfl) (hD.sub [0, 1, 2] (by decide) rfl) hS d_M_far_272
    · replace h := h.2 hc
      refine lv_iconst (v := 0) hx hb d_M_far_60 (by decide) ?_
      refine lv_istore (lv' := [(5, .int 0), (0, .ref a0), (1, .int x1), (2, .int x2), (4, .int l4)]) hx hb d_M_far_61 hl (by decide) rfl (fun ls hl => ?_)
      refine lv_iconst (v := 0) hx hb d_M_far_63 (by decide) ?_
      refine lv_istore (lv' := [(6, .int 0), (5, .int 0), (0, .ref a0), (1, .int x1), (2, .int x2), (4, .int l4)]) hx hb d_M_far_64 hl (by decide) rfl (fun ls hl => ?_)
      obtain ⟨k, h⟩ := h
      exact (c_M_far_66 l G K a0 ad v_o_code v_o_typed v_o_rules v_o_at v_o_read v_o_depth v_o_wrong v_o_there v_o_ended v_o_mode v_o_kept v_o_came v_o_pending v_o_looked v_o_tokens v_o_oldest f_o_modeOf f_o_set f_o_lastOf f_o_step x1 x2 x3 post hx hb hml hown hname htg hK hN hA hR rN hret) _ ih k l4 0 0 f_o_seen f_o_front f_o_ahead  _ _ (hP.sub [0, 1, 2] rfl) (hD.sub [0, 1, 2] (by decide) rfl) hS _ (lv_sub hl [2, 3, 4, 5, 1, 0] rfl) h
set_option maxHeartbeats 4000000 in
set_option maxRecDepth 100000 in
theorem c_M_far_33 (l : Launch) (G : va_G) (K : Nat → ClassId) (a0 : Nat) (ad : Nat → Nat) (v_o_code : Int32) (v_o_typed : Int32) (v_o_rules : Int32) (v_o_at : Int32) (v_o_read : Int32) (v_o_depth : Int32) (v_o_wrong : Int32) (v_o_there : Int32) (v_o_ended : Int32) (v_o_mode : Int32) (v_o_kept : Int32) (v_o_came : Int32) (v_o_pending : Int32) (v_o_looked : Int32) (v_o_tokens : Int32) (v_o_oldest : Int32) (f_o_modeOf : (Nat → Int32)) (f_o_set : (Nat → Int32)) (f_o_lastOf : (Nat → Int32)) (f_o_step : (Nat → Int32)) (x1 : Int32) (x2 : Int32) (x3 : Int32) (post : Int32 → (Nat → Int32) → (Nat → Int32) → (Nat → Int32) → Prop) {p : Program} {e : Env} {s : State} {m : MethodId} {below : List Frame} {meth : Method} {c : Code} {A : Nat → Prop} {Q : State → Prop} (hx : p.tables.exec = Jvm.exec) (hb : c.code = c_M_far) (hml : c.maxLocals = 11) (hown : s.vm.findClass y_M_far.cls = some m.cls) (hname : meth.name = y_M_far.name) (htg : ∀ w ∈ GT, w.before ([.ref a0, .int x1, .int x2, .int x3] : List Value).toArray s = true) (hK : va_K G vwCl (TY K) s) (hN : gNw s) (hA : ∀ q : Nat, s.heap.size ≤ q → A q) (hR : va_P G vwCl [(a0, .inr (12, oM v_o_code v_o_typed v_o_rules v_o_at v_o_read v_o_depth v_o_wrong v_o_there v_o_ended v_o_mode v_o_kept v_o_came v_o_pending v_o_looked v_o_tokens v_o_oldest ad)), ((ad 4), .inl (K 0, 16, .inl f_o_modeOf)), ((ad 29), .inl (K 0, 1542, .inl f_o_set)), ((ad 7), .inl (K 0, 16, .inl f_o_lastOf)), ((ad 30), .inl (K 0, 9252, .inl f_o_step))] s.heap) (rN : ∀ (k : Nat) (q : Nat × va_E), ([(a0, .inr (12, oM v_o_code v_o_typed v_o_rules v_o_at v_o_read v_o_depth v_o_wrong v_o_there v_o_ended v_o_mode v_o_kept v_o_came v_o_pending v_o_looked v_o_tokens v_o_oldest ad)), ((ad 4), .inl (K 0, 16, .inl f_o_modeOf)), ((ad 29), .inl (K 0, 1542, .inl f_o_set)), ((ad 7), .inl (K 0, 16, .inl f_o_lastOf)), ((ad 30), .inl (K 0, 9252, .inl f_o_step))] : va_W)[k]? = some q → ¬ A q.1) (hret : ∀ (r : Int32) (u : (Nat → Int32) × (Nat → Int32) × (Nat → Int32)) (H : Heap) (locs : List Loc) (ls : Array Slot) (pc : Nat), (fun r (u : (Nat → Int32) × (Nat → Int32) × (Nat → Int32)) => post r u.1 u.2.1 u.2.2) r u → narrow .int (.int r) = .int r → va_P G vwCl ((fun u => [((ad 53), .inl (K 0, 8290, .inl u.1)), ((ad 54), .inl (K 0, 8290, .inl u.2.1)), ((ad 55), .inl (K 0, 8290, .inl u.2.2))]) u) H → va_D A ((fun u => [((ad 53), .inl (K 0, 8290, .inl u.1)), ((ad 54), .inl (K 0, 8290, .inl u.2.1)), ((ad 55), .inl (K 0, 8290, .inl u.2.2))]) u) → va_S A s.heap H locs → decode c_M_far pc = .ok (.ireturn, 1) → W p l e { frames := 2, cells := 0, slots := 0, locals := 51 } s m ([.ref a0, .int x1, .int x2, .int x3] : List Value).toArray below meth c H locs 0 0 Q (F0 m pc ls [.int r])) : ∀ (f_o_seen : (Nat → Int32)) (f_o_front : (Nat → Int32)) (f_o_ahead : (Nat → Int32)) (H : Heap) (locs : List Loc), va_P G vwCl [((ad 53), .inl (K 0, 8290, .inl f_o_seen)), ((ad 54), .inl (K 0, 8290, .inl f_o_front)), ((ad 55), .inl (K 0, 8290, .inl f_o_ahead))] H → va_D A [((ad 53), .inl (K 0, 8290, .inl f_o_seen)), ((ad 54), .inl (K 0, 8290, .inl f_o_front)), ((ad 55), .inl (K 0, 8290, .inl f_o_ahead))] → va_S A s.heap H locs → ∀ (ls : Array Slot), lv_has ls 11 [(0, .ref a0), (1, .int x1), (2, .int x2), (3, .int x3)] → p_M_far_33 v_o_rules f_o_modeOf f_o_set f_o_lastOf f_o_step x1 x2 x3 post f_o_seen f_o_front f_o_ahead → W p l e { frames := 2, cells := 0, slots := 0, locals := 51 } s m ([.ref a0, .int x1, .int x2, .int x3] : List Value).toArray below meth c H locs 0 0 Q (F0 m 33 ls []) := by
  intro  f_o_seen f_o_front f_o_ahead  H locs hP hD hS ls hl h
  refine lv_aload_n hx hb d_M_far_33 rfl (lv_at hl 0 rfl) ?_
  refine va_get (ci := 12) (v := .ref (ad 53)) hx hb htg in_M hown hK (gR hR rN hS) 0 rfl rfl 53 (by decide) (htg _ m_663) (fun _ h9 => h9) rfl d_M_far_34 ?_
  refine lv_iload_n hx hb d_M_far_37 rfl (lv_at hl 3 rfl) ?_
  have hPc : va_P G vwCl [((ad 53), .inl (K 0, 8290, .inl f_o_seen))] _ := hP.sub [0] rfl
  have hDc : va_D A [((ad 53), .inl (K 0, 8290, .inl f_o_seen))] := hD.sub [0] (by decide) rfl
  have hRc : va_P G vwCl [] _ := hP.sub [] rfl
  have hJc : gJ [((ad 53), .inl (K 0, 8290, .inl f_o_seen))] [] := gJ_nil
  refine g_callv (wr := [((ad 54), .inl (K 0, 8290, .inl f_o_front)), ((ad 55), .inl (K 0, 8290, .inl f_o_ahead))]) (va_runS (As := [.ref (ad 53), .int x3]) (rest := []) ⟨hx, hb, hml, hown, htg⟩ (k_M_put l G K (ad 53) _ 8290 f_o_seen x3 _ h) (va_cwS 2 htg (gGoodS m_781 m_782 m_13 m_783) rfl rfl rfl (by decide +kernel) ⟨(Nat.le_of_ble_eq_true rfl), (Nat.le_of_ble_eq_true rfl)⟩) (gW_pre hK hN hPc hDc hRc hJc) rfl rfl hl.1 rfl (lv_room (Nat.le_of_ble_eq_true rfl)) d_M_far_38 ⟨(Nat.le_of_ble_eq_true rfl), (Nat.le_of_ble_eq_true rfl)⟩) hP hD hS hA [0] [1, 2] rfl rfl (by decide) (by decide) (fun u H locs h hP hD hS => ?_)
  obtain ⟨u4301, rfl⟩ : ∃ z, z = u := ⟨_, rfl⟩
  try dsimp only at h
  have hP : va_P G vwCl [((ad 54), .inl (K 0, 8290, .inl f_o_front)), ((ad 55), .inl (K 0, 8290, .inl f_o_ahead)), ((ad 53), .inl (K 0, 8290, .inl u4301))] H := hP
  have hD : va_D A [((ad 54), .inl (K 0, 8290, .inl f_o_front)), ((ad 55), .inl (K 0, 8290, .inl f_o_ahead)), ((ad 53), .inl (K 0, 8290, .inl u4301))] := hD
  refine lv_aload_n hx hb d_M_far_41 rfl (lv_at hl 0 rfl) ?_
  refine va_get (ci := 12) (v := .ref (ad 54)) hx hb htg in_M hown hK (gR hR rN hS) 0 rfl rfl 54 (by decide) (htg _ m_664) (fun _ h9 => h9) rfl d_M_far_42 ?_
  refine lv_iload_n hx hb d_M_far_45 rfl (lv_at hl 3 rfl) ?_
  have hPc : va_P G vwCl [((ad 54), .inl (K 0, 8290, .inl f_o_front))] _ := hP.sub [0] rfl
  have hDc : va_D A [((ad 54), .inl (K 0, 8290, .inl f_o_front))] := hD.sub [0] (by decide) rfl
  have hRc : va_P G vwCl [] _ := hP.sub [] rfl
  have hJc : gJ [((ad 54), .inl (K 0, 8290, .inl f_o_front))] [] := gJ_nil
  refine g_callv (wr := [((ad 55), .inl (K 0, 8290, .inl f_o_ahead)), ((ad 53), .inl (K 0, 8290, .inl u4301))]) (va_runS (As := [.ref (ad 54), .int x3]) (rest := []) ⟨hx, hb, hml, hown, htg⟩ (k_M_put l G K (ad 54) _ 8290 f_o_front x3 _ h) (va_cwS 2 htg (gGoodS m_781 m_782 m_13 m_783) rfl rfl rfl (by decide +kernel) ⟨(Nat.le_of_ble_eq_true rfl), (Nat.le_of_ble_eq_true rfl)⟩) (gW_pre hK hN hPc hDc hRc hJc) rfl rfl hl.1 rfl (lv_room (Nat.le_of_ble_eq_true rfl)) d_M_far_46 ⟨(Nat.le_of_ble_eq_true rfl), (Nat.le_of_ble_eq_true rfl)⟩) hP hD hS hA [0] [1, 2] rfl rfl (by decide) (by decide) (fun u H locs h hP hD hS => ?_)
  obtain ⟨u4303, rfl⟩ : ∃ z, z = u := ⟨_, rfl⟩
  try dsimp only at h
  have hP : va_P G vwCl [((ad 55), .inl (K 0, 8290, .inl f_o_ahead)), ((ad 53), .inl (K 0, 8290, .inl u4301)), ((ad 54), .inl (K 0, 8290, .inl u4303))] H := hP
  have hD : va_D A [((ad 55), .inl (K 0, 8290, .inl f_o_ahead)), ((ad 53), .inl (K 0, 8290, .inl u4301)), ((ad 54), .inl (K 0, 8290, .inl u4303))] := hD
  refine lv_iconst (v := 0) hx hb d_M_far_49 (by decide) ?_
  refine lv_istore (lv' := [(4, .int 0), (0, .ref a0), (1, .int x1), (2, .int x2), (3, .int x3)]) hx hb d_M_far_50 hl (by decide) rfl (fun ls hl => ?_)
  refine lv_iconst (v := 1) hx hb d_M_far_52 (by decide) ?_
  refine lv_istore (lv' := [(5, .int 1), (4, .int 0), (0, .ref a0), (1, .int x1), (2, .int x2), (3, .int x3)]) hx hb d_M_far_53 hl (by decide) rfl (fun ls hl => ?_)
  obtain ⟨k, h⟩ := h
  exact (c_M_far_55 l G K a0 ad v_o_code v_o_typed v_o_rules v_o_at v_o_read v_o_depth v_o_wrong v_o_there v_o_ended v_o_mode v_o_kept v_o_came v_o_pending v_o_looked v_o_tokens v_o_oldest f_o_modeOf f_o_set f_o_lastOf f_o_step x1 x2 x3 post hx hb hml hown hname htg hK hN hA hR rN hret) k 0 1 u4301 u4303 f_o_ahead  _ _ (hP.sub [1, 2, 0] rfl) (hD.sub [1, 2, 0] (by decide) rfl) hS _ (lv_sub hl [2, 3, 4, 1, 0] rfl) h
set_option maxHeartbeats 4000000 in
set_option maxRecDepth 100000 in
theorem c_M_far_3 (l : Launch) (G : va_G) (K : Nat → ClassId) (a0 : Nat) (ad : Nat → Nat) (v_o_code : Int32) (v_o_typed : Int32) (v_o_rules : Int32) (v_o_at : Int32) (v_o_read : Int32) (v_o_depth : Int32) (v_o_wrong : Int32) (v_o_there : Int32) (v_o_ended : Int32) (v_o_mode : Int32) (v_o_kept : Int32) (v_o_came : Int32) (v_o_pending : Int32) (v_o_looked : Int32) (v_o_tokens : Int32) (v_o_oldest : Int32) (f_o_modeOf : (Nat → Int32)) (f_o_set : (Nat → Int32)) (f_o_lastOf : (Nat → Int32)) (f_o_step : (Nat → Int32)) (x1 : Int32) (x2 : Int32) (x3 : Int32) (post : Int32 → (Nat → Int32) → (Nat → Int32) → (Nat → Int32) → Prop) {p : Program} {e : Env} {s : State} {m : MethodId} {below : List Frame} {meth : Method} {c : Code} {A : Nat → Prop} {Q : State → Prop} (hx : p.tables.exec = Jvm.exec) (hb : c.code = c_M_far) (hml : c.maxLocals = 11) (hown : s.vm.findClass y_M_far.cls = some m.cls) (hname : meth.name = y_M_far.name) (htg : ∀ w ∈ GT, w.before ([.ref a0, .int x1, .int x2, .int x3] : List Value).toArray s = true) (hK : va_K G vwCl (TY K) s) (hN : gNw s) (hA : ∀ q : Nat, s.heap.size ≤ q → A q) (hR : va_P G vwCl [(a0, .inr (12, oM v_o_code v_o_typed v_o_rules v_o_at v_o_read v_o_depth v_o_wrong v_o_there v_o_ended v_o_mode v_o_kept v_o_came v_o_pending v_o_looked v_o_tokens v_o_oldest ad)), ((ad 4), .inl (K 0, 16, .inl f_o_modeOf)), ((ad 29), .inl (K 0, 1542, .inl f_o_set)), ((ad 7), .inl (K 0, 16, .inl f_o_lastOf)), ((ad 30), .inl (K 0, 9252, .inl f_o_step))] s.heap) (rN : ∀ (k : Nat) (q : Nat × va_E), ([(a0, .inr (12, oM v_o_code v_o_typed v_o_rules v_o_at v_o_read v_o_depth v_o_wrong v_o_there v_o_ended v_o_mode v_o_kept v_o_came v_o_pending v_o_looked v_o_tokens v_o_oldest ad)), ((ad 4), .inl (K 0, 16, .inl f_o_modeOf)), ((ad 29), .inl (K 0, 1542, .inl f_o_set)), ((ad 7), .inl (K 0, 16, .inl f_o_lastOf)), ((ad 30), .inl (K 0, 9252, .inl f_o_step))] : va_W)[k]? = some q → ¬ A q.1) (hret : ∀ (r : Int32) (u : (Nat → Int32) × (Nat → Int32) × (Nat → Int32)) (H : Heap) (locs : List Loc) (ls : Array Slot) (pc : Nat), (fun r (u : (Nat → Int32) × (Nat → Int32) × (Nat → Int32)) => post r u.1 u.2.1 u.2.2) r u → narrow .int (.int r) = .int r → va_P G vwCl ((fun u => [((ad 53), .inl (K 0, 8290, .inl u.1)), ((ad 54), .inl (K 0, 8290, .inl u.2.1)), ((ad 55), .inl (K 0, 8290, .inl u.2.2))]) u) H → va_D A ((fun u => [((ad 53), .inl (K 0, 8290, .inl u.1)), ((ad 54), .inl (K 0, 8290, .inl u.2.1)), ((ad 55), .inl (K 0, 8290, .inl u.2.2))]) u) → va_S A s.heap H locs → decode c_M_far pc = .ok (.ireturn, 1) → W p l e { frames := 2, cells := 0, slots := 0, locals := 51 } s m ([.ref a0, .int x1, .int x2, .int x3] : List Value).toArray below meth c H locs 0 0 Q (F0 m pc ls [.int r])) : ∀ (n : Nat) (l4 : Int32) (f_o_seen : (Nat → Int32)) (f_o_front : (Nat → Int32)) (f_o_ahead : (Nat → Int32)) (H : Heap) (locs : List Loc), va_P G vwCl [((ad 53), .inl (K 0, 8290, .inl f_o_seen)), ((ad 54), .inl (K 0, 8290, .inl f_o_front)), ((ad 55), .inl (K 0, 8290, .inl f_o_ahead))] H → va_D A [((ad 53), .inl (K 0, 8290, .inl f_o_seen)), ((ad 54), .inl (K 0, 8290, .inl f_o_front)), ((ad 55), .inl (K 0, 8290, .inl f_o_ahead))] → va_S A s.heap H locs → ∀ (ls : Array Slot), lv_has ls 11 [(0, .ref a0), (1, .int x1), (2, .int x2), (3, .int x3), (4, .int l4)] → p_M_far_3 v_o_rules f_o_modeOf f_o_set f_o_lastOf f_o_step x1 x2 x3 post n l4 f_o_seen f_o_front f_o_ahead → W p l e { frames := 2, cells := 0, slots := 0, locals := 51 } s m ([.ref a0, .int x1, .int x2, .int x3] : List Value).toArray below meth c H locs 0 0 Q (F0 m 3 ls []) := by
  intro n
  induction n with
  | zero =>
    intro l4 f_o_seen f_o_front f_o_ahead  H locs hP hD hS ls hl h
    exact False.elim h
  | succ n ih =>
    intro l4 f_o_seen f_o_front f_o_ahead  H locs hP hD hS ls hl h
    refine lv_iload hx hb d_M_far_3 (lv_at hl 4 rfl) ?_
    refine lv_sipush (v := 8290) hx hb d_M_far_5 (by decide) ?_
    refine lv_icmp_ge (tgt := 33) hx hb d_M_far_8 (by decide) (fun hc => ?_) (fun hc => ?_)
    · replace h := h.1 hc
      exact (c_M_far_33 l G K a0 ad v_o_code v_o_typed v_o_rules v_o_at v_o_read v_o_depth v_o_wrong v_o_there v_o_ended v_o_mode v_o_kept v_o_came v_o_pending v_o_looked v_o_tokens v_o_oldest f_o_modeOf f_o_set f_o_lastOf f_o_step x1 x2 x3 post hx hb hml hown hname htg hK hN hA hR rN hret) f_o_seen f_o_front f_o_ahead  _ _ (hP.sub [0, 1, 2] rfl) (hD.sub [0, 1, 2] (by decide) rfl) hS _ (lv_sub hl [0, 1, 2, 3] rfl) h
    · replace h := h.2 hc
      refine lv_aload_n hx hb d_M_far_11 rfl (lv_at hl 0 rfl) ?_
      refine va_get (ci := 12) (v := .ref (ad 53)) hx hb htg in_M hown hK (gR hR rN hS) 0 rfl rfl 53 (by decide) (htg _ m_663) (fun _ h9 => h9) rfl d_M_far_12 ?_
      refine lv_iload hx hb d_M_far_15 (lv_at hl 4 rfl) ?_
      refine lv_iconst (v := 0) hx hb d_M_far_17 (by decide) ?_
      obtain ⟨hin, h⟩ := h
      refine va_iast hx hb hK hP hD hS 0 0 rfl rfl hin d_M_far_18 (fun H locs hP hD hS => ?_)
      have hP : va_P G vwCl [((ad 53), .inl (K 0, 8290, .inl (upd f_o_seen l4.toNatClampNeg 0))), ((ad 54), .inl (K 0, 8290, .inl f_o_front)), ((ad 55), .inl (K 0, 8290, .inl f_o_ahead))] H := hP
      have hD : va_D A [((ad 53), .inl (K 0, 8290, .inl (upd f_o_seen l4.toNatClampNeg 0))), ((ad 54), .inl (K 0, 8290, .inl f_o_front)), ((ad 55), .inl (K 0, 8290, .inl f_o_ahead))] := hD
      refine lv_aload_n hx hb d_M_far_19 rfl (lv_at hl 0 rfl) ?_
      refine va_get (ci := 12) (v := .ref (ad 54)) hx hb htg in_M hown hK (gR hR rN hS) 0 rfl rfl 54 (by decide) (htg _ m_664) (fun _ h9 => h9) rfl d_M_far_20 ?_
      refine lv_iload hx hb d_M_far_23 (lv_at hl 4 rfl) ?_
      refine lv_iconst (v := 0) hx hb d_M_far_25 (by decide) ?_
      obtain ⟨hin, h⟩ := h
      refine va_iast hx hb hK hP hD hS 1 0 rfl rfl hin d_M_far_26 (fun H locs hP hD hS => ?_)
      have hP : va_P G vwCl [((ad 53), .inl (K 0, 8290, .inl (upd f_o_seen l4.toNatClampNeg 0))), ((ad 54), .inl (K 0, 8290, .inl (upd f_o_front l4.toNatClampNeg 0))), ((ad 55), .inl (K 0, 8290, .inl f_o_ahead))] H := hP
      have hD : va_D A [((ad 53), .inl (K 0, 8290, .inl (upd f_o_seen l4.toNatClampNeg 0))), ((ad 54), .inl (K 0, 8290, .inl (upd f_o_front l4.toNatClampNeg 0))), ((ad 55), .inl (K 0, 8290, .inl f_o_ahead))] := hD
      refine lv_iinc (v := (l4 + 1)) (lv' := [(4, .int (l4 + 1)), (0, .ref a0), (1, .int x1), (2, .int x2), (3, .int x3)]) hx hb d_M_far_27 hl (k := 4) rfl (by first | rfl | decide) (by decide) rfl (fun ls hl => ?_)
      refine lv_goto (tgt := 3) hx hb d_M_far_30 (by decide) ?_
      exact ih (l4 + 1) (upd f_o_seen l4.toNatClampNeg 0) (upd f_o_front l4.toNatClampNeg 0) f_o_ahead  _ _ (hP.sub [0, 1, 2] rfl) (hD.sub [0, 1, 2] (by decide) rfl) hS _ (lv_sub hl [1, 2, 3, 4, 0] rfl) h
set_option maxHeartbeats 4000000 in
set_option maxRecDepth 100000 in
theorem k_M_far (l : Launch) (G : va_G) (K : Nat → ClassId) (a0 : Nat) (ad : Nat → Nat) (sz : Nat) (v_o_code : Int32) (v_o_typed : Int32) (v_o_rules : Int32) (v_o_at : Int32) (v_o_read : Int32) (v_o_depth : Int32) (v_o_wrong : Int32) (v_o_there : Int32) (v_o_ended : Int32) (v_o_mode : Int32) (v_o_kept : Int32) (v_o_came : Int32) (v_o_pending : Int32) (v_o_looked : Int32) (v_o_tokens : Int32) (v_o_oldest : Int32) (f_o_seen : (Nat → Int32)) (f_o_front : (Nat → Int32)) (f_o_ahead : (Nat → Int32)) (f_o_modeOf : (Nat → Int32)) (f_o_set : (Nat → Int32)) (f_o_lastOf : (Nat → Int32)) (f_o_step : (Nat → Int32)) (x1 : Int32) (x2 : Int32) (x3 : Int32) (post : Int32 → (Nat → Int32) → (Nat → Int32) → (Nat → Int32) → Prop) (h : p_M_far v_o_rules f_o_seen f_o_front f_o_ahead f_o_modeOf f_o_set f_o_lastOf f_o_step x1 x2 x3 post) : MWi l y_M_far (.code y_M_far c_M_far 11 (some .int)) { frames := 2, cells := 0, slots := 0, locals := 51 } G K [((ad 53), .inl (K 0, 8290, .inl f_o_seen)), ((ad 54), .inl (K 0, 8290, .inl f_o_front)), ((ad 55), .inl (K 0, 8290, .inl f_o_ahead))] [(a0, .inr (12, oM v_o_code v_o_typed v_o_rules v_o_at v_o_read v_o_depth v_o_wrong v_o_there v_o_ended v_o_mode v_o_kept v_o_came v_o_pending v_o_looked v_o_tokens v_o_oldest ad)), ((ad 4), .inl (K 0, 16, .inl f_o_modeOf)), ((ad 29), .inl (K 0, 1542, .inl f_o_set)), ((ad 7), .inl (K 0, 16, .inl f_o_lastOf)), ((ad 30), .inl (K 0, 9252, .inl f_o_step))] [.ref a0, .int x1, .int x2, .int x3] sz (fun r (u : (Nat → Int32) × (Nat → Int32) × (Nat → Int32)) => post r u.1 u.2.1 u.2.2) (fun u => [((ad 53), .inl (K 0, 8290, .inl u.1)), ((ad 54), .inl (K 0, 8290, .inl u.2.1)), ((ad 55), .inl (K 0, 8290, .inl u.2.2))]) 0 0 := by
  refine g_metWi (cc := c_M_far) (maxL := 11) (ret := some .int) (rt := .int) (by decide) rfl rfl (Nat.le_of_ble_eq_true rfl) ?_
  intro p e s m below meth c A Q hx hb hml hown hname htg hK hN hP hD hA hS hR rN hret ls hl
  have hl : lv_has ls 11 [(0, .ref a0), (1, .int x1), (2, .int x2), (3, .int x3)] := hl
  refine lv_iconst (v := 0) hx hb d_M_far_0 (by decide) ?_
  refine lv_istore (lv' := [(4, .int 0), (0, .ref a0), (1, .int x1), (2, .int x2), (3, .int x3)]) hx hb d_M_far_1 hl (by decide) rfl (fun ls hl => ?_)
  obtain ⟨k, h⟩ := h
  exact (c_M_far_3 l G K a0 ad v_o_code v_o_typed v_o_rules v_o_at v_o_read v_o_depth v_o_wrong v_o_there v_o_ended v_o_mode v_o_kept v_o_came v_o_pending v_o_looked v_o_tokens v_o_oldest f_o_modeOf f_o_set f_o_lastOf f_o_step x1 x2 x3 post hx hb hml hown hname htg hK hN hA hR rN hret) k 0 f_o_seen f_o_front f_o_ahead  _ _ (hP.sub [0, 1, 2] rfl) (hD.sub [0, 1, 2] (by decide) rfl) hS _ (lv_sub hl [1, 2, 3, 4, 0] rfl) h
