theorem d_M_number_0 : decode c_M_number 0 = .ok (.iconst 0, 1) := by decide +kernel
theorem d_M_number_1 : decode c_M_number 1 = .ok (.istore_n 2, 1) := by decide +kernel
theorem d_M_number_2 : decode c_M_number 2 = .ok (.iload_n 2, 1) := by decide +kernel
theorem d_M_number_3 : decode c_M_number 3 = .ok (.aload_n 0, 1) := by decide +kernel
theorem d_M_number_4 : decode c_M_number 4 = .ok (.getfield 74, 3) := by decide +kernel
theorem d_M_number_7 : decode c_M_number 7 = .ok (.iload_n 1, 1) := by decide +kernel
theorem d_M_number_8 : decode c_M_number 8 = .ok (.iaload, 1) := by decide +kernel
theorem d_M_number_9 : decode c_M_number 9 = .ok (.if_icmp .ge 16, 3) := by decide +kernel
theorem d_M_number_12 : decode c_M_number 12 = .ok (.aload_n 0, 1) := by decide +kernel
theorem d_M_number_13 : decode c_M_number 13 = .ok (.getfield 113, 3) := by decide +kernel
theorem d_M_number_16 : decode c_M_number 16 = .ok (.iload_n 2, 1) := by decide +kernel
theorem d_M_number_17 : decode c_M_number 17 = .ok (.iconst (-1), 1) := by decide +kernel
theorem d_M_number_18 : decode c_M_number 18 = .ok (.iastore, 1) := by decide +kernel
theorem d_M_number_19 : decode c_M_number 19 = .ok (.iinc 2 1, 3) := by decide +kernel
theorem d_M_number_22 : decode c_M_number 22 = .ok (.goto (-20), 3) := by decide +kernel
theorem d_M_number_25 : decode c_M_number 25 = .ok (.aload_n 0, 1) := by decide +kernel
theorem d_M_number_26 : decode c_M_number 26 = .ok (.getfield 89, 3) := by decide +kernel
theorem d_M_number_29 : decode c_M_number 29 = .ok (.sipush 514, 3) := by decide +kernel
theorem d_M_number_32 : decode c_M_number 32 = .ok (.iload_n 1, 1) := by decide +kernel
theorem d_M_number_33 : decode c_M_number 33 = .ok (.imul, 1) := by decide +kernel
theorem d_M_number_34 : decode c_M_number 34 = .ok (.iconst 0, 1) := by decide +kernel
theorem d_M_number_35 : decode c_M_number 35 = .ok (.iastore, 1) := by decide +kernel
theorem d_M_number_36 : decode c_M_number 36 = .ok (.aload_n 0, 1) := by decide +kernel
theorem d_M_number_37 : decode c_M_number 37 = .ok (.getfield 113, 3) := by decide +kernel
theorem d_M_number_40 : decode c_M_number 40 = .ok (.aload_n 0, 1) := by decide +kernel
theorem d_M_number_41 : decode c_M_number 41 = .ok (.iload_n 1, 1) := by decide +kernel
theorem d_M_number_42 : decode c_M_number 42 = .ok (.iconst 0, 1) := by decide +kernel
theorem d_M_number_43 : decode c_M_number 43 = .ok (.invokevirtual 229, 3) := by decide +kernel
theorem d_M_number_46 : decode c_M_number 46 = .ok (.iconst 0, 1) := by decide +kernel
theorem d_M_number_47 : decode c_M_number 47 = .ok (.iastore, 1) := by decide +kernel
theorem d_M_number_48 : decode c_M_number 48 = .ok (.aload_n 0, 1) := by decide +kernel
theorem d_M_number_49 : decode c_M_number 49 = .ok (.getfield 86, 3) := by decide +kernel
theorem d_M_number_52 : decode c_M_number 52 = .ok (.iload_n 1, 1) := by decide +kernel
theorem d_M_number_53 : decode c_M_number 53 = .ok (.iconst 1, 1) := by decide +kernel
theorem d_M_number_54 : decode c_M_number 54 = .ok (.iastore, 1) := by decide +kernel
theorem d_M_number_55 : decode c_M_number 55 = .ok (.iconst 0, 1) := by decide +kernel
theorem d_M_number_56 : decode c_M_number 56 = .ok (.istore_n 2, 1) := by decide +kernel
theorem d_M_number_57 : decode c_M_number 57 = .ok (.iload_n 2, 1) := by decide +kernel
theorem d_M_number_58 : decode c_M_number 58 = .ok (.aload_n 0, 1) := by decide +kernel
theorem d_M_number_59 : decode c_M_number 59 = .ok (.getfield 86, 3) := by decide +kernel
theorem d_M_number_62 : decode c_M_number 62 = .ok (.iload_n 1, 1) := by decide +kernel
theorem d_M_number_63 : decode c_M_number 63 = .ok (.iaload, 1) := by decide +kernel
theorem d_M_number_64 : decode c_M_number 64 = .ok (.if_icmp .ge 115, 3) := by decide +kernel
theorem d_M_number_67 : decode c_M_number 67 = .ok (.iconst 0, 1) := by decide +kernel
theorem d_M_number_68 : decode c_M_number 68 = .ok (.istore_n 3, 1) := by decide +kernel
theorem d_M_number_69 : decode c_M_number 69 = .ok (.iload_n 3, 1) := by decide +kernel
theorem d_M_number_70 : decode c_M_number 70 = .ok (.bipush 6, 2) := by decide +kernel
theorem d_M_number_72 : decode c_M_number 72 = .ok (.if_icmp .ge 101, 3) := by decide +kernel
theorem d_M_number_75 : decode c_M_number 75 = .ok (.aload_n 0, 1) := by decide +kernel
theorem d_M_number_76 : decode c_M_number 76 = .ok (.iload_n 1, 1) := by decide +kernel
theorem d_M_number_77 : decode c_M_number 77 = .ok (.aload_n 0, 1) := by decide +kernel
theorem d_M_number_78 : decode c_M_number 78 = .ok (.getfield 89, 3) := by decide +kernel
theorem d_M_number_81 : decode c_M_number 81 = .ok (.sipush 514, 3) := by decide +kernel
theorem d_M_number_84 : decode c_M_number 84 = .ok (.iload_n 1, 1) := by decide +kernel
theorem d_M_number_85 : decode c_M_number 85 = .ok (.imul, 1) := by decide +kernel
theorem d_M_number_86 : decode c_M_number 86 = .ok (.iload_n 2, 1) := by decide +kernel
theorem d_M_number_87 : decode c_M_number 87 = .ok (.iadd, 1) := by decide +kernel
theorem d_M_number_88 : decode c_M_number 88 = .ok (.iaload, 1) := by decide +kernel
theorem d_M_number_89 : decode c_M_number 89 = .ok (.iload_n 3, 1) := by decide +kernel
theorem d_M_number_90 : decode c_M_number 90 = .ok (.invokevirtual 232, 3) := by decide +kernel
theorem d_M_number_93 : decode c_M_number 93 = .ok (.istore 4, 2) := by decide +kernel
theorem d_M_number_95 : decode c_M_number 95 = .ok (.iload 4, 2) := by decide +kernel
theorem d_M_number_97 : decode c_M_number 97 = .ok (.iconst (-1), 1) := by decide +kernel
theorem d_M_number_98 : decode c_M_number 98 = .ok (.if_icmp .eq 69, 3) := by decide +kernel
theorem d_M_number_101 : decode c_M_number 101 = .ok (.aload_n 0, 1) := by decide +kernel
theorem d_M_number_102 : decode c_M_number 102 = .ok (.getfield 113, 3) := by decide +kernel
theorem d_M_number_105 : decode c_M_number 105 = .ok (.aload_n 0, 1) := by decide +kernel
theorem d_M_number_106 : decode c_M_number 106 = .ok (.iload_n 1, 1) := by decide +kernel
theorem d_M_number_107 : decode c_M_number 107 = .ok (.iload 4, 2) := by decide +kernel
theorem d_M_number_109 : decode c_M_number 109 = .ok (.invokevirtual 229, 3) := by decide +kernel
theorem d_M_number_112 : decode c_M_number 112 = .ok (.iaload, 1) := by decide +kernel
theorem d_M_number_113 : decode c_M_number 113 = .ok (.iconst (-1), 1) := by decide +kernel
theorem d_M_number_114 : decode c_M_number 114 = .ok (.if_icmp .eq 6, 3) := by decide +kernel
theorem d_M_number_117 : decode c_M_number 117 = .ok (.goto 50, 3) := by decide +kernel
theorem d_M_number_120 : decode c_M_number 120 = .ok (.aload_n 0, 1) := by decide +kernel
theorem d_M_number_121 : decode c_M_number 121 = .ok (.getfield 113, 3) := by decide +kernel
theorem d_M_number_124 : decode c_M_number 124 = .ok (.aload_n 0, 1) := by decide +kernel
theorem d_M_number_125 : decode c_M_number 125 = .ok (.iload_n 1, 1) := by decide +kernel
theorem d_M_number_126 : decode c_M_number 126 = .ok (.iload 4, 2) := by decide +kernel
theorem d_M_number_128 : decode c_M_number 128 = .ok (.invokevirtual 229, 3) := by decide +kernel
theorem d_M_number_131 : decode c_M_number 131 = .ok (.aload_n 0, 1) := by decide +kernel
theorem d_M_number_132 : decode c_M_number 132 = .ok (.getfield 86, 3) := by decide +kernel
theorem d_M_number_135 : decode c_M_number 135 = .ok (.iload_n 1, 1) := by decide +kernel
theorem d_M_number_136 : decode c_M_number 136 = .ok (.iaload, 1) := by decide +kernel
theorem d_M_number_137 : decode c_M_number 137 = .ok (.iastore, 1) := by decide +kernel
theorem d_M_number_138 : decode c_M_number 138 = .ok (.aload_n 0, 1) := by decide +kernel
theorem d_M_number_139 : decode c_M_number 139 = .ok (.getfield 89, 3) := by decide +kernel
theorem d_M_number_142 : decode c_M_number 142 = .ok (.sipush 514, 3) := by decide +kernel
theorem d_M_number_145 : decode c_M_number 145 = .ok (.iload_n 1, 1) := by decide +kernel
theorem d_M_number_146 : decode c_M_number 146 = .ok (.imul, 1) := by decide +kernel
theorem d_M_number_147 : decode c_M_number 147 = .ok (.aload_n 0, 1) := by decide +kernel
theorem d_M_number_148 : decode c_M_number 148 = .ok (.getfield 86, 3) := by decide +kernel
theorem d_M_number_151 : decode c_M_number 151 = .ok (.iload_n 1, 1) := by decide +kernel
theorem d_M_number_152 : decode c_M_number 152 = .ok (.iaload, 1) := by decide +kernel
theorem d_M_number_153 : decode c_M_number 153 = .ok (.iadd, 1) := by decide +kernel
theorem d_M_number_154 : decode c_M_number 154 = .ok (.iload 4, 2) := by decide +kernel
theorem d_M_number_156 : decode c_M_number 156 = .ok (.iastore, 1) := by decide +kernel
theorem d_M_number_157 : decode c_M_number 157 = .ok (.aload_n 0, 1) := by decide +kernel
theorem d_M_number_158 : decode c_M_number 158 = .ok (.getfield 86, 3) := by decide +kernel
theorem d_M_number_161 : decode c_M_number 161 = .ok (.iload_n 1, 1) := by decide +kernel
theorem d_M_number_162 : decode c_M_number 162 = .ok (.dup2, 1) := by decide +kernel
theorem d_M_number_163 : decode c_M_number 163 = .ok (.iaload, 1) := by decide +kernel
theorem d_M_number_164 : decode c_M_number 164 = .ok (.iconst 1, 1) := by decide +kernel
theorem d_M_number_165 : decode c_M_number 165 = .ok (.iadd, 1) := by decide +kernel
theorem d_M_number_166 : decode c_M_number 166 = .ok (.iastore, 1) := by decide +kernel
theorem d_M_number_167 : decode c_M_number 167 = .ok (.iinc 3 1, 3) := by decide +kernel
theorem d_M_number_170 : decode c_M_number 170 = .ok (.goto (-101), 3) := by decide +kernel
theorem d_M_number_173 : decode c_M_number 173 = .ok (.iinc 2 1, 3) := by decide +kernel
theorem d_M_number_176 : decode c_M_number 176 = .ok (.goto (-119), 3) := by decide +kernel
theorem d_M_number_179 : decode c_M_number 179 = .ok (.iconst 0, 1) := by decide +kernel
theorem d_M_number_180 : decode c_M_number 180 = .ok (.istore_n 2, 1) := by decide +kernel
theorem d_M_number_181 : decode c_M_number 181 = .ok (.iload_n 2, 1) := by decide +kernel
theorem d_M_number_182 : decode c_M_number 182 = .ok (.aload_n 0, 1) := by decide +kernel
theorem d_M_number_183 : decode c_M_number 183 = .ok (.getfield 74, 3) := by decide +kernel
theorem d_M_number_186 : decode c_M_number 186 = .ok (.iload_n 1, 1) := by decide +kernel
theorem d_M_number_187 : decode c_M_number 187 = .ok (.iaload, 1) := by decide +kernel
theorem d_M_number_188 : decode c_M_number 188 = .ok (.if_icmp .ge 38, 3) := by decide +kernel
theorem d_M_number_191 : decode c_M_number 191 = .ok (.aload_n 0, 1) := by decide +kernel
theorem d_M_number_192 : decode c_M_number 192 = .ok (.getfield 83, 3) := by decide +kernel
theorem d_M_number_195 : decode c_M_number 195 = .ok (.sipush 514, 3) := by decide +kernel
theorem d_M_number_198 : decode c_M_number 198 = .ok (.iload_n 1, 1) := by decide +kernel
theorem d_M_number_199 : decode c_M_number 199 = .ok (.imul, 1) := by decide +kernel
theorem d_M_number_200 : decode c_M_number 200 = .ok (.iload_n 2, 1) := by decide +kernel
theorem d_M_number_201 : decode c_M_number 201 = .ok (.iadd, 1) := by decide +kernel
theorem d_M_number_202 : decode c_M_number 202 = .ok (.aload_n 0, 1) := by decide +kernel
theorem d_M_number_203 : decode c_M_number 203 = .ok (.getfield 113, 3) := by decide +kernel
theorem d_M_number_206 : decode c_M_number 206 = .ok (.aload_n 0, 1) := by decide +kernel
theorem d_M_number_207 : decode c_M_number 207 = .ok (.getfield 83, 3) := by decide +kernel
theorem d_M_number_210 : decode c_M_number 210 = .ok (.sipush 514, 3) := by decide +kernel
theorem d_M_number_213 : decode c_M_number 213 = .ok (.iload_n 1, 1) := by decide +kernel
theorem d_M_number_214 : decode c_M_number 214 = .ok (.imul, 1) := by decide +kernel
theorem d_M_number_215 : decode c_M_number 215 = .ok (.iload_n 2, 1) := by decide +kernel
theorem d_M_number_216 : decode c_M_number 216 = .ok (.iadd, 1) := by decide +kernel
theorem d_M_number_217 : decode c_M_number 217 = .ok (.iaload, 1) := by decide +kernel
theorem d_M_number_218 : decode c_M_number 218 = .ok (.iaload, 1) := by decide +kernel
theorem d_M_number_219 : decode c_M_number 219 = .ok (.iastore, 1) := by decide +kernel
theorem d_M_number_220 : decode c_M_number 220 = .ok (.iinc 2 1, 3) := by decide +kernel
theorem d_M_number_223 : decode c_M_number 223 = .ok (.goto (-42), 3) := by decide +kernel
theorem d_M_number_226 : decode c_M_number 226 = .ok (.return_, 1) := by decide +kernel
theorem d_M_make_0 : decode c_M_make 0 = .ok (.aload_n 0, 1) := by decide +kernel
theorem d_M_make_1 : decode c_M_make 1 = .ok (.getfield 92, 3) := by decide +kernel
theorem d_M_make_4 : decode c_M_make 4 = .ok (.iload_n 1, 1) := by decide +kernel
theorem d_M_make_5 : decode c_M_make 5 = .ok (.baload, 1) := by decide +kernel
theorem d_M_make_6 : decode c_M_make 6 = .ok (.ifCond .eq 4, 3) := by decide +kernel
theorem d_M_make_9 : decode c_M_make 9 = .ok (.return_, 1) := by decide +kernel
theorem d_M_make_10 : decode c_M_make 10 = .ok (.aload_n 0, 1) := by decide +kernel
theorem d_M_make_11 : decode c_M_make 11 = .ok (.getfield 92, 3) := by decide +kernel
theorem d_M_make_14 : decode c_M_make 14 = .ok (.iload_n 1, 1) := by decide +kernel
theorem d_M_make_15 : decode c_M_make 15 = .ok (.iconst 1, 1) := by decide +kernel
theorem d_M_make_16 : decode c_M_make 16 = .ok (.bastore, 1) := by decide +kernel
theorem d_M_make_17 : decode c_M_make 17 = .ok (.aload_n 0, 1) := by decide +kernel
theorem d_M_make_18 : decode c_M_make 18 = .ok (.getfield 74, 3) := by decide +kernel
theorem d_M_make_21 : decode c_M_make 21 = .ok (.iload_n 1, 1) := by decide +kernel
theorem d_M_make_22 : decode c_M_make 22 = .ok (.iconst 1, 1) := by decide +kernel
theorem d_M_make_23 : decode c_M_make 23 = .ok (.iastore, 1) := by decide +kernel
theorem d_M_make_24 : decode c_M_make 24 = .ok (.iconst 0, 1) := by decide +kernel
theorem d_M_make_25 : decode c_M_make 25 = .ok (.istore_n 2, 1) := by decide +kernel
theorem d_M_make_26 : decode c_M_make 26 = .ok (.iload_n 2, 1) := by decide +kernel
theorem d_M_make_27 : decode c_M_make 27 = .ok (.aload_n 0, 1) := by decide +kernel
theorem d_M_make_28 : decode c_M_make 28 = .ok (.getfield 74, 3) := by decide +kernel
theorem d_M_make_31 : decode c_M_make 31 = .ok (.iload_n 1, 1) := by decide +kernel
theorem d_M_make_32 : decode c_M_make 32 = .ok (.iaload, 1) := by decide +kernel
theorem d_M_make_33 : decode c_M_make 33 = .ok (.if_icmp .ge 76, 3) := by decide +kernel
theorem d_M_make_36 : decode c_M_make 36 = .ok (.aload_n 0, 1) := by decide +kernel
theorem d_M_make_37 : decode c_M_make 37 = .ok (.iload_n 1, 1) := by decide +kernel
theorem d_M_make_38 : decode c_M_make 38 = .ok (.iload_n 2, 1) := by decide +kernel
theorem d_M_make_39 : decode c_M_make 39 = .ok (.invokevirtual 208, 3) := by decide +kernel
theorem d_M_make_42 : decode c_M_make 42 = .ok (.istore_n 3, 1) := by decide +kernel
theorem d_M_make_43 : decode c_M_make 43 = .ok (.iconst 0, 1) := by decide +kernel
theorem d_M_make_44 : decode c_M_make 44 = .ok (.istore 4, 2) := by decide +kernel
theorem d_M_make_46 : decode c_M_make 46 = .ok (.iload 4, 2) := by decide +kernel
theorem d_M_make_48 : decode c_M_make 48 = .ok (.bipush 6, 2) := by decide +kernel
theorem d_M_make_50 : decode c_M_make 50 = .ok (.if_icmp .ge 53, 3) := by decide +kernel
theorem d_M_make_53 : decode c_M_make 53 = .ok (.aload_n 0, 1) := by decide +kernel
theorem d_M_make_54 : decode c_M_make 54 = .ok (.iload_n 1, 1) := by decide +kernel
theorem d_M_make_55 : decode c_M_make 55 = .ok (.iload_n 3, 1) := by decide +kernel
theorem d_M_make_56 : decode c_M_make 56 = .ok (.iload 4, 2) := by decide +kernel
theorem d_M_make_58 : decode c_M_make 58 = .ok (.invokevirtual 212, 3) := by decide +kernel
theorem d_M_make_61 : decode c_M_make 61 = .ok (.istore 5, 2) := by decide +kernel
theorem d_M_make_63 : decode c_M_make 63 = .ok (.aload_n 0, 1) := by decide +kernel
theorem d_M_make_64 : decode c_M_make 64 = .ok (.getfield 80, 3) := by decide +kernel
theorem d_M_make_67 : decode c_M_make 67 = .ok (.bipush 6, 2) := by decide +kernel
theorem d_M_make_69 : decode c_M_make 69 = .ok (.sipush 514, 3) := by decide +kernel
theorem d_M_make_72 : decode c_M_make 72 = .ok (.iload_n 1, 1) := by decide +kernel
theorem d_M_make_73 : decode c_M_make 73 = .ok (.imul, 1) := by decide +kernel
theorem d_M_make_74 : decode c_M_make 74 = .ok (.iload_n 2, 1) := by decide +kernel
theorem d_M_make_75 : decode c_M_make 75 = .ok (.iadd, 1) := by decide +kernel
theorem d_M_make_76 : decode c_M_make 76 = .ok (.imul, 1) := by decide +kernel
theorem d_M_make_77 : decode c_M_make 77 = .ok (.iload 4, 2) := by decide +kernel
theorem d_M_make_79 : decode c_M_make 79 = .ok (.iadd, 1) := by decide +kernel
theorem d_M_make_80 : decode c_M_make 80 = .ok (.iload 5, 2) := by decide +kernel
theorem d_M_make_82 : decode c_M_make 82 = .ok (.ifCond .ne 7, 3) := by decide +kernel
theorem d_M_make_85 : decode c_M_make 85 = .ok (.iconst (-1), 1) := by decide +kernel
theorem d_M_make_86 : decode c_M_make 86 = .ok (.goto 10, 3) := by decide +kernel
theorem d_M_make_89 : decode c_M_make 89 = .ok (.aload_n 0, 1) := by decide +kernel
theorem d_M_make_90 : decode c_M_make 90 = .ok (.iload_n 1, 1) := by decide +kernel
theorem d_M_make_91 : decode c_M_make 91 = .ok (.iload 5, 2) := by decide +kernel
theorem d_M_make_93 : decode c_M_make 93 = .ok (.invokevirtual 216, 3) := by decide +kernel
theorem d_M_make_96 : decode c_M_make 96 = .ok (.iastore, 1) := by decide +kernel
theorem d_M_make_97 : decode c_M_make 97 = .ok (.iinc 4 1, 3) := by decide +kernel
theorem d_M_make_100 : decode c_M_make 100 = .ok (.goto (-54), 3) := by decide +kernel
theorem d_M_make_103 : decode c_M_make 103 = .ok (.iinc 2 1, 3) := by decide +kernel
theorem d_M_make_106 : decode c_M_make 106 = .ok (.goto (-80), 3) := by decide +kernel
theorem d_M_make_109 : decode c_M_make 109 = .ok (.iconst 0, 1) := by decide +kernel
theorem d_M_make_110 : decode c_M_make 110 = .ok (.istore_n 2, 1) := by decide +kernel
theorem d_M_make_111 : decode c_M_make 111 = .ok (.iload_n 2, 1) := by decide +kernel
theorem d_M_make_112 : decode c_M_make 112 = .ok (.aload_n 0, 1) := by decide +kernel
theorem d_M_make_113 : decode c_M_make 113 = .ok (.getfield 74, 3) := by decide +kernel
theorem d_M_make_116 : decode c_M_make 116 = .ok (.iload_n 1, 1) := by decide +kernel
theorem d_M_make_117 : decode c_M_make 117 = .ok (.iaload, 1) := by decide +kernel
theorem d_M_make_118 : decode c_M_make 118 = .ok (.if_icmp .ge 27, 3) := by decide +kernel
theorem d_M_make_121 : decode c_M_make 121 = .ok (.aload_n 0, 1) := by decide +kernel
theorem d_M_make_122 : decode c_M_make 122 = .ok (.getfield 83, 3) := by decide +kernel
theorem d_M_make_125 : decode c_M_make 125 = .ok (.sipush 514, 3) := by decide +kernel
theorem d_M_make_128 : decode c_M_make 128 = .ok (.iload_n 1, 1) := by decide +kernel
theorem d_M_make_129 : decode c_M_make 129 = .ok (.imul, 1) := by decide +kernel
theorem d_M_make_130 : decode c_M_make 130 = .ok (.iload_n 2, 1) := by decide +kernel
theorem d_M_make_131 : decode c_M_make 131 = .ok (.iadd, 1) := by decide +kernel
theorem d_M_make_132 : decode c_M_make 132 = .ok (.aload_n 0, 1) := by decide +kernel
theorem d_M_make_133 : decode c_M_make 133 = .ok (.iload_n 1, 1) := by decide +kernel
theorem d_M_make_134 : decode c_M_make 134 = .ok (.iload_n 2, 1) := by decide +kernel
theorem d_M_make_135 : decode c_M_make 135 = .ok (.invokevirtual 219, 3) := by decide +kernel
theorem d_M_make_138 : decode c_M_make 138 = .ok (.iastore, 1) := by decide +kernel
theorem d_M_make_139 : decode c_M_make 139 = .ok (.iinc 2 1, 3) := by decide +kernel
theorem d_M_make_142 : decode c_M_make 142 = .ok (.goto (-31), 3) := by decide +kernel
theorem d_M_make_145 : decode c_M_make 145 = .ok (.iconst (-1), 1) := by decide +kernel
theorem d_M_make_146 : decode c_M_make 146 = .ok (.istore_n 2, 1) := by decide +kernel
theorem d_M_make_147 : decode c_M_make 147 = .ok (.iconst 0, 1) := by decide +kernel
theorem d_M_make_148 : decode c_M_make 148 = .ok (.istore_n 3, 1) := by decide +kernel
theorem d_M_make_149 : decode c_M_make 149 = .ok (.iload_n 3, 1) := by decide +kernel
theorem d_M_make_150 : decode c_M_make 150 = .ok (.iload_n 2, 1) := by decide +kernel
theorem d_M_make_151 : decode c_M_make 151 = .ok (.if_icmp .eq 14, 3) := by decide +kernel
theorem d_M_make_154 : decode c_M_make 154 = .ok (.iload_n 3, 1) := by decide +kernel
theorem d_M_make_155 : decode c_M_make 155 = .ok (.istore_n 2, 1) := by decide +kernel
theorem d_M_make_156 : decode c_M_make 156 = .ok (.aload_n 0, 1) := by decide +kernel
theorem d_M_make_157 : decode c_M_make 157 = .ok (.iload_n 1, 1) := by decide +kernel
theorem d_M_make_158 : decode c_M_make 158 = .ok (.invokevirtual 222, 3) := by decide +kernel
theorem d_M_make_161 : decode c_M_make 161 = .ok (.istore_n 3, 1) := by decide +kernel
theorem d_M_make_162 : decode c_M_make 162 = .ok (.goto (-13), 3) := by decide +kernel
theorem d_M_make_165 : decode c_M_make 165 = .ok (.aload_n 0, 1) := by decide +kernel
theorem d_M_make_166 : decode c_M_make 166 = .ok (.iload_n 1, 1) := by decide +kernel
theorem d_M_make_167 : decode c_M_make 167 = .ok (.invokevirtual 226, 3) := by decide +kernel
theorem d_M_make_170 : decode c_M_make 170 = .ok (.return_, 1) := by decide +kernel
def p_M_number_181 (f_o_nodes : (Nat → Int32)) (x1 : Int32) (post : (Nat → Int32) → (Nat → Int32) → (Nat → Int32) → (Nat → Int32) → Prop) : Nat → Int32 → (Nat → Int32) → (Nat → Int32) → (Nat → Int32) → (Nat → Int32) → Prop
  | 0, _, _, _, _, _ => False
  | n + 1, l2, f_o_fresh, f_o_sample, f_o_group, f_o_groups => (vp_in x1 3 ∧ (((f_o_nodes x1.toNatClampNeg) ≤ l2 → (post f_o_fresh f_o_sample f_o_group f_o_groups)) ∧ (¬ (f_o_nodes x1.toNatClampNeg) ≤ l2 → (vp_in ((514 * x1) + l2) 1542 ∧ (vp_in (f_o_group ((514 * x1) + l2).toNatClampNeg) 514 ∧ (vp_in ((514 * x1) + l2) 1542 ∧ (p_M_number_181 f_o_nodes x1 post n (l2 + 1) f_o_fresh f_o_sample (upd f_o_group ((514 * x1) + l2).toNatClampNeg (f_o_fresh (f_o_group ((514 * x1) + l2).toNatClampNeg).toNatClampNeg)) f_o_groups)))))))
def p_M_number_179 (f_o_nodes : (Nat → Int32)) (x1 : Int32) (post : (Nat → Int32) → (Nat → Int32) → (Nat → Int32) → (Nat → Int32) → Prop) (f_o_fresh : (Nat → Int32)) (f_o_sample : (Nat → Int32)) (f_o_group : (Nat → Int32)) (f_o_groups : (Nat → Int32)) : Prop := (∃ k, p_M_number_181 f_o_nodes x1 post k 0 f_o_fresh f_o_sample f_o_group f_o_groups)
def p_M_number_173  (post : (Nat → Int32) → (Nat → Int32) → (Nat → Int32) → (Nat → Int32) → Prop) (K_57 : Int32 → (Nat → Int32) → (Nat → Int32) → (Nat → Int32) → (Nat → Int32) → Prop) (l2 : Int32) (f_o_fresh : (Nat → Int32)) (f_o_sample : (Nat → Int32)) (f_o_group : (Nat → Int32)) (f_o_groups : (Nat → Int32)) : Prop := (K_57 (l2 + 1) f_o_fresh f_o_sample f_o_group f_o_groups)
def p_M_number_69 (f_o_step : (Nat → Int32)) (x1 : Int32) (post : (Nat → Int32) → (Nat → Int32) → (Nat → Int32) → (Nat → Int32) → Prop) (K_57 : Int32 → (Nat → Int32) → (Nat → Int32) → (Nat → Int32) → (Nat → Int32) → Prop) : Nat → Int32 → Int32 → (Nat → Int32) → (Nat → Int32) → (Nat → Int32) → (Nat → Int32) → Prop
  | 0, _, _, _, _, _, _ => False
  | n + 1, l2, l3, f_o_fresh, f_o_sample, f_o_group, f_o_groups => ((6 ≤ l3 → (p_M_number_173 post K_57 l2 f_o_fresh f_o_sample f_o_group f_o_groups)) ∧ (¬ 6 ≤ l3 → (vp_in ((514 * x1) + l2) 1542 ∧ (p_M_go f_o_step x1 (f_o_sample ((514 * x1) + l2).toNatClampNeg) l3 (fun r7901 => ((r7901 = (-1) → (p_M_number_69 f_o_step x1 post K_57 n l2 (l3 + 1) f_o_fresh f_o_sample f_o_group f_o_groups)) ∧ (¬ r7901 = (-1) → (p_M_groupAt f_o_group x1 r7901 (fun r7902 => (vp_in r7902 514 ∧ (((f_o_fresh r7902.toNatClampNeg) = (-1) → (p_M_groupAt f_o_group x1 r7901 (fun r7903 => (vp_in x1 3 ∧ (vp_in r7903 514 ∧ (vp_in x1 3 ∧ (vp_in ((514 * x1) + (f_o_groups x1.toNatClampNeg)) 1542 ∧ (vp_in x1 3 ∧ (vp_in x1 3 ∧ (p_M_number_69 f_o_step x1 post K_57 n l2 (l3 + 1) (upd f_o_fresh r7903.toNatClampNeg (f_o_groups x1.toNatClampNeg)) (upd f_o_sample ((514 * x1) + (f_o_groups x1.toNatClampNeg)).toNatClampNeg r7901) f_o_group (upd f_o_groups x1.toNatClampNeg ((f_o_groups x1.toNatClampNeg) + 1)))))))))))) ∧ (¬ (f_o_fresh r7902.toNatClampNeg) = (-1) → (p_M_number_69 f_o_step x1 post K_57 n l2 (l3 + 1) f_o_fresh f_o_sample f_o_group f_o_groups)))))))))))))
def p_M_number_57 (f_o_nodes : (Nat → Int32)) (f_o_step : (Nat → Int32)) (x1 : Int32) (post : (Nat → Int32) → (Nat → Int32) → (Nat → Int32) → (Nat → Int32) → Prop) : Nat → Int32 → (Nat → Int32) → (Nat → Int32) → (Nat → Int32) → (Nat → Int32) → Prop
  | 0, _, _, _, _, _ => False
  | n + 1, l2, f_o_fresh, f_o_sample, f_o_group, f_o_groups => (vp_in x1 3 ∧ (((f_o_groups x1.toNatClampNeg) ≤ l2 → (p_M_number_179 f_o_nodes x1 post f_o_fresh f_o_sample f_o_group f_o_groups)) ∧ (¬ (f_o_groups x1.toNatClampNeg) ≤ l2 → (∃ k, p_M_number_69 f_o_step x1 post (p_M_number_57 f_o_nodes f_o_step x1 post n) k l2 0 f_o_fresh f_o_sample f_o_group f_o_groups))))
def p_M_number_25 (f_o_nodes : (Nat → Int32)) (f_o_step : (Nat → Int32)) (x1 : Int32) (post : (Nat → Int32) → (Nat → Int32) → (Nat → Int32) → (Nat → Int32) → Prop) (f_o_fresh : (Nat → Int32)) (f_o_sample : (Nat → Int32)) (f_o_group : (Nat → Int32)) (f_o_groups : (Nat → Int32)) : Prop := (vp_in (514 * x1) 1542 ∧ (p_M_groupAt f_o_group x1 0 (fun r3501 => (vp_in r3501 514 ∧ (vp_in x1 3 ∧ (∃ k, p_M_number_57 f_o_nodes f_o_step x1 post k 0 (upd f_o_fresh r3501.toNatClampNeg 0) (upd f_o_sample (514 * x1).toNatClampNeg 0) f_o_group (upd f_o_groups x1.toNatClampNeg 1)))))))
def p_M_number_2 (f_o_nodes : (Nat → Int32)) (f_o_step : (Nat → Int32)) (x1 : Int32) (post : (Nat → Int32) → (Nat → Int32) → (Nat → Int32) → (Nat → Int32) → Prop) : Nat → Int32 → (Nat → Int32) → (Nat → Int32) → (Nat → Int32) → (Nat → Int32) → Prop
  | 0, _, _, _, _, _ => False
  | n + 1, l2, f_o_fresh, f_o_sample, f_o_group, f_o_groups => (vp_in x1 3 ∧ (((f_o_nodes x1.toNatClampNeg) ≤ l2 → (p_M_number_25 f_o_nodes f_o_step x1 post f_o_fresh f_o_sample f_o_group f_o_groups)) ∧ (¬ (f_o_nodes x1.toNatClampNeg) ≤ l2 → (vp_in l2 514 ∧ (p_M_number_2 f_o_nodes f_o_step x1 post n (l2 + 1) (upd f_o_fresh l2.toNatClampNeg (-1)) f_o_sample f_o_group f_o_groups)))))
def p_M_number (f_o_nodes : (Nat → Int32)) (f_o_fresh : (Nat → Int32)) (f_o_sample : (Nat → Int32)) (f_o_group : (Nat → Int32)) (f_o_groups : (Nat → Int32)) (f_o_step : (Nat → Int32)) (x1 : Int32) (post : (Nat → Int32) → (Nat → Int32) → (Nat → Int32) → (Nat → Int32) → Prop) : Prop := (∃ k, p_M_number_2 f_o_nodes f_o_step x1 post k 0 f_o_fresh f_o_sample f_o_group f_o_groups)
set_option maxHeartbeats 4000000 in
set_option maxRecDepth 100000 in
theorem k_M_number (l : Launch) (G : va_G) (K : Nat → ClassId) (a0 : Nat) (ad : Nat → Nat) (sz : Nat) (v_o_code : Int32) (v_o_typed : Int32) (v_o_rules : Int32) (v_o_at : Int32) (v_o_read : Int32) (v_o_depth : Int32) (v_o_wrong : Int32) (v_o_there : Int32) (v_o_ended : Int32) (v_o_mode : Int32) (v_o_kept : Int32) (v_o_came : Int32) (v_o_pending : Int32) (v_o_looked : Int32) (v_o_tokens : Int32) (v_o_oldest : Int32) (f_o_nodes : (Nat → Int32)) (f_o_fresh : (Nat → Int32)) (f_o_sample : (Nat → Int32)) (f_o_group : (Nat → Int32)) (f_o_groups : (Nat → Int32)) (f_o_step : (Nat → Int32)) (x1 : Int32) (post : (Nat → Int32) → (Nat → Int32) → (Nat → Int32) → (Nat → Int32) → Prop) (h : p_M_number f_o_nodes f_o_fresh f_o_sample f_o_group f_o_groups f_o_step x1 post) : MWv l y_M_number (.code y_M_number c_M_number 5 none) { frames := 1, cells := 0, slots := 0, locals := 23 } G K [((ad 50), .inl (K 0, 514, .inl f_o_fresh)), ((ad 33), .inl (K 0, 1542, .inl f_o_sample)), ((ad 31), .inl (K 0, 1542, .inl f_o_group)), ((ad 32), .inl (K 0, 3, .inl f_o_groups))] [(a0, .inr (12, oM v_o_code v_o_typed v_o_rules v_o_at v_o_read v_o_depth v_o_wrong v_o_there v_o_ended v_o_mode v_o_kept v_o_came v_o_pending v_o_looked v_o_tokens v_o_oldest ad)), ((ad 28), .inl (K 0, 3, .inl f_o_nodes)), ((ad 30), .inl (K 0, 9252, .inl f_o_step))] [.ref a0, .int x1] sz (fun (u : (Nat → Int32) × (Nat → Int32) × (Nat → Int32) × (Nat → Int32)) => post u.1 u.2.1 u.2.2.1 u.2.2.2) (fun u => [((ad 50), .inl (K 0, 514, .inl u.1)), ((ad 33), .inl (K 0, 1542, .inl u.2.1)), ((ad 31), .inl (K 0, 1542, .inl u.2.2.1)), ((ad 32), .inl (K 0, 3, .inl u.2.2.2))]) 0 0 := by
  refine g_metWv (cc := c_M_number) (maxL := 5) (ret := none) (by decide) rfl rfl (Nat.le_of_ble_eq_true rfl) ?_
  intro p e s m below meth c A Q hx hb hml hown hname htg hK hN hP hD hA hS hR rN hret ls hl
  have hl : lv_has ls 5 [(0, .ref a0), (1, .int x1)] := hl
  have C_181 : ∀ (n : Nat) (l2 : Int32) (f_o_fresh : (Nat → Int32)) (f_o_sample : (Nat → Int32)) (f_o_group : (Nat → Int32)) (f_o_groups : (Nat → Int32)) (H : Heap) (locs : List Loc), va_P G vwCl [((ad 50), .inl (K 0, 514, .inl f_o_fresh)), ((ad 33), .inl (K 0, 1542, .inl f_o_sample)), ((ad 31), .inl (K 0, 1542, .inl f_o_group)), ((ad 32), .inl (K 0, 3, .inl f_o_groups))] H → va_D A [((ad 50), .inl (K 0, 514, .inl f_o_fresh)), ((ad 33), .inl (K 0, 1542, .inl f_o_sample)), ((ad 31), .inl (K 0, 1542, .inl f_o_group)), ((ad 32), .inl (K 0, 3, .inl f_o_groups))] → va_S A s.heap H locs → ∀ (ls : Array Slot), lv_has ls 5 [(0, .ref a0), (1, .int x1), (2, .int l2)] → p_M_number_181 f_o_nodes x1 post n l2 f_o_fresh f_o_sample f_o_group f_o_groups → W p l e { frames := 1, cells := 0, slots := 0, locals := 23 } s m ([.ref a0, .int x1] : List Value).toArray below meth c H locs 0 0 Q (F0 m 181 ls []) := by
    intro n
    induction n with
    | zero =>
      intro l2 f_o_fresh f_o_sample f_o_group f_o_groups  H locs hP hD hS ls hl h
      exact False.elim h
    | succ n ih =>
      intro l2 f_o_fresh f_o_sample f_o_group f_o_groups  H locs hP hD hS ls hl h
      refine lv_iload_n hx hb d_M_number_181 rfl (lv_at hl 2 rfl) ?_
      refine lv_aload_n hx hb d_M_number_182 rfl (lv_at hl 0 rfl) ?_
      refine va_get (ci := 12) (v := .ref (ad 28)) hx hb htg in_M hown hK (gR hR rN hS) 0 rfl rfl 28 (by decide) (htg _ m_638) (fun _ h9 => h9) rfl d_M_number_183 ?_
      refine lv_iload_n hx hb d_M_number_186 rfl (lv_at hl 1 rfl) ?_
      obtain ⟨hin, h⟩ := h
      refine va_iald hx hb hK (gR hR rN hS) 1 0 rfl rfl hin d_M_number_187 ?_
      refine lv_icmp_ge (tgt := 226) hx hb d_M_number_188 (by decide) (fun hc => ?_) (fun hc => ?_)
      · replace h := h.1 hc
        exact hret (f_o_fresh, f_o_sample, f_o_group, f_o_groups) _ _ _ _ h (hP.sub [0, 1, 2, 3] rfl) (hD.sub [0, 1, 2, 3] (by decide) rfl) hS d_M_number_226
      · replace h := h.2 hc
        refine lv_aload_n hx hb d_M_number_191 rfl (lv_at hl 0 rfl) ?_
        refine va_get (ci := 12) (v := .ref (ad 31)) hx hb htg in_M hown hK (gR hR rN hS) 0 rfl rfl 31 (by decide) (htg _ m_641) (fun _ h9 => h9) rfl d_M_number_192 ?_
        refine lv_sipush (v := 514) hx hb d_M_number_195 (by decide) ?_
        refine lv_iload_n hx hb d_M_number_198 rfl (lv_at hl 1 rfl) ?_
        refine lv_imul hx hb d_M_number_199 ?_
        refine lv_iload_n hx hb d_M_number_200 rfl (lv_at hl 2 rfl) ?_
        refine lv_iadd hx hb d_M_number_201 ?_
        refine lv_aload_n hx hb d_M_number_202 rfl (lv_at hl 0 rfl) ?_
        refine va_get (ci := 12) (v := .ref (ad 50)) hx hb htg in_M hown hK (gR hR rN hS) 0 rfl rfl 50 (by decide) (htg _ m_660) (fun _ h9 => h9) rfl d_M_number_203 ?_
        refine lv_aload_n hx hb d_M_number_206 rfl (lv_at hl 0 rfl) ?_
        refine va_get (ci := 12) (v := .ref (ad 31)) hx hb htg in_M hown hK (gR hR rN hS) 0 rfl rfl 31 (by decide) (htg _ m_641) (fun _ h9 => h9) rfl d_M_number_207 ?_
        refine lv_sipush (v := 514) hx hb d_M_number_210 (by decide) ?_
        refine lv_iload_n hx hb d_M_number_213 rfl (lv_at hl 1 rfl) ?_
        refine lv_imul hx hb d_M_number_214 ?_
        refine lv_iload_n hx hb d_M_number_215 rfl (lv_at hl 2 rfl) ?_
        refine lv_iadd hx hb d_M_number_216 ?_
        obtain ⟨hin, h⟩ := h
        refine va_iald hx hb hK hP 2 0 rfl rfl hin d_M_number_217 ?_
        obtain ⟨hin, h⟩ := h
        refine va_iald hx hb hK hP 0 0 rfl rfl hin d_M_number_218 ?_
        obtain ⟨hin, h⟩ := h
        refine va_iast hx hb hK hP hD hS 2 0 rfl rfl hin d_M_number_219 (fun H locs hP hD hS => ?_)
        have hP : va_P G vwCl [((ad 50), .inl (K 0, 514, .inl f_o_fresh)), ((ad 33), .inl (K 0, 1542, .inl f_o_sample)), ((ad 31), .inl (K 0, 1542, .inl (upd f_o_group ((514 * x1) + l2).toNatClampNeg (f_o_fresh (f_o_group ((514 * x1) + l2).toNatClampNeg).toNatClampNeg)))), ((ad 32), .inl (K 0, 3, .inl f_o_groups))] H := hP
        have hD : va_D A [((ad 50), .inl (K 0, 514, .inl f_o_fresh)), ((ad 33), .inl (K 0, 1542, .inl f_o_sample)), ((ad 31), .inl (K 0, 1542, .inl (upd f_o_group ((514 * x1) + l2).toNatClampNeg (f_o_fresh (f_o_group ((514 * x1) + l2).toNatClampNeg).toNatClampNeg)))), ((ad 32), .inl (K 0, 3, .inl f_o_groups))] := hD
        refine lv_iinc (v := (l2 + 1)) (lv' := [(2, .int (l2 + 1)), (0, .ref a0), (1, .int x1)]) hx hb d_M_number_220 hl (k := 2) rfl (by first | rfl | decide) (by decide) rfl (fun ls hl => ?_)
        refine lv_goto (tgt := 181) hx hb d_M_number_223 (by decide) ?_
        exact ih (l2 + 1) f_o_fresh f_o_sample (upd f_o_group ((514 * x1) + l2).toNatClampNeg (f_o_fresh (f_o_group ((514 * x1) + l2).toNatClampNeg).toNatClampNeg)) f_o_groups  _ _ (hP.sub [0, 1, 2, 3] rfl) (hD.sub [0, 1, 2, 3] (by decide) rfl) hS _ (lv_sub hl [1, 2, 0] rfl) h
  have C_179 : ∀ (f_o_fresh : (Nat → Int32)) (f_o_sample : (Nat → Int32)) (f_o_group : (Nat → Int32)) (f_o_groups : (Nat → Int32)) (H : Heap) (locs : List Loc), va_P G vwCl [((ad 50), .inl (K 0, 514, .inl f_o_fresh)), ((ad 33), .inl (K 0, 1542, .inl f_o_sample)), ((ad 31), .inl (K 0, 1542, .inl f_o_group)), ((ad 32), .inl (K 0, 3, .inl f_o_groups))] H → va_D A [((ad 50), .inl (K 0, 514, .inl f_o_fresh)), ((ad 33), .inl (K 0, 1542, .inl f_o_sample)), ((ad 31), .inl (K 0, 1542, .inl f_o_group)), ((ad 32), .inl (K 0, 3, .inl f_o_groups))] → va_S A s.heap H locs → ∀ (ls : Array Slot), lv_has ls 5 [(0, .ref a0), (1, .int x1)] → p_M_number_179 f_o_nodes x1 post f_o_fresh f_o_sample f_o_group f_o_groups → W p l e { frames := 1, cells := 0, slots := 0, locals := 23 } s m ([.ref a0, .int x1] : List Value).toArray below meth c H locs 0 0 Q (F0 m 179 ls []) := by
    intro  f_o_fresh f_o_sample f_o_group f_o_groups  H locs hP hD hS ls hl h
    refine lv_iconst (v := 0) hx hb d_M_number_179 (by decide) ?_
    refine lv_istore_n (lv' := [(2, .int 0), (0, .ref a0), (1, .int x1)]) hx hb d_M_number_180 rfl hl (by decide) rfl (fun ls hl => ?_)
    obtain ⟨k, h⟩ := h
    exact C_181 k 0 f_o_fresh f_o_sample f_o_group f_o_groups  _ _ (hP.sub [0, 1, 2, 3] rfl) (hD.sub [0, 1, 2, 3] (by decide) rfl) hS _ (lv_sub hl [1, 2, 0] rfl) h
  have C_173 : ∀ (K_57 : Int32 → (Nat → Int32) → (Nat → Int32) → (Nat → Int32) → (Nat → Int32) → Prop) (hK_57 : ∀ (l2 : Int32) (f_o_fresh : (Nat → Int32)) (f_o_sample : (Nat → Int32)) (f_o_group : (Nat → Int32)) (f_o_groups : (Nat → Int32)) (H : Heap) (locs : List Loc), va_P G vwCl [((ad 50), .inl (K 0, 514, .inl f_o_fresh)), ((ad 33), .inl (K 0, 1542, .inl f_o_sample)), ((ad 31), .inl (K 0, 1542, .inl f_o_group)), ((ad 32), .inl (K 0, 3, .inl f_o_groups))] H → va_D A [((ad 50), .inl (K 0, 514, .inl f_o_fresh)), ((ad 33), .inl (K 0, 1542, .inl f_o_sample)), ((ad 31), .inl (K 0, 1542, .inl f_o_group)), ((ad 32), .inl (K 0, 3, .inl f_o_groups))] → va_S A s.heap H locs → ∀ (ls : Array Slot), lv_has ls 5 [(0, .ref a0), (1, .int x1), (2, .int l2)] → K_57 l2 f_o_fresh f_o_sample f_o_group f_o_groups → W p l e { frames := 1, cells := 0, slots := 0, locals := 23 } s m ([.ref a0, .int x1] : List Value).toArray below meth c H locs 0 0 Q (F0 m 57 ls [])) (l2 : Int32) (f_o_fresh : (Nat → Int32)) (f_o_sample : (Nat → Int32)) (f_o_group : (Nat → Int32)) (f_o_groups : (Nat → Int32)) (H : Heap) (locs : List Loc), va_P G vwCl [((ad 50), .inl (K 0, 514, .inl f_o_fresh)), ((ad 33), .inl (K 0, 1542, .inl f_o_sample)), ((ad 31), .inl (K 0, 1542, .inl f_o_group)), ((ad 32), .inl (K 0, 3, .inl f_o_groups))] H → va_D A [((ad 50), .inl (K 0, 514, .inl f_o_fresh)), ((ad 33), .inl (K 0, 1542, .inl f_o_sample)), ((ad 31), .inl (K 0, 1542, .inl f_o_group)), ((ad 32), .inl (K 0, 3, .inl f_o_groups))] → va_S A s.heap H locs → ∀ (ls : Array Slot), lv_has ls 5 [(0, .ref a0), (1, .int x1), (2, .int l2)] → p_M_number_173 post K_57 l2 f_o_fresh f_o_sample f_o_group f_o_groups → W p l e { frames := 1, cells := 0, slots := 0, locals := 23 } s m ([.ref a0, .int x1] : List Value).toArray below meth c H locs 0 0 Q (F0 m 173 ls []) := by
    intro K_57 hK_57 l2 f_o_fresh f_o_sample f_o_group f_o_groups  H locs hP hD hS ls hl h
    refine lv_iinc (v := (l2 + 1)) (lv' := [(2, .int (l2 + 1)), (0, .ref a0), (1, .int x1)]) hx hb d_M_number_173 hl (k := 2) rfl (by first | rfl | decide) (by decide) rfl (fun ls hl => ?_)
    refine lv_goto (tgt := 57) hx hb d_M_number_176 (by decide) ?_
    exact hK_57 (l2 + 1) f_o_fresh f_o_sample f_o_group f_o_groups  _ _ (hP.sub [0, 1, 2, 3] rfl) (hD.sub [0, 1, 2, 3] (by decide) rfl) hS _ (lv_sub hl [1, 2, 0] rfl) h
  have C_69 : ∀ (K_57 : Int32 → (Nat → Int32) → (Nat → Int32) → (Nat → Int32) → (Nat → Int32) → Prop) (hK_57 : ∀ (l2 : Int32) (f_o_fresh : (Nat → Int32)) (f_o_sample : (Nat → Int32)) (f_o_group : (Nat → Int32)) (f_o_groups : (Nat → Int32)) (H : Heap) (locs : List Loc), va_P G vwCl [((ad 50), .inl (K 0, 514, .inl f_o_fresh)), ((ad 33), .inl (K 0, 1542, .inl f_o_sample)), ((ad 31), .inl (K 0, 1542, .inl f_o_group)), ((ad 32), .inl (K 0, 3, .inl f_o_groups))] H → va_D A [((ad 50), .inl (K 0, 514, .inl f_o_fresh)), ((ad 33), .inl (K 0, 1542, .inl f_o_sample)), ((ad 31), .inl (K 0, 1542, .inl f_o_group)), ((ad 32), .inl (K 0, 3, .inl f_o_groups))] → va_S A s.heap H locs → ∀ (ls : Array Slot), lv_has ls 5 [(0, .ref a0), (1, .int x1), (2, .int l2)] → K_57 l2 f_o_fresh f_o_sample f_o_group f_o_groups → W p l e { frames := 1, cells := 0, slots := 0, locals := 23 } s m ([.ref a0, .int x1] : List Value).toArray below meth c H locs 0 0 Q (F0 m 57 ls [])) (n : Nat) (l2 : Int32) (l3 : Int32) (f_o_fresh : (Nat → Int32)) (f_o_sample : (Nat → Int32)) (f_o_group : (Nat → Int32)) (f_o_groups : (Nat → Int32)) (H : Heap) (locs : List Loc), va_P G vwCl [((ad 50), .inl (K 0, 514, .inl f_o_fresh)), ((ad 33), .inl (K 0, 1542, .inl f_o_sample)), ((ad 31), .inl (K 0, 1542, .inl f_o_group)), ((ad 32), .inl (K 0, 3, .inl f_o_groups))] H → va_D A [((ad 50), .inl (K 0, 514, .inl f_o_fresh)), ((ad 33), .inl (K 0, 1542, .inl f_o_sample)), ((ad 31), .inl (K 0, 1542, .inl f_o_group)), ((ad 32), .inl (K 0, 3, .inl f_o_groups))] → va_S A s.heap H locs → ∀ (ls : Array Slot), lv_has ls 5 [(0, .ref a0), (1, .int x1), (2, .int l2), (3, .int l3)] → p_M_number_69 f_o_step x1 post K_57 n l2 l3 f_o_fresh f_o_sample f_o_group f_o_groups → W p l e { frames := 1, cells := 0, slots := 0, locals := 23 } s m ([.ref a0, .int x1] : List Value).toArray below meth c H locs 0 0 Q (F0 m 69 ls []) := by
    intro K_57 hK_57
    intro n
    induction n with
    | zero =>
      intro l2 l3 f_o_fresh f_o_sample f_o_group f_o_groups  H locs hP hD hS ls hl h
      exact False.elim h
    | succ n ih =>
      intro l2 l3 f_o_fresh f_o_sample f_o_group f_o_groups  H locs hP hD hS ls hl h
      refine lv_iload_n hx hb d_M_number_69 rfl (lv_at hl 3 rfl) ?_
      refine lv_bipush (v := 6) hx hb d_M_number_70 (by decide) ?_
      refine lv_icmp_ge (tgt := 173) hx hb d_M_number_72 (by decide) (fun hc => ?_) (fun hc => ?_)
      · replace h := h.1 hc
        exact C_173 _ hK_57 l2 f_o_fresh f_o_sample f_o_group f_o_groups  _ _ (hP.sub [0, 1, 2, 3] rfl) (hD.sub [0, 1, 2, 3] (by decide) rfl) hS _ (lv_sub hl [0, 1, 2] rfl) h
      · replace h := h.2 hc
        refine lv_aload_n hx hb d_M_number_75 rfl (lv_at hl 0 rfl) ?_
        refine lv_iload_n hx hb d_M_number_76 rfl (lv_at hl 1 rfl) ?_
        refine lv_aload_n hx hb d_M_number_77 rfl (lv_at hl 0 rfl) ?_
        refine va_get (ci := 12) (v := .ref (ad 33)) hx hb htg in_M hown hK (gR hR rN hS) 0 rfl rfl 33 (by decide) (htg _ m_643) (fun _ h9 => h9) rfl d_M_number_78 ?_
        refine lv_sipush (v := 514) hx hb d_M_number_81 (by decide) ?_
        refine lv_iload_n hx hb d_M_number_84 rfl (lv_at hl 1 rfl) ?_
        refine lv_imul hx hb d_M_number_85 ?_
        refine lv_iload_n hx hb d_M_number_86 rfl (lv_at hl 2 rfl) ?_
        refine lv_iadd hx hb d_M_number_87 ?_
        obtain ⟨hin, h⟩ := h
        refine va_iald hx hb hK hP 1 0 rfl rfl hin d_M_number_88 ?_
        refine lv_iload_n hx hb d_M_number_89 rfl (lv_at hl 3 rfl) ?_
        have hPc : va_P G vwCl [(a0, .inr (12, oM v_o_code v_o_typed v_o_rules v_o_at v_o_read v_o_depth v_o_wrong v_o_there v_o_ended v_o_mode v_o_kept v_o_came v_o_pending v_o_looked v_o_tokens v_o_oldest ad)), ((ad 30), .inl (K 0, 9252, .inl f_o_step))] _ := (gR hR rN hS).sub [0, 2] rfl
        refine vp_callSi (va_Run.run (va_runV (As := [.int x1, .int (f_o_sample ((514 * x1) + l2).toNatClampNeg), .int l3]) (rest := []) ⟨hx, hb, hml, hown, htg⟩ (k_M_go l G K a0 ad v_o_code v_o_typed v_o_rules v_o_at v_o_read v_o_depth v_o_wrong v_o_there v_o_ended v_o_mode v_o_kept v_o_came v_o_pending v_o_looked v_o_tokens v_o_oldest f_o_step x1 (f_o_sample ((514 * x1) + l2).toNatClampNeg) l3 _ h) (cwV 3 htg (gGoodV m_752 m_753 m_885 m_13 m_754) rfl rfl rfl (by decide +kernel) ⟨(Nat.le_of_ble_eq_true rfl), (Nat.le_of_ble_eq_true rfl)⟩) (gS_preV (ci := 12) (q0 := 0) hK hN hPc rfl rfl) rfl rfl hl.1 rfl (lv_room (Nat.le_of_ble_eq_true rfl)) d_M_number_90 ⟨(Nat.le_of_ble_eq_true rfl), (Nat.le_of_ble_eq_true rfl)⟩)) (fun r7901 h => ?_)
        refine lv_istore (lv' := [(4, .int r7901), (0, .ref a0), (1, .int x1), (2, .int l2), (3, .int l3)]) hx hb d_M_number_93 hl (by decide) rfl (fun ls hl => ?_)
        refine lv_iload hx hb d_M_number_95 (lv_at hl 0 rfl) ?_
        refine lv_iconst (v := (-1)) hx hb d_M_number_97 (by decide) ?_
        refine lv_icmp_eq (tgt := 167) hx hb d_M_number_98 (by decide) (fun hc => ?_) (fun hc => ?_)
        · replace h := h.1 hc
          refine lv_iinc (v := (l3 + 1)) (lv' := [(3, .int (l3 + 1)), (4, .int r7901), (0, .ref a0), (1, .int x1), (2, .int l2)]) hx hb d_M_number_167 hl (k := 4) rfl (by first | rfl | decide) (by decide) rfl (fun ls hl => ?_)
          refine lv_goto (tgt := 69) hx hb d_M_number_170 (by decide) ?_
          exact ih l2 (l3 + 1) f_o_fresh f_o_sample f_o_group f_o_groups  _ _ (hP.sub [0, 1, 2, 3] rfl) (hD.sub [0, 1, 2, 3] (by decide) rfl) hS _ (lv_sub hl [2, 3, 4, 0] rfl) h
        · replace h := h.2 hc
          refine lv_aload_n hx hb d_M_number_101 rfl (lv_at hl 1 rfl) ?_
          refine va_get (ci := 12) (v := .ref (ad 50)) hx hb htg in_M hown hK (gR hR rN hS) 0 rfl rfl 50 (by decide) (htg _ m_660) (fun _ h9 => h9) rfl d_M_number_102 ?_
          refine lv_aload_n hx hb d_M_number_105 rfl (lv_at hl 1 rfl) ?_
          refine lv_iload_n hx hb d_M_number_106 rfl (lv_at hl 2 rfl) ?_
          refine lv_iload hx hb d_M_number_107 (lv_at hl 0 rfl) ?_
          have hPc : va_P G vwCl [(a0, .inr (12, oM v_o_code v_o_typed v_o_rules v_o_at v_o_read v_o_depth v_o_wrong v_o_there v_o_ended v_o_mode v_o_kept v_o_came v_o_pending v_o_looked v_o_tokens v_o_oldest ad)), ((ad 31), .inl (K 0, 1542, .inl f_o_group))] _ := (hP.app (gR hR rN hS)).sub [4, 2] rfl
          refine vp_callSi (va_Run.run (va_runV (As := [.int x1, .int r7901]) (rest := [.ref (ad 50)]) ⟨hx, hb, hml, hown, htg⟩ (k_M_groupAt l G K a0 ad v_o_code v_o_typed v_o_rules v_o_at v_o_read v_o_depth v_o_wrong v_o_there v_o_ended v_o_mode v_o_kept v_o_came v_o_pending v_o_looked v_o_tokens v_o_oldest f_o_group x1 r7901 _ h) (cwV 2 htg (gGoodV m_749 m_750 m_886 m_13 m_751) rfl rfl rfl (by decide +kernel) ⟨(Nat.le_of_ble_eq_true rfl), (Nat.le_of_ble_eq_true rfl)⟩) (gS_preV (ci := 12) (q0 := 0) hK hN hPc rfl rfl) rfl rfl hl.1 rfl (lv_room (Nat.le_of_ble_eq_true rfl)) d_M_number_109 ⟨(Nat.le_of_ble_eq_true rfl), (Nat.le_of_ble_eq_true rfl)⟩)) (fun r7902 h => ?_)
          obtain ⟨hin, h⟩ := h
          refine va_iald hx hb hK hP 0 0 rfl rfl hin d_M_number_112 ?_
          refine lv_iconst (v := (-1)) hx hb d_M_number_113 (by decide) ?_
          refine lv_icmp_eq (tgt := 120) hx hb d_M_number_114 (by decide) (fun hc => ?_) (fun hc => ?_)
          · replace h := h.1 hc
            refine lv_aload_n hx hb d_M_number_120 rfl (lv_at hl 1 rfl) ?_
            refine va_get (ci := 12) (v := .ref (ad 50)) hx hb htg in_M hown hK (gR hR rN hS) 0 rfl rfl 50 (by decide) (htg _ m_660) (fun _ h9 => h9) rfl d_M_number_121 ?_
            refine lv_aload_n hx hb d_M_number_124 rfl (lv_at hl 1 rfl) ?_
            refine lv_iload_n hx hb d_M_number_125 rfl (lv_at hl 2 rfl) ?_
            refine lv_iload hx hb d_M_number_126 (lv_at hl 0 rfl) ?_
            have hPc : va_P G vwCl [(a0, .inr (12, oM v_o_code v_o_typed v_o_rules v_o_at v_o_read v_o_depth v_o_wrong v_o_there v_o_ended v_o_mode v_o_kept v_o_came v_o_pending v_o_looked v_o_tokens v_o_oldest ad)), ((ad 31), .inl (K 0, 1542, .inl f_o_group))] _ := (hP.app (gR hR rN hS)).sub [4, 2] rfl
            refine vp_callSi (va_Run.run (va_runV (As := [.int x1, .int r7901]) (rest := [.ref (ad 50)]) ⟨hx, hb, hml, hown, htg⟩ (k_M_groupAt l G K a0 ad v_o_code v_o_typed v_o_rules v_o_at v_o_read v_o_depth v_o_wrong v_o_there v_o_ended v_o_mode v_o_kept v_o_came v_o_pending v_o_looked v_o_tokens v_o_oldest f_o_group x1 r7901 _ h) (cwV 2 htg (gGoodV m_749 m_750 m_886 m_13 m_751) rfl rfl rfl (by decide +kernel) ⟨(Nat.le_of_ble_eq_true rfl), (Nat.le_of_ble_eq_true rfl)⟩) (gS_preV (ci := 12) (q0 := 0) hK hN hPc rfl rfl) rfl rfl hl.1 rfl (lv_room (Nat.le_of_ble_eq_true rfl)) d_M_number_128 ⟨(Nat.le_of_ble_eq_true rfl), (Nat.le_of_ble_eq_true rfl)⟩)) (fun r7903 h => ?_)
            refine lv_aload_n hx hb d_M_number_131 rfl (lv_at hl 1 rfl) ?_
            refine va_get (ci := 12) (v := .ref (ad 32)) hx hb htg in_M hown hK (gR hR rN hS) 0 rfl rfl 32 (by decide) (htg _ m_642) (fun _ h9 => h9) rfl d_M_number_132 ?_
            refine lv_iload_n hx hb d_M_number_135 rfl (lv_at hl 2 rfl) ?_
            obtain ⟨hin, h⟩ := h
            refine va_iald hx hb hK hP 3 0 rfl rfl hin d_M_number_136 ?_
            obtain ⟨hin, h⟩ := h
            refine va_iast hx hb hK hP hD hS 0 0 rfl rfl hin d_M_number_137 (fun H locs hP hD hS => ?_)
            have hP : va_P G vwCl [((ad 50), .inl (K 0, 514, .inl (upd f_o_fresh r7903.toNatClampNeg (f_o_groups x1.toNatClampNeg)))), ((ad 33), .inl (K 0, 1542, .inl f_o_sample)), ((ad 31), .inl (K 0, 1542, .inl f_o_group)), ((ad 32), .inl (K 0, 3, .inl f_o_groups))] H := hP
            have hD : va_D A [((ad 50), .inl (K 0, 514, .inl (upd f_o_fresh r7903.toNatClampNeg (f_o_groups x1.toNatClampNeg)))), ((ad 33), .inl (K 0, 1542, .inl f_o_sample)), ((ad 31), .inl (K 0, 1542, .inl f_o_group)), ((ad 32), .inl (K 0, 3, .inl f_o_groups))] := hD
            refine lv_aload_n hx hb d_M_number_138 rfl (lv_at hl 1 rfl) ?_
            refine va_get (ci := 12) (v := .ref (ad 33)) hx hb htg in_M hown hK (gR hR rN hS) 0 rfl rfl 33 (by decide) (htg _ m_643) (fun _ h9 => h9) rfl d_M_number_139 ?_
            refine lv_sipush (v := 514) hx hb d_M_number_142 (by decide) ?_
            refine lv_iload_n hx hb d_M_number_145 rfl (lv_at hl 2 rfl) ?_
            refine lv_imul hx hb d_M_number_146 ?_
            refine lv_aload_n hx hb d_M_number_147 rfl (lv_at hl 1 rfl) ?_
            refine va_get (ci := 12) (v := .ref (ad 32)) hx hb htg in_M hown hK (gR hR rN hS) 0 rfl rfl 32 (by decide) (htg _ m_642) (fun _ h9 => h9) rfl d_M_number_148 ?_
            refine lv_iload_n hx hb d_M_number_151 rfl (lv_at hl 2 rfl) ?_
            obtain ⟨hin, h⟩ := h
            refine va_iald hx hb hK hP 3 0 rfl rfl hin d_M_number_152 ?_
            refine lv_iadd hx hb d_M_number_153 ?_
            refine lv_iload hx hb d_M_number_154 (lv_at hl 0 rfl) ?_
            obtain ⟨hin, h⟩ := h
            refine va_iast hx hb hK hP hD hS 1 0 rfl rfl hin d_M_number_156 (fun H locs hP hD hS => ?_)
            have hP : va_P G vwCl [((ad 50), .inl (K 0, 514, .inl (upd f_o_fresh r7903.toNatClampNeg (f_o_groups x1.toNatClampNeg)))), ((ad 33), .inl (K 0, 1542, .inl (upd f_o_sample ((514 * x1) + (f_o_groups x1.toNatClampNeg)).toNatClampNeg r7901))), ((ad 31), .inl (K 0, 1542, .inl f_o_group)), ((ad 32), .inl (K 0, 3, .inl f_o_groups))] H := hP
            have hD : va_D A [((ad 50), .inl (K 0, 514, .inl (upd f_o_fresh r7903.toNatClampNeg (f_o_groups x1.toNatClampNeg)))), ((ad 33), .inl (K 0, 1542, .inl (upd f_o_sample ((514 * x1) + (f_o_groups x1.toNatClampNeg)).toNatClampNeg r7901))), ((ad 31), .inl (K 0, 1542, .inl f_o_group)), ((ad 32), .inl (K 0, 3, .inl f_o_groups))] := hD
            refine lv_aload_n hx hb d_M_number_157 rfl (lv_at hl 1 rfl) ?_
            refine va_get (ci := 12) (v := .ref (ad 32)) hx hb htg in_M hown hK (gR hR rN hS) 0 rfl rfl 32 (by decide) (htg _ m_642) (fun _ h9 => h9) rfl d_M_number_158 ?_
            refine lv_iload_n hx hb d_M_number_161 rfl (lv_at hl 2 rfl) ?_
            refine lv_dup2_11 hx hb d_M_number_162 rfl rfl ?_
            obtain ⟨hin, h⟩ := h
            refine va_iald hx hb hK hP 3 0 rfl rfl hin d_M_number_163 ?_
            refine lv_iconst (v := 1) hx hb d_M_number_164 (by decide) ?_
            refine lv_iadd hx hb d_M_number_165 ?_
            obtain ⟨hin, h⟩ := h
            refine va_iast hx hb hK hP hD hS 3 0 rfl rfl hin d_M_number_166 (fun H locs hP hD hS => ?_)
            have hP : va_P G vwCl [((ad 50), .inl (K 0, 514, .inl (upd f_o_fresh r7903.toNatClampNeg (f_o_groups x1.toNatClampNeg)))), ((ad 33), .inl (K 0, 1542, .inl (upd f_o_sample ((514 * x1) + (f_o_groups x1.toNatClampNeg)).toNatClampNeg r7901))), ((ad 31), .inl (K 0, 1542, .inl f_o_group)), ((ad 32), .inl (K 0, 3, .inl (upd f_o_groups x1.toNatClampNeg ((f_o_groups x1.toNatClampNeg) + 1))))] H := hP
            have hD : va_D A [((ad 50), .inl (K 0, 514, .inl (upd f_o_fresh r7903.toNatClampNeg (f_o_groups x1.toNatClampNeg)))), ((ad 33), .inl (K 0, 1542, .inl (upd f_o_sample ((514 * x1) + (f_o_groups x1.toNatClampNeg)).toNatClampNeg r7901))), ((ad 31), .inl (K 0, 1542, .inl f_o_group)), ((ad 32), .inl (K 0, 3, .inl (upd f_o_groups x1.toNatClampNeg ((f_o_groups x1.toNatClampNeg) + 1))))] := hD
            refine lv_iinc (v := (l3 + 1)) (lv' := [(3, .int (l3 + 1)), (4, .int r7901), (0, .ref a0), (1, .int x1), (2, .int l2)]) hx hb d_M_number_167 hl (k := 4) rfl (by first | rfl | decide) (by decide) rfl (fun ls hl => ?_)
            refine lv_goto (tgt := 69) hx hb d_M_number_170 (by decide) ?_
            exact ih l2 (l3 + 1) (upd f_o_fresh r7903.toNatClampNeg (f_o_groups x1.toNatClampNeg)) (upd f_o_sample ((514 * x1) + (f_o_groups x1.toNatClampNeg)).toNatClampNeg r7901) f_o_group (upd f_o_groups x1.toNatClampNeg ((f_o_groups x1.toNatClampNeg) + 1))  _ _ (hP.sub [0, 1, 2, 3] rfl) (hD.sub [0, 1, 2, 3] (by decide) rfl) hS _ (lv_sub hl [2, 3, 4, 0] rfl) h
          · replace h := h.2 hc
            refine lv_goto (tgt := 167) hx hb d_M_number_117 (by decide) ?_
            refine lv_iinc (v := (l3 + 1)) (lv' := [(3, .int (l3 + 1)), (4, .int r7901), (0, .ref a0), (1, .int x1), (2, .int l2)]) hx hb d_M_number_167 hl (k := 4) rfl (by first | rfl | decide) (by decide) rfl (fun ls hl => ?_)
            refine lv_goto (tgt := 69) hx hb d_M_number_170 (by decide) ?_
            exact ih l2 (l3 + 1) f_o_fresh f_o_sample f_o_group f_o_groups  _ _ (hP.sub [0, 1, 2, 3] rfl) (hD.sub [0, 1, 2, 3] (by decide) rfl) hS _ (lv_sub hl [2, 3, 4, 0] rfl) h
  have C_57 : ∀ (n : Nat) (l2 : Int32) (f_o_fresh : (Nat → Int32)) (f_o_sample : (Nat → Int32)) (f_o_group : (Nat → Int32)) (f_o_groups : (Nat → Int32)) (H : Heap) (locs : List Loc), va_P G vwCl [((ad 50), .inl (K 0, 514, .inl f_o_fresh)), ((ad 33), .inl (K 0, 1542, .inl f_o_sample)), ((ad 31), .inl (K 0, 1542, .inl f_o_group)), ((ad 32), .inl (K 0, 3, .inl f_o_groups))] H → va_D A [((ad 50), .inl (K 0, 514, .inl f_o_fresh)), ((ad 33), .inl (K 0, 1542, .inl f_o_sample)), ((ad 31), .inl (K 0, 1542, .inl f_o_group)), ((ad 32), .inl (K 0, 3, .inl f_o_groups))] → va_S A s.heap H locs → ∀ (ls : Array Slot), lv_has ls 5 [(0, .ref a0), (1, .int x1), (2, .int l2)] → p_M_number_57 f_o_nodes f_o_step x1 post n l2 f_o_fresh f_o_sample f_o_group f_o_groups → W p l e { frames := 1, cells := 0, slots := 0, locals := 23 } s m ([.ref a0, .int x1] : List Value).toArray below meth c H locs 0 0 Q (F0 m 57 ls []) := by
    intro n
    induction n with
    | zero =>
      intro l2 f_o_fresh f_o_sample f_o_group f_o_groups  H locs hP hD hS ls hl h
      exact False.elim h
    | succ n ih =>
      intro l2 f_o_fresh f_o_sample f_o_group f_o_groups  H locs hP hD hS ls hl h
      refine lv_iload_n hx hb d_M_number_57 rfl (lv_at hl 2 rfl) ?_
      refine lv_aload_n hx hb d_M_number_58 rfl (lv_at hl 0 rfl) ?_
      refine va_get (ci := 12) (v := .ref (ad 32)) hx hb htg in_M hown hK (gR hR rN hS) 0 rfl rfl 32 (by decide) (htg _ m_642) (fun _ h9 => h9) rfl d_M_number_59 ?_
      refine lv_iload_n hx hb d_M_number_62 rfl (lv_at hl 1 rfl) ?_
      obtain ⟨hin, h⟩ := h
      refine va_iald hx hb hK hP 3 0 rfl rfl hin d_M_number_63 ?_
      refine lv_icmp_ge (tgt := 179) hx hb d_M_number_64 (by decide) (fun hc => ?_) (fun hc => ?_)
      · replace h := h.1 hc
        exact C_179 f_o_fresh f_o_sample f_o_group f_o_groups  _ _ (hP.sub [0, 1, 2, 3] rfl) (hD.sub [0, 1, 2, 3] (by decide) rfl) hS _ (lv_sub hl [0, 1] rfl) h
      · replace h := h.2 hc
        refine lv_iconst (v := 0) hx hb d_M_number_67 (by decide) ?_
        refine lv_istore_n (lv' := [(3, .int 0), (0, .ref a0), (1, .int x1), (2, .int l2)]) hx hb d_M_number_68 rfl hl (by decide) rfl (fun ls hl => ?_)
        obtain ⟨k, h⟩ := h
        exact C_69 _ ih k l2 0 f_o_fresh f_o_sample f_o_group f_o_groups  _ _ (hP.sub [0, 1, 2, 3] rfl) (hD.sub [0, 1, 2, 3] (by decide) rfl) hS _ (lv_sub hl [1, 2, 3, 0] rfl) h
  have C_25 : ∀ (f_o_fresh : (Nat → Int32)) (f_o_sample : (Nat → Int32)) (f_o_group : (Nat → Int32)) (f_o_groups : (Nat → Int32)) (H : Heap) (locs : List Loc), va_P G vwCl [((ad 50), .inl (K 0, 514, .inl f_o_fresh)), ((ad 33), .inl (K 0, 1542, .inl f_o_sample)), ((ad 31), .inl (K 0, 1542, .inl f_o_group)), ((ad 32), .inl (K 0, 3, .inl f_o_groups))] H → va_D A [((ad 50), .inl (K 0, 514, .inl f_o_fresh)), ((ad 33), .inl (K 0, 1542, .inl f_o_sample)), ((ad 31), .inl (K 0, 1542, .inl f_o_group)), ((ad 32), .inl (K 0, 3, .inl f_o_groups))] → va_S A s.heap H locs → ∀ (ls : Array Slot), lv_has ls 5 [(0, .ref a0), (1, .int x1)] → p_M_number_25 f_o_nodes f_o_step x1 post f_o_fresh f_o_sample f_o_group f_o_groups → W p l e { frames := 1, cells := 0, slots := 0, locals := 23 } s m ([.ref a0, .int x1] : List Value).toArray below meth c H locs 0 0 Q (F0 m 25 ls []) := by
    intro  f_o_fresh f_o_sample f_o_group f_o_groups  H locs hP hD hS ls hl h
    refine lv_aload_n hx hb d_M_number_25 rfl (lv_at hl 0 rfl) ?_
    refine va_get (ci := 12) (v := .ref (ad 33)) hx hb htg in_M hown hK (gR hR rN hS) 0 rfl rfl 33 (by decide) (htg _ m_643) (fun _ h9 => h9) rfl d_M_number_26 ?_
    refine lv_sipush (v := 514) hx hb d_M_number_29 (by decide) ?_
    refine lv_iload_n hx hb d_M_number_32 rfl (lv_at hl 1 rfl) ?_
    refine lv_imul hx hb d_M_number_33 ?_
    refine lv_iconst (v := 0) hx hb d_M_number_34 (by decide) ?_
    obtain ⟨hin, h⟩ := h
    refine va_iast hx hb hK hP hD hS 1 0 rfl rfl hin d_M_number_35 (fun H locs hP hD hS => ?_)
    have hP : va_P G vwCl [((ad 50), .inl (K 0, 514, .inl f_o_fresh)), ((ad 33), .inl (K 0, 1542, .inl (upd f_o_sample (514 * x1).toNatClampNeg 0))), ((ad 31), .inl (K 0, 1542, .inl f_o_group)), ((ad 32), .inl (K 0, 3, .inl f_o_groups))] H := hP
    have hD : va_D A [((ad 50), .inl (K 0, 514, .inl f_o_fresh)), ((ad 33), .inl (K 0, 1542, .inl (upd f_o_sample (514 * x1).toNatClampNeg 0))), ((ad 31), .inl (K 0, 1542, .inl f_o_group)), ((ad 32), .inl (K 0, 3, .inl f_o_groups))] := hD
    refine lv_aload_n hx hb d_M_number_36 rfl (lv_at hl 0 rfl) ?_
    refine va_get (ci := 12) (v := .ref (ad 50)) hx hb htg in_M hown hK (gR hR rN hS) 0 rfl rfl 50 (by decide) (htg _ m_660) (fun _ h9 => h9) rfl d_M_number_37 ?_
    refine lv_aload_n hx hb d_M_number_40 rfl (lv_at hl 0 rfl) ?_
    refine lv_iload_n hx hb d_M_number_41 rfl (lv_at hl 1 rfl) ?_
    refine lv_iconst (v := 0) hx hb d_M_number_42 (by decide) ?_
    have hPc : va_P G vwCl [(a0, .inr (12, oM v_o_code v_o_typed v_o_rules v_o_at v_o_read v_o_depth v_o_wrong v_o_there v_o_ended v_o_mode v_o_kept v_o_came v_o_pending v_o_looked v_o_tokens v_o_oldest ad)), ((ad 31), .inl (K 0, 1542, .inl f_o_group))] _ := (hP.app (gR hR rN hS)).sub [4, 2] rfl
    refine vp_callSi (va_Run.run (va_runV (As := [.int x1, .int 0]) (rest := [.ref (ad 50)]) ⟨hx, hb, hml, hown, htg⟩ (k_M_groupAt l G K a0 ad v_o_code v_o_typed v_o_rules v_o_at v_o_read v_o_depth v_o_wrong v_o_there v_o_ended v_o_mode v_o_kept v_o_came v_o_pending v_o_looked v_o_tokens v_o_oldest f_o_group x1 0 _ h) (cwV 2 htg (gGoodV m_749 m_750 m_886 m_13 m_751) rfl rfl rfl (by decide +kernel) ⟨(Nat.le_of_ble_eq_true rfl), (Nat.le_of_ble_eq_true rfl)⟩) (gS_preV (ci := 12) (q0 := 0) hK hN hPc rfl rfl) rfl rfl hl.1 rfl (lv_room (Nat.le_of_ble_eq_true rfl)) d_M_number_43 ⟨(Nat.le_of_ble_eq_true rfl), (Nat.le_of_ble_eq_true rfl)⟩)) (fun r3501 h => ?_)
    refine lv_iconst (v := 0) hx hb d_M_number_46 (by decide) ?_
    obtain ⟨hin, h⟩ := h
    refine va_iast hx hb hK hP hD hS 0 0 rfl rfl hin d_M_number_47 (fun H locs hP hD hS => ?_)
    have hP : va_P G vwCl [((ad 50), .inl (K 0, 514, .inl (upd f_o_fresh r3501.toNatClampNeg 0))), ((ad 33), .inl (K 0, 1542, .inl (upd f_o_sample (514 * x1).toNatClampNeg 0))), ((ad 31), .inl (K 0, 1542, .inl f_o_group)), ((ad 32), .inl (K 0, 3, .inl f_o_groups))] H := hP
    have hD : va_D A [((ad 50), .inl (K 0, 514, .inl (upd f_o_fresh r3501.toNatClampNeg 0))), ((ad 33), .inl (K 0, 1542, .inl (upd f_o_sample (514 * x1).toNatClampNeg 0))), ((ad 31), .inl (K 0, 1542, .inl f_o_group)), ((ad 32), .inl (K 0, 3, .inl f_o_groups))] := hD
    refine lv_aload_n hx hb d_M_number_48 rfl (lv_at hl 0 rfl) ?_
    refine va_get (ci := 12) (v := .ref (ad 32)) hx hb htg in_M hown hK (gR hR rN hS) 0 rfl rfl 32 (by decide) (htg _ m_642) (fun _ h9 => h9) rfl d_M_number_49 ?_
    refine lv_iload_n hx hb d_M_number_52 rfl (lv_at hl 1 rfl) ?_
    refine lv_iconst (v := 1) hx hb d_M_number_53 (by decide) ?_
    obtain ⟨hin, h⟩ := h
    refine va_iast hx hb hK hP hD hS 3 0 rfl rfl hin d_M_number_54 (fun H locs hP hD hS => ?_)
    have hP : va_P G vwCl [((ad 50), .inl (K 0, 514, .inl (upd f_o_fresh r3501.toNatClampNeg 0))), ((ad 33), .inl (K 0, 1542, .inl (upd f_o_sample (514 * x1).toNatClampNeg 0))), ((ad 31), .inl (K 0, 1542, .inl f_o_group)), ((ad 32), .inl (K 0, 3, .inl (upd f_o_groups x1.toNatClampNeg 1)))] H := hP
    have hD : va_D A [((ad 50), .inl (K 0, 514, .inl (upd f_o_fresh r3501.toNatClampNeg 0))), ((ad 33), .inl (K 0, 1542, .inl (upd f_o_sample (514 * x1).toNatClampNeg 0))), ((ad 31), .inl (K 0, 1542, .inl f_o_group)), ((ad 32), .inl (K 0, 3, .inl (upd f_o_groups x1.toNatClampNeg 1)))] := hD
    refine lv_iconst (v := 0) hx hb d_M_number_55 (by decide) ?_
    refine lv_istore_n (lv' := [(2, .int 0), (0, .ref a0), (1, .int x1)]) hx hb d_M_number_56 rfl hl (by decide) rfl (fun ls hl => ?_)
    obtain ⟨k, h⟩ := h
    exact C_57 k 0 (upd f_o_fresh r3501.toNatClampNeg 0) (upd f_o_sample (514 * x1).toNatClampNeg 0) f_o_group (upd f_o_groups x1.toNatClampNeg 1)  _ _ (hP.sub [0, 1, 2, 3] rfl) (hD.sub [0, 1, 2, 3] (by decide) rfl) hS _ (lv_sub hl [1, 2, 0] rfl) h
  have C_2 : ∀ (n : Nat) (l2 : Int32) (f_o_fresh : (Nat → Int32)) (f_o_sample : (Nat → Int32)) (f_o_group : (Nat → Int32)) (f_o_groups : (Nat → Int32)) (H : Heap) (locs : List Loc), va_P G vwCl [((ad 50), .inl (K 0, 514, .inl f_o_fresh)), ((ad 33), .inl (K 0, 1542, .inl f_o_sample)), ((ad 31), .inl (K 0, 1542, .inl f_o_group)), ((ad 32), .inl (K 0, 3, .inl f_o_groups))] H → va_D A [((ad 50), .inl (K 0, 514, .inl f_o_fresh)), ((ad 33), .inl (K 0, 1542, .inl f_o_sample)), ((ad 31), .inl (K 0, 1542, .inl f_o_group)), ((ad 32), .inl (K 0, 3, .inl f_o_groups))] → va_S A s.heap H locs → ∀ (ls : Array Slot), lv_has ls 5 [(0, .ref a0), (1, .int x1), (2, .int l2)] → p_M_number_2 f_o_nodes f_o_step x1 post n l2 f_o_fresh f_o_sample f_o_group f_o_groups → W p l e { frames := 1, cells := 0, slots := 0, locals := 23 } s m ([.ref a0, .int x1] : List Value).toArray below meth c H locs 0 0 Q (F0 m 2 ls []) := by
    intro n
    induction n with
    | zero =>
      intro l2 f_o_fresh f_o_sample f_o_group f_o_groups  H locs hP hD hS ls hl h
      exact False.elim h
    | succ n ih =>
      intro l2 f_o_fresh f_o_sample f_o_group f_o_groups  H locs hP hD hS ls hl h
      refine lv_iload_n hx hb d_M_number_2 rfl (lv_at hl 2 rfl) ?_
      refine lv_aload_n hx hb d_M_number_3 rfl (lv_at hl 0 rfl) ?_
      refine va_get (ci := 12) (v := .ref (ad 28)) hx hb htg in_M hown hK (gR hR rN hS) 0 rfl rfl 28 (by decide) (htg _ m_638) (fun _ h9 => h9) rfl d_M_number_4 ?_
      refine lv_iload_n hx hb d_M_number_7 rfl (lv_at hl 1 rfl) ?_
      obtain ⟨hin, h⟩ := h
      refine va_iald hx hb hK (gR hR rN hS) 1 0 rfl rfl hin d_M_number_8 ?_
      refine lv_icmp_ge (tgt := 25) hx hb d_M_number_9 (by decide) (fun hc => ?_) (fun hc => ?_)
      · replace h := h.1 hc
        exact C_25 f_o_fresh f_o_sample f_o_group f_o_groups  _ _ (hP.sub [0, 1, 2, 3] rfl) (hD.sub [0, 1, 2, 3] (by decide) rfl) hS _ (lv_sub hl [0, 1] rfl) h
      · replace h := h.2 hc
        refine lv_aload_n hx hb d_M_number_12 rfl (lv_at hl 0 rfl) ?_
        refine va_get (ci := 12) (v := .ref (ad 50)) hx hb htg in_M hown hK (gR hR rN hS) 0 rfl rfl 50 (by decide) (htg _ m_660) (fun _ h9 => h9) rfl d_M_number_13 ?_
        refine lv_iload_n hx hb d_M_number_16 rfl (lv_at hl 2 rfl) ?_
        refine lv_iconst (v := (-1)) hx hb d_M_number_17 (by decide) ?_
        obtain ⟨hin, h⟩ := h
        refine va_iast hx hb hK hP hD hS 0 0 rfl rfl hin d_M_number_18 (fun H locs hP hD hS => ?_)
        have hP : va_P G vwCl [((ad 50), .inl (K 0, 514, .inl (upd f_o_fresh l2.toNatClampNeg (-1)))), ((ad 33), .inl (K 0, 1542, .inl f_o_sample)), ((ad 31), .inl (K 0, 1542, .inl f_o_group)), ((ad 32), .inl (K 0, 3, .inl f_o_groups))] H := hP
        have hD : va_D A [((ad 50), .inl (K 0, 514, .inl (upd f_o_fresh l2.toNatClampNeg (-1)))), ((ad 33), .inl (K 0, 1542, .inl f_o_sample)), ((ad 31), .inl (K 0, 1542, .inl f_o_group)), ((ad 32), .inl (K 0, 3, .inl f_o_groups))] := hD
        refine lv_iinc (v := (l2 + 1)) (lv' := [(2, .int (l2 + 1)), (0, .ref a0), (1, .int x1)]) hx hb d_M_number_19 hl (k := 2) rfl (by first | rfl | decide) (by decide) rfl (fun ls hl => ?_)
        refine lv_goto (tgt := 2) hx hb d_M_number_22 (by decide) ?_
        exact ih (l2 + 1) (upd f_o_fresh l2.toNatClampNeg (-1)) f_o_sample f_o_group f_o_groups  _ _ (hP.sub [0, 1, 2, 3] rfl) (hD.sub [0, 1, 2, 3] (by decide) rfl) hS _ (lv_sub hl [1, 2, 0] rfl) h
  refine lv_iconst (v := 0) hx hb d_M_number_0 (by decide) ?_
  refine lv_istore_n (lv' := [(2, .int 0), (0, .ref a0), (1, .int x1)]) hx hb d_M_number_1 rfl hl (by decide) rfl (fun ls hl => ?_)
  obtain ⟨k, h⟩ := h
  exact C_2 k 0 f_o_fresh f_o_sample f_o_group f_o_groups  _ _ (hP.sub [0, 1, 2, 3] rfl) (hD.sub [0, 1, 2, 3] (by decide) rfl) hS _ (lv_sub hl [1, 2, 0] rfl) h
def p_M_make_165 (x1 : Int32) (post : (Nat → Int32) → (Nat → Int32) → (Nat → Int32) → (Nat → Int32) → (Nat → Int32) → (Nat → Int32) → (Nat → Int32) → (Nat → Int32) → Prop) (f_o_made : (Nat → Int32)) (f_o_nodes : (Nat → Int32)) (f_o_set : (Nat → Int32)) (f_o_step : (Nat → Int32)) (f_o_group : (Nat → Int32)) (f_o_sample : (Nat → Int32)) (f_o_fresh : (Nat → Int32)) (f_o_groups : (Nat → Int32)) : Prop := (p_M_number f_o_nodes f_o_fresh f_o_sample f_o_group f_o_groups f_o_step x1 (fun u17501 u17502 u17503 u17504 => (post f_o_made f_o_nodes f_o_set f_o_step u17503 u17502 u17501 u17504)))
def p_M_make_149 (x1 : Int32) (post : (Nat → Int32) → (Nat → Int32) → (Nat → Int32) → (Nat → Int32) → (Nat → Int32) → (Nat → Int32) → (Nat → Int32) → (Nat → Int32) → Prop) : Nat → Int32 → Int32 → (Nat → Int32) → (Nat → Int32) → (Nat → Int32) → (Nat → Int32) → (Nat → Int32) → (Nat → Int32) → (Nat → Int32) → (Nat → Int32) → Prop
  | 0, _, _, _, _, _, _, _, _, _, _ => False
  | n + 1, l2, l3, f_o_made, f_o_nodes, f_o_set, f_o_step, f_o_group, f_o_sample, f_o_fresh, f_o_groups => ((l3 = l2 → (p_M_make_165 x1 post f_o_made f_o_nodes f_o_set f_o_step f_o_group f_o_sample f_o_fresh f_o_groups)) ∧ (¬ l3 = l2 → (p_M_split f_o_nodes f_o_sample f_o_group f_o_step f_o_fresh x1 (fun r15904 u15901 u15902 u15903 => (p_M_make_149 x1 post n l3 r15904 f_o_made f_o_nodes f_o_set f_o_step u15902 u15901 u15903 f_o_groups)))))
def p_M_make_145 (x1 : Int32) (post : (Nat → Int32) → (Nat → Int32) → (Nat → Int32) → (Nat → Int32) → (Nat → Int32) → (Nat → Int32) → (Nat → Int32) → (Nat → Int32) → Prop) (f_o_made : (Nat → Int32)) (f_o_nodes : (Nat → Int32)) (f_o_set : (Nat → Int32)) (f_o_step : (Nat → Int32)) (f_o_group : (Nat → Int32)) (f_o_sample : (Nat → Int32)) (f_o_fresh : (Nat → Int32)) (f_o_groups : (Nat → Int32)) : Prop := (∃ k, p_M_make_149 x1 post k (-1) 0 f_o_made f_o_nodes f_o_set f_o_step f_o_group f_o_sample f_o_fresh f_o_groups)
def p_M_make_111 (v_o_rules : Int32) (f_o_modeOf : (Nat → Int32)) (f_o_lastOf : (Nat → Int32)) (x1 : Int32) (post : (Nat → Int32) → (Nat → Int32) → (Nat → Int32) → (Nat → Int32) → (Nat → Int32) → (Nat → Int32) → (Nat → Int32) → (Nat → Int32) → Prop) : Nat → Int32 → (Nat → Int32) → (Nat → Int32) → (Nat → Int32) → (Nat → Int32) → (Nat → Int32) → (Nat → Int32) → (Nat → Int32) → (Nat → Int32) → Prop
  | 0, _, _, _, _, _, _, _, _, _ => False
  | n + 1, l2, f_o_made, f_o_nodes, f_o_set, f_o_step, f_o_group, f_o_sample, f_o_fresh, f_o_groups => (vp_in x1 3 ∧ (((f_o_nodes x1.toNatClampNeg) ≤ l2 → (p_M_make_145 x1 post f_o_made f_o_nodes f_o_set f_o_step f_o_group f_o_sample f_o_fresh f_o_groups)) ∧ (¬ (f_o_nodes x1.toNatClampNeg) ≤ l2 → (p_M_wins v_o_rules f_o_modeOf f_o_set f_o_lastOf x1 l2 (fun r12101 => (vp_in ((514 * x1) + l2) 1542 ∧ (p_M_make_111 v_o_rules f_o_modeOf f_o_lastOf x1 post n (l2 + 1) f_o_made f_o_nodes f_o_set f_o_step (upd f_o_group ((514 * x1) + l2).toNatClampNeg r12101) f_o_sample f_o_fresh f_o_groups)))))))
def p_M_make_109 (v_o_rules : Int32) (f_o_modeOf : (Nat → Int32)) (f_o_lastOf : (Nat → Int32)) (x1 : Int32) (post : (Nat → Int32) → (Nat → Int32) → (Nat → Int32) → (Nat → Int32) → (Nat → Int32) → (Nat → Int32) → (Nat → Int32) → (Nat → Int32) → Prop) (f_o_made : (Nat → Int32)) (f_o_nodes : (Nat → Int32)) (f_o_set : (Nat → Int32)) (f_o_step : (Nat → Int32)) (f_o_group : (Nat → Int32)) (f_o_sample : (Nat → Int32)) (f_o_fresh : (Nat → Int32)) (f_o_groups : (Nat → Int32)) : Prop := (∃ k, p_M_make_111 v_o_rules f_o_modeOf f_o_lastOf x1 post k 0 f_o_made f_o_nodes f_o_set f_o_step f_o_group f_o_sample f_o_fresh f_o_groups)
def p_M_make_103  (post : (Nat → Int32) → (Nat → Int32) → (Nat → Int32) → (Nat → Int32) → (Nat → Int32) → (Nat → Int32) → (Nat → Int32) → (Nat → Int32) → Prop) (K_26 : Int32 → (Nat → Int32) → (Nat → Int32) → (Nat → Int32) → (Nat → Int32) → (Nat → Int32) → (Nat → Int32) → (Nat → Int32) → (Nat → Int32) → Prop) (l2 : Int32) (f_o_made : (Nat → Int32)) (f_o_nodes : (Nat → Int32)) (f_o_set : (Nat → Int32)) (f_o_step : (Nat → Int32)) (f_o_group : (Nat → Int32)) (f_o_sample : (Nat → Int32)) (f_o_fresh : (Nat → Int32)) (f_o_groups : (Nat → Int32)) : Prop := (K_26 (l2 + 1) f_o_made f_o_nodes f_o_set f_o_step f_o_group f_o_sample f_o_fresh f_o_groups)
def p_M_make_46 (f_o_many : (Nat → Int32)) (f_o_letters : (Nat → Int32)) (x1 : Int32) (post : (Nat → Int32) → (Nat → Int32) → (Nat → Int32) → (Nat → Int32) → (Nat → Int32) → (Nat → Int32) → (Nat → Int32) → (Nat → Int32) → Prop) (K_26 : Int32 → (Nat → Int32) → (Nat → Int32) → (Nat → Int32) → (Nat → Int32) → (Nat → Int32) → (Nat → Int32) → (Nat → Int32) → (Nat → Int32) → Prop) : Nat → Int32 → Int32 → Int32 → (Nat → Int32) → (Nat → Int32) → (Nat → Int32) → (Nat → Int32) → (Nat → Int32) → (Nat → Int32) → (Nat → Int32) → (Nat → Int32) → Prop
  | 0, _, _, _, _, _, _, _, _, _, _, _ => False
  | n + 1, l2, l3, l4, f_o_made, f_o_nodes, f_o_set, f_o_step, f_o_group, f_o_sample, f_o_fresh, f_o_groups => ((6 ≤ l4 → (p_M_make_103 post K_26 l2 f_o_made f_o_nodes f_o_set f_o_step f_o_group f_o_sample f_o_fresh f_o_groups)) ∧ (¬ 6 ≤ l4 → (p_M_reach f_o_many f_o_letters x1 l3 l4 (fun r5601 => ((¬ r5601 = 0 → (p_M_find f_o_nodes f_o_set x1 r5601 (fun r5604 u5602 u5603 => (vp_in ((6 * ((514 * x1) + l2)) + l4) 9252 ∧ (p_M_make_46 f_o_many f_o_letters x1 post K_26 n l2 l3 (l4 + 1) f_o_made u5602 u5603 (upd f_o_step ((6 * ((514 * x1) + l2)) + l4).toNatClampNeg r5604) f_o_group f_o_sample f_o_fresh f_o_groups))))) ∧ (r5601 = 0 → (vp_in ((6 * ((514 * x1) + l2)) + l4) 9252 ∧ (p_M_make_46 f_o_many f_o_letters x1 post K_26 n l2 l3 (l4 + 1) f_o_made f_o_nodes f_o_set (upd f_o_step ((6 * ((514 * x1) + l2)) + l4).toNatClampNeg (-1)) f_o_group f_o_sample f_o_fresh f_o_groups))))))))
def p_M_make_26 (v_o_rules : Int32) (f_o_modeOf : (Nat → Int32)) (f_o_firstOf : (Nat → Int32)) (f_o_many : (Nat → Int32)) (f_o_behind : (Nat → Int32)) (f_o_letters : (Nat → Int32)) (f_o_lastOf : (Nat → Int32)) (x1 : Int32) (post : (Nat → Int32) → (Nat → Int32) → (Nat → Int32) → (Nat → Int32) → (Nat → Int32) → (Nat → Int32) → (Nat → Int32) → (Nat → Int32) → Prop) : Nat → Int32 → (Nat → Int32) → (Nat → Int32) → (Nat → Int32) → (Nat → Int32) → (Nat → Int32) → (Nat → Int32) → (Nat → Int32) → (Nat → Int32) → Prop
  | 0, _, _, _, _, _, _, _, _, _ => False
  | n + 1, l2, f_o_made, f_o_nodes, f_o_set, f_o_step, f_o_group, f_o_sample, f_o_fresh, f_o_groups => (vp_in x1 3 ∧ (((f_o_nodes x1.toNatClampNeg) ≤ l2 → (p_M_make_109 v_o_rules f_o_modeOf f_o_lastOf x1 post f_o_made f_o_nodes f_o_set f_o_step f_o_group f_o_sample f_o_fresh f_o_groups)) ∧ (¬ (f_o_nodes x1.toNatClampNeg) ≤ l2 → (p_M_may v_o_rules f_o_modeOf f_o_firstOf f_o_many f_o_set f_o_behind x1 l2 (fun r3601 => (∃ k, p_M_make_46 f_o_many f_o_letters x1 post (p_M_make_26 v_o_rules f_o_modeOf f_o_firstOf f_o_many f_o_behind f_o_letters f_o_lastOf x1 post n) k l2 r3601 0 f_o_made f_o_nodes f_o_set f_o_step f_o_group f_o_sample f_o_fresh f_o_groups))))))
def p_M_make (v_o_rules : Int32) (f_o_made : (Nat → Int32)) (f_o_nodes : (Nat → Int32)) (f_o_modeOf : (Nat → Int32)) (f_o_firstOf : (Nat → Int32)) (f_o_many : (Nat → Int32)) (f_o_set : (Nat → Int32)) (f_o_behind : (Nat → Int32)) (f_o_letters : (Nat → Int32)) (f_o_step : (Nat → Int32)) (f_o_lastOf : (Nat → Int32)) (f_o_group : (Nat → Int32)) (f_o_sample : (Nat → Int32)) (f_o_fresh : (Nat → Int32)) (f_o_groups : (Nat → Int32)) (x1 : Int32) (post : (Nat → Int32) → (Nat → Int32) → (Nat → Int32) → (Nat → Int32) → (Nat → Int32) → (Nat → Int32) → (Nat → Int32) → (Nat → Int32) → Prop) : Prop := (vp_in x1 3 ∧ (((f_o_made x1.toNatClampNeg) = 0 → (vp_in x1 3 ∧ (vp_in x1 3 ∧ (∃ k, p_M_make_26 v_o_rules f_o_modeOf f_o_firstOf f_o_many f_o_behind f_o_letters f_o_lastOf x1 post k 0 (upd f_o_made x1.toNatClampNeg (vp_nar .boolean 1)) (upd f_o_nodes x1.toNatClampNeg 1) f_o_set f_o_step f_o_group f_o_sample f_o_fresh f_o_groups)))) ∧ (¬ (f_o_made x1.toNatClampNeg) = 0 → (post f_o_made f_o_nodes f_o_set f_o_step f_o_group f_o_sample f_o_fresh f_o_groups))))
set_option maxHeartbeats 4000000 in
set_option maxRecDepth 100000 in
theorem k_M_make (l : Launch) (G : va_G) (K : Nat → ClassId) (a0 : Nat) (ad : Nat → Nat) (sz : Nat) (v_o_code : Int32) (v_o_typed : Int32) (v_o_rules : Int32) (v_o_at : Int32) (v_o_read : Int32) (v_o_depth : Int32) (v_o_wrong : Int32) (v_o_there : Int32) (v_o_ended : Int32) (v_o_mode : Int32) (v_o_kept : Int32) (v_o_came : Int32) (v_o_pending : Int32) (v_o_looked : Int32) (v_o_tokens : Int32) (v_o_oldest : Int32) (f_o_made : (Nat → Int32)) (f_o_nodes : (Nat → Int32)) (f_o_modeOf : (Nat → Int32)) (f_o_firstOf : (Nat → Int32)) (f_o_many : (Nat → Int32)) (f_o_set : (Nat → Int32)) (f_o_behind : (Nat → Int32)) (f_o_letters : (Nat → Int32)) (f_o_step : (Nat → Int32)) (f_o_lastOf : (Nat → Int32)) (f_o_group : (Nat → Int32)) (f_o_sample : (Nat → Int32)) (f_o_fresh : (Nat → Int32)) (f_o_groups : (Nat → Int32)) (x1 : Int32) (post : (Nat → Int32) → (Nat → Int32) → (Nat → Int32) → (Nat → Int32) → (Nat → Int32) → (Nat → Int32) → (Nat → Int32) → (Nat → Int32) → Prop) (h : p_M_make v_o_rules f_o_made f_o_nodes f_o_modeOf f_o_firstOf f_o_many f_o_set f_o_behind f_o_letters f_o_step f_o_lastOf f_o_group f_o_sample f_o_fresh f_o_groups x1 post) : MWv l y_M_make (.code y_M_make c_M_make 6 none) { frames := 3, cells := 0, slots := 0, locals := 74 } G K [((ad 34), .inl (K 1, 3, .inl f_o_made)), ((ad 28), .inl (K 0, 3, .inl f_o_nodes)), ((ad 29), .inl (K 0, 1542, .inl f_o_set)), ((ad 30), .inl (K 0, 9252, .inl f_o_step)), ((ad 31), .inl (K 0, 1542, .inl f_o_group)), ((ad 33), .inl (K 0, 1542, .inl f_o_sample)), ((ad 50), .inl (K 0, 514, .inl f_o_fresh)), ((ad 32), .inl (K 0, 3, .inl f_o_groups))] [(a0, .inr (12, oM v_o_code v_o_typed v_o_rules v_o_at v_o_read v_o_depth v_o_wrong v_o_there v_o_ended v_o_mode v_o_kept v_o_came v_o_pending v_o_looked v_o_tokens v_o_oldest ad)), ((ad 4), .inl (K 0, 16, .inl f_o_modeOf)), ((ad 6), .inl (K 0, 16, .inl f_o_firstOf)), ((ad 8), .inl (K 0, 3, .inl f_o_many)), ((ad 11), .inl (K 0, 27, .inl f_o_behind)), ((ad 9), .inl (K 0, 27, .inl f_o_letters)), ((ad 7), .inl (K 0, 16, .inl f_o_lastOf))] [.ref a0, .int x1] sz (fun (u : (Nat → Int32) × (Nat → Int32) × (Nat → Int32) × (Nat → Int32) × (Nat → Int32) × (Nat → Int32) × (Nat → Int32) × (Nat → Int32)) => post u.1 u.2.1 u.2.2.1 u.2.2.2.1 u.2.2.2.2.1 u.2.2.2.2.2.1 u.2.2.2.2.2.2.1 u.2.2.2.2.2.2.2) (fun u => [((ad 34), .inl (K 1, 3, .inl u.1)), ((ad 28), .inl (K 0, 3, .inl u.2.1)), ((ad 29), .inl (K 0, 1542, .inl u.2.2.1)), ((ad 30), .inl (K 0, 9252, .inl u.2.2.2.1)), ((ad 31), .inl (K 0, 1542, .inl u.2.2.2.2.1)), ((ad 33), .inl (K 0, 1542, .inl u.2.2.2.2.2.1)), ((ad 50), .inl (K 0, 514, .inl u.2.2.2.2.2.2.1)), ((ad 32), .inl (K 0, 3, .inl u.2.2.2.2.2.2.2))]) 0 0 := by
  refine g_metWv (cc := c_M_make) (maxL := 6) (ret := none) (by decide) rfl rfl (Nat.le_of_ble_eq_true rfl) ?_
  intro p e s m below meth c A Q hx hb hml hown hname htg hK hN hP hD hA hS hR rN hret ls hl
  have hl : lv_has ls 6 [(0, .ref a0), (1, .int x1)] := hl
  have C_165 : ∀ (f_o_made : (Nat → Int32)) (f_o_nodes : (Nat → Int32)) (f_o_set : (Nat → Int32)) (f_o_step : (Nat → Int32)) (f_o_group : (Nat → Int32)) (f_o_sample : (Nat → Int32)) (f_o_fresh : (Nat → Int32)) (f_o_groups : (Nat → Int32)) (H : Heap) (locs : List Loc), va_P G vwCl [((ad 34), .inl (K 1, 3, .inl f_o_made)), ((ad 28), .inl (K 0, 3, .inl f_o_nodes)), ((ad 29), .inl (K 0, 1542, .inl f_o_set)), ((ad 30), .inl (K 0, 9252, .inl f_o_step)), ((ad 31), .inl (K 0, 1542, .inl f_o_group)), ((ad 33), .inl (K 0, 1542, .inl f_o_sample)), ((ad 50), .inl (K 0, 514, .inl f_o_fresh)), ((ad 32), .inl (K 0, 3, .inl f_o_groups))] H → va_D A [((ad 34), .inl (K 1, 3, .inl f_o_made)), ((ad 28), .inl (K 0, 3, .inl f_o_nodes)), ((ad 29), .inl (K 0, 1542, .inl f_o_set)), ((ad 30), .inl (K 0, 9252, .inl f_o_step)), ((ad 31), .inl (K 0, 1542, .inl f_o_group)), ((ad 33), .inl (K 0, 1542, .inl f_o_sample)), ((ad 50), .inl (K 0, 514, .inl f_o_fresh)), ((ad 32), .inl (K 0, 3, .inl f_o_groups))] → va_S A s.heap H locs → ∀ (ls : Array Slot), lv_has ls 6 [(0, .ref a0), (1, .int x1)] → p_M_make_165 x1 post f_o_made f_o_nodes f_o_set f_o_step f_o_group f_o_sample f_o_fresh f_o_groups → W p l e { frames := 3, cells := 0, slots := 0, locals := 74 } s m ([.ref a0, .int x1] : List Value).toArray below meth c H locs 0 0 Q (F0 m 165 ls []) := by
    intro  f_o_made f_o_nodes f_o_set f_o_step f_o_group f_o_sample f_o_fresh f_o_groups  H locs hP hD hS ls hl h
    refine lv_aload_n hx hb d_M_make_165 rfl (lv_at hl 0 rfl) ?_
    refine lv_iload_n hx hb d_M_make_166 rfl (lv_at hl 1 rfl) ?_
    have hPc : va_P G vwCl [((ad 50), .inl (K 0, 514, .inl f_o_fresh)), ((ad 33), .inl (K 0, 1542, .inl f_o_sample)), ((ad 31), .inl (K 0, 1542, .inl f_o_group)), ((ad 32), .inl (K 0, 3, .inl f_o_groups))] _ := hP.sub [6, 5, 4, 7] rfl
    have hDc : va_D A [((ad 50), .inl (K 0, 514, .inl f_o_fresh)), ((ad 33), .inl (K 0, 1542, .inl f_o_sample)), ((ad 31), .inl (K 0, 1542, .inl f_o_group)), ((ad 32), .inl (K 0, 3, .inl f_o_groups))] := hD.sub [6, 5, 4, 7] (by decide) rfl
    have hRc : va_P G vwCl [(a0, .inr (12, oM v_o_code v_o_typed v_o_rules v_o_at v_o_read v_o_depth v_o_wrong v_o_there v_o_ended v_o_mode v_o_kept v_o_came v_o_pending v_o_looked v_o_tokens v_o_oldest ad)), ((ad 28), .inl (K 0, 3, .inl f_o_nodes)), ((ad 30), .inl (K 0, 9252, .inl f_o_step))] _ := (hP.app (gR hR rN hS)).sub [8, 1, 3] rfl
    have hJc : gJ [((ad 50), .inl (K 0, 514, .inl f_o_fresh)), ((ad 33), .inl (K 0, 1542, .inl f_o_sample)), ((ad 31), .inl (K 0, 1542, .inl f_o_group)), ((ad 32), .inl (K 0, 3, .inl f_o_groups))] [(a0, .inr (12, oM v_o_code v_o_typed v_o_rules v_o_at v_o_read v_o_depth v_o_wrong v_o_there v_o_ended v_o_mode v_o_kept v_o_came v_o_pending v_o_looked v_o_tokens v_o_oldest ad)), ((ad 28), .inl (K 0, 3, .inl f_o_nodes)), ((ad 30), .inl (K 0, 9252, .inl f_o_step))] := gJ_sub hD rN [6, 5, 4, 7] [8, 1, 3] rfl rfl (by decide)
    refine g_callv (wr := [((ad 34), .inl (K 1, 3, .inl f_o_made)), ((ad 28), .inl (K 0, 3, .inl f_o_nodes)), ((ad 29), .inl (K 0, 1542, .inl f_o_set)), ((ad 30), .inl (K 0, 9252, .inl f_o_step))]) (va_runV (As := [.int x1]) (rest := []) ⟨hx, hb, hml, hown, htg⟩ (k_M_number l G K a0 ad _ v_o_code v_o_typed v_o_rules v_o_at v_o_read v_o_depth v_o_wrong v_o_there v_o_ended v_o_mode v_o_kept v_o_came v_o_pending v_o_looked v_o_tokens v_o_oldest f_o_nodes f_o_fresh f_o_sample f_o_group f_o_groups f_o_step x1 _ h) (cwV 1 htg (gGoodV m_755 m_756 m_893 m_13 m_757) rfl rfl rfl (by decide +kernel) ⟨(Nat.le_of_ble_eq_true rfl), (Nat.le_of_ble_eq_true rfl)⟩) (gW_preV (ci := 12) (q0 := 0) hK hN hPc hDc hRc hJc hRc rfl rfl) rfl rfl hl.1 rfl (lv_room (Nat.le_of_ble_eq_true rfl)) d_M_make_167 ⟨(Nat.le_of_ble_eq_true rfl), (Nat.le_of_ble_eq_true rfl)⟩) hP hD hS hA [6, 5, 4, 7] [0, 1, 2, 3] rfl rfl (by decide) (by decide) (fun u H locs h hP hD hS => ?_)
    obtain ⟨u17501, u17502, u17503, u17504⟩ := u
    try dsimp only at h
    have hP : va_P G vwCl [((ad 34), .inl (K 1, 3, .inl f_o_made)), ((ad 28), .inl (K 0, 3, .inl f_o_nodes)), ((ad 29), .inl (K 0, 1542, .inl f_o_set)), ((ad 30), .inl (K 0, 9252, .inl f_o_step)), ((ad 50), .inl (K 0, 514, .inl u17501)), ((ad 33), .inl (K 0, 1542, .inl u17502)), ((ad 31), .inl (K 0, 1542, .inl u17503)), ((ad 32), .inl (K 0, 3, .inl u17504))] H := hP
    have hD : va_D A [((ad 34), .inl (K 1, 3, .inl f_o_made)), ((ad 28), .inl (K 0, 3, .inl f_o_nodes)), ((ad 29), .inl (K 0, 1542, .inl f_o_set)), ((ad 30), .inl (K 0, 9252, .inl f_o_step)), ((ad 50), .inl (K 0, 514, .inl u17501)), ((ad 33), .inl (K 0, 1542, .inl u17502)), ((ad 31), .inl (K 0, 1542, .inl u17503)), ((ad 32), .inl (K 0, 3, .inl u17504))] := hD
    exact hret (f_o_made, f_o_nodes, f_o_set, f_o_step, u17503, u17502, u17501, u17504) _ _ _ _ h (hP.sub [0, 1, 2, 3, 6, 5, 4, 7] rfl) (hD.sub [0, 1, 2, 3, 6, 5, 4, 7] (by decide) rfl) hS d_M_make_170
  have C_149 : ∀ (n : Nat) (l2 : Int32) (l3 : Int32) (f_o_made : (Nat → Int32)) (f_o_nodes : (Nat → Int32)) (f_o_set : (Nat → Int32)) (f_o_step : (Nat → Int32)) (f_o_group : (Nat → Int32)) (f_o_sample : (Nat → Int32)) (f_o_fresh : (Nat → Int32)) (f_o_groups : (Nat → Int32)) (H : Heap) (locs : List Loc), va_P G vwCl [((ad 34), .inl (K 1, 3, .inl f_o_made)), ((ad 28), .inl (K 0, 3, .inl f_o_nodes)), ((ad 29), .inl (K 0, 1542, .inl f_o_set)), ((ad 30), .inl (K 0, 9252, .inl f_o_step)), ((ad 31), .inl (K 0, 1542, .inl f_o_group)), ((ad 33), .inl (K 0, 1542, .inl f_o_sample)), ((ad 50), .inl (K 0, 514, .inl f_o_fresh)), ((ad 32), .inl (K 0, 3, .inl f_o_groups))] H → va_D A [((ad 34), .inl (K 1, 3, .inl f_o_made)), ((ad 28), .inl (K 0, 3, .inl f_o_nodes)), ((ad 29), .inl (K 0, 1542, .inl f_o_set)), ((ad 30), .inl (K 0, 9252, .inl f_o_step)), ((ad 31), .inl (K 0, 1542, .inl f_o_group)), ((ad 33), .inl (K 0, 1542, .inl f_o_sample)), ((ad 50), .inl (K 0, 514, .inl f_o_fresh)), ((ad 32), .inl (K 0, 3, .inl f_o_groups))] → va_S A s.heap H locs → ∀ (ls : Array Slot), lv_has ls 6 [(0, .ref a0), (1, .int x1), (2, .int l2), (3, .int l3)] → p_M_make_149 x1 post n l2 l3 f_o_made f_o_nodes f_o_set f_o_step f_o_group f_o_sample f_o_fresh f_o_groups → W p l e { frames := 3, cells := 0, slots := 0, locals := 74 } s m ([.ref a0, .int x1] : List Value).toArray below meth c H locs 0 0 Q (F0 m 149 ls []) := by
    intro n
    induction n with
    | zero =>
      intro l2 l3 f_o_made f_o_nodes f_o_set f_o_step f_o_group f_o_sample f_o_fresh f_o_groups  H locs hP hD hS ls hl h
      exact False.elim h
    | succ n ih =>
      intro l2 l3 f_o_made f_o_nodes f_o_set f_o_step f_o_group f_o_sample f_o_fresh f_o_groups  H locs hP hD hS ls hl h
      refine lv_iload_n hx hb d_M_make_149 rfl (lv_at hl 3 rfl) ?_
      refine lv_iload_n hx hb d_M_make_150 rfl (lv_at hl 2 rfl) ?_
      refine lv_icmp_eq (tgt := 165) hx hb d_M_make_151 (by decide) (fun hc => ?_) (fun hc => ?_)
      · replace h := h.1 hc
        exact C_165 f_o_made f_o_nodes f_o_set f_o_step f_o_group f_o_sample f_o_fresh f_o_groups  _ _ (hP.sub [0, 1, 2, 3, 4, 5, 6, 7] rfl) (hD.sub [0, 1, 2, 3, 4, 5, 6, 7] (by decide) rfl) hS _ (lv_sub hl [0, 1] rfl) h
      · replace h := h.2 hc
        refine lv_iload_n hx hb d_M_make_154 rfl (lv_at hl 3 rfl) ?_
        refine lv_istore_n (lv' := [(2, .int l3), (0, .ref a0), (1, .int x1), (3, .int l3)]) hx hb d_M_make_155 rfl hl (by decide) rfl (fun ls hl => ?_)
        refine lv_aload_n hx hb d_M_make_156 rfl (lv_at hl 1 rfl) ?_
        refine lv_iload_n hx hb d_M_make_157 rfl (lv_at hl 2 rfl) ?_
        have hPc : va_P G vwCl [((ad 33), .inl (K 0, 1542, .inl f_o_sample)), ((ad 31), .inl (K 0, 1542, .inl f_o_group)), ((ad 50), .inl (K 0, 514, .inl f_o_fresh))] _ := hP.sub [5, 4, 6] rfl
        have hDc : va_D A [((ad 33), .inl (K 0, 1542, .inl f_o_sample)), ((ad 31), .inl (K 0, 1542, .inl f_o_group)), ((ad 50), .inl (K 0, 514, .inl f_o_fresh))] := hD.sub [5, 4, 6] (by decide) rfl
        have hRc : va_P G vwCl [(a0, .inr (12, oM v_o_code v_o_typed v_o_rules v_o_at v_o_read v_o_depth v_o_wrong v_o_there v_o_ended v_o_mode v_o_kept v_o_came v_o_pending v_o_looked v_o_tokens v_o_oldest ad)), ((ad 28), .inl (K 0, 3, .inl f_o_nodes)), ((ad 30), .inl (K 0, 9252, .inl f_o_step))] _ := (hP.app (gR hR rN hS)).sub [8, 1, 3] rfl
        have hJc : gJ [((ad 33), .inl (K 0, 1542, .inl f_o_sample)), ((ad 31), .inl (K 0, 1542, .inl f_o_group)), ((ad 50), .inl (K 0, 514, .inl f_o_fresh))] [(a0, .inr (12, oM v_o_code v_o_typed v_o_rules v_o_at v_o_read v_o_depth v_o_wrong v_o_there v_o_ended v_o_mode v_o_kept v_o_came v_o_pending v_o_looked v_o_tokens v_o_oldest ad)), ((ad 28), .inl (K 0, 3, .inl f_o_nodes)), ((ad 30), .inl (K 0, 9252, .inl f_o_step))] := gJ_sub hD rN [5, 4, 6] [8, 1, 3] rfl rfl (by decide)
        refine g_calli (wr := [((ad 34), .inl (K 1, 3, .inl f_o_made)), ((ad 28), .inl (K 0, 3, .inl f_o_nodes)), ((ad 29), .inl (K 0, 1542, .inl f_o_set)), ((ad 30), .inl (K 0, 9252, .inl f_o_step)), ((ad 32), .inl (K 0, 3, .inl f_o_groups))]) (va_runV (As := [.int x1]) (rest := []) ⟨hx, hb, hml, hown, htg⟩ (k_M_split l G K a0 ad _ v_o_code v_o_typed v_o_rules v_o_at v_o_read v_o_depth v_o_wrong v_o_there v_o_ended v_o_mode v_o_kept v_o_came v_o_pending v_o_looked v_o_tokens v_o_oldest f_o_nodes f_o_sample f_o_group f_o_step f_o_fresh x1 _ h) (cwV 1 htg (gGoodV m_743 m_744 m_903 m_13 m_745) rfl rfl rfl (by decide +kernel) ⟨(Nat.le_of_ble_eq_true rfl), (Nat.le_of_ble_eq_true rfl)⟩) (gW_preV (ci := 12) (q0 := 0) hK hN hPc hDc hRc hJc hRc rfl rfl) rfl rfl hl.1 rfl (lv_room (Nat.le_of_ble_eq_true rfl)) d_M_make_158 ⟨(Nat.le_of_ble_eq_true rfl), (Nat.le_of_ble_eq_true rfl)⟩) hP hD hS hA [5, 4, 6] [0, 1, 2, 3, 7] rfl rfl (by decide) (by decide) (fun r15904 u H locs h hP hD hS => ?_)
        obtain ⟨u15901, u15902, u15903⟩ := u
        try dsimp only at h
        have hP : va_P G vwCl [((ad 34), .inl (K 1, 3, .inl f_o_made)), ((ad 28), .inl (K 0, 3, .inl f_o_nodes)), ((ad 29), .inl (K 0, 1542, .inl f_o_set)), ((ad 30), .inl (K 0, 9252, .inl f_o_step)), ((ad 32), .inl (K 0, 3, .inl f_o_groups)), ((ad 33), .inl (K 0, 1542, .inl u15901)), ((ad 31), .inl (K 0, 1542, .inl u15902)), ((ad 50), .inl (K 0, 514, .inl u15903))] H := hP
        have hD : va_D A [((ad 34), .inl (K 1, 3, .inl f_o_made)), ((ad 28), .inl (K 0, 3, .inl f_o_nodes)), ((ad 29), .inl (K 0, 1542, .inl f_o_set)), ((ad 30), .inl (K 0, 9252, .inl f_o_step)), ((ad 32), .inl (K 0, 3, .inl f_o_groups)), ((ad 33), .inl (K 0, 1542, .inl u15901)), ((ad 31), .inl (K 0, 1542, .inl u15902)), ((ad 50), .inl (K 0, 514, .inl u15903))] := hD
        refine lv_istore_n (lv' := [(3, .int r15904), (2, .int l3), (0, .ref a0), (1, .int x1)]) hx hb d_M_make_161 rfl hl (by decide) rfl (fun ls hl => ?_)
        refine lv_goto (tgt := 149) hx hb d_M_make_162 (by decide) ?_
        exact ih l3 r15904 f_o_made f_o_nodes f_o_set f_o_step u15902 u15901 u15903 f_o_groups  _ _ (hP.sub [0, 1, 2, 3, 6, 5, 7, 4] rfl) (hD.sub [0, 1, 2, 3, 6, 5, 7, 4] (by decide) rfl) hS _ (lv_sub hl [2, 3, 1, 0] rfl) h
  have C_145 : ∀ (f_o_made : (Nat → Int32)) (f_o_nodes : (Nat → Int32)) (f_o_set : (Nat → Int32)) (f_o_step : (Nat → Int32)) (f_o_group : (Nat → Int32)) (f_o_sample : (Nat → Int32)) (f_o_fresh : (Nat → Int32)) (f_o_groups : (Nat → Int32)) (H : Heap) (locs : List Loc), va_P G vwCl [((ad 34), .inl (K 1, 3, .inl f_o_made)), ((ad 28), .inl (K 0, 3, .inl f_o_nodes)), ((ad 29), .inl (K 0, 1542, .inl f_o_set)), ((ad 30), .inl (K 0, 9252, .inl f_o_step)), ((ad 31), .inl (K 0, 1542, .inl f_o_group)), ((ad 33), .inl (K 0, 1542, .inl f_o_sample)), ((ad 50), .inl (K 0, 514, .inl f_o_fresh)), ((ad 32), .inl (K 0, 3, .inl f_o_groups))] H → va_D A [((ad 34), .inl (K 1, 3, .inl f_o_made)), ((ad 28), .inl (K 0, 3, .inl f_o_nodes)), ((ad 29), .inl (K 0, 1542, .inl f_o_set)), ((ad 30), .inl (K 0, 9252, .inl f_o_step)), ((ad 31), .inl (K 0, 1542, .inl f_o_group)), ((ad 33), .inl (K 0, 1542, .inl f_o_sample)), ((ad 50), .inl (K 0, 514, .inl f_o_fresh)), ((ad 32), .inl (K 0, 3, .inl f_o_groups))] → va_S A s.heap H locs → ∀ (ls : Array Slot), lv_has ls 6 [(0, .ref a0), (1, .int x1)] → p_M_make_145 x1 post f_o_made f_o_nodes f_o_set f_o_step f_o_group f_o_sample f_o_fresh f_o_groups → W p l e { frames := 3, cells := 0, slots := 0, locals := 74 } s m ([.ref a0, .int x1] : List Value).toArray below meth c H locs 0 0 Q (F0 m 145 ls []) := by
    intro  f_o_made f_o_nodes f_o_set f_o_step f_o_group f_o_sample f_o_fresh f_o_groups  H locs hP hD hS ls hl h
    refine lv_iconst (v := (-1)) hx hb d_M_make_145 (by decide) ?_
    refine lv_istore_n (lv' := [(2, .int (-1)), (0, .ref a0), (1, .int x1)]) hx hb d_M_make_146 rfl hl (by decide) rfl (fun ls hl => ?_)
    refine lv_iconst (v := 0) hx hb d_M_make_147 (by decide) ?_
    refine lv_istore_n (lv' := [(3, .int 0), (2, .int (-1)), (0, .ref a0), (1, .int x1)]) hx hb d_M_make_148 rfl hl (by decide) rfl (fun ls hl => ?_)
    obtain ⟨k, h⟩ := h
    exact C_149 k (-1) 0 f_o_made f_o_nodes f_o_set f_o_step f_o_group f_o_sample f_o_fresh f_o_groups  _ _ (hP.sub [0, 1, 2, 3, 4, 5, 6, 7] rfl) (hD.sub [0, 1, 2, 3, 4, 5, 6, 7] (by decide) rfl) hS _ (lv_sub hl [2, 3, 1, 0] rfl) h
  have C_111 : ∀ (n : Nat) (l2 : Int32) (f_o_made : (Nat → Int32)) (f_o_nodes : (Nat → Int32)) (f_o_set : (Nat → Int32)) (f_o_step : (Nat → Int32)) (f_o_group : (Nat → Int32)) (f_o_sample : (Nat → Int32)) (f_o_fresh : (Nat → Int32)) (f_o_groups : (Nat → Int32)) (H : Heap) (locs : List Loc), va_P G vwCl [((ad 34), .inl (K 1, 3, .inl f_o_made)), ((ad 28), .inl (K 0, 3, .inl f_o_nodes)), ((ad 29), .inl (K 0, 1542, .inl f_o_set)), ((ad 30), .inl (K 0, 9252, .inl f_o_step)), ((ad 31), .inl (K 0, 1542, .inl f_o_group)), ((ad 33), .inl (K 0, 1542, .inl f_o_sample)), ((ad 50), .inl (K 0, 514, .inl f_o_fresh)), ((ad 32), .inl (K 0, 3, .inl f_o_groups))] H → va_D A [((ad 34), .inl (K 1, 3, .inl f_o_made)), ((ad 28), .inl (K 0, 3, .inl f_o_nodes)), ((ad 29), .inl (K 0, 1542, .inl f_o_set)), ((ad 30), .inl (K 0, 9252, .inl f_o_step)), ((ad 31), .inl (K 0, 1542, .inl f_o_group)), ((ad 33), .inl (K 0, 1542, .inl f_o_sample)), ((ad 50), .inl (K 0, 514, .inl f_o_fresh)), ((ad 32), .inl (K 0, 3, .inl f_o_groups))] → va_S A s.heap H locs → ∀ (ls : Array Slot), lv_has ls 6 [(0, .ref a0), (1, .int x1), (2, .int l2)] → p_M_make_111 v_o_rules f_o_modeOf f_o_lastOf x1 post n l2 f_o_made f_o_nodes f_o_set f_o_step f_o_group f_o_sample f_o_fresh f_o_groups → W p l e { frames := 3, cells := 0, slots := 0, locals := 74 } s m ([.ref a0, .int x1] : List Value).toArray below meth c H locs 0 0 Q (F0 m 111 ls []) := by
    intro n
    induction n with
    | zero =>
      intro l2 f_o_made f_o_nodes f_o_set f_o_step f_o_group f_o_sample f_o_fresh f_o_groups  H locs hP hD hS ls hl h
      exact False.elim h
    | succ n ih =>
      intro l2 f_o_made f_o_nodes f_o_set f_o_step f_o_group f_o_sample f_o_fresh f_o_groups  H locs hP hD hS ls hl h
      refine lv_iload_n hx hb d_M_make_111 rfl (lv_at hl 2 rfl) ?_
      refine lv_aload_n hx hb d_M_make_112 rfl (lv_at hl 0 rfl) ?_
      refine va_get (ci := 12) (v := .ref (ad 28)) hx hb htg in_M hown hK (gR hR rN hS) 0 rfl rfl 28 (by decide) (htg _ m_638) (fun _ h9 => h9) rfl d_M_make_113 ?_
      refine lv_iload_n hx hb d_M_make_116 rfl (lv_at hl 1 rfl) ?_
      obtain ⟨hin, h⟩ := h
      refine va_iald hx hb hK hP 1 0 rfl rfl hin d_M_make_117 ?_
      refine lv_icmp_ge (tgt := 145) hx hb d_M_make_118 (by decide) (fun hc => ?_) (fun hc => ?_)
      · replace h := h.1 hc
        exact C_145 f_o_made f_o_nodes f_o_set f_o_step f_o_group f_o_sample f_o_fresh f_o_groups  _ _ (hP.sub [0, 1, 2, 3, 4, 5, 6, 7] rfl) (hD.sub [0, 1, 2, 3, 4, 5, 6, 7] (by decide) rfl) hS _ (lv_sub hl [0, 1] rfl) h
      · replace h := h.2 hc
        refine lv_aload_n hx hb d_M_make_121 rfl (lv_at hl 0 rfl) ?_
        refine va_get (ci := 12) (v := .ref (ad 31)) hx hb htg in_M hown hK (gR hR rN hS) 0 rfl rfl 31 (by decide) (htg _ m_641) (fun _ h9 => h9) rfl d_M_make_122 ?_
        refine lv_sipush (v := 514) hx hb d_M_make_125 (by decide) ?_
        refine lv_iload_n hx hb d_M_make_128 rfl (lv_at hl 1 rfl) ?_
        refine lv_imul hx hb d_M_make_129 ?_
        refine lv_iload_n hx hb d_M_make_130 rfl (lv_at hl 2 rfl) ?_
        refine lv_iadd hx hb d_M_make_131 ?_
        refine lv_aload_n hx hb d_M_make_132 rfl (lv_at hl 0 rfl) ?_
        refine lv_iload_n hx hb d_M_make_133 rfl (lv_at hl 1 rfl) ?_
        refine lv_iload_n hx hb d_M_make_134 rfl (lv_at hl 2 rfl) ?_
        have hPc : va_P G vwCl [(a0, .inr (12, oM v_o_code v_o_typed v_o_rules v_o_at v_o_read v_o_depth v_o_wrong v_o_there v_o_ended v_o_mode v_o_kept v_o_came v_o_pending v_o_looked v_o_tokens v_o_oldest ad)), ((ad 4), .inl (K 0, 16, .inl f_o_modeOf)), ((ad 29), .inl (K 0, 1542, .inl f_o_set)), ((ad 7), .inl (K 0, 16, .inl f_o_lastOf))] _ := (hP.app (gR hR rN hS)).sub [8, 9, 2, 14] rfl
        refine vp_callSi (va_Run.run (va_runV (As := [.int x1, .int l2]) (rest := [.int ((514 * x1) + l2), .ref (ad 31)]) ⟨hx, hb, hml, hown, htg⟩ (k_M_wins l G K a0 ad v_o_code v_o_typed v_o_rules v_o_at v_o_read v_o_depth v_o_wrong v_o_there v_o_ended v_o_mode v_o_kept v_o_came v_o_pending v_o_looked v_o_tokens v_o_oldest f_o_modeOf f_o_set f_o_lastOf x1 l2 _ h) (cwV 2 htg (gGoodV m_740 m_741 m_904 m_13 m_742) rfl rfl rfl (by decide +kernel) ⟨(Nat.le_of_ble_eq_true rfl), (Nat.le_of_ble_eq_true rfl)⟩) (gS_preV (ci := 12) (q0 := 0) hK hN hPc rfl rfl) rfl rfl hl.1 rfl (lv_room (Nat.le_of_ble_eq_true rfl)) d_M_make_135 ⟨(Nat.le_of_ble_eq_true rfl), (Nat.le_of_ble_eq_true rfl)⟩)) (fun r12101 h => ?_)
        obtain ⟨hin, h⟩ := h
        refine va_iast hx hb hK hP hD hS 4 0 rfl rfl hin d_M_make_138 (fun H locs hP hD hS => ?_)
        have hP : va_P G vwCl [((ad 34), .inl (K 1, 3, .inl f_o_made)), ((ad 28), .inl (K 0, 3, .inl f_o_nodes)), ((ad 29), .inl (K 0, 1542, .inl f_o_set)), ((ad 30), .inl (K 0, 9252, .inl f_o_step)), ((ad 31), .inl (K 0, 1542, .inl (upd f_o_group ((514 * x1) + l2).toNatClampNeg r12101))), ((ad 33), .inl (K 0, 1542, .inl f_o_sample)), ((ad 50), .inl (K 0, 514, .inl f_o_fresh)), ((ad 32), .inl (K 0, 3, .inl f_o_groups))] H := hP
        have hD : va_D A [((ad 34), .inl (K 1, 3, .inl f_o_made)), ((ad 28), .inl (K 0, 3, .inl f_o_nodes)), ((ad 29), .inl (K 0, 1542, .inl f_o_set)), ((ad 30), .inl (K 0, 9252, .inl f_o_step)), ((ad 31), .inl (K 0, 1542, .inl (upd f_o_group ((514 * x1) + l2).toNatClampNeg r12101))), ((ad 33), .inl (K 0, 1542, .inl f_o_sample)), ((ad 50), .inl (K 0, 514, .inl f_o_fresh)), ((ad 32), .inl (K 0, 3, .inl f_o_groups))] := hD
        refine lv_iinc (v := (l2 + 1)) (lv' := [(2, .int (l2 + 1)), (0, .ref a0), (1, .int x1)]) hx hb d_M_make_139 hl (k := 2) rfl (by first | rfl | decide) (by decide) rfl (fun ls hl => ?_)
        refine lv_goto (tgt := 111) hx hb d_M_make_142 (by decide) ?_
        exact ih (l2 + 1) f_o_made f_o_nodes f_o_set f_o_step (upd f_o_group ((514 * x1) + l2).toNatClampNeg r12101) f_o_sample f_o_fresh f_o_groups  _ _ (hP.sub [0, 1, 2, 3, 4, 5, 6, 7] rfl) (hD.sub [0, 1, 2, 3, 4, 5, 6, 7] (by decide) rfl) hS _ (lv_sub hl [1, 2, 0] rfl) h
  have C_109 : ∀ (f_o_made : (Nat → Int32)) (f_o_nodes : (Nat → Int32)) (f_o_set : (Nat → Int32)) (f_o_step : (Nat → Int32)) (f_o_group : (Nat → Int32)) (f_o_sample : (Nat → Int32)) (f_o_fresh : (Nat → Int32)) (f_o_groups : (Nat → Int32)) (H : Heap) (locs : List Loc), va_P G vwCl [((ad 34), .inl (K 1, 3, .inl f_o_made)), ((ad 28), .inl (K 0, 3, .inl f_o_nodes)), ((ad 29), .inl (K 0, 1542, .inl f_o_set)), ((ad 30), .inl (K 0, 9252, .inl f_o_step)), ((ad 31), .inl (K 0, 1542, .inl f_o_group)), ((ad 33), .inl (K 0, 1542, .inl f_o_sample)), ((ad 50), .inl (K 0, 514, .inl f_o_fresh)), ((ad 32), .inl (K 0, 3, .inl f_o_groups))] H → va_D A [((ad 34), .inl (K 1, 3, .inl f_o_made)), ((ad 28), .inl (K 0, 3, .inl f_o_nodes)), ((ad 29), .inl (K 0, 1542, .inl f_o_set)), ((ad 30), .inl (K 0, 9252, .inl f_o_step)), ((ad 31), .inl (K 0, 1542, .inl f_o_group)), ((ad 33), .inl (K 0, 1542, .inl f_o_sample)), ((ad 50), .inl (K 0, 514, .inl f_o_fresh)), ((ad 32), .inl (K 0, 3, .inl f_o_groups))] → va_S A s.heap H locs → ∀ (ls : Array Slot), lv_has ls 6 [(0, .ref a0), (1, .int x1)] → p_M_make_109 v_o_rules f_o_modeOf f_o_lastOf x1 post f_o_made f_o_nodes f_o_set f_o_step f_o_group f_o_sample f_o_fresh f_o_groups → W p l e { frames := 3, cells := 0, slots := 0, locals := 74 } s m ([.ref a0, .int x1] : List Value).toArray below meth c H locs 0 0 Q (F0 m 109 ls []) := by
    intro  f_o_made f_o_nodes f_o_set f_o_step f_o_group f_o_sample f_o_fresh f_o_groups  H locs hP hD hS ls hl h
    refine lv_iconst (v := 0) hx hb d_M_make_109 (by decide) ?_
    refine lv_istore_n (lv' := [(2, .int 0), (0, .ref a0), (1, .int x1)]) hx hb d_M_make_110 rfl hl (by decide) rfl (fun ls hl => ?_)
    obtain ⟨k, h⟩ := h
    exact C_111 k 0 f_o_made f_o_nodes f_o_set f_o_step f_o_group f_o_sample f_o_fresh f_o_groups  _ _ (hP.sub [0, 1, 2, 3, 4, 5, 6, 7] rfl) (hD.sub [0, 1, 2, 3, 4, 5, 6, 7] (by decide) rfl) hS _ (lv_sub hl [1, 2, 0] rfl) h
  have C_103 : ∀ (K_26 : Int32 → (Nat → Int32) → (Nat → Int32) → (Nat → Int32) → (Nat → Int32) → (Nat → Int32) → (Nat → Int32) → (Nat → Int32) → (Nat → Int32) → Prop) (hK_26 : ∀ (l2 : Int32) (f_o_made : (Nat → Int32)) (f_o_nodes : (Nat → Int32)) (f_o_set : (Nat → Int32)) (f_o_step : (Nat → Int32)) (f_o_group : (Nat → Int32)) (f_o_sample : (Nat → Int32)) (f_o_fresh : (Nat → Int32)) (f_o_groups : (Nat → Int32)) (H : Heap) (locs : List Loc), va_P G vwCl [((ad 34), .inl (K 1, 3, .inl f_o_made)), ((ad 28), .inl (K 0, 3, .inl f_o_nodes)), ((ad 29), .inl (K 0, 1542, .inl f_o_set)), ((ad 30), .inl (K 0, 9252, .inl f_o_step)), ((ad 31), .inl (K 0, 1542, .inl f_o_group)), ((ad 33), .inl (K 0, 1542, .inl f_o_sample)), ((ad 50), .inl (K 0, 514, .inl f_o_fresh)), ((ad 32), .inl (K 0, 3, .inl f_o_groups))] H → va_D A [((ad 34), .inl (K 1, 3, .inl f_o_made)), ((ad 28), .inl (K 0, 3, .inl f_o_nodes)), ((ad 29), .inl (K 0, 1542, .inl f_o_set)), ((ad 30), .inl (K 0, 9252, .inl f_o_step)), ((ad 31), .inl (K 0, 1542, .inl f_o_group)), ((ad 33), .inl (K 0, 1542, .inl f_o_sample)), ((ad 50), .inl (K 0, 514, .inl f_o_fresh)), ((ad 32), .inl (K 0, 3, .inl f_o_groups))] → va_S A s.heap H locs → ∀ (ls : Array Slot), lv_has ls 6 [(0, .ref a0), (1, .int x1), (2, .int l2)] → K_26 l2 f_o_made f_o_nodes f_o_set f_o_step f_o_group f_o_sample f_o_fresh f_o_groups → W p l e { frames := 3, cells := 0, slots := 0, locals := 74 } s m ([.ref a0, .int x1] : List Value).toArray below meth c H locs 0 0 Q (F0 m 26 ls [])) (l2 : Int32) (f_o_made : (Nat → Int32)) (f_o_nodes : (Nat → Int32)) (f_o_set : (Nat → Int32)) (f_o_step : (Nat → Int32)) (f_o_group : (Nat → Int32)) (f_o_sample : (Nat → Int32)) (f_o_fresh : (Nat → Int32)) (f_o_groups : (Nat → Int32)) (H : Heap) (locs : List Loc), va_P G vwCl [((ad 34), .inl (K 1, 3, .inl f_o_made)), ((ad 28), .inl (K 0, 3, .inl f_o_nodes)), ((ad 29), .inl (K 0, 1542, .inl f_o_set)), ((ad 30), .inl (K 0, 9252, .inl f_o_step)), ((ad 31), .inl (K 0, 1542, .inl f_o_group)), ((ad 33), .inl (K 0, 1542, .inl f_o_sample)), ((ad 50), .inl (K 0, 514, .inl f_o_fresh)), ((ad 32), .inl (K 0, 3, .inl f_o_groups))] H → va_D A [((ad 34), .inl (K 1, 3, .inl f_o_made)), ((ad 28), .inl (K 0, 3, .inl f_o_nodes)), ((ad 29), .inl (K 0, 1542, .inl f_o_set)), ((ad 30), .inl (K 0, 9252, .inl f_o_step)), ((ad 31), .inl (K 0, 1542, .inl f_o_group)), ((ad 33), .inl (K 0, 1542, .inl f_o_sample)), ((ad 50), .inl (K 0, 514, .inl f_o_fresh)), ((ad 32), .inl (K 0, 3, .inl f_o_groups))] → va_S A s.heap H locs → ∀ (ls : Array Slot), lv_has ls 6 [(0, .ref a0), (1, .int x1), (2, .int l2)] → p_M_make_103 post K_26 l2 f_o_made f_o_nodes f_o_set f_o_step f_o_group f_o_sample f_o_fresh f_o_groups → W p l e { frames := 3, cells := 0, slots := 0, locals := 74 } s m ([.ref a0, .int x1] : List Value).toArray below meth c H locs 0 0 Q (F0 m 103 ls []) := by
    intro K_26 hK_26 l2 f_o_made f_o_nodes f_o_set f_o_step f_o_group f_o_sample f_o_fresh f_o_groups  H locs hP hD hS ls hl h
    refine lv_iinc (v := (l2 + 1)) (lv' := [(2, .int (l2 + 1)), (0, .ref a0), (1, .int x1)]) hx hb d_M_make_103 hl (k := 2) rfl (by first | rfl | decide) (by decide) rfl (fun ls hl => ?_)
    refine lv_goto (tgt := 26) hx hb d_M_make_106 (by decide) ?_
    exact hK_26 (l2 + 1) f_o_made f_o_nodes f_o_set f_o_step f_o_group f_o_sample f_o_fresh f_o_groups  _ _ (hP.sub [0, 1, 2, 3, 4, 5, 6, 7] rfl) (hD.sub [0, 1, 2, 3, 4, 5, 6, 7] (by decide) rfl) hS _ (lv_sub hl [1, 2, 0] rfl) h
  have C_46 : ∀ (K_26 : Int32 → (Nat → Int32) → (Nat → Int32) → (Nat → Int32) → (Nat → Int32) → (Nat → Int32) → (Nat → Int32) → (Nat → Int32) → (Nat → Int32) → Prop) (hK_26 : ∀ (l2 : Int32) (f_o_made : (Nat → Int32)) (f_o_nodes : (Nat → Int32)) (f_o_set : (Nat → Int32)) (f_o_step : (Nat → Int32)) (f_o_group : (Nat → Int32)) (f_o_sample : (Nat → Int32)) (f_o_fresh : (Nat → Int32)) (f_o_groups : (Nat → Int32)) (H : Heap) (locs : List Loc), va_P G vwCl [((ad 34), .inl (K 1, 3, .inl f_o_made)), ((ad 28), .inl (K 0, 3, .inl f_o_nodes)), ((ad 29), .inl (K 0, 1542, .inl f_o_set)), ((ad 30), .inl (K 0, 9252, .inl f_o_step)), ((ad 31), .inl (K 0, 1542, .inl f_o_group)), ((ad 33), .inl (K 0, 1542, .inl f_o_sample)), ((ad 50), .inl (K 0, 514, .inl f_o_fresh)), ((ad 32), .inl (K 0, 3, .inl f_o_groups))] H → va_D A [((ad 34), .inl (K 1, 3, .inl f_o_made)), ((ad 28), .inl (K 0, 3, .inl f_o_nodes)), ((ad 29), .inl (K 0, 1542, .inl f_o_set)), ((ad 30), .inl (K 0, 9252, .inl f_o_step)), ((ad 31), .inl (K 0, 1542, .inl f_o_group)), ((ad 33), .inl (K 0, 1542, .inl f_o_sample)), ((ad 50), .inl (K 0, 514, .inl f_o_fresh)), ((ad 32), .inl (K 0, 3, .inl f_o_groups))] → va_S A s.heap H locs → ∀ (ls : Array Slot), lv_has ls 6 [(0, .ref a0), (1, .int x1), (2, .int l2)] → K_26 l2 f_o_made f_o_nodes f_o_set f_o_step f_o_group f_o_sample f_o_fresh f_o_groups → W p l e { frames := 3, cells := 0, slots := 0, locals := 74 } s m ([.ref a0, .int x1] : List Value).toArray below meth c H locs 0 0 Q (F0 m 26 ls [])) (n : Nat) (l2 : Int32) (l3 : Int32) (l4 : Int32) (f_o_made : (Nat → Int32)) (f_o_nodes : (Nat → Int32)) (f_o_set : (Nat → Int32)) (f_o_step : (Nat → Int32)) (f_o_group : (Nat → Int32)) (f_o_sample : (Nat → Int32)) (f_o_fresh : (Nat → Int32)) (f_o_groups : (Nat → Int32)) (H : Heap) (locs : List Loc), va_P G vwCl [((ad 34), .inl (K 1, 3, .inl f_o_made)), ((ad 28), .inl (K 0, 3, .inl f_o_nodes)), ((ad 29), .inl (K 0, 1542, .inl f_o_set)), ((ad 30), .inl (K 0, 9252, .inl f_o_step)), ((ad 31), .inl (K 0, 1542, .inl f_o_group)), ((ad 33), .inl (K 0, 1542, .inl f_o_sample)), ((ad 50), .inl (K 0, 514, .inl f_o_fresh)), ((ad 32), .inl (K 0, 3, .inl f_o_groups))] H → va_D A [((ad 34), .inl (K 1, 3, .inl f_o_made)), ((ad 28), .inl (K 0, 3, .inl f_o_nodes)), ((ad 29), .inl (K 0, 1542, .inl f_o_set)), ((ad 30), .inl (K 0, 9252, .inl f_o_step)), ((ad 31), .inl (K 0, 1542, .inl f_o_group)), ((ad 33), .inl (K 0, 1542, .inl f_o_sample)), ((ad 50), .inl (K 0, 514, .inl f_o_fresh)), ((ad 32), .inl (K 0, 3, .inl f_o_groups))] → va_S A s.heap H locs → ∀ (ls : Array Slot), lv_has ls 6 [(0, .ref a0), (1, .int x1), (2, .int l2), (3, .int l3), (4, .int l4)] → p_M_make_46 f_o_many f_o_letters x1 post K_26 n l2 l3 l4 f_o_made f_o_nodes f_o_set f_o_step f_o_group f_o_sample f_o_fresh f_o_groups → W p l e { frames := 3, cells := 0, slots := 0, locals := 74 } s m ([.ref a0, .int x1] : List Value).toArray below meth c H locs 0 0 Q (F0 m 46 ls []) := by
    intro K_26 hK_26
    intro n
    induction n with
    | zero =>
      intro l2 l3 l4 f_o_made f_o_nodes f_o_set f_o_step f_o_group f_o_sample f_o_fresh f_o_groups  H locs hP hD hS ls hl h
      exact False.elim h
    | succ n ih =>
      intro l2 l3 l4 f_o_made f_o_nodes f_o_set f_o_step f_o_group f_o_sample f_o_fresh f_o_groups  H locs hP hD hS ls hl h
      refine lv_iload hx hb d_M_make_46 (lv_at hl 4 rfl) ?_
      refine lv_bipush (v := 6) hx hb d_M_make_48 (by decide) ?_
      refine lv_icmp_ge (tgt := 103) hx hb d_M_make_50 (by decide) (fun hc => ?_) (fun hc => ?_)
      · replace h := h.1 hc
        exact C_103 _ hK_26 l2 f_o_made f_o_nodes f_o_set f_o_step f_o_group f_o_sample f_o_fresh f_o_groups  _ _ (hP.sub [0, 1, 2, 3, 4, 5, 6, 7] rfl) (hD.sub [0, 1, 2, 3, 4, 5, 6, 7] (by decide) rfl) hS _ (lv_sub hl [0, 1, 2] rfl) h
      · replace h := h.2 hc
        refine lv_aload_n hx hb d_M_make_53 rfl (lv_at hl 0 rfl) ?_
        refine lv_iload_n hx hb d_M_make_54 rfl (lv_at hl 1 rfl) ?_
        refine lv_iload_n hx hb d_M_make_55 rfl (lv_at hl 3 rfl) ?_
        refine lv_iload hx hb d_M_make_56 (lv_at hl 4 rfl) ?_
        have hPc : va_P G vwCl [(a0, .inr (12, oM v_o_code v_o_typed v_o_rules v_o_at v_o_read v_o_depth v_o_wrong v_o_there v_o_ended v_o_mode v_o_kept v_o_came v_o_pending v_o_looked v_o_tokens v_o_oldest ad)), ((ad 8), .inl (K 0, 3, .inl f_o_many)), ((ad 9), .inl (K 0, 27, .inl f_o_letters))] _ := (gR hR rN hS).sub [0, 3, 5] rfl
        refine vp_callSi (va_Run.run (va_runV (As := [.int x1, .int l3, .int l4]) (rest := []) ⟨hx, hb, hml, hown, htg⟩ (k_M_reach l G K a0 ad v_o_code v_o_typed v_o_rules v_o_at v_o_read v_o_depth v_o_wrong v_o_there v_o_ended v_o_mode v_o_kept v_o_came v_o_pending v_o_looked v_o_tokens v_o_oldest f_o_many f_o_letters x1 l3 l4 _ h) (cwV 3 htg (gGoodV m_734 m_735 m_899 m_13 m_736) rfl rfl rfl (by decide +kernel) ⟨(Nat.le_of_ble_eq_true rfl), (Nat.le_of_ble_eq_true rfl)⟩) (gS_preV (ci := 12) (q0 := 0) hK hN hPc rfl rfl) rfl rfl hl.1 rfl (lv_room (Nat.le_of_ble_eq_true rfl)) d_M_make_58 ⟨(Nat.le_of_ble_eq_true rfl), (Nat.le_of_ble_eq_true rfl)⟩)) (fun r5601 h => ?_)
        refine lv_istore (lv' := [(5, .int r5601), (0, .ref a0), (1, .int x1), (2, .int l2), (3, .int l3), (4, .int l4)]) hx hb d_M_make_61 hl (by decide) rfl (fun ls hl => ?_)
        refine lv_aload_n hx hb d_M_make_63 rfl (lv_at hl 1 rfl) ?_
        refine va_get (ci := 12) (v := .ref (ad 30)) hx hb htg in_M hown hK (gR hR rN hS) 0 rfl rfl 30 (by decide) (htg _ m_640) (fun _ h9 => h9) rfl d_M_make_64 ?_
        refine lv_bipush (v := 6) hx hb d_M_make_67 (by decide) ?_
        refine lv_sipush (v := 514) hx hb d_M_make_69 (by decide) ?_
        refine lv_iload_n hx hb d_M_make_72 rfl (lv_at hl 2 rfl) ?_
        refine lv_imul hx hb d_M_make_73 ?_
        refine lv_iload_n hx hb d_M_make_74 rfl (lv_at hl 3 rfl) ?_
        refine lv_iadd hx hb d_M_make_75 ?_
        refine lv_imul hx hb d_M_make_76 ?_
        refine lv_iload hx hb d_M_make_77 (lv_at hl 5 rfl) ?_
        refine lv_iadd hx hb d_M_make_79 ?_
        refine lv_iload hx hb d_M_make_80 (lv_at hl 0 rfl) ?_
        refine lv_if_ne (tgt := 89) hx hb d_M_make_82 (by decide) (fun hc => ?_) (fun hc => ?_)
        · replace h := h.1 hc
          refine lv_aload_n hx hb d_M_make_89 rfl (lv_at hl 1 rfl) ?_
          refine lv_iload_n hx hb d_M_make_90 rfl (lv_at hl 2 rfl) ?_
          refine lv_iload hx hb d_M_make_91 (lv_at hl 0 rfl) ?_
          have hPc : va_P G vwCl [((ad 28), .inl (K 0, 3, .inl f_o_nodes)), ((ad 29), .inl (K 0, 1542, .inl f_o_set))] _ := hP.sub [1, 2] rfl
          have hDc : va_D A [((ad 28), .inl (K 0, 3, .inl f_o_nodes)), ((ad 29), .inl (K 0, 1542, .inl f_o_set))] := hD.sub [1, 2] (by decide) rfl
          have hRc : va_P G vwCl [(a0, .inr (12, oM v_o_code v_o_typed v_o_rules v_o_at v_o_read v_o_depth v_o_wrong v_o_there v_o_ended v_o_mode v_o_kept v_o_came v_o_pending v_o_looked v_o_tokens v_o_oldest ad))] _ := (gR hR rN hS).sub [0] rfl
          have hJc : gJ [((ad 28), .inl (K 0, 3, .inl f_o_nodes)), ((ad 29), .inl (K 0, 1542, .inl f_o_set))] [(a0, .inr (12, oM v_o_code v_o_typed v_o_rules v_o_at v_o_read v_o_depth v_o_wrong v_o_there v_o_ended v_o_mode v_o_kept v_o_came v_o_pending v_o_looked v_o_tokens v_o_oldest ad))] := gJ_A hDc (gN_sub rN [0] rfl)
          refine g_calli (wr := [((ad 34), .inl (K 1, 3, .inl f_o_made)), ((ad 30), .inl (K 0, 9252, .inl f_o_step)), ((ad 31), .inl (K 0, 1542, .inl f_o_group)), ((ad 33), .inl (K 0, 1542, .inl f_o_sample)), ((ad 50), .inl (K 0, 514, .inl f_o_fresh)), ((ad 32), .inl (K 0, 3, .inl f_o_groups))]) (va_runV (As := [.int x1, .int r5601]) (rest := [.int ((6 * ((514 * x1) + l2)) + l4), .ref (ad 30)]) ⟨hx, hb, hml, hown, htg⟩ (k_M_find l G K a0 ad _ v_o_code v_o_typed v_o_rules v_o_at v_o_read v_o_depth v_o_wrong v_o_there v_o_ended v_o_mode v_o_kept v_o_came v_o_pending v_o_looked v_o_tokens v_o_oldest f_o_nodes f_o_set x1 r5601 _ h) (cwV 2 htg (gGoodV m_737 m_738 m_883 m_13 m_739) rfl rfl rfl (by decide +kernel) ⟨(Nat.le_of_ble_eq_true rfl), (Nat.le_of_ble_eq_true rfl)⟩) (gW_preV (ci := 12) (q0 := 0) hK hN hPc hDc hRc hJc hRc rfl rfl) rfl rfl hl.1 rfl (lv_room (Nat.le_of_ble_eq_true rfl)) d_M_make_93 ⟨(Nat.le_of_ble_eq_true rfl), (Nat.le_of_ble_eq_true rfl)⟩) hP hD hS hA [1, 2] [0, 3, 4, 5, 6, 7] rfl rfl (by decide) (by decide) (fun r5604 u H locs h hP hD hS => ?_)
          obtain ⟨u5602, u5603⟩ := u
          try dsimp only at h
          have hP : va_P G vwCl [((ad 34), .inl (K 1, 3, .inl f_o_made)), ((ad 30), .inl (K 0, 9252, .inl f_o_step)), ((ad 31), .inl (K 0, 1542, .inl f_o_group)), ((ad 33), .inl (K 0, 1542, .inl f_o_sample)), ((ad 50), .inl (K 0, 514, .inl f_o_fresh)), ((ad 32), .inl (K 0, 3, .inl f_o_groups)), ((ad 28), .inl (K 0, 3, .inl u5602)), ((ad 29), .inl (K 0, 1542, .inl u5603))] H := hP
          have hD : va_D A [((ad 34), .inl (K 1, 3, .inl f_o_made)), ((ad 30), .inl (K 0, 9252, .inl f_o_step)), ((ad 31), .inl (K 0, 1542, .inl f_o_group)), ((ad 33), .inl (K 0, 1542, .inl f_o_sample)), ((ad 50), .inl (K 0, 514, .inl f_o_fresh)), ((ad 32), .inl (K 0, 3, .inl f_o_groups)), ((ad 28), .inl (K 0, 3, .inl u5602)), ((ad 29), .inl (K 0, 1542, .inl u5603))] := hD
          obtain ⟨hin, h⟩ := h
          refine va_iast hx hb hK hP hD hS 1 0 rfl rfl hin d_M_make_96 (fun H locs hP hD hS => ?_)
          have hP : va_P G vwCl [((ad 34), .inl (K 1, 3, .inl f_o_made)), ((ad 30), .inl (K 0, 9252, .inl (upd f_o_step ((6 * ((514 * x1) + l2)) + l4).toNatClampNeg r5604))), ((ad 31), .inl (K 0, 1542, .inl f_o_group)), ((ad 33), .inl (K 0, 1542, .inl f_o_sample)), ((ad 50), .inl (K 0, 514, .inl f_o_fresh)), ((ad 32), .inl (K 0, 3, .inl f_o_groups)), ((ad 28), .inl (K 0, 3, .inl u5602)), ((ad 29), .inl (K 0, 1542, .inl u5603))] H := hP
          have hD : va_D A [((ad 34), .inl (K 1, 3, .inl f_o_made)), ((ad 30), .inl (K 0, 9252, .inl (upd f_o_step ((6 * ((514 * x1) + l2)) + l4).toNatClampNeg r5604))), ((ad 31), .inl (K 0, 1542, .inl f_o_group)), ((ad 33), .inl (K 0, 1542, .inl f_o_sample)), ((ad 50), .inl (K 0, 514, .inl f_o_fresh)), ((ad 32), .inl (K 0, 3, .inl f_o_groups)), ((ad 28), .inl (K 0, 3, .inl u5602)), ((ad 29), .inl (K 0, 1542, .inl u5603))] := hD
          refine lv_iinc (v := (l4 + 1)) (lv' := [(4, .int (l4 + 1)), (5, .int r5601), (0, .ref a0), (1, .int x1), (2, .int l2), (3, .int l3)]) hx hb d_M_make_97 hl (k := 5) rfl (by first | rfl | decide) (by decide) rfl (fun ls hl => ?_)
          refine lv_goto (tgt := 46) hx hb d_M_make_100 (by decide) ?_
          exact ih l2 l3 (l4 + 1) f_o_made u5602 u5603 (upd f_o_step ((6 * ((514 * x1) + l2)) + l4).toNatClampNeg r5604) f_o_group f_o_sample f_o_fresh f_o_groups  _ _ (hP.sub [0, 6, 7, 1, 2, 3, 4, 5] rfl) (hD.sub [0, 6, 7, 1, 2, 3, 4, 5] (by decide) rfl) hS _ (lv_sub hl [2, 3, 4, 5, 0] rfl) h
        · replace h := h.2 hc
          refine lv_iconst (v := (-1)) hx hb d_M_make_85 (by decide) ?_
          refine lv_goto (tgt := 96) hx hb d_M_make_86 (by decide) ?_
          obtain ⟨hin, h⟩ := h
          refine va_iast hx hb hK hP hD hS 3 0 rfl rfl hin d_M_make_96 (fun H locs hP hD hS => ?_)
          have hP : va_P G vwCl [((ad 34), .inl (K 1, 3, .inl f_o_made)), ((ad 28), .inl (K 0, 3, .inl f_o_nodes)), ((ad 29), .inl (K 0, 1542, .inl f_o_set)), ((ad 30), .inl (K 0, 9252, .inl (upd f_o_step ((6 * ((514 * x1) + l2)) + l4).toNatClampNeg (-1)))), ((ad 31), .inl (K 0, 1542, .inl f_o_group)), ((ad 33), .inl (K 0, 1542, .inl f_o_sample)), ((ad 50), .inl (K 0, 514, .inl f_o_fresh)), ((ad 32), .inl (K 0, 3, .inl f_o_groups))] H := hP
          have hD : va_D A [((ad 34), .inl (K 1, 3, .inl f_o_made)), ((ad 28), .inl (K 0, 3, .inl f_o_nodes)), ((ad 29), .inl (K 0, 1542, .inl f_o_set)), ((ad 30), .inl (K 0, 9252, .inl (upd f_o_step ((6 * ((514 * x1) + l2)) + l4).toNatClampNeg (-1)))), ((ad 31), .inl (K 0, 1542, .inl f_o_group)), ((ad 33), .inl (K 0, 1542, .inl f_o_sample)), ((ad 50), .inl (K 0, 514, .inl f_o_fresh)), ((ad 32), .inl (K 0, 3, .inl f_o_groups))] := hD
          refine lv_iinc (v := (l4 + 1)) (lv' := [(4, .int (l4 + 1)), (5, .int r5601), (0, .ref a0), (1, .int x1), (2, .int l2), (3, .int l3)]) hx hb d_M_make_97 hl (k := 5) rfl (by first | rfl | decide) (by decide) rfl (fun ls hl => ?_)
          refine lv_goto (tgt := 46) hx hb d_M_make_100 (by decide) ?_
          exact ih l2 l3 (l4 + 1) f_o_made f_o_nodes f_o_set (upd f_o_step ((6 * ((514 * x1) + l2)) + l4).toNatClampNeg (-1)) f_o_group f_o_sample f_o_fresh f_o_groups  _ _ (hP.sub [0, 1, 2, 3, 4, 5, 6, 7] rfl) (hD.sub [0, 1, 2, 3, 4, 5, 6, 7] (by decide) rfl) hS _ (lv_sub hl [2, 3, 4, 5, 0] rfl) h
  have C_26 : ∀ (n : Nat) (l2 : Int32) (f_o_made : (Nat → Int32)) (f_o_nodes : (Nat → Int32)) (f_o_set : (Nat → Int32)) (f_o_step : (Nat → Int32)) (f_o_group : (Nat → Int32)) (f_o_sample : (Nat → Int32)) (f_o_fresh : (Nat → Int32)) (f_o_groups : (Nat → Int32)) (H : Heap) (locs : List Loc), va_P G vwCl [((ad 34), .inl (K 1, 3, .inl f_o_made)), ((ad 28), .inl (K 0, 3, .inl f_o_nodes)), ((ad 29), .inl (K 0, 1542, .inl f_o_set)), ((ad 30), .inl (K 0, 9252, .inl f_o_step)), ((ad 31), .inl (K 0, 1542, .inl f_o_group)), ((ad 33), .inl (K 0, 1542, .inl f_o_sample)), ((ad 50), .inl (K 0, 514, .inl f_o_fresh)), ((ad 32), .inl (K 0, 3, .inl f_o_groups))] H → va_D A [((ad 34), .inl (K 1, 3, .inl f_o_made)), ((ad 28), .inl (K 0, 3, .inl f_o_nodes)), ((ad 29), .inl (K 0, 1542, .inl f_o_set)), ((ad 30), .inl (K 0, 9252, .inl f_o_step)), ((ad 31), .inl (K 0, 1542, .inl f_o_group)), ((ad 33), .inl (K 0, 1542, .inl f_o_sample)), ((ad 50), .inl (K 0, 514, .inl f_o_fresh)), ((ad 32), .inl (K 0, 3, .inl f_o_groups))] → va_S A s.heap H locs → ∀ (ls : Array Slot), lv_has ls 6 [(0, .ref a0), (1, .int x1), (2, .int l2)] → p_M_make_26 v_o_rules f_o_modeOf f_o_firstOf f_o_many f_o_behind f_o_letters f_o_lastOf x1 post n l2 f_o_made f_o_nodes f_o_set f_o_step f_o_group f_o_sample f_o_fresh f_o_groups → W p l e { frames := 3, cells := 0, slots := 0, locals := 74 } s m ([.ref a0, .int x1] : List Value).toArray below meth c H locs 0 0 Q (F0 m 26 ls []) := by
    intro n
    induction n with
    | zero =>
      intro l2 f_o_made f_o_nodes f_o_set f_o_step f_o_group f_o_sample f_o_fresh f_o_groups  H locs hP hD hS ls hl h
      exact False.elim h
    | succ n ih =>
      intro l2 f_o_made f_o_nodes f_o_set f_o_step f_o_group f_o_sample f_o_fresh f_o_groups  H locs hP hD hS ls hl h
      refine lv_iload_n hx hb d_M_make_26 rfl (lv_at hl 2 rfl) ?_
      refine lv_aload_n hx hb d_M_make_27 rfl (lv_at hl 0 rfl) ?_
      refine va_get (ci := 12) (v := .ref (ad 28)) hx hb htg in_M hown hK (gR hR rN hS) 0 rfl rfl 28 (by decide) (htg _ m_638) (fun _ h9 => h9) rfl d_M_make_28 ?_
      refine lv_iload_n hx hb d_M_make_31 rfl (lv_at hl 1 rfl) ?_
      obtain ⟨hin, h⟩ := h
      refine va_iald hx hb hK hP 1 0 rfl rfl hin d_M_make_32 ?_
      refine lv_icmp_ge (tgt := 109) hx hb d_M_make_33 (by decide) (fun hc => ?_) (fun hc => ?_)
      · replace h := h.1 hc
        exact C_109 f_o_made f_o_nodes f_o_set f_o_step f_o_group f_o_sample f_o_fresh f_o_groups  _ _ (hP.sub [0, 1, 2, 3, 4, 5, 6, 7] rfl) (hD.sub [0, 1, 2, 3, 4, 5, 6, 7] (by decide) rfl) hS _ (lv_sub hl [0, 1] rfl) h
      · replace h := h.2 hc
        refine lv_aload_n hx hb d_M_make_36 rfl (lv_at hl 0 rfl) ?_
        refine lv_iload_n hx hb d_M_make_37 rfl (lv_at hl 1 rfl) ?_
        refine lv_iload_n hx hb d_M_make_38 rfl (lv_at hl 2 rfl) ?_
        have hPc : va_P G vwCl [(a0, .inr (12, oM v_o_code v_o_typed v_o_rules v_o_at v_o_read v_o_depth v_o_wrong v_o_there v_o_ended v_o_mode v_o_kept v_o_came v_o_pending v_o_looked v_o_tokens v_o_oldest ad)), ((ad 4), .inl (K 0, 16, .inl f_o_modeOf)), ((ad 6), .inl (K 0, 16, .inl f_o_firstOf)), ((ad 8), .inl (K 0, 3, .inl f_o_many)), ((ad 29), .inl (K 0, 1542, .inl f_o_set)), ((ad 11), .inl (K 0, 27, .inl f_o_behind))] _ := (hP.app (gR hR rN hS)).sub [8, 9, 10, 11, 2, 12] rfl
        refine vp_callSi (va_Run.run (va_runV (As := [.int x1, .int l2]) (rest := []) ⟨hx, hb, hml, hown, htg⟩ (k_M_may l G K a0 ad v_o_code v_o_typed v_o_rules v_o_at v_o_read v_o_depth v_o_wrong v_o_there v_o_ended v_o_mode v_o_kept v_o_came v_o_pending v_o_looked v_o_tokens v_o_oldest f_o_modeOf f_o_firstOf f_o_many f_o_set f_o_behind x1 l2 _ h) (cwV 2 htg (gGoodV m_731 m_732 m_892 m_13 m_733) rfl rfl rfl (by decide +kernel) ⟨(Nat.le_of_ble_eq_true rfl), (Nat.le_of_ble_eq_true rfl)⟩) (gS_preV (ci := 12) (q0 := 0) hK hN hPc rfl rfl) rfl rfl hl.1 rfl (lv_room (Nat.le_of_ble_eq_true rfl)) d_M_make_39 ⟨(Nat.le_of_ble_eq_true rfl), (Nat.le_of_ble_eq_true rfl)⟩)) (fun r3601 h => ?_)
        refine lv_istore_n (lv' := [(3, .int r3601), (0, .ref a0), (1, .int x1), (2, .int l2)]) hx hb d_M_make_42 rfl hl (by decide) rfl (fun ls hl => ?_)
        refine lv_iconst (v := 0) hx hb d_M_make_43 (by decide) ?_
        refine lv_istore (lv' := [(4, .int 0), (3, .int r3601), (0, .ref a0), (1, .int x1), (2, .int l2)]) hx hb d_M_make_44 hl (by decide) rfl (fun ls hl => ?_)
        obtain ⟨k, h⟩ := h
        exact C_46 _ ih k l2 r3601 0 f_o_made f_o_nodes f_o_set f_o_step f_o_group f_o_sample f_o_fresh f_o_groups  _ _ (hP.sub [0, 1, 2, 3, 4, 5, 6, 7] rfl) (hD.sub [0, 1, 2, 3, 4, 5, 6, 7] (by decide) rfl) hS _ (lv_sub hl [2, 3, 4, 1, 0] rfl) h
  refine lv_aload_n hx hb d_M_make_0 rfl (lv_at hl 0 rfl) ?_
  refine va_get (ci := 12) (v := .ref (ad 34)) hx hb htg in_M hown hK (gR hR rN hS) 0 rfl rfl 34 (by decide) (htg _ m_644) (fun _ h9 => h9) rfl d_M_make_1 ?_
  refine lv_iload_n hx hb d_M_make_4 rfl (lv_at hl 1 rfl) ?_
  obtain ⟨hin, h⟩ := h
  refine va_zald hx hb hK hP 0 1 rfl rfl hin d_M_make_5 ?_
  refine lv_if_eq (tgt := 10) hx hb d_M_make_6 (by decide) (fun hc => ?_) (fun hc => ?_)
  · replace h := h.1 hc
    refine lv_aload_n hx hb d_M_make_10 rfl (lv_at hl 0 rfl) ?_
    refine va_get (ci := 12) (v := .ref (ad 34)) hx hb htg in_M hown hK (gR hR rN hS) 0 rfl rfl 34 (by decide) (htg _ m_644) (fun _ h9 => h9) rfl d_M_make_11 ?_
    refine lv_iload_n hx hb d_M_make_14 rfl (lv_at hl 1 rfl) ?_
    refine lv_iconst (v := 1) hx hb d_M_make_15 (by decide) ?_
    obtain ⟨hin, h⟩ := h
    refine va_zast hx hb hK hP hD hS 0 1 rfl rfl hin d_M_make_16 (fun H locs hP hD hS => ?_)
    have hP : va_P G vwCl [((ad 34), .inl (K 1, 3, .inl (upd f_o_made x1.toNatClampNeg (vp_nar .boolean 1)))), ((ad 28), .inl (K 0, 3, .inl f_o_nodes)), ((ad 29), .inl (K 0, 1542, .inl f_o_set)), ((ad 30), .inl (K 0, 9252, .inl f_o_step)), ((ad 31), .inl (K 0, 1542, .inl f_o_group)), ((ad 33), .inl (K 0, 1542, .inl f_o_sample)), ((ad 50), .inl (K 0, 514, .inl f_o_fresh)), ((ad 32), .inl (K 0, 3, .inl f_o_groups))] H := hP
    have hD : va_D A [((ad 34), .inl (K 1, 3, .inl (upd f_o_made x1.toNatClampNeg (vp_nar .boolean 1)))), ((ad 28), .inl (K 0, 3, .inl f_o_nodes)), ((ad 29), .inl (K 0, 1542, .inl f_o_set)), ((ad 30), .inl (K 0, 9252, .inl f_o_step)), ((ad 31), .inl (K 0, 1542, .inl f_o_group)), ((ad 33), .inl (K 0, 1542, .inl f_o_sample)), ((ad 50), .inl (K 0, 514, .inl f_o_fresh)), ((ad 32), .inl (K 0, 3, .inl f_o_groups))] := hD
    refine lv_aload_n hx hb d_M_make_17 rfl (lv_at hl 0 rfl) ?_
    refine va_get (ci := 12) (v := .ref (ad 28)) hx hb htg in_M hown hK (gR hR rN hS) 0 rfl rfl 28 (by decide) (htg _ m_638) (fun _ h9 => h9) rfl d_M_make_18 ?_
    refine lv_iload_n hx hb d_M_make_21 rfl (lv_at hl 1 rfl) ?_
    refine lv_iconst (v := 1) hx hb d_M_make_22 (by decide) ?_
    obtain ⟨hin, h⟩ := h
    refine va_iast hx hb hK hP hD hS 1 0 rfl rfl hin d_M_make_23 (fun H locs hP hD hS => ?_)
    have hP : va_P G vwCl [((ad 34), .inl (K 1, 3, .inl (upd f_o_made x1.toNatClampNeg (vp_nar .boolean 1)))), ((ad 28), .inl (K 0, 3, .inl (upd f_o_nodes x1.toNatClampNeg 1))), ((ad 29), .inl (K 0, 1542, .inl f_o_set)), ((ad 30), .inl (K 0, 9252, .inl f_o_step)), ((ad 31), .inl (K 0, 1542, .inl f_o_group)), ((ad 33), .inl (K 0, 1542, .inl f_o_sample)), ((ad 50), .inl (K 0, 514, .inl f_o_fresh)), ((ad 32), .inl (K 0, 3, .inl f_o_groups))] H := hP
    have hD : va_D A [((ad 34), .inl (K 1, 3, .inl (upd f_o_made x1.toNatClampNeg (vp_nar .boolean 1)))), ((ad 28), .inl (K 0, 3, .inl (upd f_o_nodes x1.toNatClampNeg 1))), ((ad 29), .inl (K 0, 1542, .inl f_o_set)), ((ad 30), .inl (K 0, 9252, .inl f_o_step)), ((ad 31), .inl (K 0, 1542, .inl f_o_group)), ((ad 33), .inl (K 0, 1542, .inl f_o_sample)), ((ad 50), .inl (K 0, 514, .inl f_o_fresh)), ((ad 32), .inl (K 0, 3, .inl f_o_groups))] := hD
    refine lv_iconst (v := 0) hx hb d_M_make_24 (by decide) ?_
    refine lv_istore_n (lv' := [(2, .int 0), (0, .ref a0), (1, .int x1)]) hx hb d_M_make_25 rfl hl (by decide) rfl (fun ls hl => ?_)
    obtain ⟨k, h⟩ := h
    exact C_26 k 0 (upd f_o_made x1.toNatClampNeg (vp_nar .boolean 1)) (upd f_o_nodes x1.toNatClampNeg 1) f_o_set f_o_step f_o_group f_o_sample f_o_fresh f_o_groups  _ _ (hP.sub [0, 1, 2, 3, 4, 5, 6, 7] rfl) (hD.sub [0, 1, 2, 3, 4, 5, 6, 7] (by decide) rfl) hS _ (lv_sub hl [1, 2, 0] rfl) h
  · replace h := h.2 hc
    exact hret (f_o_made, f_o_nodes, f_o_set, f_o_step, f_o_group, f_o_sample, f_o_fresh, f_o_groups) _ _ _ _ h (hP.sub [0, 1, 2, 3, 4, 5, 6, 7] rfl) (hD.sub [0, 1, 2, 3, 4, 5, 6, 7] (by decide) rfl) hS d_M_make_9
