theorem d_M_begin_0 : decode c_M_begin 0 = .ok (.aload_n 0, 1) := by decide +kernel
theorem d_M_begin_1 : decode c_M_begin 1 = .ok (.iconst 0, 1) := by decide +kernel
theorem d_M_begin_2 : decode c_M_begin 2 = .ok (.putfield 131, 3) := by decide +kernel
theorem d_M_begin_5 : decode c_M_begin 5 = .ok (.iload_n 1, 1) := by decide +kernel
theorem d_M_begin_6 : decode c_M_begin 6 = .ok (.invokestatic 239, 3) := by decide +kernel
theorem d_M_begin_9 : decode c_M_begin 9 = .ok (.ifCond .ne 5, 3) := by decide +kernel
theorem d_M_begin_12 : decode c_M_begin 12 = .ok (.iconst 0, 1) := by decide +kernel
theorem d_M_begin_13 : decode c_M_begin 13 = .ok (.ireturn, 1) := by decide +kernel
theorem d_M_begin_14 : decode c_M_begin 14 = .ok (.aload_n 0, 1) := by decide +kernel
theorem d_M_begin_15 : decode c_M_begin 15 = .ok (.iconst 1, 1) := by decide +kernel
theorem d_M_begin_16 : decode c_M_begin 16 = .ok (.putfield 201, 3) := by decide +kernel
theorem d_M_begin_19 : decode c_M_begin 19 = .ok (.aload_n 0, 1) := by decide +kernel
theorem d_M_begin_20 : decode c_M_begin 20 = .ok (.iconst 0, 1) := by decide +kernel
theorem d_M_begin_21 : decode c_M_begin 21 = .ok (.putfield 205, 3) := by decide +kernel
theorem d_M_begin_24 : decode c_M_begin 24 = .ok (.aload_n 0, 1) := by decide +kernel
theorem d_M_begin_25 : decode c_M_begin 25 = .ok (.iload_n 1, 1) := by decide +kernel
theorem d_M_begin_26 : decode c_M_begin 26 = .ok (.putfield 270, 3) := by decide +kernel
theorem d_M_begin_29 : decode c_M_begin 29 = .ok (.aload_n 0, 1) := by decide +kernel
theorem d_M_begin_30 : decode c_M_begin 30 = .ok (.iconst 0, 1) := by decide +kernel
theorem d_M_begin_31 : decode c_M_begin 31 = .ok (.putfield 273, 3) := by decide +kernel
theorem d_M_begin_34 : decode c_M_begin 34 = .ok (.aload_n 0, 1) := by decide +kernel
theorem d_M_begin_35 : decode c_M_begin 35 = .ok (.iconst 0, 1) := by decide +kernel
theorem d_M_begin_36 : decode c_M_begin 36 = .ok (.putfield 276, 3) := by decide +kernel
theorem d_M_begin_39 : decode c_M_begin 39 = .ok (.aload_n 0, 1) := by decide +kernel
theorem d_M_begin_40 : decode c_M_begin 40 = .ok (.iconst 0, 1) := by decide +kernel
theorem d_M_begin_41 : decode c_M_begin 41 = .ok (.putfield 279, 3) := by decide +kernel
theorem d_M_begin_44 : decode c_M_begin 44 = .ok (.aload_n 0, 1) := by decide +kernel
theorem d_M_begin_45 : decode c_M_begin 45 = .ok (.iconst 0, 1) := by decide +kernel
theorem d_M_begin_46 : decode c_M_begin 46 = .ok (.putfield 282, 3) := by decide +kernel
theorem d_M_begin_49 : decode c_M_begin 49 = .ok (.aload_n 0, 1) := by decide +kernel
theorem d_M_begin_50 : decode c_M_begin 50 = .ok (.iconst 0, 1) := by decide +kernel
theorem d_M_begin_51 : decode c_M_begin 51 = .ok (.putfield 285, 3) := by decide +kernel
theorem d_M_begin_54 : decode c_M_begin 54 = .ok (.aload_n 0, 1) := by decide +kernel
theorem d_M_begin_55 : decode c_M_begin 55 = .ok (.iconst 0, 1) := by decide +kernel
theorem d_M_begin_56 : decode c_M_begin 56 = .ok (.putfield 288, 3) := by decide +kernel
theorem d_M_begin_59 : decode c_M_begin 59 = .ok (.iconst 1, 1) := by decide +kernel
theorem d_M_begin_60 : decode c_M_begin 60 = .ok (.ireturn, 1) := by decide +kernel
theorem d_M_word_0 : decode c_M_word 0 = .ok (.iconst 0, 1) := by decide +kernel
theorem d_M_word_1 : decode c_M_word 1 = .ok (.istore_n 2, 1) := by decide +kernel
theorem d_M_word_2 : decode c_M_word 2 = .ok (.iconst 0, 1) := by decide +kernel
theorem d_M_word_3 : decode c_M_word 3 = .ok (.istore_n 3, 1) := by decide +kernel
theorem d_M_word_4 : decode c_M_word 4 = .ok (.iload_n 3, 1) := by decide +kernel
theorem d_M_word_5 : decode c_M_word 5 = .ok (.iload_n 1, 1) := by decide +kernel
theorem d_M_word_6 : decode c_M_word 6 = .ok (.if_icmp .ge 30, 3) := by decide +kernel
theorem d_M_word_9 : decode c_M_word 9 = .ok (.iload_n 2, 1) := by decide +kernel
theorem d_M_word_10 : decode c_M_word 10 = .ok (.iconst (-1), 1) := by decide +kernel
theorem d_M_word_11 : decode c_M_word 11 = .ok (.if_icmp .eq 25, 3) := by decide +kernel
theorem d_M_word_14 : decode c_M_word 14 = .ok (.aload_n 0, 1) := by decide +kernel
theorem d_M_word_15 : decode c_M_word 15 = .ok (.aload_n 0, 1) := by decide +kernel
theorem d_M_word_16 : decode c_M_word 16 = .ok (.getfield 270, 3) := by decide +kernel
theorem d_M_word_19 : decode c_M_word 19 = .ok (.iload_n 2, 1) := by decide +kernel
theorem d_M_word_20 : decode c_M_word 20 = .ok (.aload_n 0, 1) := by decide +kernel
theorem d_M_word_21 : decode c_M_word 21 = .ok (.getfield 98, 3) := by decide +kernel
theorem d_M_word_24 : decode c_M_word 24 = .ok (.iload_n 3, 1) := by decide +kernel
theorem d_M_word_25 : decode c_M_word 25 = .ok (.iaload, 1) := by decide +kernel
theorem d_M_word_26 : decode c_M_word 26 = .ok (.invokevirtual 232, 3) := by decide +kernel
theorem d_M_word_29 : decode c_M_word 29 = .ok (.istore_n 2, 1) := by decide +kernel
theorem d_M_word_30 : decode c_M_word 30 = .ok (.iinc 3 1, 3) := by decide +kernel
theorem d_M_word_33 : decode c_M_word 33 = .ok (.goto (-29), 3) := by decide +kernel
theorem d_M_word_36 : decode c_M_word 36 = .ok (.iload_n 2, 1) := by decide +kernel
theorem d_M_word_37 : decode c_M_word 37 = .ok (.ireturn, 1) := by decide +kernel
theorem d_M_isOver_0 : decode c_M_isOver 0 = .ok (.aload_n 0, 1) := by decide +kernel
theorem d_M_isOver_1 : decode c_M_isOver 1 = .ok (.iload_n 1, 1) := by decide +kernel
theorem d_M_isOver_2 : decode c_M_isOver 2 = .ok (.invokevirtual 291, 3) := by decide +kernel
theorem d_M_isOver_5 : decode c_M_isOver 5 = .ok (.istore_n 2, 1) := by decide +kernel
theorem d_M_isOver_6 : decode c_M_isOver 6 = .ok (.iload_n 2, 1) := by decide +kernel
theorem d_M_isOver_7 : decode c_M_isOver 7 = .ok (.iconst (-1), 1) := by decide +kernel
theorem d_M_isOver_8 : decode c_M_isOver 8 = .ok (.if_icmp .ne 5, 3) := by decide +kernel
theorem d_M_isOver_11 : decode c_M_isOver 11 = .ok (.iconst 1, 1) := by decide +kernel
theorem d_M_isOver_12 : decode c_M_isOver 12 = .ok (.ireturn, 1) := by decide +kernel
theorem d_M_isOver_13 : decode c_M_isOver 13 = .ok (.iconst 0, 1) := by decide +kernel
theorem d_M_isOver_14 : decode c_M_isOver 14 = .ok (.istore_n 3, 1) := by decide +kernel
theorem d_M_isOver_15 : decode c_M_isOver 15 = .ok (.iload_n 3, 1) := by decide +kernel
theorem d_M_isOver_16 : decode c_M_isOver 16 = .ok (.bipush 6, 2) := by decide +kernel
theorem d_M_isOver_18 : decode c_M_isOver 18 = .ok (.if_icmp .ge 25, 3) := by decide +kernel
theorem d_M_isOver_21 : decode c_M_isOver 21 = .ok (.aload_n 0, 1) := by decide +kernel
theorem d_M_isOver_22 : decode c_M_isOver 22 = .ok (.aload_n 0, 1) := by decide +kernel
theorem d_M_isOver_23 : decode c_M_isOver 23 = .ok (.getfield 270, 3) := by decide +kernel
theorem d_M_isOver_26 : decode c_M_isOver 26 = .ok (.iload_n 2, 1) := by decide +kernel
theorem d_M_isOver_27 : decode c_M_isOver 27 = .ok (.iload_n 3, 1) := by decide +kernel
theorem d_M_isOver_28 : decode c_M_isOver 28 = .ok (.invokevirtual 232, 3) := by decide +kernel
theorem d_M_isOver_31 : decode c_M_isOver 31 = .ok (.iconst (-1), 1) := by decide +kernel
theorem d_M_isOver_32 : decode c_M_isOver 32 = .ok (.if_icmp .eq 5, 3) := by decide +kernel
theorem d_M_isOver_35 : decode c_M_isOver 35 = .ok (.iconst 0, 1) := by decide +kernel
theorem d_M_isOver_36 : decode c_M_isOver 36 = .ok (.ireturn, 1) := by decide +kernel
theorem d_M_isOver_37 : decode c_M_isOver 37 = .ok (.iinc 3 1, 3) := by decide +kernel
theorem d_M_isOver_40 : decode c_M_isOver 40 = .ok (.goto (-25), 3) := by decide +kernel
theorem d_M_isOver_43 : decode c_M_isOver 43 = .ok (.iconst 1, 1) := by decide +kernel
theorem d_M_isOver_44 : decode c_M_isOver 44 = .ok (.ireturn, 1) := by decide +kernel
theorem d_M_cut_0 : decode c_M_cut 0 = .ok (.iconst 0, 1) := by decide +kernel
theorem d_M_cut_1 : decode c_M_cut 1 = .ok (.istore_n 2, 1) := by decide +kernel
theorem d_M_cut_2 : decode c_M_cut 2 = .ok (.iconst (-1), 1) := by decide +kernel
theorem d_M_cut_3 : decode c_M_cut 3 = .ok (.istore_n 3, 1) := by decide +kernel
theorem d_M_cut_4 : decode c_M_cut 4 = .ok (.iconst 1, 1) := by decide +kernel
theorem d_M_cut_5 : decode c_M_cut 5 = .ok (.istore 4, 2) := by decide +kernel
theorem d_M_cut_7 : decode c_M_cut 7 = .ok (.iload 4, 2) := by decide +kernel
theorem d_M_cut_9 : decode c_M_cut 9 = .ok (.iload_n 1, 1) := by decide +kernel
theorem d_M_cut_10 : decode c_M_cut 10 = .ok (.if_icmp .gt 54, 3) := by decide +kernel
theorem d_M_cut_13 : decode c_M_cut 13 = .ok (.aload_n 0, 1) := by decide +kernel
theorem d_M_cut_14 : decode c_M_cut 14 = .ok (.iload 4, 2) := by decide +kernel
theorem d_M_cut_16 : decode c_M_cut 16 = .ok (.invokevirtual 291, 3) := by decide +kernel
theorem d_M_cut_19 : decode c_M_cut 19 = .ok (.istore 5, 2) := by decide +kernel
theorem d_M_cut_21 : decode c_M_cut 21 = .ok (.iload 5, 2) := by decide +kernel
theorem d_M_cut_23 : decode c_M_cut 23 = .ok (.iconst (-1), 1) := by decide +kernel
theorem d_M_cut_24 : decode c_M_cut 24 = .ok (.if_icmp .ne 7, 3) := by decide +kernel
theorem d_M_cut_27 : decode c_M_cut 27 = .ok (.iconst (-1), 1) := by decide +kernel
theorem d_M_cut_28 : decode c_M_cut 28 = .ok (.goto 13, 3) := by decide +kernel
theorem d_M_cut_31 : decode c_M_cut 31 = .ok (.aload_n 0, 1) := by decide +kernel
theorem d_M_cut_32 : decode c_M_cut 32 = .ok (.aload_n 0, 1) := by decide +kernel
theorem d_M_cut_33 : decode c_M_cut 33 = .ok (.getfield 270, 3) := by decide +kernel
theorem d_M_cut_36 : decode c_M_cut 36 = .ok (.iload 5, 2) := by decide +kernel
theorem d_M_cut_38 : decode c_M_cut 38 = .ok (.invokevirtual 219, 3) := by decide +kernel
theorem d_M_cut_41 : decode c_M_cut 41 = .ok (.istore 6, 2) := by decide +kernel
theorem d_M_cut_43 : decode c_M_cut 43 = .ok (.iload 6, 2) := by decide +kernel
theorem d_M_cut_45 : decode c_M_cut 45 = .ok (.iconst (-1), 1) := by decide +kernel
theorem d_M_cut_46 : decode c_M_cut 46 = .ok (.if_icmp .ne 6, 3) := by decide +kernel
theorem d_M_cut_49 : decode c_M_cut 49 = .ok (.goto 9, 3) := by decide +kernel
theorem d_M_cut_52 : decode c_M_cut 52 = .ok (.iload 4, 2) := by decide +kernel
theorem d_M_cut_54 : decode c_M_cut 54 = .ok (.istore_n 2, 1) := by decide +kernel
theorem d_M_cut_55 : decode c_M_cut 55 = .ok (.iload 6, 2) := by decide +kernel
theorem d_M_cut_57 : decode c_M_cut 57 = .ok (.istore_n 3, 1) := by decide +kernel
theorem d_M_cut_58 : decode c_M_cut 58 = .ok (.iinc 4 1, 3) := by decide +kernel
theorem d_M_cut_61 : decode c_M_cut 61 = .ok (.goto (-54), 3) := by decide +kernel
theorem d_M_cut_64 : decode c_M_cut 64 = .ok (.iload_n 2, 1) := by decide +kernel
theorem d_M_cut_65 : decode c_M_cut 65 = .ok (.ifCond .ne 7, 3) := by decide +kernel
theorem d_M_cut_68 : decode c_M_cut 68 = .ok (.iconst 1, 1) := by decide +kernel
theorem d_M_cut_69 : decode c_M_cut 69 = .ok (.goto 4, 3) := by decide +kernel
theorem d_M_cut_72 : decode c_M_cut 72 = .ok (.iload_n 2, 1) := by decide +kernel
theorem d_M_cut_73 : decode c_M_cut 73 = .ok (.istore_n 2, 1) := by decide +kernel
theorem d_M_cut_74 : decode c_M_cut 74 = .ok (.aload_n 0, 1) := by decide +kernel
theorem d_M_cut_75 : decode c_M_cut 75 = .ok (.getfield 288, 3) := by decide +kernel
theorem d_M_cut_78 : decode c_M_cut 78 = .ok (.aload_n 0, 1) := by decide +kernel
theorem d_M_cut_79 : decode c_M_cut 79 = .ok (.getfield 285, 3) := by decide +kernel
theorem d_M_cut_82 : decode c_M_cut 82 = .ok (.iadd, 1) := by decide +kernel
theorem d_M_cut_83 : decode c_M_cut 83 = .ok (.sipush 400, 3) := by decide +kernel
theorem d_M_cut_86 : decode c_M_cut 86 = .ok (.irem, 1) := by decide +kernel
theorem d_M_cut_87 : decode c_M_cut 87 = .ok (.istore 4, 2) := by decide +kernel
theorem d_M_cut_89 : decode c_M_cut 89 = .ok (.aload_n 0, 1) := by decide +kernel
theorem d_M_cut_90 : decode c_M_cut 90 = .ok (.getfield 101, 3) := by decide +kernel
theorem d_M_cut_93 : decode c_M_cut 93 = .ok (.iload 4, 2) := by decide +kernel
theorem d_M_cut_95 : decode c_M_cut 95 = .ok (.iload_n 3, 1) := by decide +kernel
theorem d_M_cut_96 : decode c_M_cut 96 = .ok (.iastore, 1) := by decide +kernel
theorem d_M_cut_97 : decode c_M_cut 97 = .ok (.aload_n 0, 1) := by decide +kernel
theorem d_M_cut_98 : decode c_M_cut 98 = .ok (.getfield 104, 3) := by decide +kernel
theorem d_M_cut_101 : decode c_M_cut 101 = .ok (.iload 4, 2) := by decide +kernel
theorem d_M_cut_103 : decode c_M_cut 103 = .ok (.aload_n 0, 1) := by decide +kernel
theorem d_M_cut_104 : decode c_M_cut 104 = .ok (.getfield 276, 3) := by decide +kernel
theorem d_M_cut_107 : decode c_M_cut 107 = .ok (.aload_n 0, 1) := by decide +kernel
theorem d_M_cut_108 : decode c_M_cut 108 = .ok (.getfield 279, 3) := by decide +kernel
theorem d_M_cut_111 : decode c_M_cut 111 = .ok (.isub, 1) := by decide +kernel
theorem d_M_cut_112 : decode c_M_cut 112 = .ok (.iastore, 1) := by decide +kernel
theorem d_M_cut_113 : decode c_M_cut 113 = .ok (.aload_n 0, 1) := by decide +kernel
theorem d_M_cut_114 : decode c_M_cut 114 = .ok (.getfield 107, 3) := by decide +kernel
theorem d_M_cut_117 : decode c_M_cut 117 = .ok (.iload 4, 2) := by decide +kernel
theorem d_M_cut_119 : decode c_M_cut 119 = .ok (.iload_n 2, 1) := by decide +kernel
theorem d_M_cut_120 : decode c_M_cut 120 = .ok (.iastore, 1) := by decide +kernel
theorem d_M_cut_121 : decode c_M_cut 121 = .ok (.aload_n 0, 1) := by decide +kernel
theorem d_M_cut_122 : decode c_M_cut 122 = .ok (.getfield 110, 3) := by decide +kernel
theorem d_M_cut_125 : decode c_M_cut 125 = .ok (.iload 4, 2) := by decide +kernel
theorem d_M_cut_127 : decode c_M_cut 127 = .ok (.aload_n 0, 1) := by decide +kernel
theorem d_M_cut_128 : decode c_M_cut 128 = .ok (.getfield 270, 3) := by decide +kernel
theorem d_M_cut_131 : decode c_M_cut 131 = .ok (.iastore, 1) := by decide +kernel
theorem d_M_cut_132 : decode c_M_cut 132 = .ok (.aload_n 0, 1) := by decide +kernel
theorem d_M_cut_133 : decode c_M_cut 133 = .ok (.dup, 1) := by decide +kernel
theorem d_M_cut_134 : decode c_M_cut 134 = .ok (.getfield 285, 3) := by decide +kernel
theorem d_M_cut_137 : decode c_M_cut 137 = .ok (.iconst 1, 1) := by decide +kernel
theorem d_M_cut_138 : decode c_M_cut 138 = .ok (.iadd, 1) := by decide +kernel
theorem d_M_cut_139 : decode c_M_cut 139 = .ok (.putfield 285, 3) := by decide +kernel
theorem d_M_cut_142 : decode c_M_cut 142 = .ok (.aload_n 0, 1) := by decide +kernel
theorem d_M_cut_143 : decode c_M_cut 143 = .ok (.dup, 1) := by decide +kernel
theorem d_M_cut_144 : decode c_M_cut 144 = .ok (.getfield 279, 3) := by decide +kernel
theorem d_M_cut_147 : decode c_M_cut 147 = .ok (.iload_n 2, 1) := by decide +kernel
theorem d_M_cut_148 : decode c_M_cut 148 = .ok (.isub, 1) := by decide +kernel
theorem d_M_cut_149 : decode c_M_cut 149 = .ok (.putfield 279, 3) := by decide +kernel
theorem d_M_cut_152 : decode c_M_cut 152 = .ok (.iconst 0, 1) := by decide +kernel
theorem d_M_cut_153 : decode c_M_cut 153 = .ok (.istore 5, 2) := by decide +kernel
theorem d_M_cut_155 : decode c_M_cut 155 = .ok (.iload 5, 2) := by decide +kernel
theorem d_M_cut_157 : decode c_M_cut 157 = .ok (.aload_n 0, 1) := by decide +kernel
theorem d_M_cut_158 : decode c_M_cut 158 = .ok (.getfield 279, 3) := by decide +kernel
theorem d_M_cut_161 : decode c_M_cut 161 = .ok (.if_icmp .ge 25, 3) := by decide +kernel
theorem d_M_cut_164 : decode c_M_cut 164 = .ok (.aload_n 0, 1) := by decide +kernel
theorem d_M_cut_165 : decode c_M_cut 165 = .ok (.getfield 98, 3) := by decide +kernel
theorem d_M_cut_168 : decode c_M_cut 168 = .ok (.iload 5, 2) := by decide +kernel
theorem d_M_cut_170 : decode c_M_cut 170 = .ok (.aload_n 0, 1) := by decide +kernel
theorem d_M_cut_171 : decode c_M_cut 171 = .ok (.getfield 98, 3) := by decide +kernel
theorem d_M_cut_174 : decode c_M_cut 174 = .ok (.iload 5, 2) := by decide +kernel
theorem d_M_cut_176 : decode c_M_cut 176 = .ok (.iload_n 2, 1) := by decide +kernel
theorem d_M_cut_177 : decode c_M_cut 177 = .ok (.iadd, 1) := by decide +kernel
theorem d_M_cut_178 : decode c_M_cut 178 = .ok (.iaload, 1) := by decide +kernel
theorem d_M_cut_179 : decode c_M_cut 179 = .ok (.iastore, 1) := by decide +kernel
theorem d_M_cut_180 : decode c_M_cut 180 = .ok (.iinc 5 1, 3) := by decide +kernel
theorem d_M_cut_183 : decode c_M_cut 183 = .ok (.goto (-28), 3) := by decide +kernel
theorem d_M_cut_186 : decode c_M_cut 186 = .ok (.aload_n 0, 1) := by decide +kernel
theorem d_M_cut_187 : decode c_M_cut 187 = .ok (.iconst 0, 1) := by decide +kernel
theorem d_M_cut_188 : decode c_M_cut 188 = .ok (.putfield 282, 3) := by decide +kernel
theorem d_M_cut_191 : decode c_M_cut 191 = .ok (.iload_n 3, 1) := by decide +kernel
theorem d_M_cut_192 : decode c_M_cut 192 = .ok (.iconst (-1), 1) := by decide +kernel
theorem d_M_cut_193 : decode c_M_cut 193 = .ok (.if_icmp .ne 7, 3) := by decide +kernel
theorem d_M_cut_196 : decode c_M_cut 196 = .ok (.iconst 0, 1) := by decide +kernel
theorem d_M_cut_197 : decode c_M_cut 197 = .ok (.goto 9, 3) := by decide +kernel
theorem d_M_cut_200 : decode c_M_cut 200 = .ok (.aload_n 0, 1) := by decide +kernel
theorem d_M_cut_201 : decode c_M_cut 201 = .ok (.getfield 16, 3) := by decide +kernel
theorem d_M_cut_204 : decode c_M_cut 204 = .ok (.iload_n 3, 1) := by decide +kernel
theorem d_M_cut_205 : decode c_M_cut 205 = .ok (.iaload, 1) := by decide +kernel
theorem d_M_cut_206 : decode c_M_cut 206 = .ok (.istore 5, 2) := by decide +kernel
theorem d_M_cut_208 : decode c_M_cut 208 = .ok (.iload 5, 2) := by decide +kernel
theorem d_M_cut_210 : decode c_M_cut 210 = .ok (.ifCond .le 48, 3) := by decide +kernel
theorem d_M_cut_213 : decode c_M_cut 213 = .ok (.iload 5, 2) := by decide +kernel
theorem d_M_cut_215 : decode c_M_cut 215 = .ok (.iconst 4, 1) := by decide +kernel
theorem d_M_cut_216 : decode c_M_cut 216 = .ok (.if_icmp .ge 42, 3) := by decide +kernel
theorem d_M_cut_219 : decode c_M_cut 219 = .ok (.aload_n 0, 1) := by decide +kernel
theorem d_M_cut_220 : decode c_M_cut 220 = .ok (.getfield 273, 3) := by decide +kernel
theorem d_M_cut_223 : decode c_M_cut 223 = .ok (.iconst 5, 1) := by decide +kernel
theorem d_M_cut_224 : decode c_M_cut 224 = .ok (.if_icmp .ge 34, 3) := by decide +kernel
theorem d_M_cut_227 : decode c_M_cut 227 = .ok (.aload_n 0, 1) := by decide +kernel
theorem d_M_cut_228 : decode c_M_cut 228 = .ok (.getfield 95, 3) := by decide +kernel
theorem d_M_cut_231 : decode c_M_cut 231 = .ok (.aload_n 0, 1) := by decide +kernel
theorem d_M_cut_232 : decode c_M_cut 232 = .ok (.getfield 273, 3) := by decide +kernel
theorem d_M_cut_235 : decode c_M_cut 235 = .ok (.aload_n 0, 1) := by decide +kernel
theorem d_M_cut_236 : decode c_M_cut 236 = .ok (.getfield 270, 3) := by decide +kernel
theorem d_M_cut_239 : decode c_M_cut 239 = .ok (.iastore, 1) := by decide +kernel
theorem d_M_cut_240 : decode c_M_cut 240 = .ok (.aload_n 0, 1) := by decide +kernel
theorem d_M_cut_241 : decode c_M_cut 241 = .ok (.dup, 1) := by decide +kernel
theorem d_M_cut_242 : decode c_M_cut 242 = .ok (.getfield 273, 3) := by decide +kernel
theorem d_M_cut_245 : decode c_M_cut 245 = .ok (.iconst 1, 1) := by decide +kernel
theorem d_M_cut_246 : decode c_M_cut 246 = .ok (.iadd, 1) := by decide +kernel
theorem d_M_cut_247 : decode c_M_cut 247 = .ok (.putfield 273, 3) := by decide +kernel
theorem d_M_cut_250 : decode c_M_cut 250 = .ok (.aload_n 0, 1) := by decide +kernel
theorem d_M_cut_251 : decode c_M_cut 251 = .ok (.iload 5, 2) := by decide +kernel
theorem d_M_cut_253 : decode c_M_cut 253 = .ok (.iconst 1, 1) := by decide +kernel
theorem d_M_cut_254 : decode c_M_cut 254 = .ok (.isub, 1) := by decide +kernel
theorem d_M_cut_255 : decode c_M_cut 255 = .ok (.putfield 270, 3) := by decide +kernel
theorem d_M_cut_258 : decode c_M_cut 258 = .ok (.iload 5, 2) := by decide +kernel
theorem d_M_cut_260 : decode c_M_cut 260 = .ok (.iconst 4, 1) := by decide +kernel
theorem d_M_cut_261 : decode c_M_cut 261 = .ok (.if_icmp .ne 33, 3) := by decide +kernel
theorem d_M_cut_264 : decode c_M_cut 264 = .ok (.aload_n 0, 1) := by decide +kernel
theorem d_M_cut_265 : decode c_M_cut 265 = .ok (.getfield 273, 3) := by decide +kernel
theorem d_M_cut_268 : decode c_M_cut 268 = .ok (.ifCond .le 26, 3) := by decide +kernel
theorem d_M_cut_271 : decode c_M_cut 271 = .ok (.aload_n 0, 1) := by decide +kernel
theorem d_M_cut_272 : decode c_M_cut 272 = .ok (.dup, 1) := by decide +kernel
theorem d_M_cut_273 : decode c_M_cut 273 = .ok (.getfield 273, 3) := by decide +kernel
theorem d_M_cut_276 : decode c_M_cut 276 = .ok (.iconst 1, 1) := by decide +kernel
theorem d_M_cut_277 : decode c_M_cut 277 = .ok (.isub, 1) := by decide +kernel
theorem d_M_cut_278 : decode c_M_cut 278 = .ok (.putfield 273, 3) := by decide +kernel
theorem d_M_cut_281 : decode c_M_cut 281 = .ok (.aload_n 0, 1) := by decide +kernel
theorem d_M_cut_282 : decode c_M_cut 282 = .ok (.aload_n 0, 1) := by decide +kernel
theorem d_M_cut_283 : decode c_M_cut 283 = .ok (.getfield 95, 3) := by decide +kernel
theorem d_M_cut_286 : decode c_M_cut 286 = .ok (.aload_n 0, 1) := by decide +kernel
theorem d_M_cut_287 : decode c_M_cut 287 = .ok (.getfield 273, 3) := by decide +kernel
theorem d_M_cut_290 : decode c_M_cut 290 = .ok (.iaload, 1) := by decide +kernel
theorem d_M_cut_291 : decode c_M_cut 291 = .ok (.putfield 270, 3) := by decide +kernel
theorem d_M_cut_294 : decode c_M_cut 294 = .ok (.return_, 1) := by decide +kernel
def p_M_begin (v_o_there : Int32) (v_o_ended : Int32) (v_o_mode : Int32) (v_o_kept : Int32) (v_o_came : Int32) (v_o_pending : Int32) (v_o_looked : Int32) (v_o_tokens : Int32) (v_o_oldest : Int32) (x1 : Int32) (post : Int32 → Int32 → Int32 → Int32 → Int32 → Int32 → Int32 → Int32 → Int32 → Int32 → Int32 → Prop) : Prop := (p_M_isMode x1 (fun r1 => ((¬ r1 = 0 → (post 1 0 1 0 x1 0 0 0 0 0 0)) ∧ (r1 = 0 → (post 0 0 v_o_there v_o_ended v_o_mode v_o_kept v_o_came v_o_pending v_o_looked v_o_tokens v_o_oldest)))))
set_option maxHeartbeats 4000000 in
set_option maxRecDepth 100000 in
theorem k_M_begin (l : Launch) (G : va_G) (K : Nat → ClassId) (a0 : Nat) (ad : Nat → Nat) (sz : Nat) (v_o_code : Int32) (v_o_typed : Int32) (v_o_rules : Int32) (v_o_at : Int32) (v_o_read : Int32) (v_o_depth : Int32) (v_o_wrong : Int32) (v_o_there : Int32) (v_o_ended : Int32) (v_o_mode : Int32) (v_o_kept : Int32) (v_o_came : Int32) (v_o_pending : Int32) (v_o_looked : Int32) (v_o_tokens : Int32) (v_o_oldest : Int32) (x1 : Int32) (post : Int32 → Int32 → Int32 → Int32 → Int32 → Int32 → Int32 → Int32 → Int32 → Int32 → Int32 → Prop) (h : p_M_begin v_o_there v_o_ended v_o_mode v_o_kept v_o_came v_o_pending v_o_looked v_o_tokens v_o_oldest x1 post) : MWi l y_M_begin (.code y_M_begin c_M_begin 2 (some .boolean)) { frames := 1, cells := 0, slots := 0, locals := 20 } G K [(a0, .inr (12, oM v_o_code v_o_typed v_o_rules v_o_at v_o_read v_o_depth v_o_wrong v_o_there v_o_ended v_o_mode v_o_kept v_o_came v_o_pending v_o_looked v_o_tokens v_o_oldest ad))] [] [.ref a0, .int x1] sz (fun r (u : Int32 × Int32 × Int32 × Int32 × Int32 × Int32 × Int32 × Int32 × Int32 × Int32) => post r u.1 u.2.1 u.2.2.1 u.2.2.2.1 u.2.2.2.2.1 u.2.2.2.2.2.1 u.2.2.2.2.2.2.1 u.2.2.2.2.2.2.2.1 u.2.2.2.2.2.2.2.2.1 u.2.2.2.2.2.2.2.2.2) (fun u => [(a0, .inr (12, oM u.1 v_o_typed v_o_rules v_o_at v_o_read v_o_depth v_o_wrong u.2.1 u.2.2.1 u.2.2.2.1 u.2.2.2.2.1 u.2.2.2.2.2.1 u.2.2.2.2.2.2.1 u.2.2.2.2.2.2.2.1 u.2.2.2.2.2.2.2.2.1 u.2.2.2.2.2.2.2.2.2 ad))]) 0 0 := by
  refine g_metWi (cc := c_M_begin) (maxL := 2) (ret := some .boolean) (rt := .boolean) (by decide) rfl rfl (Nat.le_of_ble_eq_true rfl) ?_
  intro p e s m below meth c A Q hx hb hml hown hname htg hK hN hP hD hA hS hR rN hret ls hl
  have hl : lv_has ls 2 [(0, .ref a0), (1, .int x1)] := hl
  refine lv_aload_n hx hb d_M_begin_0 rfl (lv_at hl 0 rfl) ?_
  refine lv_iconst (v := 0) hx hb d_M_begin_1 (by decide) ?_
  refine va_put (ci := 12) (v := .int 0) (ty := .int) hx hb htg in_M t_M tok_M nm_M hown hK hP hD hS 0 rfl rfl 0 (by decide) (htg _ m_610) (fun _ h9 => h9) rfl (by decide +kernel) rfl rfl (Nat.le_of_ble_eq_true rfl) d_M_begin_2 (fun H locs hP hD hS => ?_)
  have hP : va_P G vwCl [(a0, .inr (12, oM 0 v_o_typed v_o_rules v_o_at v_o_read v_o_depth v_o_wrong v_o_there v_o_ended v_o_mode v_o_kept v_o_came v_o_pending v_o_looked v_o_tokens v_o_oldest ad))] H := hP
  have hD : va_D A [(a0, .inr (12, oM 0 v_o_typed v_o_rules v_o_at v_o_read v_o_depth v_o_wrong v_o_there v_o_ended v_o_mode v_o_kept v_o_came v_o_pending v_o_looked v_o_tokens v_o_oldest ad))] := hD
  refine lv_iload_n hx hb d_M_begin_5 rfl (lv_at hl 1 rfl) ?_
  have hPc : va_P G vwCl [] _ := hP.sub [] rfl
  refine vp_callSi (va_Run.run (va_runS (As := [.int x1]) (rest := []) ⟨hx, hb, hml, hown, htg⟩ (k_M_isMode l G K  x1 _ h) (va_cwS 1 htg (gGoodS m_725 m_726 m_13 m_727) rfl rfl rfl (by decide +kernel) ⟨(Nat.le_of_ble_eq_true rfl), (Nat.le_of_ble_eq_true rfl)⟩) (gS_pre hK hN hPc) rfl rfl hl.1 rfl (lv_room (Nat.le_of_ble_eq_true rfl)) d_M_begin_6 ⟨(Nat.le_of_ble_eq_true rfl), (Nat.le_of_ble_eq_true rfl)⟩)) (fun r1 h => ?_)
  refine lv_if_ne (tgt := 14) hx hb d_M_begin_9 (by decide) (fun hc => ?_) (fun hc => ?_)
  · replace h := h.1 hc
    refine lv_aload_n hx hb d_M_begin_14 rfl (lv_at hl 0 rfl) ?_
    refine lv_iconst (v := 1) hx hb d_M_begin_15 (by decide) ?_
    refine va_put (ci := 12) (v := .int 1) (ty := .boolean) hx hb htg in_M t_M tok_M nm_M hown hK hP hD hS 0 rfl rfl 35 (by decide) (htg _ m_645) (fun _ h9 => h9) rfl (by decide +kernel) (by decide +kernel) (by decide +kernel) (Nat.le_of_ble_eq_true rfl) d_M_begin_16 (fun H locs hP hD hS => ?_)
    have hP : va_P G vwCl [(a0, .inr (12, oM 0 v_o_typed v_o_rules v_o_at v_o_read v_o_depth v_o_wrong 1 v_o_ended v_o_mode v_o_kept v_o_came v_o_pending v_o_looked v_o_tokens v_o_oldest ad))] H := hP
    have hD : va_D A [(a0, .inr (12, oM 0 v_o_typed v_o_rules v_o_at v_o_read v_o_depth v_o_wrong 1 v_o_ended v_o_mode v_o_kept v_o_came v_o_pending v_o_looked v_o_tokens v_o_oldest ad))] := hD
    refine lv_aload_n hx hb d_M_begin_19 rfl (lv_at hl 0 rfl) ?_
    refine lv_iconst (v := 0) hx hb d_M_begin_20 (by decide) ?_
    refine va_put (ci := 12) (v := .int 0) (ty := .boolean) hx hb htg in_M t_M tok_M nm_M hown hK hP hD hS 0 rfl rfl 36 (by decide) (htg _ m_646) (fun _ h9 => h9) rfl (by decide +kernel) (by decide +kernel) (by decide +kernel) (Nat.le_of_ble_eq_true rfl) d_M_begin_21 (fun H locs hP hD hS => ?_)
    have hP : va_P G vwCl [(a0, .inr (12, oM 0 v_o_typed v_o_rules v_o_at v_o_read v_o_depth v_o_wrong 1 0 v_o_mode v_o_kept v_o_came v_o_pending v_o_looked v_o_tokens v_o_oldest ad))] H := hP
    have hD : va_D A [(a0, .inr (12, oM 0 v_o_typed v_o_rules v_o_at v_o_read v_o_depth v_o_wrong 1 0 v_o_mode v_o_kept v_o_came v_o_pending v_o_looked v_o_tokens v_o_oldest ad))] := hD
    refine lv_aload_n hx hb d_M_begin_24 rfl (lv_at hl 0 rfl) ?_
    refine lv_iload_n hx hb d_M_begin_25 rfl (lv_at hl 1 rfl) ?_
    refine va_put (ci := 12) (v := .int x1) (ty := .int) hx hb htg in_M t_M tok_M nm_M hown hK hP hD hS 0 rfl rfl 37 (by decide) (htg _ m_647) (fun _ h9 => h9) rfl (by decide +kernel) rfl rfl (Nat.le_of_ble_eq_true rfl) d_M_begin_26 (fun H locs hP hD hS => ?_)
    have hP : va_P G vwCl [(a0, .inr (12, oM 0 v_o_typed v_o_rules v_o_at v_o_read v_o_depth v_o_wrong 1 0 x1 v_o_kept v_o_came v_o_pending v_o_looked v_o_tokens v_o_oldest ad))] H := hP
    have hD : va_D A [(a0, .inr (12, oM 0 v_o_typed v_o_rules v_o_at v_o_read v_o_depth v_o_wrong 1 0 x1 v_o_kept v_o_came v_o_pending v_o_looked v_o_tokens v_o_oldest ad))] := hD
    refine lv_aload_n hx hb d_M_begin_29 rfl (lv_at hl 0 rfl) ?_
    refine lv_iconst (v := 0) hx hb d_M_begin_30 (by decide) ?_
    refine va_put (ci := 12) (v := .int 0) (ty := .int) hx hb htg in_M t_M tok_M nm_M hown hK hP hD hS 0 rfl rfl 38 (by decide) (htg _ m_648) (fun _ h9 => h9) rfl (by decide +kernel) rfl rfl (Nat.le_of_ble_eq_true rfl) d_M_begin_31 (fun H locs hP hD hS => ?_)
    have hP : va_P G vwCl [(a0, .inr (12, oM 0 v_o_typed v_o_rules v_o_at v_o_read v_o_depth v_o_wrong 1 0 x1 0 v_o_came v_o_pending v_o_looked v_o_tokens v_o_oldest ad))] H := hP
    have hD : va_D A [(a0, .inr (12, oM 0 v_o_typed v_o_rules v_o_at v_o_read v_o_depth v_o_wrong 1 0 x1 0 v_o_came v_o_pending v_o_looked v_o_tokens v_o_oldest ad))] := hD
    refine lv_aload_n hx hb d_M_begin_34 rfl (lv_at hl 0 rfl) ?_
    refine lv_iconst (v := 0) hx hb d_M_begin_35 (by decide) ?_
    refine va_put (ci := 12) (v := .int 0) (ty := .int) hx hb htg in_M t_M tok_M nm_M hown hK hP hD hS 0 rfl rfl 39 (by decide) (htg _ m_649) (fun _ h9 => h9) rfl (by decide +kernel) rfl rfl (Nat.le_of_ble_eq_true rfl) d_M_begin_36 (fun H locs hP hD hS => ?_)
    have hP : va_P G vwCl [(a0, .inr (12, oM 0 v_o_typed v_o_rules v_o_at v_o_read v_o_depth v_o_wrong 1 0 x1 0 0 v_o_pending v_o_looked v_o_tokens v_o_oldest ad))] H := hP
    have hD : va_D A [(a0, .inr (12, oM 0 v_o_typed v_o_rules v_o_at v_o_read v_o_depth v_o_wrong 1 0 x1 0 0 v_o_pending v_o_looked v_o_tokens v_o_oldest ad))] := hD
    refine lv_aload_n hx hb d_M_begin_39 rfl (lv_at hl 0 rfl) ?_
    refine lv_iconst (v := 0) hx hb d_M_begin_40 (by decide) ?_
    refine va_put (ci := 12) (v := .int 0) (ty := .int) hx hb htg in_M t_M tok_M nm_M hown hK hP hD hS 0 rfl rfl 40 (by decide) (htg _ m_650) (fun _ h9 => h9) rfl (by decide +kernel) rfl rfl (Nat.le_of_ble_eq_true rfl) d_M_begin_41 (fun H locs hP hD hS => ?_)
    have hP : va_P G vwCl [(a0, .inr (12, oM 0 v_o_typed v_o_rules v_o_at v_o_read v_o_depth v_o_wrong 1 0 x1 0 0 0 v_o_looked v_o_tokens v_o_oldest ad))] H := hP
    have hD : va_D A [(a0, .inr (12, oM 0 v_o_typed v_o_rules v_o_at v_o_read v_o_depth v_o_wrong 1 0 x1 0 0 0 v_o_looked v_o_tokens v_o_oldest ad))] := hD
    refine lv_aload_n hx hb d_M_begin_44 rfl (lv_at hl 0 rfl) ?_
    refine lv_iconst (v := 0) hx hb d_M_begin_45 (by decide) ?_
    refine va_put (ci := 12) (v := .int 0) (ty := .int) hx hb htg in_M t_M tok_M nm_M hown hK hP hD hS 0 rfl rfl 41 (by decide) (htg _ m_651) (fun _ h9 => h9) rfl (by decide +kernel) rfl rfl (Nat.le_of_ble_eq_true rfl) d_M_begin_46 (fun H locs hP hD hS => ?_)
    have hP : va_P G vwCl [(a0, .inr (12, oM 0 v_o_typed v_o_rules v_o_at v_o_read v_o_depth v_o_wrong 1 0 x1 0 0 0 0 v_o_tokens v_o_oldest ad))] H := hP
    have hD : va_D A [(a0, .inr (12, oM 0 v_o_typed v_o_rules v_o_at v_o_read v_o_depth v_o_wrong 1 0 x1 0 0 0 0 v_o_tokens v_o_oldest ad))] := hD
    refine lv_aload_n hx hb d_M_begin_49 rfl (lv_at hl 0 rfl) ?_
    refine lv_iconst (v := 0) hx hb d_M_begin_50 (by decide) ?_
    refine va_put (ci := 12) (v := .int 0) (ty := .int) hx hb htg in_M t_M tok_M nm_M hown hK hP hD hS 0 rfl rfl 44 (by decide) (htg _ m_654) (fun _ h9 => h9) rfl (by decide +kernel) rfl rfl (Nat.le_of_ble_eq_true rfl) d_M_begin_51 (fun H locs hP hD hS => ?_)
    have hP : va_P G vwCl [(a0, .inr (12, oM 0 v_o_typed v_o_rules v_o_at v_o_read v_o_depth v_o_wrong 1 0 x1 0 0 0 0 0 v_o_oldest ad))] H := hP
    have hD : va_D A [(a0, .inr (12, oM 0 v_o_typed v_o_rules v_o_at v_o_read v_o_depth v_o_wrong 1 0 x1 0 0 0 0 0 v_o_oldest ad))] := hD
    refine lv_aload_n hx hb d_M_begin_54 rfl (lv_at hl 0 rfl) ?_
    refine lv_iconst (v := 0) hx hb d_M_begin_55 (by decide) ?_
    refine va_put (ci := 12) (v := .int 0) (ty := .int) hx hb htg in_M t_M tok_M nm_M hown hK hP hD hS 0 rfl rfl 45 (by decide) (htg _ m_655) (fun _ h9 => h9) rfl (by decide +kernel) rfl rfl (Nat.le_of_ble_eq_true rfl) d_M_begin_56 (fun H locs hP hD hS => ?_)
    have hP : va_P G vwCl [(a0, .inr (12, oM 0 v_o_typed v_o_rules v_o_at v_o_read v_o_depth v_o_wrong 1 0 x1 0 0 0 0 0 0 ad))] H := hP
    have hD : va_D A [(a0, .inr (12, oM 0 v_o_typed v_o_rules v_o_at v_o_read v_o_depth v_o_wrong 1 0 x1 0 0 0 0 0 0 ad))] := hD
    refine lv_iconst (v := 1) hx hb d_M_begin_59 (by decide) ?_
    exact hret _ (0, 1, 0, x1, 0, 0, 0, 0, 0, 0) _ _ _ _ h (by decide +kernel) (hP.sub [0] rfl) (hD.sub [0] (by decide) rfl) hS d_M_begin_60
  · replace h := h.2 hc
    refine lv_iconst (v := 0) hx hb d_M_begin_12 (by decide) ?_
    exact hret _ (0, v_o_there, v_o_ended, v_o_mode, v_o_kept, v_o_came, v_o_pending, v_o_looked, v_o_tokens, v_o_oldest) _ _ _ _ h (by decide +kernel) (hP.sub [0] rfl) (hD.sub [0] (by decide) rfl) hS d_M_begin_13
def p_M_word_4 (v_o_mode : Int32) (f_o_letter : (Nat → Int32)) (f_o_step : (Nat → Int32)) (x1 : Int32) (post : Int32 → Prop) : Nat → Int32 → Int32 → Prop
  | 0 => fun _ _ => False
  | n + 1 => fun l2 l3 => ((x1 ≤ l3 → (post l2)) ∧ (¬ x1 ≤ l3 → ((l2 = (-1) → (post l2)) ∧ (¬ l2 = (-1) → (vp_in l3 48 ∧ (p_M_go f_o_step v_o_mode l2 (f_o_letter l3.toNatClampNeg) (fun r1401 => (p_M_word_4 v_o_mode f_o_letter f_o_step x1 post n r1401 (l3 + 1)))))))))
def p_M_word (v_o_mode : Int32) (f_o_letter : (Nat → Int32)) (f_o_step : (Nat → Int32)) (x1 : Int32) (post : Int32 → Prop) : Prop := (∃ k, p_M_word_4 v_o_mode f_o_letter f_o_step x1 post k 0 0)
set_option maxHeartbeats 4000000 in
set_option maxRecDepth 100000 in
theorem k_M_word (l : Launch) (G : va_G) (K : Nat → ClassId) (a0 : Nat) (ad : Nat → Nat) (v_o_code : Int32) (v_o_typed : Int32) (v_o_rules : Int32) (v_o_at : Int32) (v_o_read : Int32) (v_o_depth : Int32) (v_o_wrong : Int32) (v_o_there : Int32) (v_o_ended : Int32) (v_o_mode : Int32) (v_o_kept : Int32) (v_o_came : Int32) (v_o_pending : Int32) (v_o_looked : Int32) (v_o_tokens : Int32) (v_o_oldest : Int32) (f_o_letter : (Nat → Int32)) (f_o_step : (Nat → Int32)) (x1 : Int32) (post : Int32 → Prop) (h : p_M_word v_o_mode f_o_letter f_o_step x1 post) : MSi l y_M_word (.code y_M_word c_M_word 4 (some .int)) { frames := 1, cells := 0, slots := 0, locals := 23 } G K [(a0, .inr (12, oM v_o_code v_o_typed v_o_rules v_o_at v_o_read v_o_depth v_o_wrong v_o_there v_o_ended v_o_mode v_o_kept v_o_came v_o_pending v_o_looked v_o_tokens v_o_oldest ad)), ((ad 43), .inl (K 0, 48, .inl f_o_letter)), ((ad 30), .inl (K 0, 9252, .inl f_o_step))] [.ref a0, .int x1] post := by
  refine g_metSi (cc := c_M_word) (maxL := 4) (ret := some .int) (rt := .int) (by decide) rfl rfl (Nat.le_of_ble_eq_true rfl) ?_
  intro p e s m below meth c Q hx hb hml hown htg hK hN hP hret ls hl
  have hl : lv_has ls 4 [(0, .ref a0), (1, .int x1)] := hl
  have C_4 : ∀ (n : Nat) (l2 : Int32) (l3 : Int32) (ls : Array Slot), lv_has ls 4 [(0, .ref a0), (1, .int x1), (2, .int l2), (3, .int l3)] → p_M_word_4 v_o_mode f_o_letter f_o_step x1 post n l2 l3 → W p l e { frames := 1, cells := 0, slots := 0, locals := 23 } s m ([.ref a0, .int x1] : List Value).toArray below meth c s.heap [] 0 0 Q (F0 m 4 ls []) := by
    intro n
    induction n with
    | zero =>
      intro l2 l3 ls hl h
      exact False.elim h
    | succ n ih =>
      intro l2 l3 ls hl h
      refine lv_iload_n hx hb d_M_word_4 rfl (lv_at hl 3 rfl) ?_
      refine lv_iload_n hx hb d_M_word_5 rfl (lv_at hl 1 rfl) ?_
      refine lv_icmp_ge (tgt := 36) hx hb d_M_word_6 (by decide) (fun hc => ?_) (fun hc => ?_)
      · replace h := h.1 hc
        refine lv_iload_n hx hb d_M_word_36 rfl (lv_at hl 2 rfl) ?_
        exact hret _ _ _ h (vp_nar_int _) d_M_word_37
      · replace h := h.2 hc
        refine lv_iload_n hx hb d_M_word_9 rfl (lv_at hl 2 rfl) ?_
        refine lv_iconst (v := (-1)) hx hb d_M_word_10 (by decide) ?_
        refine lv_icmp_eq (tgt := 36) hx hb d_M_word_11 (by decide) (fun hc => ?_) (fun hc => ?_)
        · replace h := h.1 hc
          refine lv_iload_n hx hb d_M_word_36 rfl (lv_at hl 2 rfl) ?_
          exact hret _ _ _ h (vp_nar_int _) d_M_word_37
        · replace h := h.2 hc
          refine lv_aload_n hx hb d_M_word_14 rfl (lv_at hl 0 rfl) ?_
          refine lv_aload_n hx hb d_M_word_15 rfl (lv_at hl 0 rfl) ?_
          refine va_get (ci := 12) (v := .int v_o_mode) hx hb htg in_M hown hK hP 0 rfl rfl 37 (by decide) (htg _ m_647) (fun _ h9 => h9) rfl d_M_word_16 ?_
          refine lv_iload_n hx hb d_M_word_19 rfl (lv_at hl 2 rfl) ?_
          refine lv_aload_n hx hb d_M_word_20 rfl (lv_at hl 0 rfl) ?_
          refine va_get (ci := 12) (v := .ref (ad 43)) hx hb htg in_M hown hK hP 0 rfl rfl 43 (by decide) (htg _ m_653) (fun _ h9 => h9) rfl d_M_word_21 ?_
          refine lv_iload_n hx hb d_M_word_24 rfl (lv_at hl 3 rfl) ?_
          obtain ⟨hin, h⟩ := h
          refine va_iald hx hb hK hP 1 0 rfl rfl hin d_M_word_25 ?_
          have hPc : va_P G vwCl [(a0, .inr (12, oM v_o_code v_o_typed v_o_rules v_o_at v_o_read v_o_depth v_o_wrong v_o_there v_o_ended v_o_mode v_o_kept v_o_came v_o_pending v_o_looked v_o_tokens v_o_oldest ad)), ((ad 30), .inl (K 0, 9252, .inl f_o_step))] _ := hP.sub [0, 2] rfl
          refine vp_callSi (va_Run.run (va_runV (As := [.int v_o_mode, .int l2, .int (f_o_letter l3.toNatClampNeg)]) (rest := []) ⟨hx, hb, hml, hown, htg⟩ (k_M_go l G K a0 ad v_o_code v_o_typed v_o_rules v_o_at v_o_read v_o_depth v_o_wrong v_o_there v_o_ended v_o_mode v_o_kept v_o_came v_o_pending v_o_looked v_o_tokens v_o_oldest f_o_step v_o_mode l2 (f_o_letter l3.toNatClampNeg) _ h) (cwV 3 htg (gGoodV m_752 m_753 m_885 m_13 m_754) rfl rfl rfl (by decide +kernel) ⟨(Nat.le_of_ble_eq_true rfl), (Nat.le_of_ble_eq_true rfl)⟩) (gS_preV (ci := 12) (q0 := 0) hK hN hPc rfl rfl) rfl rfl hl.1 rfl (lv_room (Nat.le_of_ble_eq_true rfl)) d_M_word_26 ⟨(Nat.le_of_ble_eq_true rfl), (Nat.le_of_ble_eq_true rfl)⟩)) (fun r1401 h => ?_)
          refine lv_istore_n (lv' := [(2, .int r1401), (0, .ref a0), (1, .int x1), (3, .int l3)]) hx hb d_M_word_29 rfl hl (by decide) rfl (fun ls hl => ?_)
          refine lv_iinc (v := (l3 + 1)) (lv' := [(3, .int (l3 + 1)), (2, .int r1401), (0, .ref a0), (1, .int x1)]) hx hb d_M_word_30 hl (k := 3) rfl (by first | rfl | decide) (by decide) rfl (fun ls hl => ?_)
          refine lv_goto (tgt := 4) hx hb d_M_word_33 (by decide) ?_
          exact ih r1401 (l3 + 1) _ (lv_sub hl [2, 3, 1, 0] rfl) h
  refine lv_iconst (v := 0) hx hb d_M_word_0 (by decide) ?_
  refine lv_istore_n (lv' := [(2, .int 0), (0, .ref a0), (1, .int x1)]) hx hb d_M_word_1 rfl hl (by decide) rfl (fun ls hl => ?_)
  refine lv_iconst (v := 0) hx hb d_M_word_2 (by decide) ?_
  refine lv_istore_n (lv' := [(3, .int 0), (2, .int 0), (0, .ref a0), (1, .int x1)]) hx hb d_M_word_3 rfl hl (by decide) rfl (fun ls hl => ?_)
  obtain ⟨k, h⟩ := h
  exact C_4 k 0 0 _ (lv_sub hl [2, 3, 1, 0] rfl) h
def p_M_isOver_15 (v_o_mode : Int32) (f_o_step : (Nat → Int32)) (post : Int32 → Prop) : Nat → Int32 → Int32 → Prop
  | 0 => fun _ _ => False
  | n + 1 => fun l2 l3 => ((6 ≤ l3 → (post 1)) ∧ (¬ 6 ≤ l3 → (p_M_go f_o_step v_o_mode l2 l3 (fun r2501 => ((r2501 = (-1) → (p_M_isOver_15 v_o_mode f_o_step post n l2 (l3 + 1))) ∧ (¬ r2501 = (-1) → (post 0)))))))
def p_M_isOver (v_o_mode : Int32) (f_o_letter : (Nat → Int32)) (f_o_step : (Nat → Int32)) (x1 : Int32) (post : Int32 → Prop) : Prop := (p_M_word v_o_mode f_o_letter f_o_step x1 (fun r1 => ((¬ r1 = (-1) → (∃ k, p_M_isOver_15 v_o_mode f_o_step post k r1 0)) ∧ (r1 = (-1) → (post 1)))))
set_option maxHeartbeats 4000000 in
set_option maxRecDepth 100000 in
theorem k_M_isOver (l : Launch) (G : va_G) (K : Nat → ClassId) (a0 : Nat) (ad : Nat → Nat) (v_o_code : Int32) (v_o_typed : Int32) (v_o_rules : Int32) (v_o_at : Int32) (v_o_read : Int32) (v_o_depth : Int32) (v_o_wrong : Int32) (v_o_there : Int32) (v_o_ended : Int32) (v_o_mode : Int32) (v_o_kept : Int32) (v_o_came : Int32) (v_o_pending : Int32) (v_o_looked : Int32) (v_o_tokens : Int32) (v_o_oldest : Int32) (f_o_letter : (Nat → Int32)) (f_o_step : (Nat → Int32)) (x1 : Int32) (post : Int32 → Prop) (h : p_M_isOver v_o_mode f_o_letter f_o_step x1 post) : MSi l y_M_isOver (.code y_M_isOver c_M_isOver 4 (some .boolean)) { frames := 2, cells := 0, slots := 0, locals := 46 } G K [(a0, .inr (12, oM v_o_code v_o_typed v_o_rules v_o_at v_o_read v_o_depth v_o_wrong v_o_there v_o_ended v_o_mode v_o_kept v_o_came v_o_pending v_o_looked v_o_tokens v_o_oldest ad)), ((ad 43), .inl (K 0, 48, .inl f_o_letter)), ((ad 30), .inl (K 0, 9252, .inl f_o_step))] [.ref a0, .int x1] post := by
  refine g_metSi (cc := c_M_isOver) (maxL := 4) (ret := some .boolean) (rt := .boolean) (by decide) rfl rfl (Nat.le_of_ble_eq_true rfl) ?_
  intro p e s m below meth c Q hx hb hml hown htg hK hN hP hret ls hl
  have hl : lv_has ls 4 [(0, .ref a0), (1, .int x1)] := hl
  have C_15 : ∀ (n : Nat) (l2 : Int32) (l3 : Int32) (ls : Array Slot), lv_has ls 4 [(0, .ref a0), (2, .int l2), (3, .int l3)] → p_M_isOver_15 v_o_mode f_o_step post n l2 l3 → W p l e { frames := 2, cells := 0, slots := 0, locals := 46 } s m ([.ref a0, .int x1] : List Value).toArray below meth c s.heap [] 0 0 Q (F0 m 15 ls []) := by
    intro n
    induction n with
    | zero =>
      intro l2 l3 ls hl h
      exact False.elim h
    | succ n ih =>
      intro l2 l3 ls hl h
      refine lv_iload_n hx hb d_M_isOver_15 rfl (lv_at hl 2 rfl) ?_
      refine lv_bipush (v := 6) hx hb d_M_isOver_16 (by decide) ?_
      refine lv_icmp_ge (tgt := 43) hx hb d_M_isOver_18 (by decide) (fun hc => ?_) (fun hc => ?_)
      · replace h := h.1 hc
        refine lv_iconst (v := 1) hx hb d_M_isOver_43 (by decide) ?_
        exact hret _ _ _ h (by decide +kernel) d_M_isOver_44
      · replace h := h.2 hc
        refine lv_aload_n hx hb d_M_isOver_21 rfl (lv_at hl 0 rfl) ?_
        refine lv_aload_n hx hb d_M_isOver_22 rfl (lv_at hl 0 rfl) ?_
        refine va_get (ci := 12) (v := .int v_o_mode) hx hb htg in_M hown hK hP 0 rfl rfl 37 (by decide) (htg _ m_647) (fun _ h9 => h9) rfl d_M_isOver_23 ?_
        refine lv_iload_n hx hb d_M_isOver_26 rfl (lv_at hl 1 rfl) ?_
        refine lv_iload_n hx hb d_M_isOver_27 rfl (lv_at hl 2 rfl) ?_
        have hPc : va_P G vwCl [(a0, .inr (12, oM v_o_code v_o_typed v_o_rules v_o_at v_o_read v_o_depth v_o_wrong v_o_there v_o_ended v_o_mode v_o_kept v_o_came v_o_pending v_o_looked v_o_tokens v_o_oldest ad)), ((ad 30), .inl (K 0, 9252, .inl f_o_step))] _ := hP.sub [0, 2] rfl
        refine vp_callSi (va_Run.run (va_runV (As := [.int v_o_mode, .int l2, .int l3]) (rest := []) ⟨hx, hb, hml, hown, htg⟩ (k_M_go l G K a0 ad v_o_code v_o_typed v_o_rules v_o_at v_o_read v_o_depth v_o_wrong v_o_there v_o_ended v_o_mode v_o_kept v_o_came v_o_pending v_o_looked v_o_tokens v_o_oldest f_o_step v_o_mode l2 l3 _ h) (cwV 3 htg (gGoodV m_752 m_753 m_885 m_13 m_754) rfl rfl rfl (by decide +kernel) ⟨(Nat.le_of_ble_eq_true rfl), (Nat.le_of_ble_eq_true rfl)⟩) (gS_preV (ci := 12) (q0 := 0) hK hN hPc rfl rfl) rfl rfl hl.1 rfl (lv_room (Nat.le_of_ble_eq_true rfl)) d_M_isOver_28 ⟨(Nat.le_of_ble_eq_true rfl), (Nat.le_of_ble_eq_true rfl)⟩)) (fun r2501 h => ?_)
        refine lv_iconst (v := (-1)) hx hb d_M_isOver_31 (by decide) ?_
        refine lv_icmp_eq (tgt := 37) hx hb d_M_isOver_32 (by decide) (fun hc => ?_) (fun hc => ?_)
        · replace h := h.1 hc
          refine lv_iinc (v := (l3 + 1)) (lv' := [(3, .int (l3 + 1)), (0, .ref a0), (2, .int l2)]) hx hb d_M_isOver_37 hl (k := 2) rfl (by first | rfl | decide) (by decide) rfl (fun ls hl => ?_)
          refine lv_goto (tgt := 15) hx hb d_M_isOver_40 (by decide) ?_
          exact ih l2 (l3 + 1) _ (lv_sub hl [1, 2, 0] rfl) h
        · replace h := h.2 hc
          refine lv_iconst (v := 0) hx hb d_M_isOver_35 (by decide) ?_
          exact hret _ _ _ h (by decide +kernel) d_M_isOver_36
  refine lv_aload_n hx hb d_M_isOver_0 rfl (lv_at hl 0 rfl) ?_
  refine lv_iload_n hx hb d_M_isOver_1 rfl (lv_at hl 1 rfl) ?_
  have hPc : va_P G vwCl [(a0, .inr (12, oM v_o_code v_o_typed v_o_rules v_o_at v_o_read v_o_depth v_o_wrong v_o_there v_o_ended v_o_mode v_o_kept v_o_came v_o_pending v_o_looked v_o_tokens v_o_oldest ad)), ((ad 43), .inl (K 0, 48, .inl f_o_letter)), ((ad 30), .inl (K 0, 9252, .inl f_o_step))] _ := hP.sub [0, 1, 2] rfl
  refine vp_callSi (va_Run.run (va_runV (As := [.int x1]) (rest := []) ⟨hx, hb, hml, hown, htg⟩ (k_M_word l G K a0 ad v_o_code v_o_typed v_o_rules v_o_at v_o_read v_o_depth v_o_wrong v_o_there v_o_ended v_o_mode v_o_kept v_o_came v_o_pending v_o_looked v_o_tokens v_o_oldest f_o_letter f_o_step x1 _ h) (cwV 1 htg (gGoodV m_812 m_813 m_905 m_13 m_814) rfl rfl rfl (by decide +kernel) ⟨(Nat.le_of_ble_eq_true rfl), (Nat.le_of_ble_eq_true rfl)⟩) (gS_preV (ci := 12) (q0 := 0) hK hN hPc rfl rfl) rfl rfl hl.1 rfl (lv_room (Nat.le_of_ble_eq_true rfl)) d_M_isOver_2 ⟨(Nat.le_of_ble_eq_true rfl), (Nat.le_of_ble_eq_true rfl)⟩)) (fun r1 h => ?_)
  refine lv_istore_n (lv' := [(2, .int r1), (0, .ref a0), (1, .int x1)]) hx hb d_M_isOver_5 rfl hl (by decide) rfl (fun ls hl => ?_)
  refine lv_iload_n hx hb d_M_isOver_6 rfl (lv_at hl 0 rfl) ?_
  refine lv_iconst (v := (-1)) hx hb d_M_isOver_7 (by decide) ?_
  refine lv_icmp_ne (tgt := 13) hx hb d_M_isOver_8 (by decide) (fun hc => ?_) (fun hc => ?_)
  · replace h := h.1 hc
    refine lv_iconst (v := 0) hx hb d_M_isOver_13 (by decide) ?_
    refine lv_istore_n (lv' := [(3, .int 0), (2, .int r1), (0, .ref a0), (1, .int x1)]) hx hb d_M_isOver_14 rfl hl (by decide) rfl (fun ls hl => ?_)
    obtain ⟨k, h⟩ := h
    exact C_15 k r1 0 _ (lv_sub hl [2, 1, 0] rfl) h
  · replace h := h.2 hc
    refine lv_iconst (v := 1) hx hb d_M_isOver_11 (by decide) ?_
    exact hret _ _ _ h (by decide +kernel) d_M_isOver_12
def p_M_cut_258  (post : Int32 → Int32 → Int32 → Int32 → Int32 → (Nat → Int32) → (Nat → Int32) → (Nat → Int32) → (Nat → Int32) → (Nat → Int32) → (Nat → Int32) → Prop) (l5 : Int32) (v_o_mode : Int32) (v_o_kept : Int32) (v_o_pending : Int32) (v_o_looked : Int32) (v_o_tokens : Int32) (f_o_letter : (Nat → Int32)) (f_o_tokenRule : (Nat → Int32)) (f_o_tokenAt : (Nat → Int32)) (f_o_tokenLong : (Nat → Int32)) (f_o_tokenMode : (Nat → Int32)) (f_o_keep : (Nat → Int32)) : Prop := ((¬ l5 = 4 → (post v_o_mode v_o_kept v_o_pending v_o_looked v_o_tokens f_o_letter f_o_tokenRule f_o_tokenAt f_o_tokenLong f_o_tokenMode f_o_keep)) ∧ (l5 = 4 → ((v_o_kept ≤ 0 → (post v_o_mode v_o_kept v_o_pending v_o_looked v_o_tokens f_o_letter f_o_tokenRule f_o_tokenAt f_o_tokenLong f_o_tokenMode f_o_keep)) ∧ (¬ v_o_kept ≤ 0 → (vp_in (v_o_kept - 1) 5 ∧ (post (f_o_keep (v_o_kept - 1).toNatClampNeg) (v_o_kept - 1) v_o_pending v_o_looked v_o_tokens f_o_letter f_o_tokenRule f_o_tokenAt f_o_tokenLong f_o_tokenMode f_o_keep))))))
def p_M_cut_186 (f_o_actionOf : (Nat → Int32)) (post : Int32 → Int32 → Int32 → Int32 → Int32 → (Nat → Int32) → (Nat → Int32) → (Nat → Int32) → (Nat → Int32) → (Nat → Int32) → (Nat → Int32) → Prop) (l3 : Int32) (v_o_mode : Int32) (v_o_kept : Int32) (v_o_pending : Int32) (v_o_looked : Int32) (v_o_tokens : Int32) (f_o_letter : (Nat → Int32)) (f_o_tokenRule : (Nat → Int32)) (f_o_tokenAt : (Nat → Int32)) (f_o_tokenLong : (Nat → Int32)) (f_o_tokenMode : (Nat → Int32)) (f_o_keep : (Nat → Int32)) : Prop := ((¬ l3 = (-1) → (vp_in l3 16 ∧ (((f_o_actionOf l3.toNatClampNeg) ≤ 0 → (p_M_cut_258 post (f_o_actionOf l3.toNatClampNeg) v_o_mode v_o_kept v_o_pending 0 v_o_tokens f_o_letter f_o_tokenRule f_o_tokenAt f_o_tokenLong f_o_tokenMode f_o_keep)) ∧ (¬ (f_o_actionOf l3.toNatClampNeg) ≤ 0 → ((4 ≤ (f_o_actionOf l3.toNatClampNeg) → (p_M_cut_258 post (f_o_actionOf l3.toNatClampNeg) v_o_mode v_o_kept v_o_pending 0 v_o_tokens f_o_letter f_o_tokenRule f_o_tokenAt f_o_tokenLong f_o_tokenMode f_o_keep)) ∧ (¬ 4 ≤ (f_o_actionOf l3.toNatClampNeg) → ((5 ≤ v_o_kept → (p_M_cut_258 post (f_o_actionOf l3.toNatClampNeg) v_o_mode v_o_kept v_o_pending 0 v_o_tokens f_o_letter f_o_tokenRule f_o_tokenAt f_o_tokenLong f_o_tokenMode f_o_keep)) ∧ (¬ 5 ≤ v_o_kept → (vp_in v_o_kept 5 ∧ (p_M_cut_258 post (f_o_actionOf l3.toNatClampNeg) ((f_o_actionOf l3.toNatClampNeg) - 1) (v_o_kept + 1) v_o_pending 0 v_o_tokens f_o_letter f_o_tokenRule f_o_tokenAt f_o_tokenLong f_o_tokenMode (upd f_o_keep v_o_kept.toNatClampNeg v_o_mode))))))))))) ∧ (l3 = (-1) → (p_M_cut_258 post 0 v_o_mode v_o_kept v_o_pending 0 v_o_tokens f_o_letter f_o_tokenRule f_o_tokenAt f_o_tokenLong f_o_tokenMode f_o_keep)))
def p_M_cut_155 (f_o_actionOf : (Nat → Int32)) (post : Int32 → Int32 → Int32 → Int32 → Int32 → (Nat → Int32) → (Nat → Int32) → (Nat → Int32) → (Nat → Int32) → (Nat → Int32) → (Nat → Int32) → Prop) : Nat → Int32 → Int32 → Int32 → Int32 → Int32 → Int32 → Int32 → Int32 → (Nat → Int32) → (Nat → Int32) → (Nat → Int32) → (Nat → Int32) → (Nat → Int32) → (Nat → Int32) → Prop
  | 0 => fun _ _ _ _ _ _ _ _ _ _ _ _ _ _ => False
  | n + 1 => fun l2 l3 l5 v_o_mode v_o_kept v_o_pending v_o_looked v_o_tokens f_o_letter f_o_tokenRule f_o_tokenAt f_o_tokenLong f_o_tokenMode f_o_keep => ((v_o_pending ≤ l5 → (p_M_cut_186 f_o_actionOf post l3 v_o_mode v_o_kept v_o_pending v_o_looked v_o_tokens f_o_letter f_o_tokenRule f_o_tokenAt f_o_tokenLong f_o_tokenMode f_o_keep)) ∧ (¬ v_o_pending ≤ l5 → (vp_in (l5 + l2) 48 ∧ (vp_in l5 48 ∧ (p_M_cut_155 f_o_actionOf post n l2 l3 (l5 + 1) v_o_mode v_o_kept v_o_pending v_o_looked v_o_tokens (upd f_o_letter l5.toNatClampNeg (f_o_letter (l5 + l2).toNatClampNeg)) f_o_tokenRule f_o_tokenAt f_o_tokenLong f_o_tokenMode f_o_keep)))))
def p_M_cut_64 (v_o_came : Int32) (v_o_oldest : Int32) (f_o_actionOf : (Nat → Int32)) (post : Int32 → Int32 → Int32 → Int32 → Int32 → (Nat → Int32) → (Nat → Int32) → (Nat → Int32) → (Nat → Int32) → (Nat → Int32) → (Nat → Int32) → Prop) (l2 : Int32) (l3 : Int32) (v_o_mode : Int32) (v_o_kept : Int32) (v_o_pending : Int32) (v_o_looked : Int32) (v_o_tokens : Int32) (f_o_letter : (Nat → Int32)) (f_o_tokenRule : (Nat → Int32)) (f_o_tokenAt : (Nat → Int32)) (f_o_tokenLong : (Nat → Int32)) (f_o_tokenMode : (Nat → Int32)) (f_o_keep : (Nat → Int32)) : Prop := ((¬ l2 = 0 → (vp_in ((v_o_oldest + v_o_tokens) - (v_o_oldest + v_o_tokens) / 400 * 400) 400 ∧ (vp_in ((v_o_oldest + v_o_tokens) - (v_o_oldest + v_o_tokens) / 400 * 400) 400 ∧ (vp_in ((v_o_oldest + v_o_tokens) - (v_o_oldest + v_o_tokens) / 400 * 400) 400 ∧ (vp_in ((v_o_oldest + v_o_tokens) - (v_o_oldest + v_o_tokens) / 400 * 400) 400 ∧ (∃ k, p_M_cut_155 f_o_actionOf post k l2 l3 0 v_o_mode v_o_kept (v_o_pending - l2) v_o_looked (v_o_tokens + 1) f_o_letter (upd f_o_tokenRule ((v_o_oldest + v_o_tokens) - (v_o_oldest + v_o_tokens) / 400 * 400).toNatClampNeg l3) (upd f_o_tokenAt ((v_o_oldest + v_o_tokens) - (v_o_oldest + v_o_tokens) / 400 * 400).toNatClampNeg (v_o_came - v_o_pending)) (upd f_o_tokenLong ((v_o_oldest + v_o_tokens) - (v_o_oldest + v_o_tokens) / 400 * 400).toNatClampNeg l2) (upd f_o_tokenMode ((v_o_oldest + v_o_tokens) - (v_o_oldest + v_o_tokens) / 400 * 400).toNatClampNeg v_o_mode) f_o_keep)))))) ∧ (l2 = 0 → (vp_in ((v_o_oldest + v_o_tokens) - (v_o_oldest + v_o_tokens) / 400 * 400) 400 ∧ (vp_in ((v_o_oldest + v_o_tokens) - (v_o_oldest + v_o_tokens) / 400 * 400) 400 ∧ (vp_in ((v_o_oldest + v_o_tokens) - (v_o_oldest + v_o_tokens) / 400 * 400) 400 ∧ (vp_in ((v_o_oldest + v_o_tokens) - (v_o_oldest + v_o_tokens) / 400 * 400) 400 ∧ (∃ k, p_M_cut_155 f_o_actionOf post k 1 l3 0 v_o_mode v_o_kept (v_o_pending - 1) v_o_looked (v_o_tokens + 1) f_o_letter (upd f_o_tokenRule ((v_o_oldest + v_o_tokens) - (v_o_oldest + v_o_tokens) / 400 * 400).toNatClampNeg l3) (upd f_o_tokenAt ((v_o_oldest + v_o_tokens) - (v_o_oldest + v_o_tokens) / 400 * 400).toNatClampNeg (v_o_came - v_o_pending)) (upd f_o_tokenLong ((v_o_oldest + v_o_tokens) - (v_o_oldest + v_o_tokens) / 400 * 400).toNatClampNeg 1) (upd f_o_tokenMode ((v_o_oldest + v_o_tokens) - (v_o_oldest + v_o_tokens) / 400 * 400).toNatClampNeg v_o_mode) f_o_keep)))))))
def p_M_cut_58  (post : Int32 → Int32 → Int32 → Int32 → Int32 → (Nat → Int32) → (Nat → Int32) → (Nat → Int32) → (Nat → Int32) → (Nat → Int32) → (Nat → Int32) → Prop) (K_7 : Int32 → Int32 → Int32 → Int32 → Int32 → Int32 → Int32 → Int32 → (Nat → Int32) → (Nat → Int32) → (Nat → Int32) → (Nat → Int32) → (Nat → Int32) → (Nat → Int32) → Prop) (l2 : Int32) (l3 : Int32) (l4 : Int32) (v_o_mode : Int32) (v_o_kept : Int32) (v_o_pending : Int32) (v_o_looked : Int32) (v_o_tokens : Int32) (f_o_letter : (Nat → Int32)) (f_o_tokenRule : (Nat → Int32)) (f_o_tokenAt : (Nat → Int32)) (f_o_tokenLong : (Nat → Int32)) (f_o_tokenMode : (Nat → Int32)) (f_o_keep : (Nat → Int32)) : Prop := (K_7 l2 l3 (l4 + 1) v_o_mode v_o_kept v_o_pending v_o_looked v_o_tokens f_o_letter f_o_tokenRule f_o_tokenAt f_o_tokenLong f_o_tokenMode f_o_keep)
def p_M_cut_7 (v_o_rules : Int32) (v_o_came : Int32) (v_o_oldest : Int32) (f_o_step : (Nat → Int32)) (f_o_modeOf : (Nat → Int32)) (f_o_set : (Nat → Int32)) (f_o_lastOf : (Nat → Int32)) (f_o_actionOf : (Nat → Int32)) (x1 : Int32) (post : Int32 → Int32 → Int32 → Int32 → Int32 → (Nat → Int32) → (Nat → Int32) → (Nat → Int32) → (Nat → Int32) → (Nat → Int32) → (Nat → Int32) → Prop) : Nat → Int32 → Int32 → Int32 → Int32 → Int32 → Int32 → Int32 → Int32 → (Nat → Int32) → (Nat → Int32) → (Nat → Int32) → (Nat → Int32) → (Nat → Int32) → (Nat → Int32) → Prop
  | 0 => fun _ _ _ _ _ _ _ _ _ _ _ _ _ _ => False
  | n + 1 => fun l2 l3 l4 v_o_mode v_o_kept v_o_pending v_o_looked v_o_tokens f_o_letter f_o_tokenRule f_o_tokenAt f_o_tokenLong f_o_tokenMode f_o_keep => ((x1 < l4 → (p_M_cut_64 v_o_came v_o_oldest f_o_actionOf post l2 l3 v_o_mode v_o_kept v_o_pending v_o_looked v_o_tokens f_o_letter f_o_tokenRule f_o_tokenAt f_o_tokenLong f_o_tokenMode f_o_keep)) ∧ (¬ x1 < l4 → (p_M_word v_o_mode f_o_letter f_o_step l4 (fun r1701 => ((¬ r1701 = (-1) → (p_M_wins v_o_rules f_o_modeOf f_o_set f_o_lastOf v_o_mode r1701 (fun r1702 => ((¬ r1702 = (-1) → (p_M_cut_58 post (p_M_cut_7 v_o_rules v_o_came v_o_oldest f_o_step f_o_modeOf f_o_set f_o_lastOf f_o_actionOf x1 post n) l4 r1702 l4 v_o_mode v_o_kept v_o_pending v_o_looked v_o_tokens f_o_letter f_o_tokenRule f_o_tokenAt f_o_tokenLong f_o_tokenMode f_o_keep)) ∧ (r1702 = (-1) → (p_M_cut_58 post (p_M_cut_7 v_o_rules v_o_came v_o_oldest f_o_step f_o_modeOf f_o_set f_o_lastOf f_o_actionOf x1 post n) l2 l3 l4 v_o_mode v_o_kept v_o_pending v_o_looked v_o_tokens f_o_letter f_o_tokenRule f_o_tokenAt f_o_tokenLong f_o_tokenMode f_o_keep)))))) ∧ (r1701 = (-1) → (p_M_cut_58 post (p_M_cut_7 v_o_rules v_o_came v_o_oldest f_o_step f_o_modeOf f_o_set f_o_lastOf f_o_actionOf x1 post n) l2 l3 l4 v_o_mode v_o_kept v_o_pending v_o_looked v_o_tokens f_o_letter f_o_tokenRule f_o_tokenAt f_o_tokenLong f_o_tokenMode f_o_keep)))))))
def p_M_cut (v_o_rules : Int32) (v_o_mode : Int32) (v_o_kept : Int32) (v_o_came : Int32) (v_o_pending : Int32) (v_o_looked : Int32) (v_o_tokens : Int32) (v_o_oldest : Int32) (f_o_letter : (Nat → Int32)) (f_o_step : (Nat → Int32)) (f_o_modeOf : (Nat → Int32)) (f_o_set : (Nat → Int32)) (f_o_lastOf : (Nat → Int32)) (f_o_tokenRule : (Nat → Int32)) (f_o_tokenAt : (Nat → Int32)) (f_o_tokenLong : (Nat → Int32)) (f_o_tokenMode : (Nat → Int32)) (f_o_actionOf : (Nat → Int32)) (f_o_keep : (Nat → Int32)) (x1 : Int32) (post : Int32 → Int32 → Int32 → Int32 → Int32 → (Nat → Int32) → (Nat → Int32) → (Nat → Int32) → (Nat → Int32) → (Nat → Int32) → (Nat → Int32) → Prop) : Prop := (∃ k, p_M_cut_7 v_o_rules v_o_came v_o_oldest f_o_step f_o_modeOf f_o_set f_o_lastOf f_o_actionOf x1 post k 0 (-1) 1 v_o_mode v_o_kept v_o_pending v_o_looked v_o_tokens f_o_letter f_o_tokenRule f_o_tokenAt f_o_tokenLong f_o_tokenMode f_o_keep)
set_option maxHeartbeats 4000000 in
set_option maxRecDepth 100000 in
theorem c_M_cut_258 (l : Launch) (G : va_G) (K : Nat → ClassId) (a0 : Nat) (ad : Nat → Nat) (v_o_code : Int32) (v_o_typed : Int32) (v_o_rules : Int32) (v_o_at : Int32) (v_o_read : Int32) (v_o_depth : Int32) (v_o_wrong : Int32) (v_o_there : Int32) (v_o_ended : Int32) (v_o_came : Int32) (v_o_oldest : Int32) (f_o_step : (Nat → Int32)) (f_o_modeOf : (Nat → Int32)) (f_o_set : (Nat → Int32)) (f_o_lastOf : (Nat → Int32)) (f_o_actionOf : (Nat → Int32)) (x1 : Int32) (post : Int32 → Int32 → Int32 → Int32 → Int32 → (Nat → Int32) → (Nat → Int32) → (Nat → Int32) → (Nat → Int32) → (Nat → Int32) → (Nat → Int32) → Prop) {p : Program} {e : Env} {s : State} {m : MethodId} {below : List Frame} {meth : Method} {c : Code} {A : Nat → Prop} {Q : State → Prop} (hx : p.tables.exec = Jvm.exec) (hb : c.code = c_M_cut) (hml : c.maxLocals = 7) (hown : s.vm.findClass y_M_cut.cls = some m.cls) (hname : meth.name = y_M_cut.name) (htg : ∀ w ∈ GT, w.before ([.ref a0, .int x1] : List Value).toArray s = true) (hK : va_K G vwCl (TY K) s) (hN : gNw s) (hA : ∀ q : Nat, s.heap.size ≤ q → A q) (hR : va_P G vwCl [((ad 30), .inl (K 0, 9252, .inl f_o_step)), ((ad 4), .inl (K 0, 16, .inl f_o_modeOf)), ((ad 29), .inl (K 0, 1542, .inl f_o_set)), ((ad 7), .inl (K 0, 16, .inl f_o_lastOf)), ((ad 5), .inl (K 0, 16, .inl f_o_actionOf))] s.heap) (rN : ∀ (k : Nat) (q : Nat × va_E), ([((ad 30), .inl (K 0, 9252, .inl f_o_step)), ((ad 4), .inl (K 0, 16, .inl f_o_modeOf)), ((ad 29), .inl (K 0, 1542, .inl f_o_set)), ((ad 7), .inl (K 0, 16, .inl f_o_lastOf)), ((ad 5), .inl (K 0, 16, .inl f_o_actionOf))] : va_W)[k]? = some q → ¬ A q.1) (hret : ∀ (u : Int32 × Int32 × Int32 × Int32 × Int32 × (Nat → Int32) × (Nat → Int32) × (Nat → Int32) × (Nat → Int32) × (Nat → Int32) × (Nat → Int32)) (H : Heap) (locs : List Loc) (ls : Array Slot) (pc : Nat), (fun (u : Int32 × Int32 × Int32 × Int32 × Int32 × (Nat → Int32) × (Nat → Int32) × (Nat → Int32) × (Nat → Int32) × (Nat → Int32) × (Nat → Int32)) => post u.1 u.2.1 u.2.2.1 u.2.2.2.1 u.2.2.2.2.1 u.2.2.2.2.2.1 u.2.2.2.2.2.2.1 u.2.2.2.2.2.2.2.1 u.2.2.2.2.2.2.2.2.1 u.2.2.2.2.2.2.2.2.2.1 u.2.2.2.2.2.2.2.2.2.2) u → va_P G vwCl ((fun u => [(a0, .inr (12, oM v_o_code v_o_typed v_o_rules v_o_at v_o_read v_o_depth v_o_wrong v_o_there v_o_ended u.1 u.2.1 v_o_came u.2.2.1 u.2.2.2.1 u.2.2.2.2.1 v_o_oldest ad)), ((ad 43), .inl (K 0, 48, .inl u.2.2.2.2.2.1)), ((ad 46), .inl (K 0, 400, .inl u.2.2.2.2.2.2.1)), ((ad 47), .inl (K 0, 400, .inl u.2.2.2.2.2.2.2.1)), ((ad 48), .inl (K 0, 400, .inl u.2.2.2.2.2.2.2.2.1)), ((ad 49), .inl (K 0, 400, .inl u.2.2.2.2.2.2.2.2.2.1)), ((ad 42), .inl (K 0, 5, .inl u.2.2.2.2.2.2.2.2.2.2))]) u) H → va_D A ((fun u => [(a0, .inr (12, oM v_o_code v_o_typed v_o_rules v_o_at v_o_read v_o_depth v_o_wrong v_o_there v_o_ended u.1 u.2.1 v_o_came u.2.2.1 u.2.2.2.1 u.2.2.2.2.1 v_o_oldest ad)), ((ad 43), .inl (K 0, 48, .inl u.2.2.2.2.2.1)), ((ad 46), .inl (K 0, 400, .inl u.2.2.2.2.2.2.1)), ((ad 47), .inl (K 0, 400, .inl u.2.2.2.2.2.2.2.1)), ((ad 48), .inl (K 0, 400, .inl u.2.2.2.2.2.2.2.2.1)), ((ad 49), .inl (K 0, 400, .inl u.2.2.2.2.2.2.2.2.2.1)), ((ad 42), .inl (K 0, 5, .inl u.2.2.2.2.2.2.2.2.2.2))]) u) → va_S A s.heap H locs → decode c_M_cut pc = .ok (.return_, 1) → W p l e { frames := 2, cells := 0, slots := 0, locals := 46 } s m ([.ref a0, .int x1] : List Value).toArray below meth c H locs 0 0 Q (F0 m pc ls [])) : ∀ (l5 : Int32) (v_o_mode : Int32) (v_o_kept : Int32) (v_o_pending : Int32) (v_o_looked : Int32) (v_o_tokens : Int32) (f_o_letter : (Nat → Int32)) (f_o_tokenRule : (Nat → Int32)) (f_o_tokenAt : (Nat → Int32)) (f_o_tokenLong : (Nat → Int32)) (f_o_tokenMode : (Nat → Int32)) (f_o_keep : (Nat → Int32)) (H : Heap) (locs : List Loc), va_P G vwCl [(a0, .inr (12, oM v_o_code v_o_typed v_o_rules v_o_at v_o_read v_o_depth v_o_wrong v_o_there v_o_ended v_o_mode v_o_kept v_o_came v_o_pending v_o_looked v_o_tokens v_o_oldest ad)), ((ad 43), .inl (K 0, 48, .inl f_o_letter)), ((ad 46), .inl (K 0, 400, .inl f_o_tokenRule)), ((ad 47), .inl (K 0, 400, .inl f_o_tokenAt)), ((ad 48), .inl (K 0, 400, .inl f_o_tokenLong)), ((ad 49), .inl (K 0, 400, .inl f_o_tokenMode)), ((ad 42), .inl (K 0, 5, .inl f_o_keep))] H → va_D A [(a0, .inr (12, oM v_o_code v_o_typed v_o_rules v_o_at v_o_read v_o_depth v_o_wrong v_o_there v_o_ended v_o_mode v_o_kept v_o_came v_o_pending v_o_looked v_o_tokens v_o_oldest ad)), ((ad 43), .inl (K 0, 48, .inl f_o_letter)), ((ad 46), .inl (K 0, 400, .inl f_o_tokenRule)), ((ad 47), .inl (K 0, 400, .inl f_o_tokenAt)), ((ad 48), .inl (K 0, 400, .inl f_o_tokenLong)), ((ad 49), .inl (K 0, 400, .inl f_o_tokenMode)), ((ad 42), .inl (K 0, 5, .inl f_o_keep))] → va_S A s.heap H locs → ∀ (ls : Array Slot), lv_has ls 7 [(0, .ref a0), (5, .int l5)] → p_M_cut_258 post l5 v_o_mode v_o_kept v_o_pending v_o_looked v_o_tokens f_o_letter f_o_tokenRule f_o_tokenAt f_o_tokenLong f_o_tokenMode f_o_keep → W p l e { frames := 2, cells := 0, slots := 0, locals := 46 } s m ([.ref a0, .int x1] : List Value).toArray below meth c H locs 0 0 Q (F0 m 258 ls []) := by
  intro  l5 v_o_mode v_o_kept v_o_pending v_o_looked v_o_tokens f_o_letter f_o_tokenRule f_o_tokenAt f_o_tokenLong f_o_tokenMode f_o_keep  H locs hP hD hS ls hl h
  refine lv_iload hx hb d_M_cut_258 (lv_at hl 1 rfl) ?_
  refine lv_iconst (v := 4) hx hb d_M_cut_260 (by decide) ?_
  refine lv_icmp_ne (tgt := 294) hx hb d_M_cut_261 (by decide) (fun hc => ?_) (fun hc => ?_)
  · replace h := h.1 hc
    exact hret (v_o_mode, v_o_kept, v_o_pending, v_o_looked, v_o_tokens, f_o_letter, f_o_tokenRule, f_o_tokenAt, f_o_tokenLong, f_o_tokenMode, f_o_keep) _ _ _ _ h (hP.sub [0, 1, 2, 3, 4, 5, 6] rfl) (hD.sub [0, 1, 2, 3, 4, 5, 6] (by decide) rfl) hS d_M_cut_294
  · replace h := h.2 hc
    refine lv_aload_n hx hb d_M_cut_264 rfl (lv_at hl 0 rfl) ?_
    refine va_get (ci := 12) (v := .int v_o_kept) hx hb htg in_M hown hK hP 0 rfl rfl 38 (by decide) (htg _ m_648) (fun _ h9 => h9) rfl d_M_cut_265 ?_
    refine lv_if_le (tgt := 294) hx hb d_M_cut_268 (by decide) (fun hc => ?_) (fun hc => ?_)
    · replace h := h.1 hc
      exact hret (v_o_mode, v_o_kept, v_o_pending, v_o_looked, v_o_tokens, f_o_letter, f_o_tokenRule, f_o_tokenAt, f_o_tokenLong, f_o_tokenMode, f_o_keep) _ _ _ _ h (hP.sub [0, 1, 2, 3, 4, 5, 6] rfl) (hD.sub [0, 1, 2, 3, 4, 5, 6] (by decide) rfl) hS d_M_cut_294
    · replace h := h.2 hc
      refine lv_aload_n hx hb d_M_cut_271 rfl (lv_at hl 0 rfl) ?_
      refine lv_dup hx hb d_M_cut_272 rfl ?_
      refine va_get (ci := 12) (v := .int v_o_kept) hx hb htg in_M hown hK hP 0 rfl rfl 38 (by decide) (htg _ m_648) (fun _ h9 => h9) rfl d_M_cut_273 ?_
      refine lv_iconst (v := 1) hx hb d_M_cut_276 (by decide) ?_
      refine lv_isub hx hb d_M_cut_277 ?_
      refine va_put (ci := 12) (v := .int (v_o_kept - 1)) (ty := .int) hx hb htg in_M t_M tok_M nm_M hown hK hP hD hS 0 rfl rfl 38 (by decide) (htg _ m_648) (fun _ h9 => h9) rfl (by decide +kernel) rfl rfl (Nat.le_of_ble_eq_true rfl) d_M_cut_278 (fun H locs hP hD hS => ?_)
      have hP : va_P G vwCl [(a0, .inr (12, oM v_o_code v_o_typed v_o_rules v_o_at v_o_read v_o_depth v_o_wrong v_o_there v_o_ended v_o_mode (v_o_kept - 1) v_o_came v_o_pending v_o_looked v_o_tokens v_o_oldest ad)), ((ad 43), .inl (K 0, 48, .inl f_o_letter)), ((ad 46), .inl (K 0, 400, .inl f_o_tokenRule)), ((ad 47), .inl (K 0, 400, .inl f_o_tokenAt)), ((ad 48), .inl (K 0, 400, .inl f_o_tokenLong)), ((ad 49), .inl (K 0, 400, .inl f_o_tokenMode)), ((ad 42), .inl (K 0, 5, .inl f_o_keep))] H := hP
      have hD : va_D A [(a0, .inr (12, oM v_o_code v_o_typed v_o_rules v_o_at v_o_read v_o_depth v_o_wrong v_o_there v_o_ended v_o_mode (v_o_kept - 1) v_o_came v_o_pending v_o_looked v_o_tokens v_o_oldest ad)), ((ad 43), .inl (K 0, 48, .inl f_o_letter)), ((ad 46), .inl (K 0, 400, .inl f_o_tokenRule)), ((ad 47), .inl (K 0, 400, .inl f_o_tokenAt)), ((ad 48), .inl (K 0, 400, .inl f_o_tokenLong)), ((ad 49), .inl (K 0, 400, .inl f_o_tokenMode)), ((ad 42), .inl (K 0, 5, .inl f_o_keep))] := hD
      refine lv_aload_n hx hb d_M_cut_281 rfl (lv_at hl 0 rfl) ?_
      refine lv_aload_n hx hb d_M_cut_282 rfl (lv_at hl 0 rfl) ?_
      refine va_get (ci := 12) (v := .ref (ad 42)) hx hb htg in_M hown hK hP 0 rfl rfl 42 (by decide) (htg _ m_652) (fun _ h9 => h9) rfl d_M_cut_283 ?_
      refine lv_aload_n hx hb d_M_cut_286 rfl (lv_at hl 0 rfl) ?_
      refine va_get (ci := 12) (v := .int (v_o_kept - 1)) hx hb htg in_M hown hK hP 0 rfl rfl 38 (by decide) (htg _ m_648) (fun _ h9 => h9) rfl d_M_cut_287 ?_
      obtain ⟨hin, h⟩ := h
      refine va_iald hx hb hK hP 6 0 rfl rfl hin d_M_cut_290 ?_
      refine va_put (ci := 12) (v := .int (f_o_keep (v_o_kept - 1).toNatClampNeg)) (ty := .int) hx hb htg in_M t_M tok_M nm_M hown hK hP hD hS 0 rfl rfl 37 (by decide) (htg _ m_647) (fun _ h9 => h9) rfl (by decide +kernel) rfl rfl (Nat.le_of_ble_eq_true rfl) d_M_cut_291 (fun H locs hP hD hS => ?_)
      have hP : va_P G vwCl [(a0, .inr (12, oM v_o_code v_o_typed v_o_rules v_o_at v_o_read v_o_depth v_o_wrong v_o_there v_o_ended (f_o_keep (v_o_kept - 1).toNatClampNeg) (v_o_kept - 1) v_o_came v_o_pending v_o_looked v_o_tokens v_o_oldest ad)), ((ad 43), .inl (K 0, 48, .inl f_o_letter)), ((ad 46), .inl (K 0, 400, .inl f_o_tokenRule)), ((ad 47), .inl (K 0, 400, .inl f_o_tokenAt)), ((ad 48), .inl (K 0, 400, .inl f_o_tokenLong)), ((ad 49), .inl (K 0, 400, .inl f_o_tokenMode)), ((ad 42), .inl (K 0, 5, .inl f_o_keep))] H := hP
      have hD : va_D A [(a0, .inr (12, oM v_o_code v_o_typed v_o_rules v_o_at v_o_read v_o_depth v_o_wrong v_o_there v_o_ended (f_o_keep (v_o_kept - 1).toNatClampNeg) (v_o_kept - 1) v_o_came v_o_pending v_o_looked v_o_tokens v_o_oldest ad)), ((ad 43), .inl (K 0, 48, .inl f_o_letter)), ((ad 46), .inl (K 0, 400, .inl f_o_tokenRule)), ((ad 47), .inl (K 0, 400, .inl f_o_tokenAt)), ((ad 48), .inl (K 0, 400, .inl f_o_tokenLong)), ((ad 49), .inl (K 0, 400, .inl f_o_tokenMode)), ((ad 42), .inl (K 0, 5, .inl f_o_keep))] := hD
      exact hret ((f_o_keep (v_o_kept - 1).toNatClampNeg), (v_o_kept - 1), v_o_pending, v_o_looked, v_o_tokens, f_o_letter, f_o_tokenRule, f_o_tokenAt, f_o_tokenLong, f_o_tokenMode, f_o_keep) _ _ _ _ h (hP.sub [0, 1, 2, 3, 4, 5, 6] rfl) (hD.sub [0, 1, 2, 3, 4, 5, 6] (by decide) rfl) hS d_M_cut_294
set_option maxHeartbeats 4000000 in
set_option maxRecDepth 100000 in
theorem c_M_cut_186 (l : Launch) (G : va_G) (K : Nat → ClassId) (a0 : Nat) (ad : Nat → Nat) (v_o_code : Int32) (v_o_typed : Int32) (v_o_rules : Int32) (v_o_at : Int32) (v_o_read : Int32) (v_o_depth : Int32) (v_o_wrong : Int32) (v_o_there : Int32) (v_o_ended : Int32) (v_o_came : Int32) (v_o_oldest : Int32) (f_o_step : (Nat → Int32)) (f_o_modeOf : (Nat → Int32)) (f_o_set : (Nat → Int32)) (f_o_lastOf : (Nat → Int32)) (f_o_actionOf : (Nat → Int32)) (x1 : Int32) (post : Int32 → Int32 → Int32 → Int32 → Int32 → (Nat → Int32) → (Nat → Int32) → (Nat → Int32) → (Nat → Int32) → (Nat → Int32) → (Nat → Int32) → Prop) {p : Program} {e : Env} {s : State} {m : MethodId} {below : List Frame} {meth : Method} {c : Code} {A : Nat → Prop} {Q : State → Prop} (hx : p.tables.exec = Jvm.exec) (hb : c.code = c_M_cut) (hml : c.maxLocals = 7) (hown : s.vm.findClass y_M_cut.cls = some m.cls) (hname : meth.name = y_M_cut.name) (htg : ∀ w ∈ GT, w.before ([.ref a0, .int x1] : List Value).toArray s = true) (hK : va_K G vwCl (TY K) s) (hN : gNw s) (hA : ∀ q : Nat, s.heap.size ≤ q → A q) (hR : va_P G vwCl [((ad 30), .inl (K 0, 9252, .inl f_o_step)), ((ad 4), .inl (K 0, 16, .inl f_o_modeOf)), ((ad 29), .inl (K 0, 1542, .inl f_o_set)), ((ad 7), .inl (K 0, 16, .inl f_o_lastOf)), ((ad 5), .inl (K 0, 16, .inl f_o_actionOf))] s.heap) (rN : ∀ (k : Nat) (q : Nat × va_E), ([((ad 30), .inl (K 0, 9252, .inl f_o_step)), ((ad 4), .inl (K 0, 16, .inl f_o_modeOf)), ((ad 29), .inl (K 0, 1542, .inl f_o_set)), ((ad 7), .inl (K 0, 16, .inl f_o_lastOf)), ((ad 5), .inl (K 0, 16, .inl f_o_actionOf))] : va_W)[k]? = some q → ¬ A q.1) (hret : ∀ (u : Int32 × Int32 × Int32 × Int32 × Int32 × (Nat → Int32) × (Nat → Int32) × (Nat → Int32) × (Nat → Int32) × (Nat → Int32) × (Nat → Int32)) (H : Heap) (locs : List Loc) (ls : Array Slot) (pc : Nat), (fun (u : Int32 × Int32 × Int32 × Int32 × Int32 × (Nat → Int32) × (Nat → Int32) × (Nat → Int32) × (Nat → Int32) × (Nat → Int32) × (Nat → Int32)) => post u.1 u.2.1 u.2.2.1 u.2.2.2.1 u.2.2.2.2.1 u.2.2.2.2.2.1 u.2.2.2.2.2.2.1 u.2.2.2.2.2.2.2.1 u.2.2.2.2.2.2.2.2.1 u.2.2.2.2.2.2.2.2.2.1 u.2.2.2.2.2.2.2.2.2.2) u → va_P G vwCl ((fun u => [(a0, .inr (12, oM v_o_code v_o_typed v_o_rules v_o_at v_o_read v_o_depth v_o_wrong v_o_there v_o_ended u.1 u.2.1 v_o_came u.2.2.1 u.2.2.2.1 u.2.2.2.2.1 v_o_oldest ad)), ((ad 43), .inl (K 0, 48, .inl u.2.2.2.2.2.1)), ((ad 46), .inl (K 0, 400, .inl u.2.2.2.2.2.2.1)), ((ad 47), .inl (K 0, 400, .inl u.2.2.2.2.2.2.2.1)), ((ad 48), .inl (K 0, 400, .inl u.2.2.2.2.2.2.2.2.1)), ((ad 49), .inl (K 0, 400, .inl u.2.2.2.2.2.2.2.2.2.1)), ((ad 42), .inl (K 0, 5, .inl u.2.2.2.2.2.2.2.2.2.2))]) u) H → va_D A ((fun u => [(a0, .inr (12, oM v_o_code v_o_typed v_o_rules v_o_at v_o_read v_o_depth v_o_wrong v_o_there v_o_ended u.1 u.2.1 v_o_came u.2.2.1 u.2.2.2.1 u.2.2.2.2.1 v_o_oldest ad)), ((ad 43), .inl (K 0, 48, .inl u.2.2.2.2.2.1)), ((ad 46), .inl (K 0, 400, .inl u.2.2.2.2.2.2.1)), ((ad 47), .inl (K 0, 400, .inl u.2.2.2.2.2.2.2.1)), ((ad 48), .inl (K 0, 400, .inl u.2.2.2.2.2.2.2.2.1)), ((ad 49), .inl (K 0, 400, .inl u.2.2.2.2.2.2.2.2.2.1)), ((ad 42), .inl (K 0, 5, .inl u.2.2.2.2.2.2.2.2.2.2))]) u) → va_S A s.heap H locs → decode c_M_cut pc = .ok (.return_, 1) → W p l e { frames := 2, cells := 0, slots := 0, locals := 46 } s m ([.ref a0, .int x1] : List Value).toArray below meth c H locs 0 0 Q (F0 m pc ls [])) : ∀ (l3 : Int32) (v_o_mode : Int32) (v_o_kept : Int32) (v_o_pending : Int32) (v_o_looked : Int32) (v_o_tokens : Int32) (f_o_letter : (Nat → Int32)) (f_o_tokenRule : (Nat → Int32)) (f_o_tokenAt : (Nat → Int32)) (f_o_tokenLong : (Nat → Int32)) (f_o_tokenMode : (Nat → Int32)) (f_o_keep : (Nat → Int32)) (H : Heap) (locs : List Loc), va_P G vwCl [(a0, .inr (12, oM v_o_code v_o_typed v_o_rules v_o_at v_o_read v_o_depth v_o_wrong v_o_there v_o_ended v_o_mode v_o_kept v_o_came v_o_pending v_o_looked v_o_tokens v_o_oldest ad)), ((ad 43), .inl (K 0, 48, .inl f_o_letter)), ((ad 46), .inl (K 0, 400, .inl f_o_tokenRule)), ((ad 47), .inl (K 0, 400, .inl f_o_tokenAt)), ((ad 48), .inl (K 0, 400, .inl f_o_tokenLong)), ((ad 49), .inl (K 0, 400, .inl f_o_tokenMode)), ((ad 42), .inl (K 0, 5, .inl f_o_keep))] H → va_D A [(a0, .inr (12, oM v_o_code v_o_typed v_o_rules v_o_at v_o_read v_o_depth v_o_wrong v_o_there v_o_ended v_o_mode v_o_kept v_o_came v_o_pending v_o_looked v_o_tokens v_o_oldest ad)), ((ad 43), .inl (K 0, 48, .inl f_o_letter)), ((ad 46), .inl (K 0, 400, .inl f_o_tokenRule)), ((ad 47), .inl (K 0, 400, .inl f_o_tokenAt)), ((ad 48), .inl (K 0, 400, .inl f_o_tokenLong)), ((ad 49), .inl (K 0, 400, .inl f_o_tokenMode)), ((ad 42), .inl (K 0, 5, .inl f_o_keep))] → va_S A s.heap H locs → ∀ (ls : Array Slot), lv_has ls 7 [(0, .ref a0), (3, .int l3)] → p_M_cut_186 f_o_actionOf post l3 v_o_mode v_o_kept v_o_pending v_o_looked v_o_tokens f_o_letter f_o_tokenRule f_o_tokenAt f_o_tokenLong f_o_tokenMode f_o_keep → W p l e { frames := 2, cells := 0, slots := 0, locals := 46 } s m ([.ref a0, .int x1] : List Value).toArray below meth c H locs 0 0 Q (F0 m 186 ls []) := by
  intro  l3 v_o_mode v_o_kept v_o_pending v_o_looked v_o_tokens f_o_letter f_o_tokenRule f_o_tokenAt f_o_tokenLong f_o_tokenMode f_o_keep  H locs hP hD hS ls hl h
  refine lv_aload_n hx hb d_M_cut_186 rfl (lv_at hl 0 rfl) ?_
  refine lv_iconst (v := 0) hx hb d_M_cut_187 (by decide) ?_
  refine va_put (ci := 12) (v := .int 0) (ty := .int) hx hb htg in_M t_M tok_M nm_M hown hK hP hD hS 0 rfl rfl 41 (by decide) (htg _ m_651) (fun _ h9 => h9) rfl (by decide +kernel) rfl rfl (Nat.le_of_ble_eq_true rfl) d_M_cut_188 (fun H locs hP hD hS => ?_)
  have hP : va_P G vwCl [(a0, .inr (12, oM v_o_code v_o_typed v_o_rules v_o_at v_o_read v_o_depth v_o_wrong v_o_there v_o_ended v_o_mode v_o_kept v_o_came v_o_pending 0 v_o_tokens v_o_oldest ad)), ((ad 43), .inl (K 0, 48, .inl f_o_letter)), ((ad 46), .inl (K 0, 400, .inl f_o_tokenRule)), ((ad 47), .inl (K 0, 400, .inl f_o_tokenAt)), ((ad 48), .inl (K 0, 400, .inl f_o_tokenLong)), ((ad 49), .inl (K 0, 400, .inl f_o_tokenMode)), ((ad 42), .inl (K 0, 5, .inl f_o_keep))] H := hP
  have hD : va_D A [(a0, .inr (12, oM v_o_code v_o_typed v_o_rules v_o_at v_o_read v_o_depth v_o_wrong v_o_there v_o_ended v_o_mode v_o_kept v_o_came v_o_pending 0 v_o_tokens v_o_oldest ad)), ((ad 43), .inl (K 0, 48, .inl f_o_letter)), ((ad 46), .inl (K 0, 400, .inl f_o_tokenRule)), ((ad 47), .inl (K 0, 400, .inl f_o_tokenAt)), ((ad 48), .inl (K 0, 400, .inl f_o_tokenLong)), ((ad 49), .inl (K 0, 400, .inl f_o_tokenMode)), ((ad 42), .inl (K 0, 5, .inl f_o_keep))] := hD
  refine lv_iload_n hx hb d_M_cut_191 rfl (lv_at hl 1 rfl) ?_
  refine lv_iconst (v := (-1)) hx hb d_M_cut_192 (by decide) ?_
  refine lv_icmp_ne (tgt := 200) hx hb d_M_cut_193 (by decide) (fun hc => ?_) (fun hc => ?_)
  · replace h := h.1 hc
    refine lv_aload_n hx hb d_M_cut_200 rfl (lv_at hl 0 rfl) ?_
    refine va_get (ci := 12) (v := .ref (ad 5)) hx hb htg in_M hown hK hP 0 rfl rfl 5 (by decide) (htg _ m_615) (fun _ h9 => h9) rfl d_M_cut_201 ?_
    refine lv_iload_n hx hb d_M_cut_204 rfl (lv_at hl 1 rfl) ?_
    obtain ⟨hin, h⟩ := h
    refine va_iald hx hb hK (gR hR rN hS) 4 0 rfl rfl hin d_M_cut_205 ?_
    refine lv_istore (lv' := [(5, .int (f_o_actionOf l3.toNatClampNeg)), (0, .ref a0), (3, .int l3)]) hx hb d_M_cut_206 hl (by decide) rfl (fun ls hl => ?_)
    refine lv_iload hx hb d_M_cut_208 (lv_at hl 0 rfl) ?_
    refine lv_if_le (tgt := 258) hx hb d_M_cut_210 (by decide) (fun hc => ?_) (fun hc => ?_)
    · replace h := h.1 hc
      exact (c_M_cut_258 l G K a0 ad v_o_code v_o_typed v_o_rules v_o_at v_o_read v_o_depth v_o_wrong v_o_there v_o_ended v_o_came v_o_oldest f_o_step f_o_modeOf f_o_set f_o_lastOf f_o_actionOf x1 post hx hb hml hown hname htg hK hN hA hR rN hret) (f_o_actionOf l3.toNatClampNeg) v_o_mode v_o_kept v_o_pending 0 v_o_tokens f_o_letter f_o_tokenRule f_o_tokenAt f_o_tokenLong f_o_tokenMode f_o_keep  _ _ (hP.sub [0, 1, 2, 3, 4, 5, 6] rfl) (hD.sub [0, 1, 2, 3, 4, 5, 6] (by decide) rfl) hS _ (lv_sub hl [1, 0] rfl) h
    · replace h := h.2 hc
      refine lv_iload hx hb d_M_cut_213 (lv_at hl 0 rfl) ?_
      refine lv_iconst (v := 4) hx hb d_M_cut_215 (by decide) ?_
      refine lv_icmp_ge (tgt := 258) hx hb d_M_cut_216 (by decide) (fun hc => ?_) (fun hc => ?_)
      · replace h := h.1 hc
        exact (c_M_cut_258 l G K a0 ad v_o_code v_o_typed v_o_rules v_o_at v_o_read v_o_depth v_o_wrong v_o_there v_o_ended v_o_came v_o_oldest f_o_step f_o_modeOf f_o_set f_o_lastOf f_o_actionOf x1 post hx hb hml hown hname htg hK hN hA hR rN hret) (f_o_actionOf l3.toNatClampNeg) v_o_mode v_o_kept v_o_pending 0 v_o_tokens f_o_letter f_o_tokenRule f_o_tokenAt f_o_tokenLong f_o_tokenMode f_o_keep  _ _ (hP.sub [0, 1, 2, 3, 4, 5, 6] rfl) (hD.sub [0, 1, 2, 3, 4, 5, 6] (by decide) rfl) hS _ (lv_sub hl [1, 0] rfl) h
      · replace h := h.2 hc
        refine lv_aload_n hx hb d_M_cut_219 rfl (lv_at hl 1 rfl) ?_
        refine va_get (ci := 12) (v := .int v_o_kept) hx hb htg in_M hown hK hP 0 rfl rfl 38 (by decide) (htg _ m_648) (fun _ h9 => h9) rfl d_M_cut_220 ?_
        refine lv_iconst (v := 5) hx hb d_M_cut_223 (by decide) ?_
        refine lv_icmp_ge (tgt := 258) hx hb d_M_cut_224 (by decide) (fun hc => ?_) (fun hc => ?_)
        · replace h := h.1 hc
          exact (c_M_cut_258 l G K a0 ad v_o_code v_o_typed v_o_rules v_o_at v_o_read v_o_depth v_o_wrong v_o_there v_o_ended v_o_came v_o_oldest f_o_step f_o_modeOf f_o_set f_o_lastOf f_o_actionOf x1 post hx hb hml hown hname htg hK hN hA hR rN hret) (f_o_actionOf l3.toNatClampNeg) v_o_mode v_o_kept v_o_pending 0 v_o_tokens f_o_letter f_o_tokenRule f_o_tokenAt f_o_tokenLong f_o_tokenMode f_o_keep  _ _ (hP.sub [0, 1, 2, 3, 4, 5, 6] rfl) (hD.sub [0, 1, 2, 3, 4, 5, 6] (by decide) rfl) hS _ (lv_sub hl [1, 0] rfl) h
        · replace h := h.2 hc
          refine lv_aload_n hx hb d_M_cut_227 rfl (lv_at hl 1 rfl) ?_
          refine va_get (ci := 12) (v := .ref (ad 42)) hx hb htg in_M hown hK hP 0 rfl rfl 42 (by decide) (htg _ m_652) (fun _ h9 => h9) rfl d_M_cut_228 ?_
          refine lv_aload_n hx hb d_M_cut_231 rfl (lv_at hl 1 rfl) ?_
          refine va_get (ci := 12) (v := .int v_o_kept) hx hb htg in_M hown hK hP 0 rfl rfl 38 (by decide) (htg _ m_648) (fun _ h9 => h9) rfl d_M_cut_232 ?_
          refine lv_aload_n hx hb d_M_cut_235 rfl (lv_at hl 1 rfl) ?_
          refine va_get (ci := 12) (v := .int v_o_mode) hx hb htg in_M hown hK hP 0 rfl rfl 37 (by decide) (htg _ m_647) (fun _ h9 => h9) rfl d_M_cut_236 ?_
          obtain ⟨hin, h⟩ := h
          refine va_iast hx hb hK hP hD hS 6 0 rfl rfl hin d_M_cut_239 (fun H locs hP hD hS => ?_)
          have hP : va_P G vwCl [(a0, .inr (12, oM v_o_code v_o_typed v_o_rules v_o_at v_o_read v_o_depth v_o_wrong v_o_there v_o_ended v_o_mode v_o_kept v_o_came v_o_pending 0 v_o_tokens v_o_oldest ad)), ((ad 43), .inl (K 0, 48, .inl f_o_letter)), ((ad 46), .inl (K 0, 400, .inl f_o_tokenRule)), ((ad 47), .inl (K 0, 400, .inl f_o_tokenAt)), ((ad 48), .inl (K 0, 400, .inl f_o_tokenLong)), ((ad 49), .inl (K 0, 400, .inl f_o_tokenMode)), ((ad 42), .inl (K 0, 5, .inl (upd f_o_keep v_o_kept.toNatClampNeg v_o_mode)))] H := hP
          have hD : va_D A [(a0, .inr (12, oM v_o_code v_o_typed v_o_rules v_o_at v_o_read v_o_depth v_o_wrong v_o_there v_o_ended v_o_mode v_o_kept v_o_came v_o_pending 0 v_o_tokens v_o_oldest ad)), ((ad 43), .inl (K 0, 48, .inl f_o_letter)), ((ad 46), .inl (K 0, 400, .inl f_o_tokenRule)), ((ad 47), .inl (K 0, 400, .inl f_o_tokenAt)), ((ad 48), .inl (K 0, 400, .inl f_o_tokenLong)), ((ad 49), .inl (K 0, 400, .inl f_o_tokenMode)), ((ad 42), .inl (K 0, 5, .inl (upd f_o_keep v_o_kept.toNatClampNeg v_o_mode)))] := hD
          refine lv_aload_n hx hb d_M_cut_240 rfl (lv_at hl 1 rfl) ?_
          refine lv_dup hx hb d_M_cut_241 rfl ?_
          refine va_get (ci := 12) (v := .int v_o_kept) hx hb htg in_M hown hK hP 0 rfl rfl 38 (by decide) (htg _ m_648) (fun _ h9 => h9) rfl d_M_cut_242 ?_
          refine lv_iconst (v := 1) hx hb d_M_cut_245 (by decide) ?_
          refine lv_iadd hx hb d_M_cut_246 ?_
          refine va_put (ci := 12) (v := .int (v_o_kept + 1)) (ty := .int) hx hb htg in_M t_M tok_M nm_M hown hK hP hD hS 0 rfl rfl 38 (by decide) (htg _ m_648) (fun _ h9 => h9) rfl (by decide +kernel) rfl rfl (Nat.le_of_ble_eq_true rfl) d_M_cut_247 (fun H locs hP hD hS => ?_)
          have hP : va_P G vwCl [(a0, .inr (12, oM v_o_code v_o_typed v_o_rules v_o_at v_o_read v_o_depth v_o_wrong v_o_there v_o_ended v_o_mode (v_o_kept + 1) v_o_came v_o_pending 0 v_o_tokens v_o_oldest ad)), ((ad 43), .inl (K 0, 48, .inl f_o_letter)), ((ad 46), .inl (K 0, 400, .inl f_o_tokenRule)), ((ad 47), .inl (K 0, 400, .inl f_o_tokenAt)), ((ad 48), .inl (K 0, 400, .inl f_o_tokenLong)), ((ad 49), .inl (K 0, 400, .inl f_o_tokenMode)), ((ad 42), .inl (K 0, 5, .inl (upd f_o_keep v_o_kept.toNatClampNeg v_o_mode)))] H := hP
          have hD : va_D A [(a0, .inr (12, oM v_o_code v_o_typed v_o_rules v_o_at v_o_read v_o_depth v_o_wrong v_o_there v_o_ended v_o_mode (v_o_kept + 1) v_o_came v_o_pending 0 v_o_tokens v_o_oldest ad)), ((ad 43), .inl (K 0, 48, .inl f_o_letter)), ((ad 46), .inl (K 0, 400, .inl f_o_tokenRule)), ((ad 47), .inl (K 0, 400, .inl f_o_tokenAt)), ((ad 48), .inl (K 0, 400, .inl f_o_tokenLong)), ((ad 49), .inl (K 0, 400, .inl f_o_tokenMode)), ((ad 42), .inl (K 0, 5, .inl (upd f_o_keep v_o_kept.toNatClampNeg v_o_mode)))] := hD
          refine lv_aload_n hx hb d_M_cut_250 rfl (lv_at hl 1 rfl) ?_
          refine lv_iload hx hb d_M_cut_251 (lv_at hl 0 rfl) ?_
          refine lv_iconst (v := 1) hx hb d_M_cut_253 (by decide) ?_
          refine lv_isub hx hb d_M_cut_254 ?_
          refine va_put (ci := 12) (v := .int ((f_o_actionOf l3.toNatClampNeg) - 1)) (ty := .int) hx hb htg in_M t_M tok_M nm_M hown hK hP hD hS 0 rfl rfl 37 (by decide) (htg _ m_647) (fun _ h9 => h9) rfl (by decide +kernel) rfl rfl (Nat.le_of_ble_eq_true rfl) d_M_cut_255 (fun H locs hP hD hS => ?_)
          have hP : va_P G vwCl [(a0, .inr (12, oM v_o_code v_o_typed v_o_rules v_o_at v_o_read v_o_depth v_o_wrong v_o_there v_o_ended ((f_o_actionOf l3.toNatClampNeg) - 1) (v_o_kept + 1) v_o_came v_o_pending 0 v_o_tokens v_o_oldest ad)), ((ad 43), .inl (K 0, 48, .inl f_o_letter)), ((ad 46), .inl (K 0, 400, .inl f_o_tokenRule)), ((ad 47), .inl (K 0, 400, .inl f_o_tokenAt)), ((ad 48), .inl (K 0, 400, .inl f_o_tokenLong)), ((ad 49), .inl (K 0, 400, .inl f_o_tokenMode)), ((ad 42), .inl (K 0, 5, .inl (upd f_o_keep v_o_kept.toNatClampNeg v_o_mode)))] H := hP
          have hD : va_D A [(a0, .inr (12, oM v_o_code v_o_typed v_o_rules v_o_at v_o_read v_o_depth v_o_wrong v_o_there v_o_ended ((f_o_actionOf l3.toNatClampNeg) - 1) (v_o_kept + 1) v_o_came v_o_pending 0 v_o_tokens v_o_oldest ad)), ((ad 43), .inl (K 0, 48, .inl f_o_letter)), ((ad 46), .inl (K 0, 400, .inl f_o_tokenRule)), ((ad 47), .inl (K 0, 400, .inl f_o_tokenAt)), ((ad 48), .inl (K 0, 400, .inl f_o_tokenLong)), ((ad 49), .inl (K 0, 400, .inl f_o_tokenMode)), ((ad 42), .inl (K 0, 5, .inl (upd f_o_keep v_o_kept.toNatClampNeg v_o_mode)))] := hD
          exact (c_M_cut_258 l G K a0 ad v_o_code v_o_typed v_o_rules v_o_at v_o_read v_o_depth v_o_wrong v_o_there v_o_ended v_o_came v_o_oldest f_o_step f_o_modeOf f_o_set f_o_lastOf f_o_actionOf x1 post hx hb hml hown hname htg hK hN hA hR rN hret) (f_o_actionOf l3.toNatClampNeg) ((f_o_actionOf l3.toNatClampNeg) - 1) (v_o_kept + 1) v_o_pending 0 v_o_tokens f_o_letter f_o_tokenRule f_o_tokenAt f_o_tokenLong f_o_tokenMode (upd f_o_keep v_o_kept.toNatClampNeg v_o_mode)  _ _ (hP.sub [0, 1, 2, 3, 4, 5, 6] rfl) (hD.sub [0, 1, 2, 3, 4, 5, 6] (by decide) rfl) hS _ (lv_sub hl [1, 0] rfl) h
  · replace h := h.2 hc
    refine lv_iconst (v := 0) hx hb d_M_cut_196 (by decide) ?_
    refine lv_goto (tgt := 206) hx hb d_M_cut_197 (by decide) ?_
    refine lv_istore (lv' := [(5, .int 0), (0, .ref a0), (3, .int l3)]) hx hb d_M_cut_206 hl (by decide) rfl (fun ls hl => ?_)
    refine lv_iload hx hb d_M_cut_208 (lv_at hl 0 rfl) ?_
    refine lv_if_le (tgt := 258) hx hb d_M_cut_210 (by decide) (fun _ => ?_) (fun hc => absurd (by decide) hc)
    exact (c_M_cut_258 l G K a0 ad v_o_code v_o_typed v_o_rules v_o_at v_o_read v_o_depth v_o_wrong v_o_there v_o_ended v_o_came v_o_oldest f_o_step f_o_modeOf f_o_set f_o_lastOf f_o_actionOf x1 post hx hb hml hown hname htg hK hN hA hR rN hret) 0 v_o_mode v_o_kept v_o_pending 0 v_o_tokens f_o_letter f_o_tokenRule f_o_tokenAt f_o_tokenLong f_o_tokenMode f_o_keep  _ _ (hP.sub [0, 1, 2, 3, 4, 5, 6] rfl) (hD.sub [0, 1, 2, 3, 4, 5, 6] (by decide) rfl) hS _ (lv_sub hl [1, 0] rfl) h
set_option maxHeartbeats 4000000 in
set_option maxRecDepth 100000 in
theorem c_M_cut_155 (l : Launch) (G : va_G) (K : Nat → ClassId) (a0 : Nat) (ad : Nat → Nat) (v_o_code : Int32) (v_o_typed : Int32) (v_o_rules : Int32) (v_o_at : Int32) (v_o_read : Int32) (v_o_depth : Int32) (v_o_wrong : Int32) (v_o_there : Int32) (v_o_ended : Int32) (v_o_came : Int32) (v_o_oldest : Int32) (f_o_step : (Nat → Int32)) (f_o_modeOf : (Nat → Int32)) (f_o_set : (Nat → Int32)) (f_o_lastOf : (Nat → Int32)) (f_o_actionOf : (Nat → Int32)) (x1 : Int32) (post : Int32 → Int32 → Int32 → Int32 → Int32 → (Nat → Int32) → (Nat → Int32) → (Nat → Int32) → (Nat → Int32) → (Nat → Int32) → (Nat → Int32) → Prop) {p : Program} {e : Env} {s : State} {m : MethodId} {below : List Frame} {meth : Method} {c : Code} {A : Nat → Prop} {Q : State → Prop} (hx : p.tables.exec = Jvm.exec) (hb : c.code = c_M_cut) (hml : c.maxLocals = 7) (hown : s.vm.findClass y_M_cut.cls = some m.cls) (hname : meth.name = y_M_cut.name) (htg : ∀ w ∈ GT, w.before ([.ref a0, .int x1] : List Value).toArray s = true) (hK : va_K G vwCl (TY K) s) (hN : gNw s) (hA : ∀ q : Nat, s.heap.size ≤ q → A q) (hR : va_P G vwCl [((ad 30), .inl (K 0, 9252, .inl f_o_step)), ((ad 4), .inl (K 0, 16, .inl f_o_modeOf)), ((ad 29), .inl (K 0, 1542, .inl f_o_set)), ((ad 7), .inl (K 0, 16, .inl f_o_lastOf)), ((ad 5), .inl (K 0, 16, .inl f_o_actionOf))] s.heap) (rN : ∀ (k : Nat) (q : Nat × va_E), ([((ad 30), .inl (K 0, 9252, .inl f_o_step)), ((ad 4), .inl (K 0, 16, .inl f_o_modeOf)), ((ad 29), .inl (K 0, 1542, .inl f_o_set)), ((ad 7), .inl (K 0, 16, .inl f_o_lastOf)), ((ad 5), .inl (K 0, 16, .inl f_o_actionOf))] : va_W)[k]? = some q → ¬ A q.1) (hret : ∀ (u : Int32 × Int32 × Int32 × Int32 × Int32 × (Nat → Int32) × (Nat → Int32) × (Nat → Int32) × (Nat → Int32) × (Nat → Int32) × (Nat → Int32)) (H : Heap) (locs : List Loc) (ls : Array Slot) (pc : Nat), (fun (u : Int32 × Int32 × Int32 × Int32 × Int32 × (Nat → Int32) × (Nat → Int32) × (Nat → Int32) × (Nat → Int32) × (Nat → Int32) × (Nat → Int32)) => post u.1 u.2.1 u.2.2.1 u.2.2.2.1 u.2.2.2.2.1 u.2.2.2.2.2.1 u.2.2.2.2.2.2.1 u.2.2.2.2.2.2.2.1 u.2.2.2.2.2.2.2.2.1 u.2.2.2.2.2.2.2.2.2.1 u.2.2.2.2.2.2.2.2.2.2) u → va_P G vwCl ((fun u => [(a0, .inr (12, oM v_o_code v_o_typed v_o_rules v_o_at v_o_read v_o_depth v_o_wrong v_o_there v_o_ended u.1 u.2.1 v_o_came u.2.2.1 u.2.2.2.1 u.2.2.2.2.1 v_o_oldest ad)), ((ad 43), .inl (K 0, 48, .inl u.2.2.2.2.2.1)), ((ad 46), .inl (K 0, 400, .inl u.2.2.2.2.2.2.1)), ((ad 47), .inl (K 0, 400, .inl u.2.2.2.2.2.2.2.1)), ((ad 48), .inl (K 0, 400, .inl u.2.2.2.2.2.2.2.2.1)), ((ad 49), .inl (K 0, 400, .inl u.2.2.2.2.2.2.2.2.2.1)), ((ad 42), .inl (K 0, 5, .inl u.2.2.2.2.2.2.2.2.2.2))]) u) H → va_D A ((fun u => [(a0, .inr (12, oM v_o_code v_o_typed v_o_rules v_o_at v_o_read v_o_depth v_o_wrong v_o_there v_o_ended u.1 u.2.1 v_o_came u.2.2.1 u.2.2.2.1 u.2.2.2.2.1 v_o_oldest ad)), ((ad 43), .inl (K 0, 48, .inl u.2.2.2.2.2.1)), ((ad 46), .inl (K 0, 400, .inl u.2.2.2.2.2.2.1)), ((ad 47), .inl (K 0, 400, .inl u.2.2.2.2.2.2.2.1)), ((ad 48), .inl (K 0, 400, .inl u.2.2.2.2.2.2.2.2.1)), ((ad 49), .inl (K 0, 400, .inl u.2.2.2.2.2.2.2.2.2.1)), ((ad 42), .inl (K 0, 5, .inl u.2.2.2.2.2.2.2.2.2.2))]) u) → va_S A s.heap H locs → decode c_M_cut pc = .ok (.return_, 1) → W p l e { frames := 2, cells := 0, slots := 0, locals := 46 } s m ([.ref a0, .int x1] : List Value).toArray below meth c H locs 0 0 Q (F0 m pc ls [])) : ∀ (n : Nat) (l2 : Int32) (l3 : Int32) (l5 : Int32) (v_o_mode : Int32) (v_o_kept : Int32) (v_o_pending : Int32) (v_o_looked : Int32) (v_o_tokens : Int32) (f_o_letter : (Nat → Int32)) (f_o_tokenRule : (Nat → Int32)) (f_o_tokenAt : (Nat → Int32)) (f_o_tokenLong : (Nat → Int32)) (f_o_tokenMode : (Nat → Int32)) (f_o_keep : (Nat → Int32)) (H : Heap) (locs : List Loc), va_P G vwCl [(a0, .inr (12, oM v_o_code v_o_typed v_o_rules v_o_at v_o_read v_o_depth v_o_wrong v_o_there v_o_ended v_o_mode v_o_kept v_o_came v_o_pending v_o_looked v_o_tokens v_o_oldest ad)), ((ad 43), .inl (K 0, 48, .inl f_o_letter)), ((ad 46), .inl (K 0, 400, .inl f_o_tokenRule)), ((ad 47), .inl (K 0, 400, .inl f_o_tokenAt)), ((ad 48), .inl (K 0, 400, .inl f_o_tokenLong)), ((ad 49), .inl (K 0, 400, .inl f_o_tokenMode)), ((ad 42), .inl (K 0, 5, .inl f_o_keep))] H → va_D A [(a0, .inr (12, oM v_o_code v_o_typed v_o_rules v_o_at v_o_read v_o_depth v_o_wrong v_o_there v_o_ended v_o_mode v_o_kept v_o_came v_o_pending v_o_looked v_o_tokens v_o_oldest ad)), ((ad 43), .inl (K 0, 48, .inl f_o_letter)), ((ad 46), .inl (K 0, 400, .inl f_o_tokenRule)), ((ad 47), .inl (K 0, 400, .inl f_o_tokenAt)), ((ad 48), .inl (K 0, 400, .inl f_o_tokenLong)), ((ad 49), .inl (K 0, 400, .inl f_o_tokenMode)), ((ad 42), .inl (K 0, 5, .inl f_o_keep))] → va_S A s.heap H locs → ∀ (ls : Array Slot), lv_has ls 7 [(0, .ref a0), (2, .int l2), (3, .int l3), (5, .int l5)] → p_M_cut_155 f_o_actionOf post n l2 l3 l5 v_o_mode v_o_kept v_o_pending v_o_looked v_o_tokens f_o_letter f_o_tokenRule f_o_tokenAt f_o_tokenLong f_o_tokenMode f_o_keep → W p l e { frames := 2, cells := 0, slots := 0, locals := 46 } s m ([.ref a0, .int x1] : List Value).toArray below meth c H locs 0 0 Q (F0 m 155 ls []) := by
  intro n
  induction n with
  | zero =>
    intro l2 l3 l5 v_o_mode v_o_kept v_o_pending v_o_looked v_o_tokens f_o_letter f_o_tokenRule f_o_tokenAt f_o_tokenLong f_o_tokenMode f_o_keep  H locs hP hD hS ls hl h
    exact False.elim h
  | succ n ih =>
    intro l2 l3 l5 v_o_mode v_o_kept v_o_pending v_o_looked v_o_tokens f_o_letter f_o_tokenRule f_o_tokenAt f_o_tokenLong f_o_tokenMode f_o_keep  H locs hP hD hS ls hl h
    refine lv_iload hx hb d_M_cut_155 (lv_at hl 3 rfl) ?_
    refine lv_aload_n hx hb d_M_cut_157 rfl (lv_at hl 0 rfl) ?_
    refine va_get (ci := 12) (v := .int v_o_pending) hx hb htg in_M hown hK hP 0 rfl rfl 40 (by decide) (htg _ m_650) (fun _ h9 => h9) rfl d_M_cut_158 ?_
    refine lv_icmp_ge (tgt := 186) hx hb d_M_cut_161 (by decide) (fun hc => ?_) (fun hc => ?_)
    · replace h := h.1 hc
      exact (c_M_cut_186 l G K a0 ad v_o_code v_o_typed v_o_rules v_o_at v_o_read v_o_depth v_o_wrong v_o_there v_o_ended v_o_came v_o_oldest f_o_step f_o_modeOf f_o_set f_o_lastOf f_o_actionOf x1 post hx hb hml hown hname htg hK hN hA hR rN hret) l3 v_o_mode v_o_kept v_o_pending v_o_looked v_o_tokens f_o_letter f_o_tokenRule f_o_tokenAt f_o_tokenLong f_o_tokenMode f_o_keep  _ _ (hP.sub [0, 1, 2, 3, 4, 5, 6] rfl) (hD.sub [0, 1, 2, 3, 4, 5, 6] (by decide) rfl) hS _ (lv_sub hl [0, 2] rfl) h
    · replace h := h.2 hc
      refine lv_aload_n hx hb d_M_cut_164 rfl (lv_at hl 0 rfl) ?_
      refine va_get (ci := 12) (v := .ref (ad 43)) hx hb htg in_M hown hK hP 0 rfl rfl 43 (by decide) (htg _ m_653) (fun _ h9 => h9) rfl d_M_cut_165 ?_
      refine lv_iload hx hb d_M_cut_168 (lv_at hl 3 rfl) ?_
      refine lv_aload_n hx hb d_M_cut_170 rfl (lv_at hl 0 rfl) ?_
      refine va_get (ci := 12) (v := .ref (ad 43)) hx hb htg in_M hown hK hP 0 rfl rfl 43 (by decide) (htg _ m_653) (fun _ h9 => h9) rfl d_M_cut_171 ?_
      refine lv_iload hx hb d_M_cut_174 (lv_at hl 3 rfl) ?_
      refine lv_iload_n hx hb d_M_cut_176 rfl (lv_at hl 1 rfl) ?_
      refine lv_iadd hx hb d_M_cut_177 ?_
      obtain ⟨hin, h⟩ := h
      refine va_iald hx hb hK hP 1 0 rfl rfl hin d_M_cut_178 ?_
      obtain ⟨hin, h⟩ := h
      refine va_iast hx hb hK hP hD hS 1 0 rfl rfl hin d_M_cut_179 (fun H locs hP hD hS => ?_)
      have hP : va_P G vwCl [(a0, .inr (12, oM v_o_code v_o_typed v_o_rules v_o_at v_o_read v_o_depth v_o_wrong v_o_there v_o_ended v_o_mode v_o_kept v_o_came v_o_pending v_o_looked v_o_tokens v_o_oldest ad)), ((ad 43), .inl (K 0, 48, .inl (upd f_o_letter l5.toNatClampNeg (f_o_letter (l5 + l2).toNatClampNeg)))), ((ad 46), .inl (K 0, 400, .inl f_o_tokenRule)), ((ad 47), .inl (K 0, 400, .inl f_o_tokenAt)), ((ad 48), .inl (K 0, 400, .inl f_o_tokenLong)), ((ad 49), .inl (K 0, 400, .inl f_o_tokenMode)), ((ad 42), .inl (K 0, 5, .inl f_o_keep))] H := hP
      have hD : va_D A [(a0, .inr (12, oM v_o_code v_o_typed v_o_rules v_o_at v_o_read v_o_depth v_o_wrong v_o_there v_o_ended v_o_mode v_o_kept v_o_came v_o_pending v_o_looked v_o_tokens v_o_oldest ad)), ((ad 43), .inl (K 0, 48, .inl (upd f_o_letter l5.toNatClampNeg (f_o_letter (l5 + l2).toNatClampNeg)))), ((ad 46), .inl (K 0, 400, .inl f_o_tokenRule)), ((ad 47), .inl (K 0, 400, .inl f_o_tokenAt)), ((ad 48), .inl (K 0, 400, .inl f_o_tokenLong)), ((ad 49), .inl (K 0, 400, .inl f_o_tokenMode)), ((ad 42), .inl (K 0, 5, .inl f_o_keep))] := hD
      refine lv_iinc (v := (l5 + 1)) (lv' := [(5, .int (l5 + 1)), (0, .ref a0), (2, .int l2), (3, .int l3)]) hx hb d_M_cut_180 hl (k := 3) rfl (by first | rfl | decide) (by decide) rfl (fun ls hl => ?_)
      refine lv_goto (tgt := 155) hx hb d_M_cut_183 (by decide) ?_
      exact ih l2 l3 (l5 + 1) v_o_mode v_o_kept v_o_pending v_o_looked v_o_tokens (upd f_o_letter l5.toNatClampNeg (f_o_letter (l5 + l2).toNatClampNeg)) f_o_tokenRule f_o_tokenAt f_o_tokenLong f_o_tokenMode f_o_keep  _ _ (hP.sub [0, 1, 2, 3, 4, 5, 6] rfl) (hD.sub [0, 1, 2, 3, 4, 5, 6] (by decide) rfl) hS _ (lv_sub hl [1, 2, 3, 0] rfl) h
set_option maxHeartbeats 4000000 in
set_option maxRecDepth 100000 in
theorem c_M_cut_64 (l : Launch) (G : va_G) (K : Nat → ClassId) (a0 : Nat) (ad : Nat → Nat) (v_o_code : Int32) (v_o_typed : Int32) (v_o_rules : Int32) (v_o_at : Int32) (v_o_read : Int32) (v_o_depth : Int32) (v_o_wrong : Int32) (v_o_there : Int32) (v_o_ended : Int32) (v_o_came : Int32) (v_o_oldest : Int32) (f_o_step : (Nat → Int32)) (f_o_modeOf : (Nat → Int32)) (f_o_set : (Nat → Int32)) (f_o_lastOf : (Nat → Int32)) (f_o_actionOf : (Nat → Int32)) (x1 : Int32) (post : Int32 → Int32 → Int32 → Int32 → Int32 → (Nat → Int32) → (Nat → Int32) → (Nat → Int32) → (Nat → Int32) → (Nat → Int32) → (Nat → Int32) → Prop) {p : Program} {e : Env} {s : State} {m : MethodId} {below : List Frame} {meth : Method} {c : Code} {A : Nat → Prop} {Q : State → Prop} (hx : p.tables.exec = Jvm.exec) (hb : c.code = c_M_cut) (hml : c.maxLocals = 7) (hown : s.vm.findClass y_M_cut.cls = some m.cls) (hname : meth.name = y_M_cut.name) (htg : ∀ w ∈ GT, w.before ([.ref a0, .int x1] : List Value).toArray s = true) (hK : va_K G vwCl (TY K) s) (hN : gNw s) (hA : ∀ q : Nat, s.heap.size ≤ q → A q) (hR : va_P G vwCl [((ad 30), .inl (K 0, 9252, .inl f_o_step)), ((ad 4), .inl (K 0, 16, .inl f_o_modeOf)), ((ad 29), .inl (K 0, 1542, .inl f_o_set)), ((ad 7), .inl (K 0, 16, .inl f_o_lastOf)), ((ad 5), .inl (K 0, 16, .inl f_o_actionOf))] s.heap) (rN : ∀ (k : Nat) (q : Nat × va_E), ([((ad 30), .inl (K 0, 9252, .inl f_o_step)), ((ad 4), .inl (K 0, 16, .inl f_o_modeOf)), ((ad 29), .inl (K 0, 1542, .inl f_o_set)), ((ad 7), .inl (K 0, 16, .inl f_o_lastOf)), ((ad 5), .inl (K 0, 16, .inl f_o_actionOf))] : va_W)[k]? = some q → ¬ A q.1) (hret : ∀ (u : Int32 × Int32 × Int32 × Int32 × Int32 × (Nat → Int32) × (Nat → Int32) × (Nat → Int32) × (Nat → Int32) × (Nat → Int32) × (Nat → Int32)) (H : Heap) (locs : List Loc) (ls : Array Slot) (pc : Nat), (fun (u : Int32 × Int32 × Int32 × Int32 × Int32 × (Nat → Int32) × (Nat → Int32) × (Nat → Int32) × (Nat → Int32) × (Nat → Int32) × (Nat → Int32)) => post u.1 u.2.1 u.2.2.1 u.2.2.2.1 u.2.2.2.2.1 u.2.2.2.2.2.1 u.2.2.2.2.2.2.1 u.2.2.2.2.2.2.2.1 u.2.2.2.2.2.2.2.2.1 u.2.2.2.2.2.2.2.2.2.1 u.2.2.2.2.2.2.2.2.2.2) u → va_P G vwCl ((fun u => [(a0, .inr (12, oM v_o_code v_o_typed v_o_rules v_o_at v_o_read v_o_depth v_o_wrong v_o_there v_o_ended u.1 u.2.1 v_o_came u.2.2.1 u.2.2.2.1 u.2.2.2.2.1 v_o_oldest ad)), ((ad 43), .inl (K 0, 48, .inl u.2.2.2.2.2.1)), ((ad 46), .inl (K 0, 400, .inl u.2.2.2.2.2.2.1)), ((ad 47), .inl (K 0, 400, .inl u.2.2.2.2.2.2.2.1)), ((ad 48), .inl (K 0, 400, .inl u.2.2.2.2.2.2.2.2.1)), ((ad 49), .inl (K 0, 400, .inl u.2.2.2.2.2.2.2.2.2.1)), ((ad 42), .inl (K 0, 5, .inl u.2.2.2.2.2.2.2.2.2.2))]) u) H → va_D A ((fun u => [(a0, .inr (12, oM v_o_code v_o_typed v_o_rules v_o_at v_o_read v_o_depth v_o_wrong v_o_there v_o_ended u.1 u.2.1 v_o_came u.2.2.1 u.2.2.2.1 u.2.2.2.2.1 v_o_oldest ad)), ((ad 43), .inl (K 0, 48, .inl u.2.2.2.2.2.1)), ((ad 46), .inl (K 0, 400, .inl u.2.2.2.2.2.2.1)), ((ad 47), .inl (K 0, 400, .inl u.2.2.2.2.2.2.2.1)), ((ad 48), .inl (K 0, 400, .inl u.2.2.2.2.2.2.2.2.1)), ((ad 49), .inl (K 0, 400, .inl u.2.2.2.2.2.2.2.2.2.1)), ((ad 42), .inl (K 0, 5, .inl u.2.2.2.2.2.2.2.2.2.2))]) u) → va_S A s.heap H locs → decode c_M_cut pc = .ok (.return_, 1) → W p l e { frames := 2, cells := 0, slots := 0, locals := 46 } s m ([.ref a0, .int x1] : List Value).toArray below meth c H locs 0 0 Q (F0 m pc ls [])) : ∀ (l2 : Int32) (l3 : Int32) (v_o_mode : Int32) (v_o_kept : Int32) (v_o_pending : Int32) (v_o_looked : Int32) (v_o_tokens : Int32) (f_o_letter : (Nat → Int32)) (f_o_tokenRule : (Nat → Int32)) (f_o_tokenAt : (Nat → Int32)) (f_o_tokenLong : (Nat → Int32)) (f_o_tokenMode : (Nat → Int32)) (f_o_keep : (Nat → Int32)) (H : Heap) (locs : List Loc), va_P G vwCl [(a0, .inr (12, oM v_o_code v_o_typed v_o_rules v_o_at v_o_read v_o_depth v_o_wrong v_o_there v_o_ended v_o_mode v_o_kept v_o_came v_o_pending v_o_looked v_o_tokens v_o_oldest ad)), ((ad 43), .inl (K 0, 48, .inl f_o_letter)), ((ad 46), .inl (K 0, 400, .inl f_o_tokenRule)), ((ad 47), .inl (K 0, 400, .inl f_o_tokenAt)), ((ad 48), .inl (K 0, 400, .inl f_o_tokenLong)), ((ad 49), .inl (K 0, 400, .inl f_o_tokenMode)), ((ad 42), .inl (K 0, 5, .inl f_o_keep))] H → va_D A [(a0, .inr (12, oM v_o_code v_o_typed v_o_rules v_o_at v_o_read v_o_depth v_o_wrong v_o_there v_o_ended v_o_mode v_o_kept v_o_came v_o_pending v_o_looked v_o_tokens v_o_oldest ad)), ((ad 43), .inl (K 0, 48, .inl f_o_letter)), ((ad 46), .inl (K 0, 400, .inl f_o_tokenRule)), ((ad 47), .inl (K 0, 400, .inl f_o_tokenAt)), ((ad 48), .inl (K 0, 400, .inl f_o_tokenLong)), ((ad 49), .inl (K 0, 400, .inl f_o_tokenMode)), ((ad 42), .inl (K 0, 5, .inl f_o_keep))] → va_S A s.heap H locs → ∀ (ls : Array Slot), lv_has ls 7 [(0, .ref a0), (2, .int l2), (3, .int l3)] → p_M_cut_64 v_o_came v_o_oldest f_o_actionOf post l2 l3 v_o_mode v_o_kept v_o_pending v_o_looked v_o_tokens f_o_letter f_o_tokenRule f_o_tokenAt f_o_tokenLong f_o_tokenMode f_o_keep → W p l e { frames := 2, cells := 0, slots := 0, locals := 46 } s m ([.ref a0, .int x1] : List Value).toArray below meth c H locs 0 0 Q (F0 m 64 ls []) := by
  intro  l2 l3 v_o_mode v_o_kept v_o_pending v_o_looked v_o_tokens f_o_letter f_o_tokenRule f_o_tokenAt f_o_tokenLong f_o_tokenMode f_o_keep  H locs hP hD hS ls hl h
  refine lv_iload_n hx hb d_M_cut_64 rfl (lv_at hl 1 rfl) ?_
  refine lv_if_ne (tgt := 72) hx hb d_M_cut_65 (by decide) (fun hc => ?_) (fun hc => ?_)
  · replace h := h.1 hc
    refine lv_iload_n hx hb d_M_cut_72 rfl (lv_at hl 1 rfl) ?_
    refine lv_istore_n (lv' := [(2, .int l2), (0, .ref a0), (3, .int l3)]) hx hb d_M_cut_73 rfl hl (by decide) rfl (fun ls hl => ?_)
    refine lv_aload_n hx hb d_M_cut_74 rfl (lv_at hl 1 rfl) ?_
    refine va_get (ci := 12) (v := .int v_o_oldest) hx hb htg in_M hown hK hP 0 rfl rfl 45 (by decide) (htg _ m_655) (fun _ h9 => h9) rfl d_M_cut_75 ?_
    refine lv_aload_n hx hb d_M_cut_78 rfl (lv_at hl 1 rfl) ?_
    refine va_get (ci := 12) (v := .int v_o_tokens) hx hb htg in_M hown hK hP 0 rfl rfl 44 (by decide) (htg _ m_654) (fun _ h9 => h9) rfl d_M_cut_79 ?_
    refine lv_iadd hx hb d_M_cut_82 ?_
    refine lv_sipush (v := 400) hx hb d_M_cut_83 (by decide) ?_
    refine lv_irem hx hb d_M_cut_86 (by decide) ?_
    refine lv_istore (lv' := [(4, .int ((v_o_oldest + v_o_tokens) - (v_o_oldest + v_o_tokens) / 400 * 400)), (2, .int l2), (0, .ref a0), (3, .int l3)]) hx hb d_M_cut_87 hl (by decide) rfl (fun ls hl => ?_)
    refine lv_aload_n hx hb d_M_cut_89 rfl (lv_at hl 2 rfl) ?_
    refine va_get (ci := 12) (v := .ref (ad 46)) hx hb htg in_M hown hK hP 0 rfl rfl 46 (by decide) (htg _ m_656) (fun _ h9 => h9) rfl d_M_cut_90 ?_
    refine lv_iload hx hb d_M_cut_93 (lv_at hl 0 rfl) ?_
    refine lv_iload_n hx hb d_M_cut_95 rfl (lv_at hl 3 rfl) ?_
    obtain ⟨hin, h⟩ := h
    refine va_iast hx hb hK hP hD hS 2 0 rfl rfl hin d_M_cut_96 (fun H locs hP hD hS => ?_)
    have hP : va_P G vwCl [(a0, .inr (12, oM v_o_code v_o_typed v_o_rules v_o_at v_o_read v_o_depth v_o_wrong v_o_there v_o_ended v_o_mode v_o_kept v_o_came v_o_pending v_o_looked v_o_tokens v_o_oldest ad)), ((ad 43), .inl (K 0, 48, .inl f_o_letter)), ((ad 46), .inl (K 0, 400, .inl (upd f_o_tokenRule ((v_o_oldest + v_o_tokens) - (v_o_oldest + v_o_tokens) / 400 * 400).toNatClampNeg l3))), ((ad 47), .inl (K 0, 400, .inl f_o_tokenAt)), ((ad 48), .inl (K 0, 400, .inl f_o_tokenLong)), ((ad 49), .inl (K 0, 400, .inl f_o_tokenMode)), ((ad 42), .inl (K 0, 5, .inl f_o_keep))] H := hP
    have hD : va_D A [(a0, .inr (12, oM v_o_code v_o_typed v_o_rules v_o_at v_o_read v_o_depth v_o_wrong v_o_there v_o_ended v_o_mode v_o_kept v_o_came v_o_pending v_o_looked v_o_tokens v_o_oldest ad)), ((ad 43), .inl (K 0, 48, .inl f_o_letter)), ((ad 46), .inl (K 0, 400, .inl (upd f_o_tokenRule ((v_o_oldest + v_o_tokens) - (v_o_oldest + v_o_tokens) / 400 * 400).toNatClampNeg l3))), ((ad 47), .inl (K 0, 400, .inl f_o_tokenAt)), ((ad 48), .inl (K 0, 400, .inl f_o_tokenLong)), ((ad 49), .inl (K 0, 400, .inl f_o_tokenMode)), ((ad 42), .inl (K 0, 5, .inl f_o_keep))] := hD
    refine lv_aload_n hx hb d_M_cut_97 rfl (lv_at hl 2 rfl) ?_
    refine va_get (ci := 12) (v := .ref (ad 47)) hx hb htg in_M hown hK hP 0 rfl rfl 47 (by decide) (htg _ m_657) (fun _ h9 => h9) rfl d_M_cut_98 ?_
    refine lv_iload hx hb d_M_cut_101 (lv_at hl 0 rfl) ?_
    refine lv_aload_n hx hb d_M_cut_103 rfl (lv_at hl 2 rfl) ?_
    refine va_get (ci := 12) (v := .int v_o_came) hx hb htg in_M hown hK hP 0 rfl rfl 39 (by decide) (htg _ m_649) (fun _ h9 => h9) rfl d_M_cut_104 ?_
    refine lv_aload_n hx hb d_M_cut_107 rfl (lv_at hl 2 rfl) ?_
    refine va_get (ci := 12) (v := .int v_o_pending) hx hb htg in_M hown hK hP 0 rfl rfl 40 (by decide) (htg _ m_650) (fun _ h9 => h9) rfl d_M_cut_108 ?_
    refine lv_isub hx hb d_M_cut_111 ?_
    obtain ⟨hin, h⟩ := h
    refine va_iast hx hb hK hP hD hS 3 0 rfl rfl hin d_M_cut_112 (fun H locs hP hD hS => ?_)
    have hP : va_P G vwCl [(a0, .inr (12, oM v_o_code v_o_typed v_o_rules v_o_at v_o_read v_o_depth v_o_wrong v_o_there v_o_ended v_o_mode v_o_kept v_o_came v_o_pending v_o_looked v_o_tokens v_o_oldest ad)), ((ad 43), .inl (K 0, 48, .inl f_o_letter)), ((ad 46), .inl (K 0, 400, .inl (upd f_o_tokenRule ((v_o_oldest + v_o_tokens) - (v_o_oldest + v_o_tokens) / 400 * 400).toNatClampNeg l3))), ((ad 47), .inl (K 0, 400, .inl (upd f_o_tokenAt ((v_o_oldest + v_o_tokens) - (v_o_oldest + v_o_tokens) / 400 * 400).toNatClampNeg (v_o_came - v_o_pending)))), ((ad 48), .inl (K 0, 400, .inl f_o_tokenLong)), ((ad 49), .inl (K 0, 400, .inl f_o_tokenMode)), ((ad 42), .inl (K 0, 5, .inl f_o_keep))] H := hP
    have hD : va_D A [(a0, .inr (12, oM v_o_code v_o_typed v_o_rules v_o_at v_o_read v_o_depth v_o_wrong v_o_there v_o_ended v_o_mode v_o_kept v_o_came v_o_pending v_o_looked v_o_tokens v_o_oldest ad)), ((ad 43), .inl (K 0, 48, .inl f_o_letter)), ((ad 46), .inl (K 0, 400, .inl (upd f_o_tokenRule ((v_o_oldest + v_o_tokens) - (v_o_oldest + v_o_tokens) / 400 * 400).toNatClampNeg l3))), ((ad 47), .inl (K 0, 400, .inl (upd f_o_tokenAt ((v_o_oldest + v_o_tokens) - (v_o_oldest + v_o_tokens) / 400 * 400).toNatClampNeg (v_o_came - v_o_pending)))), ((ad 48), .inl (K 0, 400, .inl f_o_tokenLong)), ((ad 49), .inl (K 0, 400, .inl f_o_tokenMode)), ((ad 42), .inl (K 0, 5, .inl f_o_keep))] := hD
    refine lv_aload_n hx hb d_M_cut_113 rfl (lv_at hl 2 rfl) ?_
    refine va_get (ci := 12) (v := .ref (ad 48)) hx hb htg in_M hown hK hP 0 rfl rfl 48 (by decide) (htg _ m_658) (fun _ h9 => h9) rfl d_M_cut_114 ?_
    refine lv_iload hx hb d_M_cut_117 (lv_at hl 0 rfl) ?_
    refine lv_iload_n hx hb d_M_cut_119 rfl (lv_at hl 1 rfl) ?_
    obtain ⟨hin, h⟩ := h
    refine va_iast hx hb hK hP hD hS 4 0 rfl rfl hin d_M_cut_120 (fun H locs hP hD hS => ?_)
    have hP : va_P G vwCl [(a0, .inr (12, oM v_o_code v_o_typed v_o_rules v_o_at v_o_read v_o_depth v_o_wrong v_o_there v_o_ended v_o_mode v_o_kept v_o_came v_o_pending v_o_looked v_o_tokens v_o_oldest ad)), ((ad 43), .inl (K 0, 48, .inl f_o_letter)), ((ad 46), .inl (K 0, 400, .inl (upd f_o_tokenRule ((v_o_oldest + v_o_tokens) - (v_o_oldest + v_o_tokens) / 400 * 400).toNatClampNeg l3))), ((ad 47), .inl (K 0, 400, .inl (upd f_o_tokenAt ((v_o_oldest + v_o_tokens) - (v_o_oldest + v_o_tokens) / 400 * 400).toNatClampNeg (v_o_came - v_o_pending)))), ((ad 48), .inl (K 0, 400, .inl (upd f_o_tokenLong ((v_o_oldest + v_o_tokens) - (v_o_oldest + v_o_tokens) / 400 * 400).toNatClampNeg l2))), ((ad 49), .inl (K 0, 400, .inl f_o_tokenMode)), ((ad 42), .inl (K 0, 5, .inl f_o_keep))] H := hP
    have hD : va_D A [(a0, .inr (12, oM v_o_code v_o_typed v_o_rules v_o_at v_o_read v_o_depth v_o_wrong v_o_there v_o_ended v_o_mode v_o_kept v_o_came v_o_pending v_o_looked v_o_tokens v_o_oldest ad)), ((ad 43), .inl (K 0, 48, .inl f_o_letter)), ((ad 46), .inl (K 0, 400, .inl (upd f_o_tokenRule ((v_o_oldest + v_o_tokens) - (v_o_oldest + v_o_tokens) / 400 * 400).toNatClampNeg l3))), ((ad 47), .inl (K 0, 400, .inl (upd f_o_tokenAt ((v_o_oldest + v_o_tokens) - (v_o_oldest + v_o_tokens) / 400 * 400).toNatClampNeg (v_o_came - v_o_pending)))), ((ad 48), .inl (K 0, 400, .inl (upd f_o_tokenLong ((v_o_oldest + v_o_tokens) - (v_o_oldest + v_o_tokens) / 400 * 400).toNatClampNeg l2))), ((ad 49), .inl (K 0, 400, .inl f_o_tokenMode)), ((ad 42), .inl (K 0, 5, .inl f_o_keep))] := hD
    refine lv_aload_n hx hb d_M_cut_121 rfl (lv_at hl 2 rfl) ?_
    refine va_get (ci := 12) (v := .ref (ad 49)) hx hb htg in_M hown hK hP 0 rfl rfl 49 (by decide) (htg _ m_659) (fun _ h9 => h9) rfl d_M_cut_122 ?_
    refine lv_iload hx hb d_M_cut_125 (lv_at hl 0 rfl) ?_
    refine lv_aload_n hx hb d_M_cut_127 rfl (lv_at hl 2 rfl) ?_
    refine va_get (ci := 12) (v := .int v_o_mode) hx hb htg in_M hown hK hP 0 rfl rfl 37 (by decide) (htg _ m_647) (fun _ h9 => h9) rfl d_M_cut_128 ?_
    obtain ⟨hin, h⟩ := h
    refine va_iast hx hb hK hP hD hS 5 0 rfl rfl hin d_M_cut_131 (fun H locs hP hD hS => ?_)
    have hP : va_P G vwCl [(a0, .inr (12, oM v_o_code v_o_typed v_o_rules v_o_at v_o_read v_o_depth v_o_wrong v_o_there v_o_ended v_o_mode v_o_kept v_o_came v_o_pending v_o_looked v_o_tokens v_o_oldest ad)), ((ad 43), .inl (K 0, 48, .inl f_o_letter)), ((ad 46), .inl (K 0, 400, .inl (upd f_o_tokenRule ((v_o_oldest + v_o_tokens) - (v_o_oldest + v_o_tokens) / 400 * 400).toNatClampNeg l3))), ((ad 47), .inl (K 0, 400, .inl (upd f_o_tokenAt ((v_o_oldest + v_o_tokens) - (v_o_oldest + v_o_tokens) / 400 * 400).toNatClampNeg (v_o_came - v_o_pending)))), ((ad 48), .inl (K 0, 400, .inl (upd f_o_tokenLong ((v_o_oldest + v_o_tokens) - (v_o_oldest + v_o_tokens) / 400 * 400).toNatClampNeg l2))), ((ad 49), .inl (K 0, 400, .inl (upd f_o_tokenMode ((v_o_oldest + v_o_tokens) - (v_o_oldest + v_o_tokens) / 400 * 400).toNatClampNeg v_o_mode))), ((ad 42), .inl (K 0, 5, .inl f_o_keep))] H := hP
    have hD : va_D A [(a0, .inr (12, oM v_o_code v_o_typed v_o_rules v_o_at v_o_read v_o_depth v_o_wrong v_o_there v_o_ended v_o_mode v_o_kept v_o_came v_o_pending v_o_looked v_o_tokens v_o_oldest ad)), ((ad 43), .inl (K 0, 48, .inl f_o_letter)), ((ad 46), .inl (K 0, 400, .inl (upd f_o_tokenRule ((v_o_oldest + v_o_tokens) - (v_o_oldest + v_o_tokens) / 400 * 400).toNatClampNeg l3))), ((ad 47), .inl (K 0, 400, .inl (upd f_o_tokenAt ((v_o_oldest + v_o_tokens) - (v_o_oldest + v_o_tokens) / 400 * 400).toNatClampNeg (v_o_came - v_o_pending)))), ((ad 48), .inl (K 0, 400, .inl (upd f_o_tokenLong ((v_o_oldest + v_o_tokens) - (v_o_oldest + v_o_tokens) / 400 * 400).toNatClampNeg l2))), ((ad 49), .inl (K 0, 400, .inl (upd f_o_tokenMode ((v_o_oldest + v_o_tokens) - (v_o_oldest + v_o_tokens) / 400 * 400).toNatClampNeg v_o_mode))), ((ad 42), .inl (K 0, 5, .inl f_o_keep))] := hD
    refine lv_aload_n hx hb d_M_cut_132 rfl (lv_at hl 2 rfl) ?_
    refine lv_dup hx hb d_M_cut_133 rfl ?_
    refine va_get (ci := 12) (v := .int v_o_tokens) hx hb htg in_M hown hK hP 0 rfl rfl 44 (by decide) (htg _ m_654) (fun _ h9 => h9) rfl d_M_cut_134 ?_
    refine lv_iconst (v := 1) hx hb d_M_cut_137 (by decide) ?_
    refine lv_iadd hx hb d_M_cut_138 ?_
    refine va_put (ci := 12) (v := .int (v_o_tokens + 1)) (ty := .int) hx hb htg in_M t_M tok_M nm_M hown hK hP hD hS 0 rfl rfl 44 (by decide) (htg _ m_654) (fun _ h9 => h9) rfl (by decide +kernel) rfl rfl (Nat.le_of_ble_eq_true rfl) d_M_cut_139 (fun H locs hP hD hS => ?_)
    have hP : va_P G vwCl [(a0, .inr (12, oM v_o_code v_o_typed v_o_rules v_o_at v_o_read v_o_depth v_o_wrong v_o_there v_o_ended v_o_mode v_o_kept v_o_came v_o_pending v_o_looked (v_o_tokens + 1) v_o_oldest ad)), ((ad 43), .inl (K 0, 48, .inl f_o_letter)), ((ad 46), .inl (K 0, 400, .inl (upd f_o_tokenRule ((v_o_oldest + v_o_tokens) - (v_o_oldest + v_o_tokens) / 400 * 400).toNatClampNeg l3))), ((ad 47), .inl (K 0, 400, .inl (upd f_o_tokenAt ((v_o_oldest + v_o_tokens) - (v_o_oldest + v_o_tokens) / 400 * 400).toNatClampNeg (v_o_came - v_o_pending)))), ((ad 48), .inl (K 0, 400, .inl (upd f_o_tokenLong ((v_o_oldest + v_o_tokens) - (v_o_oldest + v_o_tokens) / 400 * 400).toNatClampNeg l2))), ((ad 49), .inl (K 0, 400, .inl (upd f_o_tokenMode ((v_o_oldest + v_o_tokens) - (v_o_oldest + v_o_tokens) / 400 * 400).toNatClampNeg v_o_mode))), ((ad 42), .inl (K 0, 5, .inl f_o_keep))] H := hP
    have hD : va_D A [(a0, .inr (12, oM v_o_code v_o_typed v_o_rules v_o_at v_o_read v_o_depth v_o_wrong v_o_there v_o_ended v_o_mode v_o_kept v_o_came v_o_pending v_o_looked (v_o_tokens + 1) v_o_oldest ad)), ((ad 43), .inl (K 0, 48, .inl f_o_letter)), ((ad 46), .inl (K 0, 400, .inl (upd f_o_tokenRule ((v_o_oldest + v_o_tokens) - (v_o_oldest + v_o_tokens) / 400 * 400).toNatClampNeg l3))), ((ad 47), .inl (K 0, 400, .inl (upd f_o_tokenAt ((v_o_oldest + v_o_tokens) - (v_o_oldest + v_o_tokens) / 400 * 400).toNatClampNeg (v_o_came - v_o_pending)))), ((ad 48), .inl (K 0, 400, .inl (upd f_o_tokenLong ((v_o_oldest + v_o_tokens) - (v_o_oldest + v_o_tokens) / 400 * 400).toNatClampNeg l2))), ((ad 49), .inl (K 0, 400, .inl (upd f_o_tokenMode ((v_o_oldest + v_o_tokens) - (v_o_oldest + v_o_tokens) / 400 * 400).toNatClampNeg v_o_mode))), ((ad 42), .inl (K 0, 5, .inl f_o_keep))] := hD
    refine lv_aload_n hx hb d_M_cut_142 rfl (lv_at hl 2 rfl) ?_
    refine lv_dup hx hb d_M_cut_143 rfl ?_
    refine va_get (ci := 12) (v := .int v_o_pending) hx hb htg in_M hown hK hP 0 rfl rfl 40 (by decide) (htg _ m_650) (fun _ h9 => h9) rfl d_M_cut_144 ?_
    refine lv_iload_n hx hb d_M_cut_147 rfl (lv_at hl 1 rfl) ?_
    refine lv_isub hx hb d_M_cut_148 ?_
    refine va_put (ci := 12) (v := .int (v_o_pending - l2)) (ty := .int) hx hb htg in_M t_M tok_M nm_M hown hK hP hD hS 0 rfl rfl 40 (by decide) (htg _ m_650) (fun _ h9 => h9) rfl (by decide +kernel) rfl rfl (Nat.le_of_ble_eq_true rfl) d_M_cut_149 (fun H locs hP hD hS => ?_)
    have hP : va_P G vwCl [(a0, .inr (12, oM v_o_code v_o_typed v_o_rules v_o_at v_o_read v_o_depth v_o_wrong v_o_there v_o_ended v_o_mode v_o_kept v_o_came (v_o_pending - l2) v_o_looked (v_o_tokens + 1) v_o_oldest ad)), ((ad 43), .inl (K 0, 48, .inl f_o_letter)), ((ad 46), .inl (K 0, 400, .inl (upd f_o_tokenRule ((v_o_oldest + v_o_tokens) - (v_o_oldest + v_o_tokens) / 400 * 400).toNatClampNeg l3))), ((ad 47), .inl (K 0, 400, .inl (upd f_o_tokenAt ((v_o_oldest + v_o_tokens) - (v_o_oldest + v_o_tokens) / 400 * 400).toNatClampNeg (v_o_came - v_o_pending)))), ((ad 48), .inl (K 0, 400, .inl (upd f_o_tokenLong ((v_o_oldest + v_o_tokens) - (v_o_oldest + v_o_tokens) / 400 * 400).toNatClampNeg l2))), ((ad 49), .inl (K 0, 400, .inl (upd f_o_tokenMode ((v_o_oldest + v_o_tokens) - (v_o_oldest + v_o_tokens) / 400 * 400).toNatClampNeg v_o_mode))), ((ad 42), .inl (K 0, 5, .inl f_o_keep))] H := hP
    have hD : va_D A [(a0, .inr (12, oM v_o_code v_o_typed v_o_rules v_o_at v_o_read v_o_depth v_o_wrong v_o_there v_o_ended v_o_mode v_o_kept v_o_came (v_o_pending - l2) v_o_looked (v_o_tokens + 1) v_o_oldest ad)), ((ad 43), .inl (K 0, 48, .inl f_o_letter)), ((ad 46), .inl (K 0, 400, .inl (upd f_o_tokenRule ((v_o_oldest + v_o_tokens) - (v_o_oldest + v_o_tokens) / 400 * 400).toNatClampNeg l3))), ((ad 47), .inl (K 0, 400, .inl (upd f_o_tokenAt ((v_o_oldest + v_o_tokens) - (v_o_oldest + v_o_tokens) / 400 * 400).toNatClampNeg (v_o_came - v_o_pending)))), ((ad 48), .inl (K 0, 400, .inl (upd f_o_tokenLong ((v_o_oldest + v_o_tokens) - (v_o_oldest + v_o_tokens) / 400 * 400).toNatClampNeg l2))), ((ad 49), .inl (K 0, 400, .inl (upd f_o_tokenMode ((v_o_oldest + v_o_tokens) - (v_o_oldest + v_o_tokens) / 400 * 400).toNatClampNeg v_o_mode))), ((ad 42), .inl (K 0, 5, .inl f_o_keep))] := hD
    refine lv_iconst (v := 0) hx hb d_M_cut_152 (by decide) ?_
    refine lv_istore (lv' := [(5, .int 0), (4, .int ((v_o_oldest + v_o_tokens) - (v_o_oldest + v_o_tokens) / 400 * 400)), (2, .int l2), (0, .ref a0), (3, .int l3)]) hx hb d_M_cut_153 hl (by decide) rfl (fun ls hl => ?_)
    obtain ⟨k, h⟩ := h
    exact (c_M_cut_155 l G K a0 ad v_o_code v_o_typed v_o_rules v_o_at v_o_read v_o_depth v_o_wrong v_o_there v_o_ended v_o_came v_o_oldest f_o_step f_o_modeOf f_o_set f_o_lastOf f_o_actionOf x1 post hx hb hml hown hname htg hK hN hA hR rN hret) k l2 l3 0 v_o_mode v_o_kept (v_o_pending - l2) v_o_looked (v_o_tokens + 1) f_o_letter (upd f_o_tokenRule ((v_o_oldest + v_o_tokens) - (v_o_oldest + v_o_tokens) / 400 * 400).toNatClampNeg l3) (upd f_o_tokenAt ((v_o_oldest + v_o_tokens) - (v_o_oldest + v_o_tokens) / 400 * 400).toNatClampNeg (v_o_came - v_o_pending)) (upd f_o_tokenLong ((v_o_oldest + v_o_tokens) - (v_o_oldest + v_o_tokens) / 400 * 400).toNatClampNeg l2) (upd f_o_tokenMode ((v_o_oldest + v_o_tokens) - (v_o_oldest + v_o_tokens) / 400 * 400).toNatClampNeg v_o_mode) f_o_keep  _ _ (hP.sub [0, 1, 2, 3, 4, 5, 6] rfl) (hD.sub [0, 1, 2, 3, 4, 5, 6] (by decide) rfl) hS _ (lv_sub hl [3, 2, 4, 0] rfl) h
  · replace h := h.2 hc
    refine lv_iconst (v := 1) hx hb d_M_cut_68 (by decide) ?_
    refine lv_goto (tgt := 73) hx hb d_M_cut_69 (by decide) ?_
    refine lv_istore_n (lv' := [(2, .int 1), (0, .ref a0), (3, .int l3)]) hx hb d_M_cut_73 rfl hl (by decide) rfl (fun ls hl => ?_)
    refine lv_aload_n hx hb d_M_cut_74 rfl (lv_at hl 1 rfl) ?_
    refine va_get (ci := 12) (v := .int v_o_oldest) hx hb htg in_M hown hK hP 0 rfl rfl 45 (by decide) (htg _ m_655) (fun _ h9 => h9) rfl d_M_cut_75 ?_
    refine lv_aload_n hx hb d_M_cut_78 rfl (lv_at hl 1 rfl) ?_
    refine va_get (ci := 12) (v := .int v_o_tokens) hx hb htg in_M hown hK hP 0 rfl rfl 44 (by decide) (htg _ m_654) (fun _ h9 => h9) rfl d_M_cut_79 ?_
    refine lv_iadd hx hb d_M_cut_82 ?_
    refine lv_sipush (v := 400) hx hb d_M_cut_83 (by decide) ?_
    refine lv_irem hx hb d_M_cut_86 (by decide) ?_
    refine lv_istore (lv' := [(4, .int ((v_o_oldest + v_o_tokens) - (v_o_oldest + v_o_tokens) / 400 * 400)), (2, .int 1), (0, .ref a0), (3, .int l3)]) hx hb d_M_cut_87 hl (by decide) rfl (fun ls hl => ?_)
    refine lv_aload_n hx hb d_M_cut_89 rfl (lv_at hl 2 rfl) ?_
    refine va_get (ci := 12) (v := .ref (ad 46)) hx hb htg in_M hown hK hP 0 rfl rfl 46 (by decide) (htg _ m_656) (fun _ h9 => h9) rfl d_M_cut_90 ?_
    refine lv_iload hx hb d_M_cut_93 (lv_at hl 0 rfl) ?_
    refine lv_iload_n hx hb d_M_cut_95 rfl (lv_at hl 3 rfl) ?_
    obtain ⟨hin, h⟩ := h
    refine va_iast hx hb hK hP hD hS 2 0 rfl rfl hin d_M_cut_96 (fun H locs hP hD hS => ?_)
    have hP : va_P G vwCl [(a0, .inr (12, oM v_o_code v_o_typed v_o_rules v_o_at v_o_read v_o_depth v_o_wrong v_o_there v_o_ended v_o_mode v_o_kept v_o_came v_o_pending v_o_looked v_o_tokens v_o_oldest ad)), ((ad 43), .inl (K 0, 48, .inl f_o_letter)), ((ad 46), .inl (K 0, 400, .inl (upd f_o_tokenRule ((v_o_oldest + v_o_tokens) - (v_o_oldest + v_o_tokens) / 400 * 400).toNatClampNeg l3))), ((ad 47), .inl (K 0, 400, .inl f_o_tokenAt)), ((ad 48), .inl (K 0, 400, .inl f_o_tokenLong)), ((ad 49), .inl (K 0, 400, .inl f_o_tokenMode)), ((ad 42), .inl (K 0, 5, .inl f_o_keep))] H := hP
    have hD : va_D A [(a0, .inr (12, oM v_o_code v_o_typed v_o_rules v_o_at v_o_read v_o_depth v_o_wrong v_o_there v_o_ended v_o_mode v_o_kept v_o_came v_o_pending v_o_looked v_o_tokens v_o_oldest ad)), ((ad 43), .inl (K 0, 48, .inl f_o_letter)), ((ad 46), .inl (K 0, 400, .inl (upd f_o_tokenRule ((v_o_oldest + v_o_tokens) - (v_o_oldest + v_o_tokens) / 400 * 400).toNatClampNeg l3))), ((ad 47), .inl (K 0, 400, .inl f_o_tokenAt)), ((ad 48), .inl (K 0, 400, .inl f_o_tokenLong)), ((ad 49), .inl (K 0, 400, .inl f_o_tokenMode)), ((ad 42), .inl (K 0, 5, .inl f_o_keep))] := hD
    refine lv_aload_n hx hb d_M_cut_97 rfl (lv_at hl 2 rfl) ?_
    refine va_get (ci := 12) (v := .ref (ad 47)) hx hb htg in_M hown hK hP 0 rfl rfl 47 (by decide) (htg _ m_657) (fun _ h9 => h9) rfl d_M_cut_98 ?_
    refine lv_iload hx hb d_M_cut_101 (lv_at hl 0 rfl) ?_
    refine lv_aload_n hx hb d_M_cut_103 rfl (lv_at hl 2 rfl) ?_
    refine va_get (ci := 12) (v := .int v_o_came) hx hb htg in_M hown hK hP 0 rfl rfl 39 (by decide) (htg _ m_649) (fun _ h9 => h9) rfl d_M_cut_104 ?_
    refine lv_aload_n hx hb d_M_cut_107 rfl (lv_at hl 2 rfl) ?_
    refine va_get (ci := 12) (v := .int v_o_pending) hx hb htg in_M hown hK hP 0 rfl rfl 40 (by decide) (htg _ m_650) (fun _ h9 => h9) rfl d_M_cut_108 ?_
    refine lv_isub hx hb d_M_cut_111 ?_
    obtain ⟨hin, h⟩ := h
    refine va_iast hx hb hK hP hD hS 3 0 rfl rfl hin d_M_cut_112 (fun H locs hP hD hS => ?_)
    have hP : va_P G vwCl [(a0, .inr (12, oM v_o_code v_o_typed v_o_rules v_o_at v_o_read v_o_depth v_o_wrong v_o_there v_o_ended v_o_mode v_o_kept v_o_came v_o_pending v_o_looked v_o_tokens v_o_oldest ad)), ((ad 43), .inl (K 0, 48, .inl f_o_letter)), ((ad 46), .inl (K 0, 400, .inl (upd f_o_tokenRule ((v_o_oldest + v_o_tokens) - (v_o_oldest + v_o_tokens) / 400 * 400).toNatClampNeg l3))), ((ad 47), .inl (K 0, 400, .inl (upd f_o_tokenAt ((v_o_oldest + v_o_tokens) - (v_o_oldest + v_o_tokens) / 400 * 400).toNatClampNeg (v_o_came - v_o_pending)))), ((ad 48), .inl (K 0, 400, .inl f_o_tokenLong)), ((ad 49), .inl (K 0, 400, .inl f_o_tokenMode)), ((ad 42), .inl (K 0, 5, .inl f_o_keep))] H := hP
    have hD : va_D A [(a0, .inr (12, oM v_o_code v_o_typed v_o_rules v_o_at v_o_read v_o_depth v_o_wrong v_o_there v_o_ended v_o_mode v_o_kept v_o_came v_o_pending v_o_looked v_o_tokens v_o_oldest ad)), ((ad 43), .inl (K 0, 48, .inl f_o_letter)), ((ad 46), .inl (K 0, 400, .inl (upd f_o_tokenRule ((v_o_oldest + v_o_tokens) - (v_o_oldest + v_o_tokens) / 400 * 400).toNatClampNeg l3))), ((ad 47), .inl (K 0, 400, .inl (upd f_o_tokenAt ((v_o_oldest + v_o_tokens) - (v_o_oldest + v_o_tokens) / 400 * 400).toNatClampNeg (v_o_came - v_o_pending)))), ((ad 48), .inl (K 0, 400, .inl f_o_tokenLong)), ((ad 49), .inl (K 0, 400, .inl f_o_tokenMode)), ((ad 42), .inl (K 0, 5, .inl f_o_keep))] := hD
    refine lv_aload_n hx hb d_M_cut_113 rfl (lv_at hl 2 rfl) ?_
    refine va_get (ci := 12) (v := .ref (ad 48)) hx hb htg in_M hown hK hP 0 rfl rfl 48 (by decide) (htg _ m_658) (fun _ h9 => h9) rfl d_M_cut_114 ?_
    refine lv_iload hx hb d_M_cut_117 (lv_at hl 0 rfl) ?_
    refine lv_iload_n hx hb d_M_cut_119 rfl (lv_at hl 1 rfl) ?_
    obtain ⟨hin, h⟩ := h
    refine va_iast hx hb hK hP hD hS 4 0 rfl rfl hin d_M_cut_120 (fun H locs hP hD hS => ?_)
    have hP : va_P G vwCl [(a0, .inr (12, oM v_o_code v_o_typed v_o_rules v_o_at v_o_read v_o_depth v_o_wrong v_o_there v_o_ended v_o_mode v_o_kept v_o_came v_o_pending v_o_looked v_o_tokens v_o_oldest ad)), ((ad 43), .inl (K 0, 48, .inl f_o_letter)), ((ad 46), .inl (K 0, 400, .inl (upd f_o_tokenRule ((v_o_oldest + v_o_tokens) - (v_o_oldest + v_o_tokens) / 400 * 400).toNatClampNeg l3))), ((ad 47), .inl (K 0, 400, .inl (upd f_o_tokenAt ((v_o_oldest + v_o_tokens) - (v_o_oldest + v_o_tokens) / 400 * 400).toNatClampNeg (v_o_came - v_o_pending)))), ((ad 48), .inl (K 0, 400, .inl (upd f_o_tokenLong ((v_o_oldest + v_o_tokens) - (v_o_oldest + v_o_tokens) / 400 * 400).toNatClampNeg 1))), ((ad 49), .inl (K 0, 400, .inl f_o_tokenMode)), ((ad 42), .inl (K 0, 5, .inl f_o_keep))] H := hP
    have hD : va_D A [(a0, .inr (12, oM v_o_code v_o_typed v_o_rules v_o_at v_o_read v_o_depth v_o_wrong v_o_there v_o_ended v_o_mode v_o_kept v_o_came v_o_pending v_o_looked v_o_tokens v_o_oldest ad)), ((ad 43), .inl (K 0, 48, .inl f_o_letter)), ((ad 46), .inl (K 0, 400, .inl (upd f_o_tokenRule ((v_o_oldest + v_o_tokens) - (v_o_oldest + v_o_tokens) / 400 * 400).toNatClampNeg l3))), ((ad 47), .inl (K 0, 400, .inl (upd f_o_tokenAt ((v_o_oldest + v_o_tokens) - (v_o_oldest + v_o_tokens) / 400 * 400).toNatClampNeg (v_o_came - v_o_pending)))), ((ad 48), .inl (K 0, 400, .inl (upd f_o_tokenLong ((v_o_oldest + v_o_tokens) - (v_o_oldest + v_o_tokens) / 400 * 400).toNatClampNeg 1))), ((ad 49), .inl (K 0, 400, .inl f_o_tokenMode)), ((ad 42), .inl (K 0, 5, .inl f_o_keep))] := hD
    refine lv_aload_n hx hb d_M_cut_121 rfl (lv_at hl 2 rfl) ?_
    refine va_get (ci := 12) (v := .ref (ad 49)) hx hb htg in_M hown hK hP 0 rfl rfl 49 (by decide) (htg _ m_659) (fun _ h9 => h9) rfl d_M_cut_122 ?_
    refine lv_iload hx hb d_M_cut_125 (lv_at hl 0 rfl) ?_
    refine lv_aload_n hx hb d_M_cut_127 rfl (lv_at hl 2 rfl) ?_
    refine va_get (ci := 12) (v := .int v_o_mode) hx hb htg in_M hown hK hP 0 rfl rfl 37 (by decide) (htg _ m_647) (fun _ h9 => h9) rfl d_M_cut_128 ?_
    obtain ⟨hin, h⟩ := h
    refine va_iast hx hb hK hP hD hS 5 0 rfl rfl hin d_M_cut_131 (fun H locs hP hD hS => ?_)
    have hP : va_P G vwCl [(a0, .inr (12, oM v_o_code v_o_typed v_o_rules v_o_at v_o_read v_o_depth v_o_wrong v_o_there v_o_ended v_o_mode v_o_kept v_o_came v_o_pending v_o_looked v_o_tokens v_o_oldest ad)), ((ad 43), .inl (K 0, 48, .inl f_o_letter)), ((ad 46), .inl (K 0, 400, .inl (upd f_o_tokenRule ((v_o_oldest + v_o_tokens) - (v_o_oldest + v_o_tokens) / 400 * 400).toNatClampNeg l3))), ((ad 47), .inl (K 0, 400, .inl (upd f_o_tokenAt ((v_o_oldest + v_o_tokens) - (v_o_oldest + v_o_tokens) / 400 * 400).toNatClampNeg (v_o_came - v_o_pending)))), ((ad 48), .inl (K 0, 400, .inl (upd f_o_tokenLong ((v_o_oldest + v_o_tokens) - (v_o_oldest + v_o_tokens) / 400 * 400).toNatClampNeg 1))), ((ad 49), .inl (K 0, 400, .inl (upd f_o_tokenMode ((v_o_oldest + v_o_tokens) - (v_o_oldest + v_o_tokens) / 400 * 400).toNatClampNeg v_o_mode))), ((ad 42), .inl (K 0, 5, .inl f_o_keep))] H := hP
    have hD : va_D A [(a0, .inr (12, oM v_o_code v_o_typed v_o_rules v_o_at v_o_read v_o_depth v_o_wrong v_o_there v_o_ended v_o_mode v_o_kept v_o_came v_o_pending v_o_looked v_o_tokens v_o_oldest ad)), ((ad 43), .inl (K 0, 48, .inl f_o_letter)), ((ad 46), .inl (K 0, 400, .inl (upd f_o_tokenRule ((v_o_oldest + v_o_tokens) - (v_o_oldest + v_o_tokens) / 400 * 400).toNatClampNeg l3))), ((ad 47), .inl (K 0, 400, .inl (upd f_o_tokenAt ((v_o_oldest + v_o_tokens) - (v_o_oldest + v_o_tokens) / 400 * 400).toNatClampNeg (v_o_came - v_o_pending)))), ((ad 48), .inl (K 0, 400, .inl (upd f_o_tokenLong ((v_o_oldest + v_o_tokens) - (v_o_oldest + v_o_tokens) / 400 * 400).toNatClampNeg 1))), ((ad 49), .inl (K 0, 400, .inl (upd f_o_tokenMode ((v_o_oldest + v_o_tokens) - (v_o_oldest + v_o_tokens) / 400 * 400).toNatClampNeg v_o_mode))), ((ad 42), .inl (K 0, 5, .inl f_o_keep))] := hD
    refine lv_aload_n hx hb d_M_cut_132 rfl (lv_at hl 2 rfl) ?_
    refine lv_dup hx hb d_M_cut_133 rfl ?_
    refine va_get (ci := 12) (v := .int v_o_tokens) hx hb htg in_M hown hK hP 0 rfl rfl 44 (by decide) (htg _ m_654) (fun _ h9 => h9) rfl d_M_cut_134 ?_
    refine lv_iconst (v := 1) hx hb d_M_cut_137 (by decide) ?_
    refine lv_iadd hx hb d_M_cut_138 ?_
    refine va_put (ci := 12) (v := .int (v_o_tokens + 1)) (ty := .int) hx hb htg in_M t_M tok_M nm_M hown hK hP hD hS 0 rfl rfl 44 (by decide) (htg _ m_654) (fun _ h9 => h9) rfl (by decide +kernel) rfl rfl (Nat.le_of_ble_eq_true rfl) d_M_cut_139 (fun H locs hP hD hS => ?_)
    have hP : va_P G vwCl [(a0, .inr (12, oM v_o_code v_o_typed v_o_rules v_o_at v_o_read v_o_depth v_o_wrong v_o_there v_o_ended v_o_mode v_o_kept v_o_came v_o_pending v_o_looked (v_o_tokens + 1) v_o_oldest ad)), ((ad 43), .inl (K 0, 48, .inl f_o_letter)), ((ad 46), .inl (K 0, 400, .inl (upd f_o_tokenRule ((v_o_oldest + v_o_tokens) - (v_o_oldest + v_o_tokens) / 400 * 400).toNatClampNeg l3))), ((ad 47), .inl (K 0, 400, .inl (upd f_o_tokenAt ((v_o_oldest + v_o_tokens) - (v_o_oldest + v_o_tokens) / 400 * 400).toNatClampNeg (v_o_came - v_o_pending)))), ((ad 48), .inl (K 0, 400, .inl (upd f_o_tokenLong ((v_o_oldest + v_o_tokens) - (v_o_oldest + v_o_tokens) / 400 * 400).toNatClampNeg 1))), ((ad 49), .inl (K 0, 400, .inl (upd f_o_tokenMode ((v_o_oldest + v_o_tokens) - (v_o_oldest + v_o_tokens) / 400 * 400).toNatClampNeg v_o_mode))), ((ad 42), .inl (K 0, 5, .inl f_o_keep))] H := hP
    have hD : va_D A [(a0, .inr (12, oM v_o_code v_o_typed v_o_rules v_o_at v_o_read v_o_depth v_o_wrong v_o_there v_o_ended v_o_mode v_o_kept v_o_came v_o_pending v_o_looked (v_o_tokens + 1) v_o_oldest ad)), ((ad 43), .inl (K 0, 48, .inl f_o_letter)), ((ad 46), .inl (K 0, 400, .inl (upd f_o_tokenRule ((v_o_oldest + v_o_tokens) - (v_o_oldest + v_o_tokens) / 400 * 400).toNatClampNeg l3))), ((ad 47), .inl (K 0, 400, .inl (upd f_o_tokenAt ((v_o_oldest + v_o_tokens) - (v_o_oldest + v_o_tokens) / 400 * 400).toNatClampNeg (v_o_came - v_o_pending)))), ((ad 48), .inl (K 0, 400, .inl (upd f_o_tokenLong ((v_o_oldest + v_o_tokens) - (v_o_oldest + v_o_tokens) / 400 * 400).toNatClampNeg 1))), ((ad 49), .inl (K 0, 400, .inl (upd f_o_tokenMode ((v_o_oldest + v_o_tokens) - (v_o_oldest + v_o_tokens) / 400 * 400).toNatClampNeg v_o_mode))), ((ad 42), .inl (K 0, 5, .inl f_o_keep))] := hD
    refine lv_aload_n hx hb d_M_cut_142 rfl (lv_at hl 2 rfl) ?_
    refine lv_dup hx hb d_M_cut_143 rfl ?_
    refine va_get (ci := 12) (v := .int v_o_pending) hx hb htg in_M hown hK hP 0 rfl rfl 40 (by decide) (htg _ m_650) (fun _ h9 => h9) rfl d_M_cut_144 ?_
    refine lv_iload_n hx hb d_M_cut_147 rfl (lv_at hl 1 rfl) ?_
    refine lv_isub hx hb d_M_cut_148 ?_
    refine va_put (ci := 12) (v := .int (v_o_pending - 1)) (ty := .int) hx hb htg in_M t_M tok_M nm_M hown hK hP hD hS 0 rfl rfl 40 (by decide) (htg _ m_650) (fun _ h9 => h9) rfl (by decide +kernel) rfl rfl (Nat.le_of_ble_eq_true rfl) d_M_cut_149 (fun H locs hP hD hS => ?_)
    have hP : va_P G vwCl [(a0, .inr (12, oM v_o_code v_o_typed v_o_rules v_o_at v_o_read v_o_depth v_o_wrong v_o_there v_o_ended v_o_mode v_o_kept v_o_came (v_o_pending - 1) v_o_looked (v_o_tokens + 1) v_o_oldest ad)), ((ad 43), .inl (K 0, 48, .inl f_o_letter)), ((ad 46), .inl (K 0, 400, .inl (upd f_o_tokenRule ((v_o_oldest + v_o_tokens) - (v_o_oldest + v_o_tokens) / 400 * 400).toNatClampNeg l3))), ((ad 47), .inl (K 0, 400, .inl (upd f_o_tokenAt ((v_o_oldest + v_o_tokens) - (v_o_oldest + v_o_tokens) / 400 * 400).toNatClampNeg (v_o_came - v_o_pending)))), ((ad 48), .inl (K 0, 400, .inl (upd f_o_tokenLong ((v_o_oldest + v_o_tokens) - (v_o_oldest + v_o_tokens) / 400 * 400).toNatClampNeg 1))), ((ad 49), .inl (K 0, 400, .inl (upd f_o_tokenMode ((v_o_oldest + v_o_tokens) - (v_o_oldest + v_o_tokens) / 400 * 400).toNatClampNeg v_o_mode))), ((ad 42), .inl (K 0, 5, .inl f_o_keep))] H := hP
    have hD : va_D A [(a0, .inr (12, oM v_o_code v_o_typed v_o_rules v_o_at v_o_read v_o_depth v_o_wrong v_o_there v_o_ended v_o_mode v_o_kept v_o_came (v_o_pending - 1) v_o_looked (v_o_tokens + 1) v_o_oldest ad)), ((ad 43), .inl (K 0, 48, .inl f_o_letter)), ((ad 46), .inl (K 0, 400, .inl (upd f_o_tokenRule ((v_o_oldest + v_o_tokens) - (v_o_oldest + v_o_tokens) / 400 * 400).toNatClampNeg l3))), ((ad 47), .inl (K 0, 400, .inl (upd f_o_tokenAt ((v_o_oldest + v_o_tokens) - (v_o_oldest + v_o_tokens) / 400 * 400).toNatClampNeg (v_o_came - v_o_pending)))), ((ad 48), .inl (K 0, 400, .inl (upd f_o_tokenLong ((v_o_oldest + v_o_tokens) - (v_o_oldest + v_o_tokens) / 400 * 400).toNatClampNeg 1))), ((ad 49), .inl (K 0, 400, .inl (upd f_o_tokenMode ((v_o_oldest + v_o_tokens) - (v_o_oldest + v_o_tokens) / 400 * 400).toNatClampNeg v_o_mode))), ((ad 42), .inl (K 0, 5, .inl f_o_keep))] := hD
    refine lv_iconst (v := 0) hx hb d_M_cut_152 (by decide) ?_
    refine lv_istore (lv' := [(5, .int 0), (4, .int ((v_o_oldest + v_o_tokens) - (v_o_oldest + v_o_tokens) / 400 * 400)), (2, .int 1), (0, .ref a0), (3, .int l3)]) hx hb d_M_cut_153 hl (by decide) rfl (fun ls hl => ?_)
    obtain ⟨k, h⟩ := h
    exact (c_M_cut_155 l G K a0 ad v_o_code v_o_typed v_o_rules v_o_at v_o_read v_o_depth v_o_wrong v_o_there v_o_ended v_o_came v_o_oldest f_o_step f_o_modeOf f_o_set f_o_lastOf f_o_actionOf x1 post hx hb hml hown hname htg hK hN hA hR rN hret) k 1 l3 0 v_o_mode v_o_kept (v_o_pending - 1) v_o_looked (v_o_tokens + 1) f_o_letter (upd f_o_tokenRule ((v_o_oldest + v_o_tokens) - (v_o_oldest + v_o_tokens) / 400 * 400).toNatClampNeg l3) (upd f_o_tokenAt ((v_o_oldest + v_o_tokens) - (v_o_oldest + v_o_tokens) / 400 * 400).toNatClampNeg (v_o_came - v_o_pending)) (upd f_o_tokenLong ((v_o_oldest + v_o_tokens) - (v_o_oldest + v_o_tokens) / 400 * 400).toNatClampNeg 1) (upd f_o_tokenMode ((v_o_oldest + v_o_tokens) - (v_o_oldest + v_o_tokens) / 400 * 400).toNatClampNeg v_o_mode) f_o_keep  _ _ (hP.sub [0, 1, 2, 3, 4, 5, 6] rfl) (hD.sub [0, 1, 2, 3, 4, 5, 6] (by decide) rfl) hS _ (lv_sub hl [3, 2, 4, 0] rfl) h
set_option maxHeartbeats 4000000 in
set_option maxRecDepth 100000 in
theorem c_M_cut_58 (l : Launch) (G : va_G) (K : Nat → ClassId) (a0 : Nat) (ad : Nat → Nat) (v_o_code : Int32) (v_o_typed : Int32) (v_o_rules : Int32) (v_o_at : Int32) (v_o_read : Int32) (v_o_depth : Int32) (v_o_wrong : Int32) (v_o_there : Int32) (v_o_ended : Int32) (v_o_came : Int32) (v_o_oldest : Int32) (f_o_step : (Nat → Int32)) (f_o_modeOf : (Nat → Int32)) (f_o_set : (Nat → Int32)) (f_o_lastOf : (Nat → Int32)) (f_o_actionOf : (Nat → Int32)) (x1 : Int32) (post : Int32 → Int32 → Int32 → Int32 → Int32 → (Nat → Int32) → (Nat → Int32) → (Nat → Int32) → (Nat → Int32) → (Nat → Int32) → (Nat → Int32) → Prop) {p : Program} {e : Env} {s : State} {m : MethodId} {below : List Frame} {meth : Method} {c : Code} {A : Nat → Prop} {Q : State → Prop} (hx : p.tables.exec = Jvm.exec) (hb : c.code = c_M_cut) (hml : c.maxLocals = 7) (hown : s.vm.findClass y_M_cut.cls = some m.cls) (hname : meth.name = y_M_cut.name) (htg : ∀ w ∈ GT, w.before ([.ref a0, .int x1] : List Value).toArray s = true) (hK : va_K G vwCl (TY K) s) (hN : gNw s) (hA : ∀ q : Nat, s.heap.size ≤ q → A q) (hR : va_P G vwCl [((ad 30), .inl (K 0, 9252, .inl f_o_step)), ((ad 4), .inl (K 0, 16, .inl f_o_modeOf)), ((ad 29), .inl (K 0, 1542, .inl f_o_set)), ((ad 7), .inl (K 0, 16, .inl f_o_lastOf)), ((ad 5), .inl (K 0, 16, .inl f_o_actionOf))] s.heap) (rN : ∀ (k : Nat) (q : Nat × va_E), ([((ad 30), .inl (K 0, 9252, .inl f_o_step)), ((ad 4), .inl (K 0, 16, .inl f_o_modeOf)), ((ad 29), .inl (K 0, 1542, .inl f_o_set)), ((ad 7), .inl (K 0, 16, .inl f_o_lastOf)), ((ad 5), .inl (K 0, 16, .inl f_o_actionOf))] : va_W)[k]? = some q → ¬ A q.1) (hret : ∀ (u : Int32 × Int32 × Int32 × Int32 × Int32 × (Nat → Int32) × (Nat → Int32) × (Nat → Int32) × (Nat → Int32) × (Nat → Int32) × (Nat → Int32)) (H : Heap) (locs : List Loc) (ls : Array Slot) (pc : Nat), (fun (u : Int32 × Int32 × Int32 × Int32 × Int32 × (Nat → Int32) × (Nat → Int32) × (Nat → Int32) × (Nat → Int32) × (Nat → Int32) × (Nat → Int32)) => post u.1 u.2.1 u.2.2.1 u.2.2.2.1 u.2.2.2.2.1 u.2.2.2.2.2.1 u.2.2.2.2.2.2.1 u.2.2.2.2.2.2.2.1 u.2.2.2.2.2.2.2.2.1 u.2.2.2.2.2.2.2.2.2.1 u.2.2.2.2.2.2.2.2.2.2) u → va_P G vwCl ((fun u => [(a0, .inr (12, oM v_o_code v_o_typed v_o_rules v_o_at v_o_read v_o_depth v_o_wrong v_o_there v_o_ended u.1 u.2.1 v_o_came u.2.2.1 u.2.2.2.1 u.2.2.2.2.1 v_o_oldest ad)), ((ad 43), .inl (K 0, 48, .inl u.2.2.2.2.2.1)), ((ad 46), .inl (K 0, 400, .inl u.2.2.2.2.2.2.1)), ((ad 47), .inl (K 0, 400, .inl u.2.2.2.2.2.2.2.1)), ((ad 48), .inl (K 0, 400, .inl u.2.2.2.2.2.2.2.2.1)), ((ad 49), .inl (K 0, 400, .inl u.2.2.2.2.2.2.2.2.2.1)), ((ad 42), .inl (K 0, 5, .inl u.2.2.2.2.2.2.2.2.2.2))]) u) H → va_D A ((fun u => [(a0, .inr (12, oM v_o_code v_o_typed v_o_rules v_o_at v_o_read v_o_depth v_o_wrong v_o_there v_o_ended u.1 u.2.1 v_o_came u.2.2.1 u.2.2.2.1 u.2.2.2.2.1 v_o_oldest ad)), ((ad 43), .inl (K 0, 48, .inl u.2.2.2.2.2.1)), ((ad 46), .inl (K 0, 400, .inl u.2.2.2.2.2.2.1)), ((ad 47), .inl (K 0, 400, .inl u.2.2.2.2.2.2.2.1)), ((ad 48), .inl (K 0, 400, .inl u.2.2.2.2.2.2.2.2.1)), ((ad 49), .inl (K 0, 400, .inl u.2.2.2.2.2.2.2.2.2.1)), ((ad 42), .inl (K 0, 5, .inl u.2.2.2.2.2.2.2.2.2.2))]) u) → va_S A s.heap H locs → decode c_M_cut pc = .ok (.return_, 1) → W p l e { frames := 2, cells := 0, slots := 0, locals := 46 } s m ([.ref a0, .int x1] : List Value).toArray below meth c H locs 0 0 Q (F0 m pc ls [])) : ∀ (K_7 : Int32 → Int32 → Int32 → Int32 → Int32 → Int32 → Int32 → Int32 → (Nat → Int32) → (Nat → Int32) → (Nat → Int32) → (Nat → Int32) → (Nat → Int32) → (Nat → Int32) → Prop) (hK_7 : ∀ (l2 : Int32) (l3 : Int32) (l4 : Int32) (v_o_mode : Int32) (v_o_kept : Int32) (v_o_pending : Int32) (v_o_looked : Int32) (v_o_tokens : Int32) (f_o_letter : (Nat → Int32)) (f_o_tokenRule : (Nat → Int32)) (f_o_tokenAt : (Nat → Int32)) (f_o_tokenLong : (Nat → Int32)) (f_o_tokenMode : (Nat → Int32)) (f_o_keep : (Nat → Int32)) (H : Heap) (locs : List Loc), va_P G vwCl [(a0, .inr (12, oM v_o_code v_o_typed v_o_rules v_o_at v_o_read v_o_depth v_o_wrong v_o_there v_o_ended v_o_mode v_o_kept v_o_came v_o_pending v_o_looked v_o_tokens v_o_oldest ad)), ((ad 43), .inl (K 0, 48, .inl f_o_letter)), ((ad 46), .inl (K 0, 400, .inl f_o_tokenRule)), ((ad 47), .inl (K 0, 400, .inl f_o_tokenAt)), ((ad 48), .inl (K 0, 400, .inl f_o_tokenLong)), ((ad 49), .inl (K 0, 400, .inl f_o_tokenMode)), ((ad 42), .inl (K 0, 5, .inl f_o_keep))] H → va_D A [(a0, .inr (12, oM v_o_code v_o_typed v_o_rules v_o_at v_o_read v_o_depth v_o_wrong v_o_there v_o_ended v_o_mode v_o_kept v_o_came v_o_pending v_o_looked v_o_tokens v_o_oldest ad)), ((ad 43), .inl (K 0, 48, .inl f_o_letter)), ((ad 46), .inl (K 0, 400, .inl f_o_tokenRule)), ((ad 47), .inl (K 0, 400, .inl f_o_tokenAt)), ((ad 48), .inl (K 0, 400, .inl f_o_tokenLong)), ((ad 49), .inl (K 0, 400, .inl f_o_tokenMode)), ((ad 42), .inl (K 0, 5, .inl f_o_keep))] → va_S A s.heap H locs → ∀ (ls : Array Slot), lv_has ls 7 [(0, .ref a0), (1, .int x1), (2, .int l2), (3, .int l3), (4, .int l4)] → K_7 l2 l3 l4 v_o_mode v_o_kept v_o_pending v_o_looked v_o_tokens f_o_letter f_o_tokenRule f_o_tokenAt f_o_tokenLong f_o_tokenMode f_o_keep → W p l e { frames := 2, cells := 0, slots := 0, locals := 46 } s m ([.ref a0, .int x1] : List Value).toArray below meth c H locs 0 0 Q (F0 m 7 ls [])) (l2 : Int32) (l3 : Int32) (l4 : Int32) (v_o_mode : Int32) (v_o_kept : Int32) (v_o_pending : Int32) (v_o_looked : Int32) (v_o_tokens : Int32) (f_o_letter : (Nat → Int32)) (f_o_tokenRule : (Nat → Int32)) (f_o_tokenAt : (Nat → Int32)) (f_o_tokenLong : (Nat → Int32)) (f_o_tokenMode : (Nat → Int32)) (f_o_keep : (Nat → Int32)) (H : Heap) (locs : List Loc), va_P G vwCl [(a0, .inr (12, oM v_o_code v_o_typed v_o_rules v_o_at v_o_read v_o_depth v_o_wrong v_o_there v_o_ended v_o_mode v_o_kept v_o_came v_o_pending v_o_looked v_o_tokens v_o_oldest ad)), ((ad 43), .inl (K 0, 48, .inl f_o_letter)), ((ad 46), .inl (K 0, 400, .inl f_o_tokenRule)), ((ad 47), .inl (K 0, 400, .inl f_o_tokenAt)), ((ad 48), .inl (K 0, 400, .inl f_o_tokenLong)), ((ad 49), .inl (K 0, 400, .inl f_o_tokenMode)), ((ad 42), .inl (K 0, 5, .inl f_o_keep))] H → va_D A [(a0, .inr (12, oM v_o_code v_o_typed v_o_rules v_o_at v_o_read v_o_depth v_o_wrong v_o_there v_o_ended v_o_mode v_o_kept v_o_came v_o_pending v_o_looked v_o_tokens v_o_oldest ad)), ((ad 43), .inl (K 0, 48, .inl f_o_letter)), ((ad 46), .inl (K 0, 400, .inl f_o_tokenRule)), ((ad 47), .inl (K 0, 400, .inl f_o_tokenAt)), ((ad 48), .inl (K 0, 400, .inl f_o_tokenLong)), ((ad 49), .inl (K 0, 400, .inl f_o_tokenMode)), ((ad 42), .inl (K 0, 5, .inl f_o_keep))] → va_S A s.heap H locs → ∀ (ls : Array Slot), lv_has ls 7 [(0, .ref a0), (1, .int x1), (2, .int l2), (3, .int l3), (4, .int l4)] → p_M_cut_58 post K_7 l2 l3 l4 v_o_mode v_o_kept v_o_pending v_o_looked v_o_tokens f_o_letter f_o_tokenRule f_o_tokenAt f_o_tokenLong f_o_tokenMode f_o_keep → W p l e { frames := 2, cells := 0, slots := 0, locals := 46 } s m ([.ref a0, .int x1] : List Value).toArray below meth c H locs 0 0 Q (F0 m 58 ls []) := by
  intro K_7 hK_7 l2 l3 l4 v_o_mode v_o_kept v_o_pending v_o_looked v_o_tokens f_o_letter f_o_tokenRule f_o_tokenAt f_o_tokenLong f_o_tokenMode f_o_keep  H locs hP hD hS ls hl h
  refine lv_iinc (v := (l4 + 1)) (lv' := [(4, .int (l4 + 1)), (0, .ref a0), (1, .int x1), (2, .int l2), (3, .int l3)]) hx hb d_M_cut_58 hl (k := 4) rfl (by first | rfl | decide) (by decide) rfl (fun ls hl => ?_)
  refine lv_goto (tgt := 7) hx hb d_M_cut_61 (by decide) ?_
  exact hK_7 l2 l3 (l4 + 1) v_o_mode v_o_kept v_o_pending v_o_looked v_o_tokens f_o_letter f_o_tokenRule f_o_tokenAt f_o_tokenLong f_o_tokenMode f_o_keep  _ _ (hP.sub [0, 1, 2, 3, 4, 5, 6] rfl) (hD.sub [0, 1, 2, 3, 4, 5, 6] (by decide) rfl) hS _ (lv_sub hl [1, 2, 3, 4, 0] rfl) h
set_option maxHeartbeats 4000000 in
set_option maxRecDepth 100000 in
theorem c_M_cut_7 (l : Launch) (G : va_G) (K : Nat → ClassId) (a0 : Nat) (ad : Nat → Nat) (v_o_code : Int32) (v_o_typed : Int32) (v_o_rules : Int32) (v_o_at : Int32) (v_o_read : Int32) (v_o_depth : Int32) (v_o_wrong : Int32) (v_o_there : Int32) (v_o_ended : Int32) (v_o_came : Int32) (v_o_oldest : Int32) (f_o_step : (Nat → Int32)) (f_o_modeOf : (Nat → Int32)) (f_o_set : (Nat → Int32)) (f_o_lastOf : (Nat → Int32)) (f_o_actionOf : (Nat → Int32)) (x1 : Int32) (post : Int32 → Int32 → Int32 → Int32 → Int32 → (Nat → Int32) → (Nat → Int32) → (Nat → Int32) → (Nat → Int32) → (Nat → Int32) → (Nat → Int32) → Prop) {p : Program} {e : Env} {s : State} {m : MethodId} {below : List Frame} {meth : Method} {c : Code} {A : Nat → Prop} {Q : State → Prop} (hx : p.tables.exec = Jvm.exec) (hb : c.code = c_M_cut) (hml : c.maxLocals = 7) (hown : s.vm.findClass y_M_cut.cls = some m.cls) (hname : meth.name = y_M_cut.name) (htg : ∀ w ∈ GT, w.before ([.ref a0, .int x1] : List Value).toArray s = true) (hK : va_K G vwCl (TY K) s) (hN : gNw s) (hA : ∀ q : Nat, s.heap.size ≤ q → A q) (hR : va_P G vwCl [((ad 30), .inl (K 0, 9252, .inl f_o_step)), ((ad 4), .inl (K 0, 16, .inl f_o_modeOf)), ((ad 29), .inl (K 0, 1542, .inl f_o_set)), ((ad 7), .inl (K 0, 16, .inl f_o_lastOf)), ((ad 5), .inl (K 0, 16, .inl f_o_actionOf))] s.heap) (rN : ∀ (k : Nat) (q : Nat × va_E), ([((ad 30), .inl (K 0, 9252, .inl f_o_step)), ((ad 4), .inl (K 0, 16, .inl f_o_modeOf)), ((ad 29), .inl (K 0, 1542, .inl f_o_set)), ((ad 7), .inl (K 0, 16, .inl f_o_lastOf)), ((ad 5), .inl (K 0, 16, .inl f_o_actionOf))] : va_W)[k]? = some q → ¬ A q.1) (hret : ∀ (u : Int32 × Int32 × Int32 × Int32 × Int32 × (Nat → Int32) × (Nat → Int32) × (Nat → Int32) × (Nat → Int32) × (Nat → Int32) × (Nat → Int32)) (H : Heap) (locs : List Loc) (ls : Array Slot) (pc : Nat), (fun (u : Int32 × Int32 × Int32 × Int32 × Int32 × (Nat → Int32) × (Nat → Int32) × (Nat → Int32) × (Nat → Int32) × (Nat → Int32) × (Nat → Int32)) => post u.1 u.2.1 u.2.2.1 u.2.2.2.1 u.2.2.2.2.1 u.2.2.2.2.2.1 u.2.2.2.2.2.2.1 u.2.2.2.2.2.2.2.1 u.2.2.2.2.2.2.2.2.1 u.2.2.2.2.2.2.2.2.2.1 u.2.2.2.2.2.2.2.2.2.2) u → va_P G vwCl ((fun u => [(a0, .inr (12, oM v_o_code v_o_typed v_o_rules v_o_at v_o_read v_o_depth v_o_wrong v_o_there v_o_ended u.1 u.2.1 v_o_came u.2.2.1 u.2.2.2.1 u.2.2.2.2.1 v_o_oldest ad)), ((ad 43), .inl (K 0, 48, .inl u.2.2.2.2.2.1)), ((ad 46), .inl (K 0, 400, .inl u.2.2.2.2.2.2.1)), ((ad 47), .inl (K 0, 400, .inl u.2.2.2.2.2.2.2.1)), ((ad 48), .inl (K 0, 400, .inl u.2.2.2.2.2.2.2.2.1)), ((ad 49), .inl (K 0, 400, .inl u.2.2.2.2.2.2.2.2.2.1)), ((ad 42), .inl (K 0, 5, .inl u.2.2.2.2.2.2.2.2.2.2))]) u) H → va_D A ((fun u => [(a0, .inr (12, oM v_o_code v_o_typed v_o_rules v_o_at v_o_read v_o_depth v_o_wrong v_o_there v_o_ended u.1 u.2.1 v_o_came u.2.2.1 u.2.2.2.1 u.2.2.2.2.1 v_o_oldest ad)), ((ad 43), .inl (K 0, 48, .inl u.2.2.2.2.2.1)), ((ad 46), .inl (K 0, 400, .inl u.2.2.2.2.2.2.1)), ((ad 47), .inl (K 0, 400, .inl u.2.2.2.2.2.2.2.1)), ((ad 48), .inl (K 0, 400, .inl u.2.2.2.2.2.2.2.2.1)), ((ad 49), .inl (K 0, 400, .inl u.2.2.2.2.2.2.2.2.2.1)), ((ad 42), .inl (K 0, 5, .inl u.2.2.2.2.2.2.2.2.2.2))]) u) → va_S A s.heap H locs → decode c_M_cut pc = .ok (.return_, 1) → W p l e { frames := 2, cells := 0, slots := 0, locals := 46 } s m ([.ref a0, .int x1] : List Value).toArray below meth c H locs 0 0 Q (F0 m pc ls [])) : ∀ (n : Nat) (l2 : Int32) (l3 : Int32) (l4 : Int32) (v_o_mode : Int32) (v_o_kept : Int32) (v_o_pending : Int32) (v_o_looked : Int32) (v_o_tokens : Int32) (f_o_letter : (Nat → Int32)) (f_o_tokenRule : (Nat → Int32)) (f_o_tokenAt : (Nat → Int32)) (f_o_tokenLong : (Nat → Int32)) (f_o_tokenMode : (Nat → Int32)) (f_o_keep : (Nat → Int32)) (H : Heap) (locs : List Loc), va_P G vwCl [(a0, .inr (12, oM v_o_code v_o_typed v_o_rules v_o_at v_o_read v_o_depth v_o_wrong v_o_there v_o_ended v_o_mode v_o_kept v_o_came v_o_pending v_o_looked v_o_tokens v_o_oldest ad)), ((ad 43), .inl (K 0, 48, .inl f_o_letter)), ((ad 46), .inl (K 0, 400, .inl f_o_tokenRule)), ((ad 47), .inl (K 0, 400, .inl f_o_tokenAt)), ((ad 48), .inl (K 0, 400, .inl f_o_tokenLong)), ((ad 49), .inl (K 0, 400, .inl f_o_tokenMode)), ((ad 42), .inl (K 0, 5, .inl f_o_keep))] H → va_D A [(a0, .inr (12, oM v_o_code v_o_typed v_o_rules v_o_at v_o_read v_o_depth v_o_wrong v_o_there v_o_ended v_o_mode v_o_kept v_o_came v_o_pending v_o_looked v_o_tokens v_o_oldest ad)), ((ad 43), .inl (K 0, 48, .inl f_o_letter)), ((ad 46), .inl (K 0, 400, .inl f_o_tokenRule)), ((ad 47), .inl (K 0, 400, .inl f_o_tokenAt)), ((ad 48), .inl (K 0, 400, .inl f_o_tokenLong)), ((ad 49), .inl (K 0, 400, .inl f_o_tokenMode)), ((ad 42), .inl (K 0, 5, .inl f_o_keep))] → va_S A s.heap H locs → ∀ (ls : Array Slot), lv_has ls 7 [(0, .ref a0), (1, .int x1), (2, .int l2), (3, .int l3), (4, .int l4)] → p_M_cut_7 v_o_rules v_o_came v_o_oldest f_o_step f_o_modeOf f_o_set f_o_lastOf f_o_actionOf x1 post n l2 l3 l4 v_o_mode v_o_kept v_o_pending v_o_looked v_o_tokens f_o_letter f_o_tokenRule f_o_tokenAt f_o_tokenLong f_o_tokenMode f_o_keep → W p l e { frames := 2, cells := 0, slots := 0, locals := 46 } s m ([.ref a0, .int x1] : List Value).toArray below meth c H locs 0 0 Q (F0 m 7 ls []) := by
  intro n
  induction n with
  | zero =>
    intro l2 l3 l4 v_o_mode v_o_kept v_o_pending v_o_looked v_o_tokens f_o_letter f_o_tokenRule f_o_tokenAt f_o_tokenLong f_o_tokenMode f_o_keep  H locs hP hD hS ls hl h
    exact False.elim h
  | succ n ih =>
    intro l2 l3 l4 v_o_mode v_o_kept v_o_pending v_o_looked v_o_tokens f_o_letter f_o_tokenRule f_o_tokenAt f_o_tokenLong f_o_tokenMode f_o_keep  H locs hP hD hS ls hl h
    refine lv_iload hx hb d_M_cut_7 (lv_at hl 4 rfl) ?_
    refine lv_iload_n hx hb d_M_cut_9 rfl (lv_at hl 1 rfl) ?_
    refine lv_icmp_gt (tgt := 64) hx hb d_M_cut_10 (by decide) (fun hc => ?_) (fun hc => ?_)
    · replace h := h.1 hc
      exact (c_M_cut_64 l G K a0 ad v_o_code v_o_typed v_o_rules v_o_at v_o_read v_o_depth v_o_wrong v_o_there v_o_ended v_o_came v_o_oldest f_o_step f_o_modeOf f_o_set f_o_lastOf f_o_actionOf x1 post hx hb hml hown hname htg hK hN hA hR rN hret) l2 l3 v_o_mode v_o_kept v_o_pending v_o_looked v_o_tokens f_o_letter f_o_tokenRule f_o_tokenAt f_o_tokenLong f_o_tokenMode f_o_keep  _ _ (hP.sub [0, 1, 2, 3, 4, 5, 6] rfl) (hD.sub [0, 1, 2, 3, 4, 5, 6] (by decide) rfl) hS _ (lv_sub hl [0, 2, 3] rfl) h
    · replace h := h.2 hc
      refine lv_aload_n hx hb d_M_cut_13 rfl (lv_at hl 0 rfl) ?_
      refine lv_iload hx hb d_M_cut_14 (lv_at hl 4 rfl) ?_
      have hPc : va_P G vwCl [(a0, .inr (12, oM v_o_code v_o_typed v_o_rules v_o_at v_o_read v_o_depth v_o_wrong v_o_there v_o_ended v_o_mode v_o_kept v_o_came v_o_pending v_o_looked v_o_tokens v_o_oldest ad)), ((ad 43), .inl (K 0, 48, .inl f_o_letter)), ((ad 30), .inl (K 0, 9252, .inl f_o_step))] _ := (hP.app (gR hR rN hS)).sub [0, 1, 7] rfl
      refine vp_callSi (va_Run.run (va_runV (As := [.int l4]) (rest := []) ⟨hx, hb, hml, hown, htg⟩ (k_M_word l G K a0 ad v_o_code v_o_typed v_o_rules v_o_at v_o_read v_o_depth v_o_wrong v_o_there v_o_ended v_o_mode v_o_kept v_o_came v_o_pending v_o_looked v_o_tokens v_o_oldest f_o_letter f_o_step l4 _ h) (cwV 1 htg (gGoodV m_812 m_813 m_905 m_13 m_814) rfl rfl rfl (by decide +kernel) ⟨(Nat.le_of_ble_eq_true rfl), (Nat.le_of_ble_eq_true rfl)⟩) (gS_preV (ci := 12) (q0 := 0) hK hN hPc rfl rfl) rfl rfl hl.1 rfl (lv_room (Nat.le_of_ble_eq_true rfl)) d_M_cut_16 ⟨(Nat.le_of_ble_eq_true rfl), (Nat.le_of_ble_eq_true rfl)⟩)) (fun r1701 h => ?_)
      refine lv_istore (lv' := [(5, .int r1701), (0, .ref a0), (1, .int x1), (2, .int l2), (3, .int l3), (4, .int l4)]) hx hb d_M_cut_19 hl (by decide) rfl (fun ls hl => ?_)
      refine lv_iload hx hb d_M_cut_21 (lv_at hl 0 rfl) ?_
      refine lv_iconst (v := (-1)) hx hb d_M_cut_23 (by decide) ?_
      refine lv_icmp_ne (tgt := 31) hx hb d_M_cut_24 (by decide) (fun hc => ?_) (fun hc => ?_)
      · replace h := h.1 hc
        refine lv_aload_n hx hb d_M_cut_31 rfl (lv_at hl 1 rfl) ?_
        refine lv_aload_n hx hb d_M_cut_32 rfl (lv_at hl 1 rfl) ?_
        refine va_get (ci := 12) (v := .int v_o_mode) hx hb htg in_M hown hK hP 0 rfl rfl 37 (by decide) (htg _ m_647) (fun _ h9 => h9) rfl d_M_cut_33 ?_
        refine lv_iload hx hb d_M_cut_36 (lv_at hl 0 rfl) ?_
        have hPc : va_P G vwCl [(a0, .inr (12, oM v_o_code v_o_typed v_o_rules v_o_at v_o_read v_o_depth v_o_wrong v_o_there v_o_ended v_o_mode v_o_kept v_o_came v_o_pending v_o_looked v_o_tokens v_o_oldest ad)), ((ad 4), .inl (K 0, 16, .inl f_o_modeOf)), ((ad 29), .inl (K 0, 1542, .inl f_o_set)), ((ad 7), .inl (K 0, 16, .inl f_o_lastOf))] _ := (hP.app (gR hR rN hS)).sub [0, 8, 9, 10] rfl
        refine vp_callSi (va_Run.run (va_runV (As := [.int v_o_mode, .int r1701]) (rest := []) ⟨hx, hb, hml, hown, htg⟩ (k_M_wins l G K a0 ad v_o_code v_o_typed v_o_rules v_o_at v_o_read v_o_depth v_o_wrong v_o_there v_o_ended v_o_mode v_o_kept v_o_came v_o_pending v_o_looked v_o_tokens v_o_oldest f_o_modeOf f_o_set f_o_lastOf v_o_mode r1701 _ h) (cwV 2 htg (gGoodV m_740 m_741 m_904 m_13 m_742) rfl rfl rfl (by decide +kernel) ⟨(Nat.le_of_ble_eq_true rfl), (Nat.le_of_ble_eq_true rfl)⟩) (gS_preV (ci := 12) (q0 := 0) hK hN hPc rfl rfl) rfl rfl hl.1 rfl (lv_room (Nat.le_of_ble_eq_true rfl)) d_M_cut_38 ⟨(Nat.le_of_ble_eq_true rfl), (Nat.le_of_ble_eq_true rfl)⟩)) (fun r1702 h => ?_)
        refine lv_istore (lv' := [(6, .int r1702), (5, .int r1701), (0, .ref a0), (1, .int x1), (2, .int l2), (3, .int l3), (4, .int l4)]) hx hb d_M_cut_41 hl (by decide) rfl (fun ls hl => ?_)
        refine lv_iload hx hb d_M_cut_43 (lv_at hl 0 rfl) ?_
        refine lv_iconst (v := (-1)) hx hb d_M_cut_45 (by decide) ?_
        refine lv_icmp_ne (tgt := 52) hx hb d_M_cut_46 (by decide) (fun hc => ?_) (fun hc => ?_)
        · replace h := h.1 hc
          refine lv_iload hx hb d_M_cut_52 (lv_at hl 6 rfl) ?_
          refine lv_istore_n (lv' := [(2, .int l4), (6, .int r1702), (5, .int r1701), (0, .ref a0), (1, .int x1), (3, .int l3), (4, .int l4)]) hx hb d_M_cut_54 rfl hl (by decide) rfl (fun ls hl => ?_)
          refine lv_iload hx hb d_M_cut_55 (lv_at hl 1 rfl) ?_
          refine lv_istore_n (lv' := [(3, .int r1702), (2, .int l4), (6, .int r1702), (5, .int r1701), (0, .ref a0), (1, .int x1), (4, .int l4)]) hx hb d_M_cut_57 rfl hl (by decide) rfl (fun ls hl => ?_)
          exact (c_M_cut_58 l G K a0 ad v_o_code v_o_typed v_o_rules v_o_at v_o_read v_o_depth v_o_wrong v_o_there v_o_ended v_o_came v_o_oldest f_o_step f_o_modeOf f_o_set f_o_lastOf f_o_actionOf x1 post hx hb hml hown hname htg hK hN hA hR rN hret) _ ih l4 r1702 l4 v_o_mode v_o_kept v_o_pending v_o_looked v_o_tokens f_o_letter f_o_tokenRule f_o_tokenAt f_o_tokenLong f_o_tokenMode f_o_keep  _ _ (hP.sub [0, 1, 2, 3, 4, 5, 6] rfl) (hD.sub [0, 1, 2, 3, 4, 5, 6] (by decide) rfl) hS _ (lv_sub hl [4, 5, 1, 0, 6] rfl) h
        · replace h := h.2 hc
          refine lv_goto (tgt := 58) hx hb d_M_cut_49 (by decide) ?_
          exact (c_M_cut_58 l G K a0 ad v_o_code v_o_typed v_o_rules v_o_at v_o_read v_o_depth v_o_wrong v_o_there v_o_ended v_o_came v_o_oldest f_o_step f_o_modeOf f_o_set f_o_lastOf f_o_actionOf x1 post hx hb hml hown hname htg hK hN hA hR rN hret) _ ih l2 l3 l4 v_o_mode v_o_kept v_o_pending v_o_looked v_o_tokens f_o_letter f_o_tokenRule f_o_tokenAt f_o_tokenLong f_o_tokenMode f_o_keep  _ _ (hP.sub [0, 1, 2, 3, 4, 5, 6] rfl) (hD.sub [0, 1, 2, 3, 4, 5, 6] (by decide) rfl) hS _ (lv_sub hl [2, 3, 4, 5, 6] rfl) h
      · replace h := h.2 hc
        refine lv_iconst (v := (-1)) hx hb d_M_cut_27 (by decide) ?_
        refine lv_goto (tgt := 41) hx hb d_M_cut_28 (by decide) ?_
        refine lv_istore (lv' := [(6, .int (-1)), (5, .int r1701), (0, .ref a0), (1, .int x1), (2, .int l2), (3, .int l3), (4, .int l4)]) hx hb d_M_cut_41 hl (by decide) rfl (fun ls hl => ?_)
        refine lv_iload hx hb d_M_cut_43 (lv_at hl 0 rfl) ?_
        refine lv_iconst (v := (-1)) hx hb d_M_cut_45 (by decide) ?_
        refine lv_icmp_ne (tgt := 52) hx hb d_M_cut_46 (by decide) (fun hc => absurd (by decide) hc) (fun _ => ?_)
        refine lv_goto (tgt := 58) hx hb d_M_cut_49 (by decide) ?_
        exact (c_M_cut_58 l G K a0 ad v_o_code v_o_typed v_o_rules v_o_at v_o_read v_o_depth v_o_wrong v_o_there v_o_ended v_o_came v_o_oldest f_o_step f_o_modeOf f_o_set f_o_lastOf f_o_actionOf x1 post hx hb hml hown hname htg hK hN hA hR rN hret) _ ih l2 l3 l4 v_o_mode v_o_kept v_o_pending v_o_looked v_o_tokens f_o_letter f_o_tokenRule f_o_tokenAt f_o_tokenLong f_o_tokenMode f_o_keep  _ _ (hP.sub [0, 1, 2, 3, 4, 5, 6] rfl) (hD.sub [0, 1, 2, 3, 4, 5, 6] (by decide) rfl) hS _ (lv_sub hl [2, 3, 4, 5, 6] rfl) h
set_option maxHeartbeats 4000000 in
set_option maxRecDepth 100000 in
theorem k_M_cut (l : Launch) (G : va_G) (K : Nat → ClassId) (a0 : Nat) (ad : Nat → Nat) (sz : Nat) (v_o_code : Int32) (v_o_typed : Int32) (v_o_rules : Int32) (v_o_at : Int32) (v_o_read : Int32) (v_o_depth : Int32) (v_o_wrong : Int32) (v_o_there : Int32) (v_o_ended : Int32) (v_o_mode : Int32) (v_o_kept : Int32) (v_o_came : Int32) (v_o_pending : Int32) (v_o_looked : Int32) (v_o_tokens : Int32) (v_o_oldest : Int32) (f_o_letter : (Nat → Int32)) (f_o_step : (Nat → Int32)) (f_o_modeOf : (Nat → Int32)) (f_o_set : (Nat → Int32)) (f_o_lastOf : (Nat → Int32)) (f_o_tokenRule : (Nat → Int32)) (f_o_tokenAt : (Nat → Int32)) (f_o_tokenLong : (Nat → Int32)) (f_o_tokenMode : (Nat → Int32)) (f_o_actionOf : (Nat → Int32)) (f_o_keep : (Nat → Int32)) (x1 : Int32) (post : Int32 → Int32 → Int32 → Int32 → Int32 → (Nat → Int32) → (Nat → Int32) → (Nat → Int32) → (Nat → Int32) → (Nat → Int32) → (Nat → Int32) → Prop) (h : p_M_cut v_o_rules v_o_mode v_o_kept v_o_came v_o_pending v_o_looked v_o_tokens v_o_oldest f_o_letter f_o_step f_o_modeOf f_o_set f_o_lastOf f_o_tokenRule f_o_tokenAt f_o_tokenLong f_o_tokenMode f_o_actionOf f_o_keep x1 post) : MWv l y_M_cut (.code y_M_cut c_M_cut 7 none) { frames := 2, cells := 0, slots := 0, locals := 46 } G K [(a0, .inr (12, oM v_o_code v_o_typed v_o_rules v_o_at v_o_read v_o_depth v_o_wrong v_o_there v_o_ended v_o_mode v_o_kept v_o_came v_o_pending v_o_looked v_o_tokens v_o_oldest ad)), ((ad 43), .inl (K 0, 48, .inl f_o_letter)), ((ad 46), .inl (K 0, 400, .inl f_o_tokenRule)), ((ad 47), .inl (K 0, 400, .inl f_o_tokenAt)), ((ad 48), .inl (K 0, 400, .inl f_o_tokenLong)), ((ad 49), .inl (K 0, 400, .inl f_o_tokenMode)), ((ad 42), .inl (K 0, 5, .inl f_o_keep))] [((ad 30), .inl (K 0, 9252, .inl f_o_step)), ((ad 4), .inl (K 0, 16, .inl f_o_modeOf)), ((ad 29), .inl (K 0, 1542, .inl f_o_set)), ((ad 7), .inl (K 0, 16, .inl f_o_lastOf)), ((ad 5), .inl (K 0, 16, .inl f_o_actionOf))] [.ref a0, .int x1] sz (fun (u : Int32 × Int32 × Int32 × Int32 × Int32 × (Nat → Int32) × (Nat → Int32) × (Nat → Int32) × (Nat → Int32) × (Nat → Int32) × (Nat → Int32)) => post u.1 u.2.1 u.2.2.1 u.2.2.2.1 u.2.2.2.2.1 u.2.2.2.2.2.1 u.2.2.2.2.2.2.1 u.2.2.2.2.2.2.2.1 u.2.2.2.2.2.2.2.2.1 u.2.2.2.2.2.2.2.2.2.1 u.2.2.2.2.2.2.2.2.2.2) (fun u => [(a0, .inr (12, oM v_o_code v_o_typed v_o_rules v_o_at v_o_read v_o_depth v_o_wrong v_o_there v_o_ended u.1 u.2.1 v_o_came u.2.2.1 u.2.2.2.1 u.2.2.2.2.1 v_o_oldest ad)), ((ad 43), .inl (K 0, 48, .inl u.2.2.2.2.2.1)), ((ad 46), .inl (K 0, 400, .inl u.2.2.2.2.2.2.1)), ((ad 47), .inl (K 0, 400, .inl u.2.2.2.2.2.2.2.1)), ((ad 48), .inl (K 0, 400, .inl u.2.2.2.2.2.2.2.2.1)), ((ad 49), .inl (K 0, 400, .inl u.2.2.2.2.2.2.2.2.2.1)), ((ad 42), .inl (K 0, 5, .inl u.2.2.2.2.2.2.2.2.2.2))]) 0 0 := by
  refine g_metWv (cc := c_M_cut) (maxL := 7) (ret := none) (by decide) rfl rfl (Nat.le_of_ble_eq_true rfl) ?_
  intro p e s m below meth c A Q hx hb hml hown hname htg hK hN hP hD hA hS hR rN hret ls hl
  have hl : lv_has ls 7 [(0, .ref a0), (1, .int x1)] := hl
  refine lv_iconst (v := 0) hx hb d_M_cut_0 (by decide) ?_
  refine lv_istore_n (lv' := [(2, .int 0), (0, .ref a0), (1, .int x1)]) hx hb d_M_cut_1 rfl hl (by decide) rfl (fun ls hl => ?_)
  refine lv_iconst (v := (-1)) hx hb d_M_cut_2 (by decide) ?_
  refine lv_istore_n (lv' := [(3, .int (-1)), (2, .int 0), (0, .ref a0), (1, .int x1)]) hx hb d_M_cut_3 rfl hl (by decide) rfl (fun ls hl => ?_)
  refine lv_iconst (v := 1) hx hb d_M_cut_4 (by decide) ?_
  refine lv_istore (lv' := [(4, .int 1), (3, .int (-1)), (2, .int 0), (0, .ref a0), (1, .int x1)]) hx hb d_M_cut_5 hl (by decide) rfl (fun ls hl => ?_)
  obtain ⟨k, h⟩ := h
  exact (c_M_cut_7 l G K a0 ad v_o_code v_o_typed v_o_rules v_o_at v_o_read v_o_depth v_o_wrong v_o_there v_o_ended v_o_came v_o_oldest f_o_step f_o_modeOf f_o_set f_o_lastOf f_o_actionOf x1 post hx hb hml hown hname htg hK hN hA hR rN hret) k 0 (-1) 1 v_o_mode v_o_kept v_o_pending v_o_looked v_o_tokens f_o_letter f_o_tokenRule f_o_tokenAt f_o_tokenLong f_o_tokenMode f_o_keep  _ _ (hP.sub [0, 1, 2, 3, 4, 5, 6] rfl) (hD.sub [0, 1, 2, 3, 4, 5, 6] (by decide) rfl) hS _ (lv_sub hl [3, 4, 2, 1, 0] rfl) h
