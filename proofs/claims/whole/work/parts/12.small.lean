theorem d_TokenQueue_init_0 : decode c_TokenQueue_init 0 = .ok (.aload_n 0, 1) := by decide +kernel
theorem d_TokenQueue_init_1 : decode c_TokenQueue_init 1 = .ok (.invokespecial 3, 3) := by decide +kernel
theorem d_TokenQueue_init_4 : decode c_TokenQueue_init 4 = .ok (.aload_n 0, 1) := by decide +kernel
theorem d_TokenQueue_init_5 : decode c_TokenQueue_init 5 = .ok (.sipush 288, 3) := by decide +kernel
theorem d_TokenQueue_init_8 : decode c_TokenQueue_init 8 = .ok (.newarray .int, 2) := by decide +kernel
theorem d_TokenQueue_init_10 : decode c_TokenQueue_init 10 = .ok (.putfield 9, 3) := by decide +kernel
theorem d_TokenQueue_init_13 : decode c_TokenQueue_init 13 = .ok (.aload_n 0, 1) := by decide +kernel
theorem d_TokenQueue_init_14 : decode c_TokenQueue_init 14 = .ok (.iconst 0, 1) := by decide +kernel
theorem d_TokenQueue_init_15 : decode c_TokenQueue_init 15 = .ok (.putfield 15, 3) := by decide +kernel
theorem d_TokenQueue_init_18 : decode c_TokenQueue_init 18 = .ok (.aload_n 0, 1) := by decide +kernel
theorem d_TokenQueue_init_19 : decode c_TokenQueue_init 19 = .ok (.iconst 0, 1) := by decide +kernel
theorem d_TokenQueue_init_20 : decode c_TokenQueue_init 20 = .ok (.putfield 19, 3) := by decide +kernel
theorem d_TokenQueue_init_23 : decode c_TokenQueue_init 23 = .ok (.return_, 1) := by decide +kernel
theorem d_TokenQueue_clear_0 : decode c_TokenQueue_clear 0 = .ok (.aload_n 0, 1) := by decide +kernel
theorem d_TokenQueue_clear_1 : decode c_TokenQueue_clear 1 = .ok (.iconst 0, 1) := by decide +kernel
theorem d_TokenQueue_clear_2 : decode c_TokenQueue_clear 2 = .ok (.putfield 15, 3) := by decide +kernel
theorem d_TokenQueue_clear_5 : decode c_TokenQueue_clear 5 = .ok (.aload_n 0, 1) := by decide +kernel
theorem d_TokenQueue_clear_6 : decode c_TokenQueue_clear 6 = .ok (.iconst 0, 1) := by decide +kernel
theorem d_TokenQueue_clear_7 : decode c_TokenQueue_clear 7 = .ok (.putfield 19, 3) := by decide +kernel
theorem d_TokenQueue_clear_10 : decode c_TokenQueue_clear 10 = .ok (.return_, 1) := by decide +kernel
theorem d_TokenQueue_size_0 : decode c_TokenQueue_size 0 = .ok (.aload_n 0, 1) := by decide +kernel
theorem d_TokenQueue_size_1 : decode c_TokenQueue_size 1 = .ok (.getfield 19, 3) := by decide +kernel
theorem d_TokenQueue_size_4 : decode c_TokenQueue_size 4 = .ok (.ireturn, 1) := by decide +kernel
theorem d_TokenQueue_add_0 : decode c_TokenQueue_add 0 = .ok (.aload_n 0, 1) := by decide +kernel
theorem d_TokenQueue_add_1 : decode c_TokenQueue_add 1 = .ok (.getfield 19, 3) := by decide +kernel
theorem d_TokenQueue_add_4 : decode c_TokenQueue_add 4 = .ok (.bipush 72, 2) := by decide +kernel
theorem d_TokenQueue_add_6 : decode c_TokenQueue_add 6 = .ok (.if_icmp .lt 4, 3) := by decide +kernel
theorem d_TokenQueue_add_9 : decode c_TokenQueue_add 9 = .ok (.return_, 1) := by decide +kernel
theorem d_TokenQueue_add_10 : decode c_TokenQueue_add 10 = .ok (.aload_n 0, 1) := by decide +kernel
theorem d_TokenQueue_add_11 : decode c_TokenQueue_add 11 = .ok (.getfield 15, 3) := by decide +kernel
theorem d_TokenQueue_add_14 : decode c_TokenQueue_add 14 = .ok (.aload_n 0, 1) := by decide +kernel
theorem d_TokenQueue_add_15 : decode c_TokenQueue_add 15 = .ok (.getfield 19, 3) := by decide +kernel
theorem d_TokenQueue_add_18 : decode c_TokenQueue_add 18 = .ok (.iadd, 1) := by decide +kernel
theorem d_TokenQueue_add_19 : decode c_TokenQueue_add 19 = .ok (.bipush 72, 2) := by decide +kernel
theorem d_TokenQueue_add_21 : decode c_TokenQueue_add 21 = .ok (.irem, 1) := by decide +kernel
theorem d_TokenQueue_add_22 : decode c_TokenQueue_add 22 = .ok (.iconst 4, 1) := by decide +kernel
theorem d_TokenQueue_add_23 : decode c_TokenQueue_add 23 = .ok (.imul, 1) := by decide +kernel
theorem d_TokenQueue_add_24 : decode c_TokenQueue_add 24 = .ok (.istore 5, 2) := by decide +kernel
theorem d_TokenQueue_add_26 : decode c_TokenQueue_add 26 = .ok (.aload_n 0, 1) := by decide +kernel
theorem d_TokenQueue_add_27 : decode c_TokenQueue_add 27 = .ok (.getfield 9, 3) := by decide +kernel
theorem d_TokenQueue_add_30 : decode c_TokenQueue_add 30 = .ok (.iload 5, 2) := by decide +kernel
theorem d_TokenQueue_add_32 : decode c_TokenQueue_add 32 = .ok (.iconst 0, 1) := by decide +kernel
theorem d_TokenQueue_add_33 : decode c_TokenQueue_add 33 = .ok (.iadd, 1) := by decide +kernel
theorem d_TokenQueue_add_34 : decode c_TokenQueue_add 34 = .ok (.iload_n 1, 1) := by decide +kernel
theorem d_TokenQueue_add_35 : decode c_TokenQueue_add 35 = .ok (.iastore, 1) := by decide +kernel
theorem d_TokenQueue_add_36 : decode c_TokenQueue_add 36 = .ok (.aload_n 0, 1) := by decide +kernel
theorem d_TokenQueue_add_37 : decode c_TokenQueue_add 37 = .ok (.getfield 9, 3) := by decide +kernel
theorem d_TokenQueue_add_40 : decode c_TokenQueue_add 40 = .ok (.iload 5, 2) := by decide +kernel
theorem d_TokenQueue_add_42 : decode c_TokenQueue_add 42 = .ok (.iconst 1, 1) := by decide +kernel
theorem d_TokenQueue_add_43 : decode c_TokenQueue_add 43 = .ok (.iadd, 1) := by decide +kernel
theorem d_TokenQueue_add_44 : decode c_TokenQueue_add 44 = .ok (.iload_n 2, 1) := by decide +kernel
theorem d_TokenQueue_add_45 : decode c_TokenQueue_add 45 = .ok (.iastore, 1) := by decide +kernel
theorem d_TokenQueue_add_46 : decode c_TokenQueue_add 46 = .ok (.aload_n 0, 1) := by decide +kernel
theorem d_TokenQueue_add_47 : decode c_TokenQueue_add 47 = .ok (.getfield 9, 3) := by decide +kernel
theorem d_TokenQueue_add_50 : decode c_TokenQueue_add 50 = .ok (.iload 5, 2) := by decide +kernel
theorem d_TokenQueue_add_52 : decode c_TokenQueue_add 52 = .ok (.iconst 2, 1) := by decide +kernel
theorem d_TokenQueue_add_53 : decode c_TokenQueue_add 53 = .ok (.iadd, 1) := by decide +kernel
theorem d_TokenQueue_add_54 : decode c_TokenQueue_add 54 = .ok (.iload_n 3, 1) := by decide +kernel
theorem d_TokenQueue_add_55 : decode c_TokenQueue_add 55 = .ok (.iastore, 1) := by decide +kernel
theorem d_TokenQueue_add_56 : decode c_TokenQueue_add 56 = .ok (.aload_n 0, 1) := by decide +kernel
theorem d_TokenQueue_add_57 : decode c_TokenQueue_add 57 = .ok (.getfield 9, 3) := by decide +kernel
theorem d_TokenQueue_add_60 : decode c_TokenQueue_add 60 = .ok (.iload 5, 2) := by decide +kernel
theorem d_TokenQueue_add_62 : decode c_TokenQueue_add 62 = .ok (.iconst 3, 1) := by decide +kernel
theorem d_TokenQueue_add_63 : decode c_TokenQueue_add 63 = .ok (.iadd, 1) := by decide +kernel
theorem d_TokenQueue_add_64 : decode c_TokenQueue_add 64 = .ok (.iload 4, 2) := by decide +kernel
theorem d_TokenQueue_add_66 : decode c_TokenQueue_add 66 = .ok (.iastore, 1) := by decide +kernel
theorem d_TokenQueue_add_67 : decode c_TokenQueue_add 67 = .ok (.aload_n 0, 1) := by decide +kernel
theorem d_TokenQueue_add_68 : decode c_TokenQueue_add 68 = .ok (.dup, 1) := by decide +kernel
theorem d_TokenQueue_add_69 : decode c_TokenQueue_add 69 = .ok (.getfield 19, 3) := by decide +kernel
theorem d_TokenQueue_add_72 : decode c_TokenQueue_add 72 = .ok (.iconst 1, 1) := by decide +kernel
theorem d_TokenQueue_add_73 : decode c_TokenQueue_add 73 = .ok (.iadd, 1) := by decide +kernel
theorem d_TokenQueue_add_74 : decode c_TokenQueue_add 74 = .ok (.putfield 19, 3) := by decide +kernel
theorem d_TokenQueue_add_77 : decode c_TokenQueue_add 77 = .ok (.return_, 1) := by decide +kernel
theorem d_TokenQueue_oldest_0 : decode c_TokenQueue_oldest 0 = .ok (.aload_n 0, 1) := by decide +kernel
theorem d_TokenQueue_oldest_1 : decode c_TokenQueue_oldest 1 = .ok (.getfield 9, 3) := by decide +kernel
theorem d_TokenQueue_oldest_4 : decode c_TokenQueue_oldest 4 = .ok (.aload_n 0, 1) := by decide +kernel
theorem d_TokenQueue_oldest_5 : decode c_TokenQueue_oldest 5 = .ok (.getfield 15, 3) := by decide +kernel
theorem d_TokenQueue_oldest_8 : decode c_TokenQueue_oldest 8 = .ok (.iconst 4, 1) := by decide +kernel
theorem d_TokenQueue_oldest_9 : decode c_TokenQueue_oldest 9 = .ok (.imul, 1) := by decide +kernel
theorem d_TokenQueue_oldest_10 : decode c_TokenQueue_oldest 10 = .ok (.iload_n 1, 1) := by decide +kernel
theorem d_TokenQueue_oldest_11 : decode c_TokenQueue_oldest 11 = .ok (.iadd, 1) := by decide +kernel
theorem d_TokenQueue_oldest_12 : decode c_TokenQueue_oldest 12 = .ok (.iaload, 1) := by decide +kernel
theorem d_TokenQueue_oldest_13 : decode c_TokenQueue_oldest 13 = .ok (.ireturn, 1) := by decide +kernel
theorem d_TokenQueue_drop_0 : decode c_TokenQueue_drop 0 = .ok (.aload_n 0, 1) := by decide +kernel
theorem d_TokenQueue_drop_1 : decode c_TokenQueue_drop 1 = .ok (.aload_n 0, 1) := by decide +kernel
theorem d_TokenQueue_drop_2 : decode c_TokenQueue_drop 2 = .ok (.getfield 15, 3) := by decide +kernel
theorem d_TokenQueue_drop_5 : decode c_TokenQueue_drop 5 = .ok (.iconst 1, 1) := by decide +kernel
theorem d_TokenQueue_drop_6 : decode c_TokenQueue_drop 6 = .ok (.iadd, 1) := by decide +kernel
theorem d_TokenQueue_drop_7 : decode c_TokenQueue_drop 7 = .ok (.bipush 72, 2) := by decide +kernel
theorem d_TokenQueue_drop_9 : decode c_TokenQueue_drop 9 = .ok (.irem, 1) := by decide +kernel
theorem d_TokenQueue_drop_10 : decode c_TokenQueue_drop 10 = .ok (.putfield 15, 3) := by decide +kernel
theorem d_TokenQueue_drop_13 : decode c_TokenQueue_drop 13 = .ok (.aload_n 0, 1) := by decide +kernel
theorem d_TokenQueue_drop_14 : decode c_TokenQueue_drop 14 = .ok (.dup, 1) := by decide +kernel
theorem d_TokenQueue_drop_15 : decode c_TokenQueue_drop 15 = .ok (.getfield 19, 3) := by decide +kernel
theorem d_TokenQueue_drop_18 : decode c_TokenQueue_drop 18 = .ok (.iconst 1, 1) := by decide +kernel
theorem d_TokenQueue_drop_19 : decode c_TokenQueue_drop 19 = .ok (.isub, 1) := by decide +kernel
theorem d_TokenQueue_drop_20 : decode c_TokenQueue_drop 20 = .ok (.putfield 19, 3) := by decide +kernel
theorem d_TokenQueue_drop_23 : decode c_TokenQueue_drop 23 = .ok (.return_, 1) := by decide +kernel
theorem d_LetterSet_init_0 : decode c_LetterSet_init 0 = .ok (.aload_n 0, 1) := by decide +kernel
theorem d_LetterSet_init_1 : decode c_LetterSet_init 1 = .ok (.invokespecial 3, 3) := by decide +kernel
theorem d_LetterSet_init_4 : decode c_LetterSet_init 4 = .ok (.aload_n 0, 1) := by decide +kernel
theorem d_LetterSet_init_5 : decode c_LetterSet_init 5 = .ok (.iconst 0, 1) := by decide +kernel
theorem d_LetterSet_init_6 : decode c_LetterSet_init 6 = .ok (.putfield 9, 3) := by decide +kernel
theorem d_LetterSet_init_9 : decode c_LetterSet_init 9 = .ok (.aload_n 0, 1) := by decide +kernel
theorem d_LetterSet_init_10 : decode c_LetterSet_init 10 = .ok (.iconst 0, 1) := by decide +kernel
theorem d_LetterSet_init_11 : decode c_LetterSet_init 11 = .ok (.putfield 15, 3) := by decide +kernel
theorem d_LetterSet_init_14 : decode c_LetterSet_init 14 = .ok (.aload_n 0, 1) := by decide +kernel
theorem d_LetterSet_init_15 : decode c_LetterSet_init 15 = .ok (.iconst 0, 1) := by decide +kernel
theorem d_LetterSet_init_16 : decode c_LetterSet_init 16 = .ok (.putfield 18, 3) := by decide +kernel
theorem d_LetterSet_init_19 : decode c_LetterSet_init 19 = .ok (.aload_n 0, 1) := by decide +kernel
theorem d_LetterSet_init_20 : decode c_LetterSet_init 20 = .ok (.iconst 0, 1) := by decide +kernel
theorem d_LetterSet_init_21 : decode c_LetterSet_init 21 = .ok (.putfield 21, 3) := by decide +kernel
theorem d_LetterSet_init_24 : decode c_LetterSet_init 24 = .ok (.aload_n 0, 1) := by decide +kernel
theorem d_LetterSet_init_25 : decode c_LetterSet_init 25 = .ok (.iconst 0, 1) := by decide +kernel
theorem d_LetterSet_init_26 : decode c_LetterSet_init 26 = .ok (.putfield 24, 3) := by decide +kernel
theorem d_LetterSet_init_29 : decode c_LetterSet_init 29 = .ok (.aload_n 0, 1) := by decide +kernel
theorem d_LetterSet_init_30 : decode c_LetterSet_init 30 = .ok (.iconst (-1), 1) := by decide +kernel
theorem d_LetterSet_init_31 : decode c_LetterSet_init 31 = .ok (.putfield 28, 3) := by decide +kernel
theorem d_LetterSet_init_34 : decode c_LetterSet_init 34 = .ok (.return_, 1) := by decide +kernel
theorem d_LetterSet_open_0 : decode c_LetterSet_open 0 = .ok (.aload_n 0, 1) := by decide +kernel
theorem d_LetterSet_open_1 : decode c_LetterSet_open 1 = .ok (.iconst 1, 1) := by decide +kernel
theorem d_LetterSet_open_2 : decode c_LetterSet_open 2 = .ok (.putfield 9, 3) := by decide +kernel
theorem d_LetterSet_open_5 : decode c_LetterSet_open 5 = .ok (.aload_n 0, 1) := by decide +kernel
theorem d_LetterSet_open_6 : decode c_LetterSet_open 6 = .ok (.iconst 1, 1) := by decide +kernel
theorem d_LetterSet_open_7 : decode c_LetterSet_open 7 = .ok (.putfield 15, 3) := by decide +kernel
theorem d_LetterSet_open_10 : decode c_LetterSet_open 10 = .ok (.aload_n 0, 1) := by decide +kernel
theorem d_LetterSet_open_11 : decode c_LetterSet_open 11 = .ok (.iconst 0, 1) := by decide +kernel
theorem d_LetterSet_open_12 : decode c_LetterSet_open 12 = .ok (.putfield 18, 3) := by decide +kernel
theorem d_LetterSet_open_15 : decode c_LetterSet_open 15 = .ok (.aload_n 0, 1) := by decide +kernel
theorem d_LetterSet_open_16 : decode c_LetterSet_open 16 = .ok (.iconst 0, 1) := by decide +kernel
theorem d_LetterSet_open_17 : decode c_LetterSet_open 17 = .ok (.putfield 21, 3) := by decide +kernel
theorem d_LetterSet_open_20 : decode c_LetterSet_open 20 = .ok (.aload_n 0, 1) := by decide +kernel
theorem d_LetterSet_open_21 : decode c_LetterSet_open 21 = .ok (.iconst 0, 1) := by decide +kernel
theorem d_LetterSet_open_22 : decode c_LetterSet_open 22 = .ok (.putfield 24, 3) := by decide +kernel
theorem d_LetterSet_open_25 : decode c_LetterSet_open 25 = .ok (.aload_n 0, 1) := by decide +kernel
theorem d_LetterSet_open_26 : decode c_LetterSet_open 26 = .ok (.iconst (-1), 1) := by decide +kernel
theorem d_LetterSet_open_27 : decode c_LetterSet_open 27 = .ok (.putfield 28, 3) := by decide +kernel
theorem d_LetterSet_open_30 : decode c_LetterSet_open 30 = .ok (.return_, 1) := by decide +kernel
theorem d_LetterSet_close_0 : decode c_LetterSet_close 0 = .ok (.aload_n 0, 1) := by decide +kernel
theorem d_LetterSet_close_1 : decode c_LetterSet_close 1 = .ok (.iconst 0, 1) := by decide +kernel
theorem d_LetterSet_close_2 : decode c_LetterSet_close 2 = .ok (.putfield 9, 3) := by decide +kernel
theorem d_LetterSet_close_5 : decode c_LetterSet_close 5 = .ok (.return_, 1) := by decide +kernel
theorem d_LetterSet_isOpen_0 : decode c_LetterSet_isOpen 0 = .ok (.aload_n 0, 1) := by decide +kernel
theorem d_LetterSet_isOpen_1 : decode c_LetterSet_isOpen 1 = .ok (.getfield 9, 3) := by decide +kernel
theorem d_LetterSet_isOpen_4 : decode c_LetterSet_isOpen 4 = .ok (.ireturn, 1) := by decide +kernel
theorem d_LetterSet_letters_0 : decode c_LetterSet_letters 0 = .ok (.aload_n 0, 1) := by decide +kernel
theorem d_LetterSet_letters_1 : decode c_LetterSet_letters 1 = .ok (.getfield 18, 3) := by decide +kernel
theorem d_LetterSet_letters_4 : decode c_LetterSet_letters 4 = .ok (.ifCond .eq 15, 3) := by decide +kernel
theorem d_LetterSet_letters_7 : decode c_LetterSet_letters 7 = .ok (.bipush 63, 2) := by decide +kernel
theorem d_LetterSet_letters_9 : decode c_LetterSet_letters 9 = .ok (.aload_n 0, 1) := by decide +kernel
theorem d_LetterSet_letters_10 : decode c_LetterSet_letters 10 = .ok (.getfield 24, 3) := by decide +kernel
theorem d_LetterSet_letters_13 : decode c_LetterSet_letters 13 = .ok (.iconst (-1), 1) := by decide +kernel
theorem d_LetterSet_letters_14 : decode c_LetterSet_letters 14 = .ok (.ixor, 1) := by decide +kernel
theorem d_LetterSet_letters_15 : decode c_LetterSet_letters 15 = .ok (.iand, 1) := by decide +kernel
theorem d_LetterSet_letters_16 : decode c_LetterSet_letters 16 = .ok (.goto 7, 3) := by decide +kernel
theorem d_LetterSet_letters_19 : decode c_LetterSet_letters 19 = .ok (.aload_n 0, 1) := by decide +kernel
theorem d_LetterSet_letters_20 : decode c_LetterSet_letters 20 = .ok (.getfield 24, 3) := by decide +kernel
theorem d_LetterSet_letters_23 : decode c_LetterSet_letters 23 = .ok (.ireturn, 1) := by decide +kernel
theorem d_LetterSet_mayClose_0 : decode c_LetterSet_mayClose 0 = .ok (.aload_n 0, 1) := by decide +kernel
theorem d_LetterSet_mayClose_1 : decode c_LetterSet_mayClose 1 = .ok (.getfield 24, 3) := by decide +kernel
theorem d_LetterSet_mayClose_4 : decode c_LetterSet_mayClose 4 = .ok (.ifCond .eq 21, 3) := by decide +kernel
theorem d_LetterSet_mayClose_7 : decode c_LetterSet_mayClose 7 = .ok (.aload_n 0, 1) := by decide +kernel
theorem d_LetterSet_mayClose_8 : decode c_LetterSet_mayClose 8 = .ok (.getfield 21, 3) := by decide +kernel
theorem d_LetterSet_mayClose_11 : decode c_LetterSet_mayClose 11 = .ok (.ifCond .ne 14, 3) := by decide +kernel
theorem d_LetterSet_mayClose_14 : decode c_LetterSet_mayClose 14 = .ok (.aload_n 0, 1) := by decide +kernel
theorem d_LetterSet_mayClose_15 : decode c_LetterSet_mayClose 15 = .ok (.invokevirtual 31, 3) := by decide +kernel
theorem d_LetterSet_mayClose_18 : decode c_LetterSet_mayClose 18 = .ok (.ifCond .eq 7, 3) := by decide +kernel
theorem d_LetterSet_mayClose_21 : decode c_LetterSet_mayClose 21 = .ok (.iconst 1, 1) := by decide +kernel
theorem d_LetterSet_mayClose_22 : decode c_LetterSet_mayClose 22 = .ok (.goto 4, 3) := by decide +kernel
theorem d_LetterSet_mayClose_25 : decode c_LetterSet_mayClose 25 = .ok (.iconst 0, 1) := by decide +kernel
theorem d_LetterSet_mayClose_26 : decode c_LetterSet_mayClose 26 = .ok (.ireturn, 1) := by decide +kernel
theorem d_LetterSet_putCaret_0 : decode c_LetterSet_putCaret 0 = .ok (.aload_n 0, 1) := by decide +kernel
theorem d_LetterSet_putCaret_1 : decode c_LetterSet_putCaret 1 = .ok (.getfield 15, 3) := by decide +kernel
theorem d_LetterSet_putCaret_4 : decode c_LetterSet_putCaret 4 = .ok (.istore_n 1, 1) := by decide +kernel
theorem d_LetterSet_putCaret_5 : decode c_LetterSet_putCaret 5 = .ok (.aload_n 0, 1) := by decide +kernel
theorem d_LetterSet_putCaret_6 : decode c_LetterSet_putCaret 6 = .ok (.iconst 1, 1) := by decide +kernel
theorem d_LetterSet_putCaret_7 : decode c_LetterSet_putCaret 7 = .ok (.putfield 18, 3) := by decide +kernel
theorem d_LetterSet_putCaret_10 : decode c_LetterSet_putCaret 10 = .ok (.aload_n 0, 1) := by decide +kernel
theorem d_LetterSet_putCaret_11 : decode c_LetterSet_putCaret 11 = .ok (.iconst 0, 1) := by decide +kernel
theorem d_LetterSet_putCaret_12 : decode c_LetterSet_putCaret 12 = .ok (.putfield 15, 3) := by decide +kernel
theorem d_LetterSet_putCaret_15 : decode c_LetterSet_putCaret 15 = .ok (.iload_n 1, 1) := by decide +kernel
theorem d_LetterSet_putCaret_16 : decode c_LetterSet_putCaret 16 = .ok (.ireturn, 1) := by decide +kernel
theorem d_LetterSet_putDash_0 : decode c_LetterSet_putDash 0 = .ok (.aload_n 0, 1) := by decide +kernel
theorem d_LetterSet_putDash_1 : decode c_LetterSet_putDash 1 = .ok (.getfield 28, 3) := by decide +kernel
theorem d_LetterSet_putDash_4 : decode c_LetterSet_putDash 4 = .ok (.iconst (-1), 1) := by decide +kernel
theorem d_LetterSet_putDash_5 : decode c_LetterSet_putDash 5 = .ok (.if_icmp .eq 14, 3) := by decide +kernel
theorem d_LetterSet_putDash_8 : decode c_LetterSet_putDash 8 = .ok (.aload_n 0, 1) := by decide +kernel
theorem d_LetterSet_putDash_9 : decode c_LetterSet_putDash 9 = .ok (.getfield 21, 3) := by decide +kernel
theorem d_LetterSet_putDash_12 : decode c_LetterSet_putDash 12 = .ok (.ifCond .ne 7, 3) := by decide +kernel
theorem d_LetterSet_putDash_15 : decode c_LetterSet_putDash 15 = .ok (.iconst 1, 1) := by decide +kernel
theorem d_LetterSet_putDash_16 : decode c_LetterSet_putDash 16 = .ok (.goto 4, 3) := by decide +kernel
theorem d_LetterSet_putDash_19 : decode c_LetterSet_putDash 19 = .ok (.iconst 0, 1) := by decide +kernel
theorem d_LetterSet_putDash_20 : decode c_LetterSet_putDash 20 = .ok (.istore_n 1, 1) := by decide +kernel
theorem d_LetterSet_putDash_21 : decode c_LetterSet_putDash 21 = .ok (.aload_n 0, 1) := by decide +kernel
theorem d_LetterSet_putDash_22 : decode c_LetterSet_putDash 22 = .ok (.iconst 1, 1) := by decide +kernel
theorem d_LetterSet_putDash_23 : decode c_LetterSet_putDash 23 = .ok (.putfield 21, 3) := by decide +kernel
theorem d_LetterSet_putDash_26 : decode c_LetterSet_putDash 26 = .ok (.iload_n 1, 1) := by decide +kernel
theorem d_LetterSet_putDash_27 : decode c_LetterSet_putDash 27 = .ok (.ireturn, 1) := by decide +kernel
theorem d_LetterSet_putLetter_0 : decode c_LetterSet_putLetter 0 = .ok (.aload_n 0, 1) := by decide +kernel
theorem d_LetterSet_putLetter_1 : decode c_LetterSet_putLetter 1 = .ok (.iconst 0, 1) := by decide +kernel
theorem d_LetterSet_putLetter_2 : decode c_LetterSet_putLetter 2 = .ok (.putfield 15, 3) := by decide +kernel
theorem d_LetterSet_putLetter_5 : decode c_LetterSet_putLetter 5 = .ok (.aload_n 0, 1) := by decide +kernel
theorem d_LetterSet_putLetter_6 : decode c_LetterSet_putLetter 6 = .ok (.getfield 21, 3) := by decide +kernel
theorem d_LetterSet_putLetter_9 : decode c_LetterSet_putLetter 9 = .ok (.ifCond .ne 22, 3) := by decide +kernel
theorem d_LetterSet_putLetter_12 : decode c_LetterSet_putLetter 12 = .ok (.aload_n 0, 1) := by decide +kernel
theorem d_LetterSet_putLetter_13 : decode c_LetterSet_putLetter 13 = .ok (.dup, 1) := by decide +kernel
theorem d_LetterSet_putLetter_14 : decode c_LetterSet_putLetter 14 = .ok (.getfield 24, 3) := by decide +kernel
theorem d_LetterSet_putLetter_17 : decode c_LetterSet_putLetter 17 = .ok (.iconst 1, 1) := by decide +kernel
theorem d_LetterSet_putLetter_18 : decode c_LetterSet_putLetter 18 = .ok (.iload_n 1, 1) := by decide +kernel
theorem d_LetterSet_putLetter_19 : decode c_LetterSet_putLetter 19 = .ok (.ishl, 1) := by decide +kernel
theorem d_LetterSet_putLetter_20 : decode c_LetterSet_putLetter 20 = .ok (.ior, 1) := by decide +kernel
theorem d_LetterSet_putLetter_21 : decode c_LetterSet_putLetter 21 = .ok (.putfield 24, 3) := by decide +kernel
theorem d_LetterSet_putLetter_24 : decode c_LetterSet_putLetter 24 = .ok (.aload_n 0, 1) := by decide +kernel
theorem d_LetterSet_putLetter_25 : decode c_LetterSet_putLetter 25 = .ok (.iload_n 1, 1) := by decide +kernel
theorem d_LetterSet_putLetter_26 : decode c_LetterSet_putLetter 26 = .ok (.putfield 28, 3) := by decide +kernel
theorem d_LetterSet_putLetter_29 : decode c_LetterSet_putLetter 29 = .ok (.iconst 1, 1) := by decide +kernel
theorem d_LetterSet_putLetter_30 : decode c_LetterSet_putLetter 30 = .ok (.ireturn, 1) := by decide +kernel
theorem d_LetterSet_putLetter_31 : decode c_LetterSet_putLetter 31 = .ok (.aload_n 0, 1) := by decide +kernel
theorem d_LetterSet_putLetter_32 : decode c_LetterSet_putLetter 32 = .ok (.getfield 28, 3) := by decide +kernel
theorem d_LetterSet_putLetter_35 : decode c_LetterSet_putLetter 35 = .ok (.istore_n 2, 1) := by decide +kernel
theorem d_LetterSet_putLetter_36 : decode c_LetterSet_putLetter 36 = .ok (.iload_n 2, 1) := by decide +kernel
theorem d_LetterSet_putLetter_37 : decode c_LetterSet_putLetter 37 = .ok (.iload_n 1, 1) := by decide +kernel
theorem d_LetterSet_putLetter_38 : decode c_LetterSet_putLetter 38 = .ok (.if_icmp .gt 21, 3) := by decide +kernel
theorem d_LetterSet_putLetter_41 : decode c_LetterSet_putLetter 41 = .ok (.aload_n 0, 1) := by decide +kernel
theorem d_LetterSet_putLetter_42 : decode c_LetterSet_putLetter 42 = .ok (.dup, 1) := by decide +kernel
theorem d_LetterSet_putLetter_43 : decode c_LetterSet_putLetter 43 = .ok (.getfield 24, 3) := by decide +kernel
theorem d_LetterSet_putLetter_46 : decode c_LetterSet_putLetter 46 = .ok (.iconst 1, 1) := by decide +kernel
theorem d_LetterSet_putLetter_47 : decode c_LetterSet_putLetter 47 = .ok (.iload_n 2, 1) := by decide +kernel
theorem d_LetterSet_putLetter_48 : decode c_LetterSet_putLetter 48 = .ok (.ishl, 1) := by decide +kernel
theorem d_LetterSet_putLetter_49 : decode c_LetterSet_putLetter 49 = .ok (.ior, 1) := by decide +kernel
theorem d_LetterSet_putLetter_50 : decode c_LetterSet_putLetter 50 = .ok (.putfield 24, 3) := by decide +kernel
theorem d_LetterSet_putLetter_53 : decode c_LetterSet_putLetter 53 = .ok (.iinc 2 1, 3) := by decide +kernel
theorem d_LetterSet_putLetter_56 : decode c_LetterSet_putLetter 56 = .ok (.goto (-20), 3) := by decide +kernel
theorem d_LetterSet_putLetter_59 : decode c_LetterSet_putLetter 59 = .ok (.aload_n 0, 1) := by decide +kernel
theorem d_LetterSet_putLetter_60 : decode c_LetterSet_putLetter 60 = .ok (.getfield 28, 3) := by decide +kernel
theorem d_LetterSet_putLetter_63 : decode c_LetterSet_putLetter 63 = .ok (.iload_n 1, 1) := by decide +kernel
theorem d_LetterSet_putLetter_64 : decode c_LetterSet_putLetter 64 = .ok (.if_icmp .gt 7, 3) := by decide +kernel
theorem d_LetterSet_putLetter_67 : decode c_LetterSet_putLetter 67 = .ok (.iconst 1, 1) := by decide +kernel
theorem d_LetterSet_putLetter_68 : decode c_LetterSet_putLetter 68 = .ok (.goto 4, 3) := by decide +kernel
theorem d_LetterSet_putLetter_71 : decode c_LetterSet_putLetter 71 = .ok (.iconst 0, 1) := by decide +kernel
theorem d_LetterSet_putLetter_72 : decode c_LetterSet_putLetter 72 = .ok (.istore_n 2, 1) := by decide +kernel
theorem d_LetterSet_putLetter_73 : decode c_LetterSet_putLetter 73 = .ok (.aload_n 0, 1) := by decide +kernel
theorem d_LetterSet_putLetter_74 : decode c_LetterSet_putLetter 74 = .ok (.iconst 0, 1) := by decide +kernel
theorem d_LetterSet_putLetter_75 : decode c_LetterSet_putLetter 75 = .ok (.putfield 21, 3) := by decide +kernel
theorem d_LetterSet_putLetter_78 : decode c_LetterSet_putLetter 78 = .ok (.aload_n 0, 1) := by decide +kernel
theorem d_LetterSet_putLetter_79 : decode c_LetterSet_putLetter 79 = .ok (.iconst (-1), 1) := by decide +kernel
theorem d_LetterSet_putLetter_80 : decode c_LetterSet_putLetter 80 = .ok (.putfield 28, 3) := by decide +kernel
theorem d_LetterSet_putLetter_83 : decode c_LetterSet_putLetter 83 = .ok (.iload_n 2, 1) := by decide +kernel
theorem d_LetterSet_putLetter_84 : decode c_LetterSet_putLetter 84 = .ok (.ireturn, 1) := by decide +kernel
def p_TokenQueue_init  (post : Int32 → Int32 → (Nat → Int32) → Prop) : Prop := (post 0 0 (fun _ => 0))
set_option maxHeartbeats 4000000 in
set_option maxRecDepth 100000 in
theorem k_TokenQueue_init (l : Launch) (G : va_G) (K : Nat → ClassId) (a0 : Nat) (sz : Nat)  (post : Int32 → Int32 → (Nat → Int32) → Prop) (h : p_TokenQueue_init  post) : MWv l y_TokenQueue_init (.code y_TokenQueue_init c_TokenQueue_init 1 none) { frames := 1, cells := 1, slots := 288, locals := 20 } G K [(a0, .inr (11, [.null, .int 0, .int 0]))] [] [.ref a0] sz (fun (u : Int32 × Int32 × (Nat → Int32) × Nat) => post u.1 u.2.1 u.2.2.1) (fun u => [(a0, .inr (11, [.ref u.2.2.2, .int u.1, .int u.2.1])), (u.2.2.2, .inl (K 0, 288, .inl u.2.2.1))]) 1 288 := by
  refine g_metWv (cc := c_TokenQueue_init) (maxL := 1) (ret := none) (by decide) rfl rfl (Nat.le_of_ble_eq_true rfl) ?_
  intro p e s m below meth c A Q hx hb hml hown hname htg hK hN hP hD hA hS hR rN hret ls hl
  have hl : lv_has ls 1 [(0, .ref a0)] := hl
  refine lv_aload_n hx hb d_TokenQueue_init_0 rfl (lv_at hl 0 rfl) ?_
  refine W.objInit hx hb hown (htg _ m_174) (htg _ m_23) (htg _ m_24) rfl (by rw [hml]; exact hl.1) rfl d_TokenQueue_init_1 (Nat.le_of_ble_eq_true rfl) (Nat.le_of_ble_eq_true rfl) ?_
  refine W.eq (g2 := F0 m 4 ls []) rfl ?_
  refine lv_aload_n hx hb d_TokenQueue_init_4 rfl (lv_at hl 0 rfl) ?_
  refine lv_sipush (v := 288) hx hb d_TokenQueue_init_5 (by decide) ?_
  refine g_newi (N := 288) hx hb (htg _ m_39) hK hP hD hS hA (by decide) (by decide) (by decide) (Nat.le_of_ble_eq_true rfl) (Nat.le_of_ble_eq_true rfl) d_TokenQueue_init_8 (fun q1 H hP hD hS => ?_)
  have hP : va_P G vwCl [(a0, .inr (11, [.null, .int 0, .int 0])), (q1, .inl (K 0, 288, .inl (fun _ => 0)))] H := hP
  have hD : va_D A [(a0, .inr (11, [.null, .int 0, .int 0])), (q1, .inl (K 0, 288, .inl (fun _ => 0)))] := hD
  refine va_putF (ci := 11) (v := .ref q1) (ty := (.array .int)) hx hb htg in_TokenQueue t_TokenQueue tok_TokenQueue nm_TokenQueue hown hK hP hD hS 0 rfl rfl 0 (by decide) (htg _ m_175) (fun _ h9 => h9) rfl hname rfl (by decide +kernel) rfl rfl (Nat.le_of_ble_eq_true rfl) d_TokenQueue_init_10 (fun H locs hP hD hS => ?_)
  have hP : va_P G vwCl [(a0, .inr (11, [.ref q1, .int 0, .int 0])), (q1, .inl (K 0, 288, .inl (fun _ => 0)))] H := hP
  have hD : va_D A [(a0, .inr (11, [.ref q1, .int 0, .int 0])), (q1, .inl (K 0, 288, .inl (fun _ => 0)))] := hD
  refine lv_aload_n hx hb d_TokenQueue_init_13 rfl (lv_at hl 0 rfl) ?_
  refine lv_iconst (v := 0) hx hb d_TokenQueue_init_14 (by decide) ?_
  refine va_put (ci := 11) (v := .int 0) (ty := .int) hx hb htg in_TokenQueue t_TokenQueue tok_TokenQueue nm_TokenQueue hown hK hP hD hS 0 rfl rfl 1 (by decide) (htg _ m_176) (fun _ h9 => h9) rfl (by decide +kernel) rfl rfl (Nat.le_of_ble_eq_true rfl) d_TokenQueue_init_15 (fun H locs hP hD hS => ?_)
  have hP : va_P G vwCl [(a0, .inr (11, [.ref q1, .int 0, .int 0])), (q1, .inl (K 0, 288, .inl (fun _ => 0)))] H := hP
  have hD : va_D A [(a0, .inr (11, [.ref q1, .int 0, .int 0])), (q1, .inl (K 0, 288, .inl (fun _ => 0)))] := hD
  refine lv_aload_n hx hb d_TokenQueue_init_18 rfl (lv_at hl 0 rfl) ?_
  refine lv_iconst (v := 0) hx hb d_TokenQueue_init_19 (by decide) ?_
  refine va_put (ci := 11) (v := .int 0) (ty := .int) hx hb htg in_TokenQueue t_TokenQueue tok_TokenQueue nm_TokenQueue hown hK hP hD hS 0 rfl rfl 2 (by decide) (htg _ m_177) (fun _ h9 => h9) rfl (by decide +kernel) rfl rfl (Nat.le_of_ble_eq_true rfl) d_TokenQueue_init_20 (fun H locs hP hD hS => ?_)
  have hP : va_P G vwCl [(a0, .inr (11, [.ref q1, .int 0, .int 0])), (q1, .inl (K 0, 288, .inl (fun _ => 0)))] H := hP
  have hD : va_D A [(a0, .inr (11, [.ref q1, .int 0, .int 0])), (q1, .inl (K 0, 288, .inl (fun _ => 0)))] := hD
  exact hret (0, 0, (fun _ => 0), q1) _ _ _ _ h (hP.sub [0, 1] rfl) (hD.sub [0, 1] (by decide) rfl) hS d_TokenQueue_init_23
def p_TokenQueue_clear  (post : Int32 → Int32 → Prop) : Prop := (post 0 0)
set_option maxHeartbeats 4000000 in
set_option maxRecDepth 100000 in
theorem k_TokenQueue_clear (l : Launch) (G : va_G) (K : Nat → ClassId) (a0 a0_facts : Nat) (sz : Nat) (v_o_oldest : Int32) (v_o_size : Int32) (post : Int32 → Int32 → Prop) (h : p_TokenQueue_clear  post) : MWv l y_TokenQueue_clear (.code y_TokenQueue_clear c_TokenQueue_clear 1 none) { frames := 0, cells := 0, slots := 0, locals := 0 } G K [(a0, .inr (11, [.ref a0_facts, .int v_o_oldest, .int v_o_size]))] [] [.ref a0] sz (fun (u : Int32 × Int32) => post u.1 u.2) (fun u => [(a0, .inr (11, [.ref a0_facts, .int u.1, .int u.2]))]) 0 0 := by
  refine g_metWv (cc := c_TokenQueue_clear) (maxL := 1) (ret := none) (by decide) rfl rfl (Nat.le_of_ble_eq_true rfl) ?_
  intro p e s m below meth c A Q hx hb hml hown hname htg hK hN hP hD hA hS hR rN hret ls hl
  have hl : lv_has ls 1 [(0, .ref a0)] := hl
  refine lv_aload_n hx hb d_TokenQueue_clear_0 rfl (lv_at hl 0 rfl) ?_
  refine lv_iconst (v := 0) hx hb d_TokenQueue_clear_1 (by decide) ?_
  refine va_put (ci := 11) (v := .int 0) (ty := .int) hx hb htg in_TokenQueue t_TokenQueue tok_TokenQueue nm_TokenQueue hown hK hP hD hS 0 rfl rfl 1 (by decide) (htg _ m_176) (fun _ h9 => h9) rfl (by decide +kernel) rfl rfl (Nat.le_of_ble_eq_true rfl) d_TokenQueue_clear_2 (fun H locs hP hD hS => ?_)
  have hP : va_P G vwCl [(a0, .inr (11, [.ref a0_facts, .int 0, .int v_o_size]))] H := hP
  have hD : va_D A [(a0, .inr (11, [.ref a0_facts, .int 0, .int v_o_size]))] := hD
  refine lv_aload_n hx hb d_TokenQueue_clear_5 rfl (lv_at hl 0 rfl) ?_
  refine lv_iconst (v := 0) hx hb d_TokenQueue_clear_6 (by decide) ?_
  refine va_put (ci := 11) (v := .int 0) (ty := .int) hx hb htg in_TokenQueue t_TokenQueue tok_TokenQueue nm_TokenQueue hown hK hP hD hS 0 rfl rfl 2 (by decide) (htg _ m_177) (fun _ h9 => h9) rfl (by decide +kernel) rfl rfl (Nat.le_of_ble_eq_true rfl) d_TokenQueue_clear_7 (fun H locs hP hD hS => ?_)
  have hP : va_P G vwCl [(a0, .inr (11, [.ref a0_facts, .int 0, .int 0]))] H := hP
  have hD : va_D A [(a0, .inr (11, [.ref a0_facts, .int 0, .int 0]))] := hD
  exact hret (0, 0) _ _ _ _ h (hP.sub [0] rfl) (hD.sub [0] (by decide) rfl) hS d_TokenQueue_clear_10
def p_TokenQueue_size (v_o_size : Int32) (post : Int32 → Prop) : Prop := (post v_o_size)
set_option maxHeartbeats 4000000 in
set_option maxRecDepth 100000 in
theorem k_TokenQueue_size (l : Launch) (G : va_G) (K : Nat → ClassId) (a0 a0_facts : Nat) (v_o_oldest : Int32) (v_o_size : Int32) (post : Int32 → Prop) (h : p_TokenQueue_size v_o_size post) : MSi l y_TokenQueue_size (.code y_TokenQueue_size c_TokenQueue_size 1 (some .int)) { frames := 0, cells := 0, slots := 0, locals := 0 } G K [(a0, .inr (11, [.ref a0_facts, .int v_o_oldest, .int v_o_size]))] [.ref a0] post := by
  refine g_metSi (cc := c_TokenQueue_size) (maxL := 1) (ret := some .int) (rt := .int) (by decide) rfl rfl (Nat.le_of_ble_eq_true rfl) ?_
  intro p e s m below meth c Q hx hb hml hown htg hK hN hP hret ls hl
  have hl : lv_has ls 1 [(0, .ref a0)] := hl
  refine lv_aload_n hx hb d_TokenQueue_size_0 rfl (lv_at hl 0 rfl) ?_
  refine va_get (ci := 11) (v := .int v_o_size) hx hb htg in_TokenQueue hown hK hP 0 rfl rfl 2 (by decide) (htg _ m_177) (fun _ h9 => h9) rfl d_TokenQueue_size_1 ?_
  exact hret _ _ _ h (vp_nar_int _) d_TokenQueue_size_4
def p_TokenQueue_add (v_o_oldest : Int32) (v_o_size : Int32) (f_o_facts : (Nat → Int32)) (x1 : Int32) (x2 : Int32) (x3 : Int32) (x4 : Int32) (post : Int32 → (Nat → Int32) → Prop) : Prop := ((v_o_size < 72 → (vp_in ((((v_o_oldest + v_o_size) - (v_o_oldest + v_o_size) / 72 * 72) * 4) + 0) 288 ∧ (vp_in ((((v_o_oldest + v_o_size) - (v_o_oldest + v_o_size) / 72 * 72) * 4) + 1) 288 ∧ (vp_in ((((v_o_oldest + v_o_size) - (v_o_oldest + v_o_size) / 72 * 72) * 4) + 2) 288 ∧ (vp_in ((((v_o_oldest + v_o_size) - (v_o_oldest + v_o_size) / 72 * 72) * 4) + 3) 288 ∧ (post (v_o_size + 1) (upd (upd (upd (upd f_o_facts ((((v_o_oldest + v_o_size) - (v_o_oldest + v_o_size) / 72 * 72) * 4) + 0).toNatClampNeg x1) ((((v_o_oldest + v_o_size) - (v_o_oldest + v_o_size) / 72 * 72) * 4) + 1).toNatClampNeg x2) ((((v_o_oldest + v_o_size) - (v_o_oldest + v_o_size) / 72 * 72) * 4) + 2).toNatClampNeg x3) ((((v_o_oldest + v_o_size) - (v_o_oldest + v_o_size) / 72 * 72) * 4) + 3).toNatClampNeg x4))))))) ∧ (¬ v_o_size < 72 → (post v_o_size f_o_facts)))
set_option maxHeartbeats 4000000 in
set_option maxRecDepth 100000 in
theorem k_TokenQueue_add (l : Launch) (G : va_G) (K : Nat → ClassId) (a0 a0_facts : Nat) (sz : Nat) (v_o_oldest : Int32) (v_o_size : Int32) (f_o_facts : (Nat → Int32)) (x1 : Int32) (x2 : Int32) (x3 : Int32) (x4 : Int32) (post : Int32 → (Nat → Int32) → Prop) (h : p_TokenQueue_add v_o_oldest v_o_size f_o_facts x1 x2 x3 x4 post) : MWv l y_TokenQueue_add (.code y_TokenQueue_add c_TokenQueue_add 6 none) { frames := 0, cells := 0, slots := 0, locals := 0 } G K [(a0, .inr (11, [.ref a0_facts, .int v_o_oldest, .int v_o_size])), (a0_facts, .inl (K 0, 288, .inl f_o_facts))] [] [.ref a0, .int x1, .int x2, .int x3, .int x4] sz (fun (u : Int32 × (Nat → Int32)) => post u.1 u.2) (fun u => [(a0, .inr (11, [.ref a0_facts, .int v_o_oldest, .int u.1])), (a0_facts, .inl (K 0, 288, .inl u.2))]) 0 0 := by
  refine g_metWv (cc := c_TokenQueue_add) (maxL := 6) (ret := none) (by decide) rfl rfl (Nat.le_of_ble_eq_true rfl) ?_
  intro p e s m below meth c A Q hx hb hml hown hname htg hK hN hP hD hA hS hR rN hret ls hl
  have hl : lv_has ls 6 [(0, .ref a0), (1, .int x1), (2, .int x2), (3, .int x3), (4, .int x4)] := hl
  refine lv_aload_n hx hb d_TokenQueue_add_0 rfl (lv_at hl 0 rfl) ?_
  refine va_get (ci := 11) (v := .int v_o_size) hx hb htg in_TokenQueue hown hK hP 0 rfl rfl 2 (by decide) (htg _ m_177) (fun _ h9 => h9) rfl d_TokenQueue_add_1 ?_
  refine lv_bipush (v := 72) hx hb d_TokenQueue_add_4 (by decide) ?_
  refine lv_icmp_lt (tgt := 10) hx hb d_TokenQueue_add_6 (by decide) (fun hc => ?_) (fun hc => ?_)
  · replace h := h.1 hc
    refine lv_aload_n hx hb d_TokenQueue_add_10 rfl (lv_at hl 0 rfl) ?_
    refine va_get (ci := 11) (v := .int v_o_oldest) hx hb htg in_TokenQueue hown hK hP 0 rfl rfl 1 (by decide) (htg _ m_176) (fun _ h9 => h9) rfl d_TokenQueue_add_11 ?_
    refine lv_aload_n hx hb d_TokenQueue_add_14 rfl (lv_at hl 0 rfl) ?_
    refine va_get (ci := 11) (v := .int v_o_size) hx hb htg in_TokenQueue hown hK hP 0 rfl rfl 2 (by decide) (htg _ m_177) (fun _ h9 => h9) rfl d_TokenQueue_add_15 ?_
    refine lv_iadd hx hb d_TokenQueue_add_18 ?_
    refine lv_bipush (v := 72) hx hb d_TokenQueue_add_19 (by decide) ?_
    refine lv_irem hx hb d_TokenQueue_add_21 (by decide) ?_
    refine lv_iconst (v := 4) hx hb d_TokenQueue_add_22 (by decide) ?_
    refine lv_imul hx hb d_TokenQueue_add_23 ?_
    refine lv_istore (lv' := [(5, .int (((v_o_oldest + v_o_size) - (v_o_oldest + v_o_size) / 72 * 72) * 4)), (0, .ref a0), (1, .int x1), (2, .int x2), (3, .int x3), (4, .int x4)]) hx hb d_TokenQueue_add_24 hl (by decide) rfl (fun ls hl => ?_)
    refine lv_aload_n hx hb d_TokenQueue_add_26 rfl (lv_at hl 1 rfl) ?_
    refine va_get (ci := 11) (v := .ref a0_facts) hx hb htg in_TokenQueue hown hK hP 0 rfl rfl 0 (by decide) (htg _ m_175) (fun _ h9 => h9) rfl d_TokenQueue_add_27 ?_
    refine lv_iload hx hb d_TokenQueue_add_30 (lv_at hl 0 rfl) ?_
    refine lv_iconst (v := 0) hx hb d_TokenQueue_add_32 (by decide) ?_
    refine lv_iadd hx hb d_TokenQueue_add_33 ?_
    refine lv_iload_n hx hb d_TokenQueue_add_34 rfl (lv_at hl 2 rfl) ?_
    obtain ⟨hin, h⟩ := h
    refine va_iast hx hb hK hP hD hS 1 0 rfl rfl hin d_TokenQueue_add_35 (fun H locs hP hD hS => ?_)
    have hP : va_P G vwCl [(a0, .inr (11, [.ref a0_facts, .int v_o_oldest, .int v_o_size])), (a0_facts, .inl (K 0, 288, .inl (upd f_o_facts ((((v_o_oldest + v_o_size) - (v_o_oldest + v_o_size) / 72 * 72) * 4) + 0).toNatClampNeg x1)))] H := hP
    have hD : va_D A [(a0, .inr (11, [.ref a0_facts, .int v_o_oldest, .int v_o_size])), (a0_facts, .inl (K 0, 288, .inl (upd f_o_facts ((((v_o_oldest + v_o_size) - (v_o_oldest + v_o_size) / 72 * 72) * 4) + 0).toNatClampNeg x1)))] := hD
    refine lv_aload_n hx hb d_TokenQueue_add_36 rfl (lv_at hl 1 rfl) ?_
    refine va_get (ci := 11) (v := .ref a0_facts) hx hb htg in_TokenQueue hown hK hP 0 rfl rfl 0 (by decide) (htg _ m_175) (fun _ h9 => h9) rfl d_TokenQueue_add_37 ?_
    refine lv_iload hx hb d_TokenQueue_add_40 (lv_at hl 0 rfl) ?_
    refine lv_iconst (v := 1) hx hb d_TokenQueue_add_42 (by decide) ?_
    refine lv_iadd hx hb d_TokenQueue_add_43 ?_
    refine lv_iload_n hx hb d_TokenQueue_add_44 rfl (lv_at hl 3 rfl) ?_
    obtain ⟨hin, h⟩ := h
    refine va_iast hx hb hK hP hD hS 1 0 rfl rfl hin d_TokenQueue_add_45 (fun H locs hP hD hS => ?_)
    have hP : va_P G vwCl [(a0, .inr (11, [.ref a0_facts, .int v_o_oldest, .int v_o_size])), (a0_facts, .inl (K 0, 288, .inl (upd (upd f_o_facts ((((v_o_oldest + v_o_size) - (v_o_oldest + v_o_size) / 72 * 72) * 4) + 0).toNatClampNeg x1) ((((v_o_oldest + v_o_size) - (v_o_oldest + v_o_size) / 72 * 72) * 4) + 1).toNatClampNeg x2)))] H := hP
    have hD : va_D A [(a0, .inr (11, [.ref a0_facts, .int v_o_oldest, .int v_o_size])), (a0_facts, .inl (K 0, 288, .inl (upd (upd f_o_facts ((((v_o_oldest + v_o_size) - (v_o_oldest + v_o_size) / 72 * 72) * 4) + 0).toNatClampNeg x1) ((((v_o_oldest + v_o_size) - (v_o_oldest + v_o_size) / 72 * 72) * 4) + 1).toNatClampNeg x2)))] := hD
    refine lv_aload_n hx hb d_TokenQueue_add_46 rfl (lv_at hl 1 rfl) ?_
    refine va_get (ci := 11) (v := .ref a0_facts) hx hb htg in_TokenQueue hown hK hP 0 rfl rfl 0 (by decide) (htg _ m_175) (fun _ h9 => h9) rfl d_TokenQueue_add_47 ?_
    refine lv_iload hx hb d_TokenQueue_add_50 (lv_at hl 0 rfl) ?_
    refine lv_iconst (v := 2) hx hb d_TokenQueue_add_52 (by decide) ?_
    refine lv_iadd hx hb d_TokenQueue_add_53 ?_
    refine lv_iload_n hx hb d_TokenQueue_add_54 rfl (lv_at hl 4 rfl) ?_
    obtain ⟨hin, h⟩ := h
    refine va_iast hx hb hK hP hD hS 1 0 rfl rfl hin d_TokenQueue_add_55 (fun H locs hP hD hS => ?_)
    have hP : va_P G vwCl [(a0, .inr (11, [.ref a0_facts, .int v_o_oldest, .int v_o_size])), (a0_facts, .inl (K 0, 288, .inl (upd (upd (upd f_o_facts ((((v_o_oldest + v_o_size) - (v_o_oldest + v_o_size) / 72 * 72) * 4) + 0).toNatClampNeg x1) ((((v_o_oldest + v_o_size) - (v_o_oldest + v_o_size) / 72 * 72) * 4) + 1).toNatClampNeg x2) ((((v_o_oldest + v_o_size) - (v_o_oldest + v_o_size) / 72 * 72) * 4) + 2).toNatClampNeg x3)))] H := hP
    have hD : va_D A [(a0, .inr (11, [.ref a0_facts, .int v_o_oldest, .int v_o_size])), (a0_facts, .inl (K 0, 288, .inl (upd (upd (upd f_o_facts ((((v_o_oldest + v_o_size) - (v_o_oldest + v_o_size) / 72 * 72) * 4) + 0).toNatClampNeg x1) ((((v_o_oldest + v_o_size) - (v_o_oldest + v_o_size) / 72 * 72) * 4) + 1).toNatClampNeg x2) ((((v_o_oldest + v_o_size) - (v_o_oldest + v_o_size) / 72 * 72) * 4) + 2).toNatClampNeg x3)))] := hD
    refine lv_aload_n hx hb d_TokenQueue_add_56 rfl (lv_at hl 1 rfl) ?_
    refine va_get (ci := 11) (v := .ref a0_facts) hx hb htg in_TokenQueue hown hK hP 0 rfl rfl 0 (by decide) (htg _ m_175) (fun _ h9 => h9) rfl d_TokenQueue_add_57 ?_
    refine lv_iload hx hb d_TokenQueue_add_60 (lv_at hl 0 rfl) ?_
    refine lv_iconst (v := 3) hx hb d_TokenQueue_add_62 (by decide) ?_
    refine lv_iadd hx hb d_TokenQueue_add_63 ?_
    refine lv_iload hx hb d_TokenQueue_add_64 (lv_at hl 5 rfl) ?_
    obtain ⟨hin, h⟩ := h
    refine va_iast hx hb hK hP hD hS 1 0 rfl rfl hin d_TokenQueue_add_66 (fun H locs hP hD hS => ?_)
    have hP : va_P G vwCl [(a0, .inr (11, [.ref a0_facts, .int v_o_oldest, .int v_o_size])), (a0_facts, .inl (K 0, 288, .inl (upd (upd (upd (upd f_o_facts ((((v_o_oldest + v_o_size) - (v_o_oldest + v_o_size) / 72 * 72) * 4) + 0).toNatClampNeg x1) ((((v_o_oldest + v_o_size) - (v_o_oldest + v_o_size) / 72 * 72) * 4) + 1).toNatClampNeg x2) ((((v_o_oldest + v_o_size) - (v_o_oldest + v_o_size) / 72 * 72) * 4) + 2).toNatClampNeg x3) ((((v_o_oldest + v_o_size) - (v_o_oldest + v_o_size) / 72 * 72) * 4) + 3).toNatClampNeg x4)))] H := hP
    have hD : va_D A [(a0, .inr (11, [.ref a0_facts, .int v_o_oldest, .int v_o_size])), (a0_facts, .inl (K 0, 288, .inl (upd (upd (upd (upd f_o_facts ((((v_o_oldest + v_o_size) - (v_o_oldest + v_o_size) / 72 * 72) * 4) + 0).toNatClampNeg x1) ((((v_o_oldest + v_o_size) - (v_o_oldest + v_o_size) / 72 * 72) * 4) + 1).toNatClampNeg x2) ((((v_o_oldest + v_o_size) - (v_o_oldest + v_o_size) / 72 * 72) * 4) + 2).toNatClampNeg x3) ((((v_o_oldest + v_o_size) - (v_o_oldest + v_o_size) / 72 * 72) * 4) + 3).toNatClampNeg x4)))] := hD
    refine lv_aload_n hx hb d_TokenQueue_add_67 rfl (lv_at hl 1 rfl) ?_
    refine lv_dup hx hb d_TokenQueue_add_68 rfl ?_
    refine va_get (ci := 11) (v := .int v_o_size) hx hb htg in_TokenQueue hown hK hP 0 rfl rfl 2 (by decide) (htg _ m_177) (fun _ h9 => h9) rfl d_TokenQueue_add_69 ?_
    refine lv_iconst (v := 1) hx hb d_TokenQueue_add_72 (by decide) ?_
    refine lv_iadd hx hb d_TokenQueue_add_73 ?_
    refine va_put (ci := 11) (v := .int (v_o_size + 1)) (ty := .int) hx hb htg in_TokenQueue t_TokenQueue tok_TokenQueue nm_TokenQueue hown hK hP hD hS 0 rfl rfl 2 (by decide) (htg _ m_177) (fun _ h9 => h9) rfl (by decide +kernel) rfl rfl (Nat.le_of_ble_eq_true rfl) d_TokenQueue_add_74 (fun H locs hP hD hS => ?_)
    have hP : va_P G vwCl [(a0, .inr (11, [.ref a0_facts, .int v_o_oldest, .int (v_o_size + 1)])), (a0_facts, .inl (K 0, 288, .inl (upd (upd (upd (upd f_o_facts ((((v_o_oldest + v_o_size) - (v_o_oldest + v_o_size) / 72 * 72) * 4) + 0).toNatClampNeg x1) ((((v_o_oldest + v_o_size) - (v_o_oldest + v_o_size) / 72 * 72) * 4) + 1).toNatClampNeg x2) ((((v_o_oldest + v_o_size) - (v_o_oldest + v_o_size) / 72 * 72) * 4) + 2).toNatClampNeg x3) ((((v_o_oldest + v_o_size) - (v_o_oldest + v_o_size) / 72 * 72) * 4) + 3).toNatClampNeg x4)))] H := hP
    have hD : va_D A [(a0, .inr (11, [.ref a0_facts, .int v_o_oldest, .int (v_o_size + 1)])), (a0_facts, .inl (K 0, 288, .inl (upd (upd (upd (upd f_o_facts ((((v_o_oldest + v_o_size) - (v_o_oldest + v_o_size) / 72 * 72) * 4) + 0).toNatClampNeg x1) ((((v_o_oldest + v_o_size) - (v_o_oldest + v_o_size) / 72 * 72) * 4) + 1).toNatClampNeg x2) ((((v_o_oldest + v_o_size) - (v_o_oldest + v_o_size) / 72 * 72) * 4) + 2).toNatClampNeg x3) ((((v_o_oldest + v_o_size) - (v_o_oldest + v_o_size) / 72 * 72) * 4) + 3).toNatClampNeg x4)))] := hD
    exact hret ((v_o_size + 1), (upd (upd (upd (upd f_o_facts ((((v_o_oldest + v_o_size) - (v_o_oldest + v_o_size) / 72 * 72) * 4) + 0).toNatClampNeg x1) ((((v_o_oldest + v_o_size) - (v_o_oldest + v_o_size) / 72 * 72) * 4) + 1).toNatClampNeg x2) ((((v_o_oldest + v_o_size) - (v_o_oldest + v_o_size) / 72 * 72) * 4) + 2).toNatClampNeg x3) ((((v_o_oldest + v_o_size) - (v_o_oldest + v_o_size) / 72 * 72) * 4) + 3).toNatClampNeg x4)) _ _ _ _ h (hP.sub [0, 1] rfl) (hD.sub [0, 1] (by decide) rfl) hS d_TokenQueue_add_77
  · replace h := h.2 hc
    exact hret (v_o_size, f_o_facts) _ _ _ _ h (hP.sub [0, 1] rfl) (hD.sub [0, 1] (by decide) rfl) hS d_TokenQueue_add_9
def p_TokenQueue_oldest (v_o_oldest : Int32) (f_o_facts : (Nat → Int32)) (x1 : Int32) (post : Int32 → Prop) : Prop := (vp_in ((v_o_oldest * 4) + x1) 288 ∧ (post (f_o_facts ((v_o_oldest * 4) + x1).toNatClampNeg)))
set_option maxHeartbeats 4000000 in
set_option maxRecDepth 100000 in
theorem k_TokenQueue_oldest (l : Launch) (G : va_G) (K : Nat → ClassId) (a0 a0_facts : Nat) (v_o_oldest : Int32) (v_o_size : Int32) (f_o_facts : (Nat → Int32)) (x1 : Int32) (post : Int32 → Prop) (h : p_TokenQueue_oldest v_o_oldest f_o_facts x1 post) : MSi l y_TokenQueue_oldest (.code y_TokenQueue_oldest c_TokenQueue_oldest 2 (some .int)) { frames := 0, cells := 0, slots := 0, locals := 0 } G K [(a0, .inr (11, [.ref a0_facts, .int v_o_oldest, .int v_o_size])), (a0_facts, .inl (K 0, 288, .inl f_o_facts))] [.ref a0, .int x1] post := by
  refine g_metSi (cc := c_TokenQueue_oldest) (maxL := 2) (ret := some .int) (rt := .int) (by decide) rfl rfl (Nat.le_of_ble_eq_true rfl) ?_
  intro p e s m below meth c Q hx hb hml hown htg hK hN hP hret ls hl
  have hl : lv_has ls 2 [(0, .ref a0), (1, .int x1)] := hl
  refine lv_aload_n hx hb d_TokenQueue_oldest_0 rfl (lv_at hl 0 rfl) ?_
  refine va_get (ci := 11) (v := .ref a0_facts) hx hb htg in_TokenQueue hown hK hP 0 rfl rfl 0 (by decide) (htg _ m_175) (fun _ h9 => h9) rfl d_TokenQueue_oldest_1 ?_
  refine lv_aload_n hx hb d_TokenQueue_oldest_4 rfl (lv_at hl 0 rfl) ?_
  refine va_get (ci := 11) (v := .int v_o_oldest) hx hb htg in_TokenQueue hown hK hP 0 rfl rfl 1 (by decide) (htg _ m_176) (fun _ h9 => h9) rfl d_TokenQueue_oldest_5 ?_
  refine lv_iconst (v := 4) hx hb d_TokenQueue_oldest_8 (by decide) ?_
  refine lv_imul hx hb d_TokenQueue_oldest_9 ?_
  refine lv_iload_n hx hb d_TokenQueue_oldest_10 rfl (lv_at hl 1 rfl) ?_
  refine lv_iadd hx hb d_TokenQueue_oldest_11 ?_
  obtain ⟨hin, h⟩ := h
  refine va_iald hx hb hK hP 1 0 rfl rfl hin d_TokenQueue_oldest_12 ?_
  exact hret _ _ _ h (vp_nar_int _) d_TokenQueue_oldest_13
def p_TokenQueue_drop (v_o_oldest : Int32) (v_o_size : Int32) (post : Int32 → Int32 → Prop) : Prop := (post ((v_o_oldest + 1) - (v_o_oldest + 1) / 72 * 72) (v_o_size - 1))
set_option maxHeartbeats 4000000 in
set_option maxRecDepth 100000 in
theorem k_TokenQueue_drop (l : Launch) (G : va_G) (K : Nat → ClassId) (a0 a0_facts : Nat) (sz : Nat) (v_o_oldest : Int32) (v_o_size : Int32) (post : Int32 → Int32 → Prop) (h : p_TokenQueue_drop v_o_oldest v_o_size post) : MWv l y_TokenQueue_drop (.code y_TokenQueue_drop c_TokenQueue_drop 1 none) { frames := 0, cells := 0, slots := 0, locals := 0 } G K [(a0, .inr (11, [.ref a0_facts, .int v_o_oldest, .int v_o_size]))] [] [.ref a0] sz (fun (u : Int32 × Int32) => post u.1 u.2) (fun u => [(a0, .inr (11, [.ref a0_facts, .int u.1, .int u.2]))]) 0 0 := by
  refine g_metWv (cc := c_TokenQueue_drop) (maxL := 1) (ret := none) (by decide) rfl rfl (Nat.le_of_ble_eq_true rfl) ?_
  intro p e s m below meth c A Q hx hb hml hown hname htg hK hN hP hD hA hS hR rN hret ls hl
  have hl : lv_has ls 1 [(0, .ref a0)] := hl
  refine lv_aload_n hx hb d_TokenQueue_drop_0 rfl (lv_at hl 0 rfl) ?_
  refine lv_aload_n hx hb d_TokenQueue_drop_1 rfl (lv_at hl 0 rfl) ?_
  refine va_get (ci := 11) (v := .int v_o_oldest) hx hb htg in_TokenQueue hown hK hP 0 rfl rfl 1 (by decide) (htg _ m_176) (fun _ h9 => h9) rfl d_TokenQueue_drop_2 ?_
  refine lv_iconst (v := 1) hx hb d_TokenQueue_drop_5 (by decide) ?_
  refine lv_iadd hx hb d_TokenQueue_drop_6 ?_
  refine lv_bipush (v := 72) hx hb d_TokenQueue_drop_7 (by decide) ?_
  refine lv_irem hx hb d_TokenQueue_drop_9 (by decide) ?_
  refine va_put (ci := 11) (v := .int ((v_o_oldest + 1) - (v_o_oldest + 1) / 72 * 72)) (ty := .int) hx hb htg in_TokenQueue t_TokenQueue tok_TokenQueue nm_TokenQueue hown hK hP hD hS 0 rfl rfl 1 (by decide) (htg _ m_176) (fun _ h9 => h9) rfl (by decide +kernel) rfl rfl (Nat.le_of_ble_eq_true rfl) d_TokenQueue_drop_10 (fun H locs hP hD hS => ?_)
  have hP : va_P G vwCl [(a0, .inr (11, [.ref a0_facts, .int ((v_o_oldest + 1) - (v_o_oldest + 1) / 72 * 72), .int v_o_size]))] H := hP
  have hD : va_D A [(a0, .inr (11, [.ref a0_facts, .int ((v_o_oldest + 1) - (v_o_oldest + 1) / 72 * 72), .int v_o_size]))] := hD
  refine lv_aload_n hx hb d_TokenQueue_drop_13 rfl (lv_at hl 0 rfl) ?_
  refine lv_dup hx hb d_TokenQueue_drop_14 rfl ?_
  refine va_get (ci := 11) (v := .int v_o_size) hx hb htg in_TokenQueue hown hK hP 0 rfl rfl 2 (by decide) (htg _ m_177) (fun _ h9 => h9) rfl d_TokenQueue_drop_15 ?_
  refine lv_iconst (v := 1) hx hb d_TokenQueue_drop_18 (by decide) ?_
  refine lv_isub hx hb d_TokenQueue_drop_19 ?_
  refine va_put (ci := 11) (v := .int (v_o_size - 1)) (ty := .int) hx hb htg in_TokenQueue t_TokenQueue tok_TokenQueue nm_TokenQueue hown hK hP hD hS 0 rfl rfl 2 (by decide) (htg _ m_177) (fun _ h9 => h9) rfl (by decide +kernel) rfl rfl (Nat.le_of_ble_eq_true rfl) d_TokenQueue_drop_20 (fun H locs hP hD hS => ?_)
  have hP : va_P G vwCl [(a0, .inr (11, [.ref a0_facts, .int ((v_o_oldest + 1) - (v_o_oldest + 1) / 72 * 72), .int (v_o_size - 1)]))] H := hP
  have hD : va_D A [(a0, .inr (11, [.ref a0_facts, .int ((v_o_oldest + 1) - (v_o_oldest + 1) / 72 * 72), .int (v_o_size - 1)]))] := hD
  exact hret (((v_o_oldest + 1) - (v_o_oldest + 1) / 72 * 72), (v_o_size - 1)) _ _ _ _ h (hP.sub [0] rfl) (hD.sub [0] (by decide) rfl) hS d_TokenQueue_drop_23
def p_LetterSet_init  (post : Int32 → Int32 → Int32 → Int32 → Int32 → Int32 → Prop) : Prop := (post 0 0 0 0 0 (-1))
set_option maxHeartbeats 4000000 in
set_option maxRecDepth 100000 in
theorem k_LetterSet_init (l : Launch) (G : va_G) (K : Nat → ClassId) (a0 : Nat) (sz : Nat)  (post : Int32 → Int32 → Int32 → Int32 → Int32 → Int32 → Prop) (h : p_LetterSet_init  post) : MWv l y_LetterSet_init (.code y_LetterSet_init c_LetterSet_init 1 none) { frames := 1, cells := 0, slots := 0, locals := 20 } G K [(a0, .inr (3, [.int 0, .int 0, .int 0, .int 0, .int 0, .int 0]))] [] [.ref a0] sz (fun (u : Int32 × Int32 × Int32 × Int32 × Int32 × Int32) => post u.1 u.2.1 u.2.2.1 u.2.2.2.1 u.2.2.2.2.1 u.2.2.2.2.2) (fun u => [(a0, .inr (3, [.int u.1, .int u.2.1, .int u.2.2.1, .int u.2.2.2.1, .int u.2.2.2.2.1, .int u.2.2.2.2.2]))]) 0 0 := by
  refine g_metWv (cc := c_LetterSet_init) (maxL := 1) (ret := none) (by decide) rfl rfl (Nat.le_of_ble_eq_true rfl) ?_
  intro p e s m below meth c A Q hx hb hml hown hname htg hK hN hP hD hA hS hR rN hret ls hl
  have hl : lv_has ls 1 [(0, .ref a0)] := hl
  refine lv_aload_n hx hb d_LetterSet_init_0 rfl (lv_at hl 0 rfl) ?_
  refine W.objInit hx hb hown (htg _ m_44) (htg _ m_23) (htg _ m_24) rfl (by rw [hml]; exact hl.1) rfl d_LetterSet_init_1 (Nat.le_of_ble_eq_true rfl) (Nat.le_of_ble_eq_true rfl) ?_
  refine W.eq (g2 := F0 m 4 ls []) rfl ?_
  refine lv_aload_n hx hb d_LetterSet_init_4 rfl (lv_at hl 0 rfl) ?_
  refine lv_iconst (v := 0) hx hb d_LetterSet_init_5 (by decide) ?_
  refine va_put (ci := 3) (v := .int 0) (ty := .boolean) hx hb htg in_LetterSet t_LetterSet tok_LetterSet nm_LetterSet hown hK hP hD hS 0 rfl rfl 0 (by decide) (htg _ m_45) (fun _ h9 => h9) rfl (by decide +kernel) (by decide +kernel) (by decide +kernel) (Nat.le_of_ble_eq_true rfl) d_LetterSet_init_6 (fun H locs hP hD hS => ?_)
  have hP : va_P G vwCl [(a0, .inr (3, [.int 0, .int 0, .int 0, .int 0, .int 0, .int 0]))] H := hP
  have hD : va_D A [(a0, .inr (3, [.int 0, .int 0, .int 0, .int 0, .int 0, .int 0]))] := hD
  refine lv_aload_n hx hb d_LetterSet_init_9 rfl (lv_at hl 0 rfl) ?_
  refine lv_iconst (v := 0) hx hb d_LetterSet_init_10 (by decide) ?_
  refine va_put (ci := 3) (v := .int 0) (ty := .boolean) hx hb htg in_LetterSet t_LetterSet tok_LetterSet nm_LetterSet hown hK hP hD hS 0 rfl rfl 1 (by decide) (htg _ m_46) (fun _ h9 => h9) rfl (by decide +kernel) (by decide +kernel) (by decide +kernel) (Nat.le_of_ble_eq_true rfl) d_LetterSet_init_11 (fun H locs hP hD hS => ?_)
  have hP : va_P G vwCl [(a0, .inr (3, [.int 0, .int 0, .int 0, .int 0, .int 0, .int 0]))] H := hP
  have hD : va_D A [(a0, .inr (3, [.int 0, .int 0, .int 0, .int 0, .int 0, .int 0]))] := hD
  refine lv_aload_n hx hb d_LetterSet_init_14 rfl (lv_at hl 0 rfl) ?_
  refine lv_iconst (v := 0) hx hb d_LetterSet_init_15 (by decide) ?_
  refine va_put (ci := 3) (v := .int 0) (ty := .boolean) hx hb htg in_LetterSet t_LetterSet tok_LetterSet nm_LetterSet hown hK hP hD hS 0 rfl rfl 2 (by decide) (htg _ m_47) (fun _ h9 => h9) rfl (by decide +kernel) (by decide +kernel) (by decide +kernel) (Nat.le_of_ble_eq_true rfl) d_LetterSet_init_16 (fun H locs hP hD hS => ?_)
  have hP : va_P G vwCl [(a0, .inr (3, [.int 0, .int 0, .int 0, .int 0, .int 0, .int 0]))] H := hP
  have hD : va_D A [(a0, .inr (3, [.int 0, .int 0, .int 0, .int 0, .int 0, .int 0]))] := hD
  refine lv_aload_n hx hb d_LetterSet_init_19 rfl (lv_at hl 0 rfl) ?_
  refine lv_iconst (v := 0) hx hb d_LetterSet_init_20 (by decide) ?_
  refine va_put (ci := 3) (v := .int 0) (ty := .boolean) hx hb htg in_LetterSet t_LetterSet tok_LetterSet nm_LetterSet hown hK hP hD hS 0 rfl rfl 3 (by decide) (htg _ m_48) (fun _ h9 => h9) rfl (by decide +kernel) (by decide +kernel) (by decide +kernel) (Nat.le_of_ble_eq_true rfl) d_LetterSet_init_21 (fun H locs hP hD hS => ?_)
  have hP : va_P G vwCl [(a0, .inr (3, [.int 0, .int 0, .int 0, .int 0, .int 0, .int 0]))] H := hP
  have hD : va_D A [(a0, .inr (3, [.int 0, .int 0, .int 0, .int 0, .int 0, .int 0]))] := hD
  refine lv_aload_n hx hb d_LetterSet_init_24 rfl (lv_at hl 0 rfl) ?_
  refine lv_iconst (v := 0) hx hb d_LetterSet_init_25 (by decide) ?_
  refine va_put (ci := 3) (v := .int 0) (ty := .int) hx hb htg in_LetterSet t_LetterSet tok_LetterSet nm_LetterSet hown hK hP hD hS 0 rfl rfl 4 (by decide) (htg _ m_49) (fun _ h9 => h9) rfl (by decide +kernel) rfl rfl (Nat.le_of_ble_eq_true rfl) d_LetterSet_init_26 (fun H locs hP hD hS => ?_)
  have hP : va_P G vwCl [(a0, .inr (3, [.int 0, .int 0, .int 0, .int 0, .int 0, .int 0]))] H := hP
  have hD : va_D A [(a0, .inr (3, [.int 0, .int 0, .int 0, .int 0, .int 0, .int 0]))] := hD
  refine lv_aload_n hx hb d_LetterSet_init_29 rfl (lv_at hl 0 rfl) ?_
  refine lv_iconst (v := (-1)) hx hb d_LetterSet_init_30 (by decide) ?_
  refine va_put (ci := 3) (v := .int (-1)) (ty := .int) hx hb htg in_LetterSet t_LetterSet tok_LetterSet nm_LetterSet hown hK hP hD hS 0 rfl rfl 5 (by decide) (htg _ m_50) (fun _ h9 => h9) rfl (by decide +kernel) rfl rfl (Nat.le_of_ble_eq_true rfl) d_LetterSet_init_31 (fun H locs hP hD hS => ?_)
  have hP : va_P G vwCl [(a0, .inr (3, [.int 0, .int 0, .int 0, .int 0, .int 0, .int (-1)]))] H := hP
  have hD : va_D A [(a0, .inr (3, [.int 0, .int 0, .int 0, .int 0, .int 0, .int (-1)]))] := hD
  exact hret (0, 0, 0, 0, 0, (-1)) _ _ _ _ h (hP.sub [0] rfl) (hD.sub [0] (by decide) rfl) hS d_LetterSet_init_34
def p_LetterSet_open  (post : Int32 → Int32 → Int32 → Int32 → Int32 → Int32 → Prop) : Prop := (post 1 1 0 0 0 (-1))
set_option maxHeartbeats 4000000 in
set_option maxRecDepth 100000 in
theorem k_LetterSet_open (l : Launch) (G : va_G) (K : Nat → ClassId) (a0 : Nat) (sz : Nat) (v_o_isOpen : Int32) (v_o_isFresh : Int32) (v_o_isOfOthers : Int32) (v_o_isBehindDash : Int32) (v_o_named : Int32) (v_o_from : Int32) (post : Int32 → Int32 → Int32 → Int32 → Int32 → Int32 → Prop) (h : p_LetterSet_open  post) : MWv l y_LetterSet_open (.code y_LetterSet_open c_LetterSet_open 1 none) { frames := 0, cells := 0, slots := 0, locals := 0 } G K [(a0, .inr (3, [.int v_o_isOpen, .int v_o_isFresh, .int v_o_isOfOthers, .int v_o_isBehindDash, .int v_o_named, .int v_o_from]))] [] [.ref a0] sz (fun (u : Int32 × Int32 × Int32 × Int32 × Int32 × Int32) => post u.1 u.2.1 u.2.2.1 u.2.2.2.1 u.2.2.2.2.1 u.2.2.2.2.2) (fun u => [(a0, .inr (3, [.int u.1, .int u.2.1, .int u.2.2.1, .int u.2.2.2.1, .int u.2.2.2.2.1, .int u.2.2.2.2.2]))]) 0 0 := by
  refine g_metWv (cc := c_LetterSet_open) (maxL := 1) (ret := none) (by decide) rfl rfl (Nat.le_of_ble_eq_true rfl) ?_
  intro p e s m below meth c A Q hx hb hml hown hname htg hK hN hP hD hA hS hR rN hret ls hl
  have hl : lv_has ls 1 [(0, .ref a0)] := hl
  refine lv_aload_n hx hb d_LetterSet_open_0 rfl (lv_at hl 0 rfl) ?_
  refine lv_iconst (v := 1) hx hb d_LetterSet_open_1 (by decide) ?_
  refine va_put (ci := 3) (v := .int 1) (ty := .boolean) hx hb htg in_LetterSet t_LetterSet tok_LetterSet nm_LetterSet hown hK hP hD hS 0 rfl rfl 0 (by decide) (htg _ m_45) (fun _ h9 => h9) rfl (by decide +kernel) (by decide +kernel) (by decide +kernel) (Nat.le_of_ble_eq_true rfl) d_LetterSet_open_2 (fun H locs hP hD hS => ?_)
  have hP : va_P G vwCl [(a0, .inr (3, [.int 1, .int v_o_isFresh, .int v_o_isOfOthers, .int v_o_isBehindDash, .int v_o_named, .int v_o_from]))] H := hP
  have hD : va_D A [(a0, .inr (3, [.int 1, .int v_o_isFresh, .int v_o_isOfOthers, .int v_o_isBehindDash, .int v_o_named, .int v_o_from]))] := hD
  refine lv_aload_n hx hb d_LetterSet_open_5 rfl (lv_at hl 0 rfl) ?_
  refine lv_iconst (v := 1) hx hb d_LetterSet_open_6 (by decide) ?_
  refine va_put (ci := 3) (v := .int 1) (ty := .boolean) hx hb htg in_LetterSet t_LetterSet tok_LetterSet nm_LetterSet hown hK hP hD hS 0 rfl rfl 1 (by decide) (htg _ m_46) (fun _ h9 => h9) rfl (by decide +kernel) (by decide +kernel) (by decide +kernel) (Nat.le_of_ble_eq_true rfl) d_LetterSet_open_7 (fun H locs hP hD hS => ?_)
  have hP : va_P G vwCl [(a0, .inr (3, [.int 1, .int 1, .int v_o_isOfOthers, .int v_o_isBehindDash, .int v_o_named, .int v_o_from]))] H := hP
  have hD : va_D A [(a0, .inr (3, [.int 1, .int 1, .int v_o_isOfOthers, .int v_o_isBehindDash, .int v_o_named, .int v_o_from]))] := hD
  refine lv_aload_n hx hb d_LetterSet_open_10 rfl (lv_at hl 0 rfl) ?_
  refine lv_iconst (v := 0) hx hb d_LetterSet_open_11 (by decide) ?_
  refine va_put (ci := 3) (v := .int 0) (ty := .boolean) hx hb htg in_LetterSet t_LetterSet tok_LetterSet nm_LetterSet hown hK hP hD hS 0 rfl rfl 2 (by decide) (htg _ m_47) (fun _ h9 => h9) rfl (by decide +kernel) (by decide +kernel) (by decide +kernel) (Nat.le_of_ble_eq_true rfl) d_LetterSet_open_12 (fun H locs hP hD hS => ?_)
  have hP : va_P G vwCl [(a0, .inr (3, [.int 1, .int 1, .int 0, .int v_o_isBehindDash, .int v_o_named, .int v_o_from]))] H := hP
  have hD : va_D A [(a0, .inr (3, [.int 1, .int 1, .int 0, .int v_o_isBehindDash, .int v_o_named, .int v_o_from]))] := hD
  refine lv_aload_n hx hb d_LetterSet_open_15 rfl (lv_at hl 0 rfl) ?_
  refine lv_iconst (v := 0) hx hb d_LetterSet_open_16 (by decide) ?_
  refine va_put (ci := 3) (v := .int 0) (ty := .boolean) hx hb htg in_LetterSet t_LetterSet tok_LetterSet nm_LetterSet hown hK hP hD hS 0 rfl rfl 3 (by decide) (htg _ m_48) (fun _ h9 => h9) rfl (by decide +kernel) (by decide +kernel) (by decide +kernel) (Nat.le_of_ble_eq_true rfl) d_LetterSet_open_17 (fun H locs hP hD hS => ?_)
  have hP : va_P G vwCl [(a0, .inr (3, [.int 1, .int 1, .int 0, .int 0, .int v_o_named, .int v_o_from]))] H := hP
  have hD : va_D A [(a0, .inr (3, [.int 1, .int 1, .int 0, .int 0, .int v_o_named, .int v_o_from]))] := hD
  refine lv_aload_n hx hb d_LetterSet_open_20 rfl (lv_at hl 0 rfl) ?_
  refine lv_iconst (v := 0) hx hb d_LetterSet_open_21 (by decide) ?_
  refine va_put (ci := 3) (v := .int 0) (ty := .int) hx hb htg in_LetterSet t_LetterSet tok_LetterSet nm_LetterSet hown hK hP hD hS 0 rfl rfl 4 (by decide) (htg _ m_49) (fun _ h9 => h9) rfl (by decide +kernel) rfl rfl (Nat.le_of_ble_eq_true rfl) d_LetterSet_open_22 (fun H locs hP hD hS => ?_)
  have hP : va_P G vwCl [(a0, .inr (3, [.int 1, .int 1, .int 0, .int 0, .int 0, .int v_o_from]))] H := hP
  have hD : va_D A [(a0, .inr (3, [.int 1, .int 1, .int 0, .int 0, .int 0, .int v_o_from]))] := hD
  refine lv_aload_n hx hb d_LetterSet_open_25 rfl (lv_at hl 0 rfl) ?_
  refine lv_iconst (v := (-1)) hx hb d_LetterSet_open_26 (by decide) ?_
  refine va_put (ci := 3) (v := .int (-1)) (ty := .int) hx hb htg in_LetterSet t_LetterSet tok_LetterSet nm_LetterSet hown hK hP hD hS 0 rfl rfl 5 (by decide) (htg _ m_50) (fun _ h9 => h9) rfl (by decide +kernel) rfl rfl (Nat.le_of_ble_eq_true rfl) d_LetterSet_open_27 (fun H locs hP hD hS => ?_)
  have hP : va_P G vwCl [(a0, .inr (3, [.int 1, .int 1, .int 0, .int 0, .int 0, .int (-1)]))] H := hP
  have hD : va_D A [(a0, .inr (3, [.int 1, .int 1, .int 0, .int 0, .int 0, .int (-1)]))] := hD
  exact hret (1, 1, 0, 0, 0, (-1)) _ _ _ _ h (hP.sub [0] rfl) (hD.sub [0] (by decide) rfl) hS d_LetterSet_open_30
def p_LetterSet_close  (post : Int32 → Prop) : Prop := (post 0)
set_option maxHeartbeats 4000000 in
set_option maxRecDepth 100000 in
theorem k_LetterSet_close (l : Launch) (G : va_G) (K : Nat → ClassId) (a0 : Nat) (sz : Nat) (v_o_isOpen : Int32) (v_o_isFresh : Int32) (v_o_isOfOthers : Int32) (v_o_isBehindDash : Int32) (v_o_named : Int32) (v_o_from : Int32) (post : Int32 → Prop) (h : p_LetterSet_close  post) : MWv l y_LetterSet_close (.code y_LetterSet_close c_LetterSet_close 1 none) { frames := 0, cells := 0, slots := 0, locals := 0 } G K [(a0, .inr (3, [.int v_o_isOpen, .int v_o_isFresh, .int v_o_isOfOthers, .int v_o_isBehindDash, .int v_o_named, .int v_o_from]))] [] [.ref a0] sz (fun (u : Int32) => post u) (fun u => [(a0, .inr (3, [.int u, .int v_o_isFresh, .int v_o_isOfOthers, .int v_o_isBehindDash, .int v_o_named, .int v_o_from]))]) 0 0 := by
  refine g_metWv (cc := c_LetterSet_close) (maxL := 1) (ret := none) (by decide) rfl rfl (Nat.le_of_ble_eq_true rfl) ?_
  intro p e s m below meth c A Q hx hb hml hown hname htg hK hN hP hD hA hS hR rN hret ls hl
  have hl : lv_has ls 1 [(0, .ref a0)] := hl
  refine lv_aload_n hx hb d_LetterSet_close_0 rfl (lv_at hl 0 rfl) ?_
  refine lv_iconst (v := 0) hx hb d_LetterSet_close_1 (by decide) ?_
  refine va_put (ci := 3) (v := .int 0) (ty := .boolean) hx hb htg in_LetterSet t_LetterSet tok_LetterSet nm_LetterSet hown hK hP hD hS 0 rfl rfl 0 (by decide) (htg _ m_45) (fun _ h9 => h9) rfl (by decide +kernel) (by decide +kernel) (by decide +kernel) (Nat.le_of_ble_eq_true rfl) d_LetterSet_close_2 (fun H locs hP hD hS => ?_)
  have hP : va_P G vwCl [(a0, .inr (3, [.int 0, .int v_o_isFresh, .int v_o_isOfOthers, .int v_o_isBehindDash, .int v_o_named, .int v_o_from]))] H := hP
  have hD : va_D A [(a0, .inr (3, [.int 0, .int v_o_isFresh, .int v_o_isOfOthers, .int v_o_isBehindDash, .int v_o_named, .int v_o_from]))] := hD
  exact hret 0 _ _ _ _ h (hP.sub [0] rfl) (hD.sub [0] (by decide) rfl) hS d_LetterSet_close_5
def p_LetterSet_isOpen (v_o_isOpen : Int32) (post : Int32 → Prop) : Prop := (bz v_o_isOpen ∧ post v_o_isOpen)
set_option maxHeartbeats 4000000 in
set_option maxRecDepth 100000 in
theorem k_LetterSet_isOpen (l : Launch) (G : va_G) (K : Nat → ClassId) (a0 : Nat) (v_o_isOpen : Int32) (v_o_isFresh : Int32) (v_o_isOfOthers : Int32) (v_o_isBehindDash : Int32) (v_o_named : Int32) (v_o_from : Int32) (post : Int32 → Prop) (h : p_LetterSet_isOpen v_o_isOpen post) : MSi l y_LetterSet_isOpen (.code y_LetterSet_isOpen c_LetterSet_isOpen 1 (some .boolean)) { frames := 0, cells := 0, slots := 0, locals := 0 } G K [(a0, .inr (3, [.int v_o_isOpen, .int v_o_isFresh, .int v_o_isOfOthers, .int v_o_isBehindDash, .int v_o_named, .int v_o_from]))] [.ref a0] post := by
  refine g_metSi (cc := c_LetterSet_isOpen) (maxL := 1) (ret := some .boolean) (rt := .boolean) (by decide) rfl rfl (Nat.le_of_ble_eq_true rfl) ?_
  intro p e s m below meth c Q hx hb hml hown htg hK hN hP hret ls hl
  have hl : lv_has ls 1 [(0, .ref a0)] := hl
  refine lv_aload_n hx hb d_LetterSet_isOpen_0 rfl (lv_at hl 0 rfl) ?_
  refine va_get (ci := 3) (v := .int v_o_isOpen) hx hb htg in_LetterSet hown hK hP 0 rfl rfl 0 (by decide) (htg _ m_45) (fun _ h9 => h9) rfl d_LetterSet_isOpen_1 ?_
  obtain ⟨hz, h⟩ := h
  exact hret _ _ _ h (bz_nar hz) d_LetterSet_isOpen_4
def p_LetterSet_letters (v_o_isOfOthers : Int32) (v_o_named : Int32) (post : Int32 → Prop) : Prop := ((v_o_isOfOthers = 0 → (post v_o_named)) ∧ (¬ v_o_isOfOthers = 0 → (post ((63 : Int32) &&& (v_o_named ^^^ (-1 : Int32))))))
set_option maxHeartbeats 4000000 in
set_option maxRecDepth 100000 in
theorem k_LetterSet_letters (l : Launch) (G : va_G) (K : Nat → ClassId) (a0 : Nat) (v_o_isOpen : Int32) (v_o_isFresh : Int32) (v_o_isOfOthers : Int32) (v_o_isBehindDash : Int32) (v_o_named : Int32) (v_o_from : Int32) (post : Int32 → Prop) (h : p_LetterSet_letters v_o_isOfOthers v_o_named post) : MSi l y_LetterSet_letters (.code y_LetterSet_letters c_LetterSet_letters 1 (some .int)) { frames := 0, cells := 0, slots := 0, locals := 0 } G K [(a0, .inr (3, [.int v_o_isOpen, .int v_o_isFresh, .int v_o_isOfOthers, .int v_o_isBehindDash, .int v_o_named, .int v_o_from]))] [.ref a0] post := by
  refine g_metSi (cc := c_LetterSet_letters) (maxL := 1) (ret := some .int) (rt := .int) (by decide) rfl rfl (Nat.le_of_ble_eq_true rfl) ?_
  intro p e s m below meth c Q hx hb hml hown htg hK hN hP hret ls hl
  have hl : lv_has ls 1 [(0, .ref a0)] := hl
  refine lv_aload_n hx hb d_LetterSet_letters_0 rfl (lv_at hl 0 rfl) ?_
  refine va_get (ci := 3) (v := .int v_o_isOfOthers) hx hb htg in_LetterSet hown hK hP 0 rfl rfl 2 (by decide) (htg _ m_47) (fun _ h9 => h9) rfl d_LetterSet_letters_1 ?_
  refine lv_if_eq (tgt := 19) hx hb d_LetterSet_letters_4 (by decide) (fun hc => ?_) (fun hc => ?_)
  · replace h := h.1 hc
    refine lv_aload_n hx hb d_LetterSet_letters_19 rfl (lv_at hl 0 rfl) ?_
    refine va_get (ci := 3) (v := .int v_o_named) hx hb htg in_LetterSet hown hK hP 0 rfl rfl 4 (by decide) (htg _ m_49) (fun _ h9 => h9) rfl d_LetterSet_letters_20 ?_
    exact hret _ _ _ h (vp_nar_int _) d_LetterSet_letters_23
  · replace h := h.2 hc
    refine lv_bipush (v := 63) hx hb d_LetterSet_letters_7 (by decide) ?_
    refine lv_aload_n hx hb d_LetterSet_letters_9 rfl (lv_at hl 0 rfl) ?_
    refine va_get (ci := 3) (v := .int v_o_named) hx hb htg in_LetterSet hown hK hP 0 rfl rfl 4 (by decide) (htg _ m_49) (fun _ h9 => h9) rfl d_LetterSet_letters_10 ?_
    refine lv_iconst (v := (-1)) hx hb d_LetterSet_letters_13 (by decide) ?_
    refine lv_ixor hx hb d_LetterSet_letters_14 ?_
    refine lv_iand hx hb d_LetterSet_letters_15 ?_
    refine lv_goto (tgt := 23) hx hb d_LetterSet_letters_16 (by decide) ?_
    exact hret _ _ _ h (vp_nar_int _) d_LetterSet_letters_23
def p_LetterSet_mayClose (v_o_isOfOthers : Int32) (v_o_isBehindDash : Int32) (v_o_named : Int32) (post : Int32 → Prop) : Prop := ((v_o_named = 0 → (post 0)) ∧ (¬ v_o_named = 0 → ((¬ v_o_isBehindDash = 0 → (post 0)) ∧ (v_o_isBehindDash = 0 → (p_LetterSet_letters v_o_isOfOthers v_o_named (fun r1 => ((r1 = 0 → (post 0)) ∧ (¬ r1 = 0 → (post 1)))))))))
set_option maxHeartbeats 4000000 in
set_option maxRecDepth 100000 in
theorem k_LetterSet_mayClose (l : Launch) (G : va_G) (K : Nat → ClassId) (a0 : Nat) (v_o_isOpen : Int32) (v_o_isFresh : Int32) (v_o_isOfOthers : Int32) (v_o_isBehindDash : Int32) (v_o_named : Int32) (v_o_from : Int32) (post : Int32 → Prop) (h : p_LetterSet_mayClose v_o_isOfOthers v_o_isBehindDash v_o_named post) : MSi l y_LetterSet_mayClose (.code y_LetterSet_mayClose c_LetterSet_mayClose 1 (some .boolean)) { frames := 1, cells := 0, slots := 0, locals := 20 } G K [(a0, .inr (3, [.int v_o_isOpen, .int v_o_isFresh, .int v_o_isOfOthers, .int v_o_isBehindDash, .int v_o_named, .int v_o_from]))] [.ref a0] post := by
  refine g_metSi (cc := c_LetterSet_mayClose) (maxL := 1) (ret := some .boolean) (rt := .boolean) (by decide) rfl rfl (Nat.le_of_ble_eq_true rfl) ?_
  intro p e s m below meth c Q hx hb hml hown htg hK hN hP hret ls hl
  have hl : lv_has ls 1 [(0, .ref a0)] := hl
  refine lv_aload_n hx hb d_LetterSet_mayClose_0 rfl (lv_at hl 0 rfl) ?_
  refine va_get (ci := 3) (v := .int v_o_named) hx hb htg in_LetterSet hown hK hP 0 rfl rfl 4 (by decide) (htg _ m_49) (fun _ h9 => h9) rfl d_LetterSet_mayClose_1 ?_
  refine lv_if_eq (tgt := 25) hx hb d_LetterSet_mayClose_4 (by decide) (fun hc => ?_) (fun hc => ?_)
  · replace h := h.1 hc
    refine lv_iconst (v := 0) hx hb d_LetterSet_mayClose_25 (by decide) ?_
    exact hret _ _ _ h (by decide +kernel) d_LetterSet_mayClose_26
  · replace h := h.2 hc
    refine lv_aload_n hx hb d_LetterSet_mayClose_7 rfl (lv_at hl 0 rfl) ?_
    refine va_get (ci := 3) (v := .int v_o_isBehindDash) hx hb htg in_LetterSet hown hK hP 0 rfl rfl 3 (by decide) (htg _ m_48) (fun _ h9 => h9) rfl d_LetterSet_mayClose_8 ?_
    refine lv_if_ne (tgt := 25) hx hb d_LetterSet_mayClose_11 (by decide) (fun hc => ?_) (fun hc => ?_)
    · replace h := h.1 hc
      refine lv_iconst (v := 0) hx hb d_LetterSet_mayClose_25 (by decide) ?_
      exact hret _ _ _ h (by decide +kernel) d_LetterSet_mayClose_26
    · replace h := h.2 hc
      refine lv_aload_n hx hb d_LetterSet_mayClose_14 rfl (lv_at hl 0 rfl) ?_
      have hPc : va_P G vwCl [(a0, .inr (3, [.int v_o_isOpen, .int v_o_isFresh, .int v_o_isOfOthers, .int v_o_isBehindDash, .int v_o_named, .int v_o_from]))] _ := hP.sub [0] rfl
      refine vp_callSi (va_Run.run (va_runV (As := []) (rest := []) ⟨hx, hb, hml, hown, htg⟩ (k_LetterSet_letters l G K a0 v_o_isOpen v_o_isFresh v_o_isOfOthers v_o_isBehindDash v_o_named v_o_from _ h) (cwV 0 htg (gGoodV m_235 m_236 m_237 m_4 m_238) rfl rfl rfl (by decide +kernel) ⟨(Nat.le_of_ble_eq_true rfl), (Nat.le_of_ble_eq_true rfl)⟩) (gS_preV (ci := 3) (q0 := 0) hK hN hPc rfl rfl) rfl rfl hl.1 rfl (lv_room (Nat.le_of_ble_eq_true rfl)) d_LetterSet_mayClose_15 ⟨(Nat.le_of_ble_eq_true rfl), (Nat.le_of_ble_eq_true rfl)⟩)) (fun r1 h => ?_)
      refine lv_if_eq (tgt := 25) hx hb d_LetterSet_mayClose_18 (by decide) (fun hc => ?_) (fun hc => ?_)
      · replace h := h.1 hc
        refine lv_iconst (v := 0) hx hb d_LetterSet_mayClose_25 (by decide) ?_
        exact hret _ _ _ h (by decide +kernel) d_LetterSet_mayClose_26
      · replace h := h.2 hc
        refine lv_iconst (v := 1) hx hb d_LetterSet_mayClose_21 (by decide) ?_
        refine lv_goto (tgt := 26) hx hb d_LetterSet_mayClose_22 (by decide) ?_
        exact hret _ _ _ h (by decide +kernel) d_LetterSet_mayClose_26
def p_LetterSet_putCaret (v_o_isFresh : Int32) (post : Int32 → Int32 → Int32 → Prop) : Prop := (bz v_o_isFresh ∧ post v_o_isFresh 0 1)
set_option maxHeartbeats 4000000 in
set_option maxRecDepth 100000 in
theorem k_LetterSet_putCaret (l : Launch) (G : va_G) (K : Nat → ClassId) (a0 : Nat) (sz : Nat) (v_o_isOpen : Int32) (v_o_isFresh : Int32) (v_o_isOfOthers : Int32) (v_o_isBehindDash : Int32) (v_o_named : Int32) (v_o_from : Int32) (post : Int32 → Int32 → Int32 → Prop) (h : p_LetterSet_putCaret v_o_isFresh post) : MWi l y_LetterSet_putCaret (.code y_LetterSet_putCaret c_LetterSet_putCaret 2 (some .boolean)) { frames := 0, cells := 0, slots := 0, locals := 0 } G K [(a0, .inr (3, [.int v_o_isOpen, .int v_o_isFresh, .int v_o_isOfOthers, .int v_o_isBehindDash, .int v_o_named, .int v_o_from]))] [] [.ref a0] sz (fun r (u : Int32 × Int32) => post r u.1 u.2) (fun u => [(a0, .inr (3, [.int v_o_isOpen, .int u.1, .int u.2, .int v_o_isBehindDash, .int v_o_named, .int v_o_from]))]) 0 0 := by
  refine g_metWi (cc := c_LetterSet_putCaret) (maxL := 2) (ret := some .boolean) (rt := .boolean) (by decide) rfl rfl (Nat.le_of_ble_eq_true rfl) ?_
  intro p e s m below meth c A Q hx hb hml hown hname htg hK hN hP hD hA hS hR rN hret ls hl
  have hl : lv_has ls 2 [(0, .ref a0)] := hl
  refine lv_aload_n hx hb d_LetterSet_putCaret_0 rfl (lv_at hl 0 rfl) ?_
  refine va_get (ci := 3) (v := .int v_o_isFresh) hx hb htg in_LetterSet hown hK hP 0 rfl rfl 1 (by decide) (htg _ m_46) (fun _ h9 => h9) rfl d_LetterSet_putCaret_1 ?_
  refine lv_istore_n (lv' := [(1, .int v_o_isFresh), (0, .ref a0)]) hx hb d_LetterSet_putCaret_4 rfl hl (by decide) rfl (fun ls hl => ?_)
  refine lv_aload_n hx hb d_LetterSet_putCaret_5 rfl (lv_at hl 1 rfl) ?_
  refine lv_iconst (v := 1) hx hb d_LetterSet_putCaret_6 (by decide) ?_
  refine va_put (ci := 3) (v := .int 1) (ty := .boolean) hx hb htg in_LetterSet t_LetterSet tok_LetterSet nm_LetterSet hown hK hP hD hS 0 rfl rfl 2 (by decide) (htg _ m_47) (fun _ h9 => h9) rfl (by decide +kernel) (by decide +kernel) (by decide +kernel) (Nat.le_of_ble_eq_true rfl) d_LetterSet_putCaret_7 (fun H locs hP hD hS => ?_)
  have hP : va_P G vwCl [(a0, .inr (3, [.int v_o_isOpen, .int v_o_isFresh, .int 1, .int v_o_isBehindDash, .int v_o_named, .int v_o_from]))] H := hP
  have hD : va_D A [(a0, .inr (3, [.int v_o_isOpen, .int v_o_isFresh, .int 1, .int v_o_isBehindDash, .int v_o_named, .int v_o_from]))] := hD
  refine lv_aload_n hx hb d_LetterSet_putCaret_10 rfl (lv_at hl 1 rfl) ?_
  refine lv_iconst (v := 0) hx hb d_LetterSet_putCaret_11 (by decide) ?_
  refine va_put (ci := 3) (v := .int 0) (ty := .boolean) hx hb htg in_LetterSet t_LetterSet tok_LetterSet nm_LetterSet hown hK hP hD hS 0 rfl rfl 1 (by decide) (htg _ m_46) (fun _ h9 => h9) rfl (by decide +kernel) (by decide +kernel) (by decide +kernel) (Nat.le_of_ble_eq_true rfl) d_LetterSet_putCaret_12 (fun H locs hP hD hS => ?_)
  have hP : va_P G vwCl [(a0, .inr (3, [.int v_o_isOpen, .int 0, .int 1, .int v_o_isBehindDash, .int v_o_named, .int v_o_from]))] H := hP
  have hD : va_D A [(a0, .inr (3, [.int v_o_isOpen, .int 0, .int 1, .int v_o_isBehindDash, .int v_o_named, .int v_o_from]))] := hD
  refine lv_iload_n hx hb d_LetterSet_putCaret_15 rfl (lv_at hl 0 rfl) ?_
  obtain ⟨hz, h⟩ := h
  exact hret _ (0, 1) _ _ _ _ h (bz_nar hz) (hP.sub [0] rfl) (hD.sub [0] (by decide) rfl) hS d_LetterSet_putCaret_16
def p_LetterSet_putDash (v_o_isBehindDash : Int32) (v_o_from : Int32) (post : Int32 → Int32 → Prop) : Prop := ((v_o_from = (-1) → (post 0 1)) ∧ (¬ v_o_from = (-1) → ((¬ v_o_isBehindDash = 0 → (post 0 1)) ∧ (v_o_isBehindDash = 0 → (post 1 1)))))
set_option maxHeartbeats 4000000 in
set_option maxRecDepth 100000 in
theorem k_LetterSet_putDash (l : Launch) (G : va_G) (K : Nat → ClassId) (a0 : Nat) (sz : Nat) (v_o_isOpen : Int32) (v_o_isFresh : Int32) (v_o_isOfOthers : Int32) (v_o_isBehindDash : Int32) (v_o_named : Int32) (v_o_from : Int32) (post : Int32 → Int32 → Prop) (h : p_LetterSet_putDash v_o_isBehindDash v_o_from post) : MWi l y_LetterSet_putDash (.code y_LetterSet_putDash c_LetterSet_putDash 2 (some .boolean)) { frames := 0, cells := 0, slots := 0, locals := 0 } G K [(a0, .inr (3, [.int v_o_isOpen, .int v_o_isFresh, .int v_o_isOfOthers, .int v_o_isBehindDash, .int v_o_named, .int v_o_from]))] [] [.ref a0] sz (fun r (u : Int32) => post r u) (fun u => [(a0, .inr (3, [.int v_o_isOpen, .int v_o_isFresh, .int v_o_isOfOthers, .int u, .int v_o_named, .int v_o_from]))]) 0 0 := by
  refine g_metWi (cc := c_LetterSet_putDash) (maxL := 2) (ret := some .boolean) (rt := .boolean) (by decide) rfl rfl (Nat.le_of_ble_eq_true rfl) ?_
  intro p e s m below meth c A Q hx hb hml hown hname htg hK hN hP hD hA hS hR rN hret ls hl
  have hl : lv_has ls 2 [(0, .ref a0)] := hl
  refine lv_aload_n hx hb d_LetterSet_putDash_0 rfl (lv_at hl 0 rfl) ?_
  refine va_get (ci := 3) (v := .int v_o_from) hx hb htg in_LetterSet hown hK hP 0 rfl rfl 5 (by decide) (htg _ m_50) (fun _ h9 => h9) rfl d_LetterSet_putDash_1 ?_
  refine lv_iconst (v := (-1)) hx hb d_LetterSet_putDash_4 (by decide) ?_
  refine lv_icmp_eq (tgt := 19) hx hb d_LetterSet_putDash_5 (by decide) (fun hc => ?_) (fun hc => ?_)
  · replace h := h.1 hc
    refine lv_iconst (v := 0) hx hb d_LetterSet_putDash_19 (by decide) ?_
    refine lv_istore_n (lv' := [(1, .int 0), (0, .ref a0)]) hx hb d_LetterSet_putDash_20 rfl hl (by decide) rfl (fun ls hl => ?_)
    refine lv_aload_n hx hb d_LetterSet_putDash_21 rfl (lv_at hl 1 rfl) ?_
    refine lv_iconst (v := 1) hx hb d_LetterSet_putDash_22 (by decide) ?_
    refine va_put (ci := 3) (v := .int 1) (ty := .boolean) hx hb htg in_LetterSet t_LetterSet tok_LetterSet nm_LetterSet hown hK hP hD hS 0 rfl rfl 3 (by decide) (htg _ m_48) (fun _ h9 => h9) rfl (by decide +kernel) (by decide +kernel) (by decide +kernel) (Nat.le_of_ble_eq_true rfl) d_LetterSet_putDash_23 (fun H locs hP hD hS => ?_)
    have hP : va_P G vwCl [(a0, .inr (3, [.int v_o_isOpen, .int v_o_isFresh, .int v_o_isOfOthers, .int 1, .int v_o_named, .int v_o_from]))] H := hP
    have hD : va_D A [(a0, .inr (3, [.int v_o_isOpen, .int v_o_isFresh, .int v_o_isOfOthers, .int 1, .int v_o_named, .int v_o_from]))] := hD
    refine lv_iload_n hx hb d_LetterSet_putDash_26 rfl (lv_at hl 0 rfl) ?_
    exact hret _ 1 _ _ _ _ h (by decide +kernel) (hP.sub [0] rfl) (hD.sub [0] (by decide) rfl) hS d_LetterSet_putDash_27
  · replace h := h.2 hc
    refine lv_aload_n hx hb d_LetterSet_putDash_8 rfl (lv_at hl 0 rfl) ?_
    refine va_get (ci := 3) (v := .int v_o_isBehindDash) hx hb htg in_LetterSet hown hK hP 0 rfl rfl 3 (by decide) (htg _ m_48) (fun _ h9 => h9) rfl d_LetterSet_putDash_9 ?_
    refine lv_if_ne (tgt := 19) hx hb d_LetterSet_putDash_12 (by decide) (fun hc => ?_) (fun hc => ?_)
    · replace h := h.1 hc
      refine lv_iconst (v := 0) hx hb d_LetterSet_putDash_19 (by decide) ?_
      refine lv_istore_n (lv' := [(1, .int 0), (0, .ref a0)]) hx hb d_LetterSet_putDash_20 rfl hl (by decide) rfl (fun ls hl => ?_)
      refine lv_aload_n hx hb d_LetterSet_putDash_21 rfl (lv_at hl 1 rfl) ?_
      refine lv_iconst (v := 1) hx hb d_LetterSet_putDash_22 (by decide) ?_
      refine va_put (ci := 3) (v := .int 1) (ty := .boolean) hx hb htg in_LetterSet t_LetterSet tok_LetterSet nm_LetterSet hown hK hP hD hS 0 rfl rfl 3 (by decide) (htg _ m_48) (fun _ h9 => h9) rfl (by decide +kernel) (by decide +kernel) (by decide +kernel) (Nat.le_of_ble_eq_true rfl) d_LetterSet_putDash_23 (fun H locs hP hD hS => ?_)
      have hP : va_P G vwCl [(a0, .inr (3, [.int v_o_isOpen, .int v_o_isFresh, .int v_o_isOfOthers, .int 1, .int v_o_named, .int v_o_from]))] H := hP
      have hD : va_D A [(a0, .inr (3, [.int v_o_isOpen, .int v_o_isFresh, .int v_o_isOfOthers, .int 1, .int v_o_named, .int v_o_from]))] := hD
      refine lv_iload_n hx hb d_LetterSet_putDash_26 rfl (lv_at hl 0 rfl) ?_
      exact hret _ 1 _ _ _ _ h (by decide +kernel) (hP.sub [0] rfl) (hD.sub [0] (by decide) rfl) hS d_LetterSet_putDash_27
    · replace h := h.2 hc
      refine lv_iconst (v := 1) hx hb d_LetterSet_putDash_15 (by decide) ?_
      refine lv_goto (tgt := 20) hx hb d_LetterSet_putDash_16 (by decide) ?_
      refine lv_istore_n (lv' := [(1, .int 1), (0, .ref a0)]) hx hb d_LetterSet_putDash_20 rfl hl (by decide) rfl (fun ls hl => ?_)
      refine lv_aload_n hx hb d_LetterSet_putDash_21 rfl (lv_at hl 1 rfl) ?_
      refine lv_iconst (v := 1) hx hb d_LetterSet_putDash_22 (by decide) ?_
      refine va_put (ci := 3) (v := .int 1) (ty := .boolean) hx hb htg in_LetterSet t_LetterSet tok_LetterSet nm_LetterSet hown hK hP hD hS 0 rfl rfl 3 (by decide) (htg _ m_48) (fun _ h9 => h9) rfl (by decide +kernel) (by decide +kernel) (by decide +kernel) (Nat.le_of_ble_eq_true rfl) d_LetterSet_putDash_23 (fun H locs hP hD hS => ?_)
      have hP : va_P G vwCl [(a0, .inr (3, [.int v_o_isOpen, .int v_o_isFresh, .int v_o_isOfOthers, .int 1, .int v_o_named, .int v_o_from]))] H := hP
      have hD : va_D A [(a0, .inr (3, [.int v_o_isOpen, .int v_o_isFresh, .int v_o_isOfOthers, .int 1, .int v_o_named, .int v_o_from]))] := hD
      refine lv_iload_n hx hb d_LetterSet_putDash_26 rfl (lv_at hl 0 rfl) ?_
      exact hret _ 1 _ _ _ _ h (by decide +kernel) (hP.sub [0] rfl) (hD.sub [0] (by decide) rfl) hS d_LetterSet_putDash_27
def p_LetterSet_putLetter_59 (x1 : Int32) (post : Int32 → Int32 → Int32 → Int32 → Int32 → Prop) (v_o_isFresh : Int32) (v_o_isBehindDash : Int32) (v_o_named : Int32) (v_o_from : Int32) : Prop := ((x1 < v_o_from → (post 0 v_o_isFresh 0 v_o_named (-1))) ∧ (¬ x1 < v_o_from → (post 1 v_o_isFresh 0 v_o_named (-1))))
def p_LetterSet_putLetter_36 (x1 : Int32) (post : Int32 → Int32 → Int32 → Int32 → Int32 → Prop) : Nat → Int32 → Int32 → Int32 → Int32 → Int32 → Prop
  | 0, _, _, _, _, _ => False
  | n + 1, l2, v_o_isFresh, v_o_isBehindDash, v_o_named, v_o_from => ((x1 < l2 → (p_LetterSet_putLetter_59 x1 post v_o_isFresh v_o_isBehindDash v_o_named v_o_from)) ∧ (¬ x1 < l2 → (p_LetterSet_putLetter_36 x1 post n (l2 + 1) v_o_isFresh v_o_isBehindDash (v_o_named ||| ((1 : Int32) <<< (l2 &&& 31))) v_o_from)))
def p_LetterSet_putLetter (v_o_isBehindDash : Int32) (v_o_named : Int32) (v_o_from : Int32) (x1 : Int32) (post : Int32 → Int32 → Int32 → Int32 → Int32 → Prop) : Prop := ((¬ v_o_isBehindDash = 0 → (∃ k, p_LetterSet_putLetter_36 x1 post k v_o_from 0 v_o_isBehindDash v_o_named v_o_from)) ∧ (v_o_isBehindDash = 0 → (post 1 0 v_o_isBehindDash (v_o_named ||| ((1 : Int32) <<< (x1 &&& 31))) x1)))
set_option maxHeartbeats 4000000 in
set_option maxRecDepth 100000 in
theorem k_LetterSet_putLetter (l : Launch) (G : va_G) (K : Nat → ClassId) (a0 : Nat) (sz : Nat) (v_o_isOpen : Int32) (v_o_isFresh : Int32) (v_o_isOfOthers : Int32) (v_o_isBehindDash : Int32) (v_o_named : Int32) (v_o_from : Int32) (x1 : Int32) (post : Int32 → Int32 → Int32 → Int32 → Int32 → Prop) (h : p_LetterSet_putLetter v_o_isBehindDash v_o_named v_o_from x1 post) : MWi l y_LetterSet_putLetter (.code y_LetterSet_putLetter c_LetterSet_putLetter 3 (some .boolean)) { frames := 0, cells := 0, slots := 0, locals := 0 } G K [(a0, .inr (3, [.int v_o_isOpen, .int v_o_isFresh, .int v_o_isOfOthers, .int v_o_isBehindDash, .int v_o_named, .int v_o_from]))] [] [.ref a0, .int x1] sz (fun r (u : Int32 × Int32 × Int32 × Int32) => post r u.1 u.2.1 u.2.2.1 u.2.2.2) (fun u => [(a0, .inr (3, [.int v_o_isOpen, .int u.1, .int v_o_isOfOthers, .int u.2.1, .int u.2.2.1, .int u.2.2.2]))]) 0 0 := by
  refine g_metWi (cc := c_LetterSet_putLetter) (maxL := 3) (ret := some .boolean) (rt := .boolean) (by decide) rfl rfl (Nat.le_of_ble_eq_true rfl) ?_
  intro p e s m below meth c A Q hx hb hml hown hname htg hK hN hP hD hA hS hR rN hret ls hl
  have hl : lv_has ls 3 [(0, .ref a0), (1, .int x1)] := hl
  have C_59 : ∀ (v_o_isFresh : Int32) (v_o_isBehindDash : Int32) (v_o_named : Int32) (v_o_from : Int32) (H : Heap) (locs : List Loc), va_P G vwCl [(a0, .inr (3, [.int v_o_isOpen, .int v_o_isFresh, .int v_o_isOfOthers, .int v_o_isBehindDash, .int v_o_named, .int v_o_from]))] H → va_D A [(a0, .inr (3, [.int v_o_isOpen, .int v_o_isFresh, .int v_o_isOfOthers, .int v_o_isBehindDash, .int v_o_named, .int v_o_from]))] → va_S A s.heap H locs → ∀ (ls : Array Slot), lv_has ls 3 [(0, .ref a0), (1, .int x1)] → p_LetterSet_putLetter_59 x1 post v_o_isFresh v_o_isBehindDash v_o_named v_o_from → W p l e { frames := 0, cells := 0, slots := 0, locals := 0 } s m ([.ref a0, .int x1] : List Value).toArray below meth c H locs 0 0 Q (F0 m 59 ls []) := by
    intro  v_o_isFresh v_o_isBehindDash v_o_named v_o_from  H locs hP hD hS ls hl h
    refine lv_aload_n hx hb d_LetterSet_putLetter_59 rfl (lv_at hl 0 rfl) ?_
    refine va_get (ci := 3) (v := .int v_o_from) hx hb htg in_LetterSet hown hK hP 0 rfl rfl 5 (by decide) (htg _ m_50) (fun _ h9 => h9) rfl d_LetterSet_putLetter_60 ?_
    refine lv_iload_n hx hb d_LetterSet_putLetter_63 rfl (lv_at hl 1 rfl) ?_
    refine lv_icmp_gt (tgt := 71) hx hb d_LetterSet_putLetter_64 (by decide) (fun hc => ?_) (fun hc => ?_)
    · replace h := h.1 hc
      refine lv_iconst (v := 0) hx hb d_LetterSet_putLetter_71 (by decide) ?_
      refine lv_istore_n (lv' := [(2, .int 0), (0, .ref a0), (1, .int x1)]) hx hb d_LetterSet_putLetter_72 rfl hl (by decide) rfl (fun ls hl => ?_)
      refine lv_aload_n hx hb d_LetterSet_putLetter_73 rfl (lv_at hl 1 rfl) ?_
      refine lv_iconst (v := 0) hx hb d_LetterSet_putLetter_74 (by decide) ?_
      refine va_put (ci := 3) (v := .int 0) (ty := .boolean) hx hb htg in_LetterSet t_LetterSet tok_LetterSet nm_LetterSet hown hK hP hD hS 0 rfl rfl 3 (by decide) (htg _ m_48) (fun _ h9 => h9) rfl (by decide +kernel) (by decide +kernel) (by decide +kernel) (Nat.le_of_ble_eq_true rfl) d_LetterSet_putLetter_75 (fun H locs hP hD hS => ?_)
      have hP : va_P G vwCl [(a0, .inr (3, [.int v_o_isOpen, .int v_o_isFresh, .int v_o_isOfOthers, .int 0, .int v_o_named, .int v_o_from]))] H := hP
      have hD : va_D A [(a0, .inr (3, [.int v_o_isOpen, .int v_o_isFresh, .int v_o_isOfOthers, .int 0, .int v_o_named, .int v_o_from]))] := hD
      refine lv_aload_n hx hb d_LetterSet_putLetter_78 rfl (lv_at hl 1 rfl) ?_
      refine lv_iconst (v := (-1)) hx hb d_LetterSet_putLetter_79 (by decide) ?_
      refine va_put (ci := 3) (v := .int (-1)) (ty := .int) hx hb htg in_LetterSet t_LetterSet tok_LetterSet nm_LetterSet hown hK hP hD hS 0 rfl rfl 5 (by decide) (htg _ m_50) (fun _ h9 => h9) rfl (by decide +kernel) rfl rfl (Nat.le_of_ble_eq_true rfl) d_LetterSet_putLetter_80 (fun H locs hP hD hS => ?_)
      have hP : va_P G vwCl [(a0, .inr (3, [.int v_o_isOpen, .int v_o_isFresh, .int v_o_isOfOthers, .int 0, .int v_o_named, .int (-1)]))] H := hP
      have hD : va_D A [(a0, .inr (3, [.int v_o_isOpen, .int v_o_isFresh, .int v_o_isOfOthers, .int 0, .int v_o_named, .int (-1)]))] := hD
      refine lv_iload_n hx hb d_LetterSet_putLetter_83 rfl (lv_at hl 0 rfl) ?_
      exact hret _ (v_o_isFresh, 0, v_o_named, (-1)) _ _ _ _ h (by decide +kernel) (hP.sub [0] rfl) (hD.sub [0] (by decide) rfl) hS d_LetterSet_putLetter_84
    · replace h := h.2 hc
      refine lv_iconst (v := 1) hx hb d_LetterSet_putLetter_67 (by decide) ?_
      refine lv_goto (tgt := 72) hx hb d_LetterSet_putLetter_68 (by decide) ?_
      refine lv_istore_n (lv' := [(2, .int 1), (0, .ref a0), (1, .int x1)]) hx hb d_LetterSet_putLetter_72 rfl hl (by decide) rfl (fun ls hl => ?_)
      refine lv_aload_n hx hb d_LetterSet_putLetter_73 rfl (lv_at hl 1 rfl) ?_
      refine lv_iconst (v := 0) hx hb d_LetterSet_putLetter_74 (by decide) ?_
      refine va_put (ci := 3) (v := .int 0) (ty := .boolean) hx hb htg in_LetterSet t_LetterSet tok_LetterSet nm_LetterSet hown hK hP hD hS 0 rfl rfl 3 (by decide) (htg _ m_48) (fun _ h9 => h9) rfl (by decide +kernel) (by decide +kernel) (by decide +kernel) (Nat.le_of_ble_eq_true rfl) d_LetterSet_putLetter_75 (fun H locs hP hD hS => ?_)
      have hP : va_P G vwCl [(a0, .inr (3, [.int v_o_isOpen, .int v_o_isFresh, .int v_o_isOfOthers, .int 0, .int v_o_named, .int v_o_from]))] H := hP
      have hD : va_D A [(a0, .inr (3, [.int v_o_isOpen, .int v_o_isFresh, .int v_o_isOfOthers, .int 0, .int v_o_named, .int v_o_from]))] := hD
      refine lv_aload_n hx hb d_LetterSet_putLetter_78 rfl (lv_at hl 1 rfl) ?_
      refine lv_iconst (v := (-1)) hx hb d_LetterSet_putLetter_79 (by decide) ?_
      refine va_put (ci := 3) (v := .int (-1)) (ty := .int) hx hb htg in_LetterSet t_LetterSet tok_LetterSet nm_LetterSet hown hK hP hD hS 0 rfl rfl 5 (by decide) (htg _ m_50) (fun _ h9 => h9) rfl (by decide +kernel) rfl rfl (Nat.le_of_ble_eq_true rfl) d_LetterSet_putLetter_80 (fun H locs hP hD hS => ?_)
      have hP : va_P G vwCl [(a0, .inr (3, [.int v_o_isOpen, .int v_o_isFresh, .int v_o_isOfOthers, .int 0, .int v_o_named, .int (-1)]))] H := hP
      have hD : va_D A [(a0, .inr (3, [.int v_o_isOpen, .int v_o_isFresh, .int v_o_isOfOthers, .int 0, .int v_o_named, .int (-1)]))] := hD
      refine lv_iload_n hx hb d_LetterSet_putLetter_83 rfl (lv_at hl 0 rfl) ?_
      exact hret _ (v_o_isFresh, 0, v_o_named, (-1)) _ _ _ _ h (by decide +kernel) (hP.sub [0] rfl) (hD.sub [0] (by decide) rfl) hS d_LetterSet_putLetter_84
  have C_36 : ∀ (n : Nat) (l2 : Int32) (v_o_isFresh : Int32) (v_o_isBehindDash : Int32) (v_o_named : Int32) (v_o_from : Int32) (H : Heap) (locs : List Loc), va_P G vwCl [(a0, .inr (3, [.int v_o_isOpen, .int v_o_isFresh, .int v_o_isOfOthers, .int v_o_isBehindDash, .int v_o_named, .int v_o_from]))] H → va_D A [(a0, .inr (3, [.int v_o_isOpen, .int v_o_isFresh, .int v_o_isOfOthers, .int v_o_isBehindDash, .int v_o_named, .int v_o_from]))] → va_S A s.heap H locs → ∀ (ls : Array Slot), lv_has ls 3 [(0, .ref a0), (1, .int x1), (2, .int l2)] → p_LetterSet_putLetter_36 x1 post n l2 v_o_isFresh v_o_isBehindDash v_o_named v_o_from → W p l e { frames := 0, cells := 0, slots := 0, locals := 0 } s m ([.ref a0, .int x1] : List Value).toArray below meth c H locs 0 0 Q (F0 m 36 ls []) := by
    intro n
    induction n with
    | zero =>
      intro l2 v_o_isFresh v_o_isBehindDash v_o_named v_o_from  H locs hP hD hS ls hl h
      exact False.elim h
    | succ n ih =>
      intro l2 v_o_isFresh v_o_isBehindDash v_o_named v_o_from  H locs hP hD hS ls hl h
      refine lv_iload_n hx hb d_LetterSet_putLetter_36 rfl (lv_at hl 2 rfl) ?_
      refine lv_iload_n hx hb d_LetterSet_putLetter_37 rfl (lv_at hl 1 rfl) ?_
      refine lv_icmp_gt (tgt := 59) hx hb d_LetterSet_putLetter_38 (by decide) (fun hc => ?_) (fun hc => ?_)
      · replace h := h.1 hc
        exact C_59 v_o_isFresh v_o_isBehindDash v_o_named v_o_from  _ _ (hP.sub [0] rfl) (hD.sub [0] (by decide) rfl) hS _ (lv_sub hl [0, 1] rfl) h
      · replace h := h.2 hc
        refine lv_aload_n hx hb d_LetterSet_putLetter_41 rfl (lv_at hl 0 rfl) ?_
        refine lv_dup hx hb d_LetterSet_putLetter_42 rfl ?_
        refine va_get (ci := 3) (v := .int v_o_named) hx hb htg in_LetterSet hown hK hP 0 rfl rfl 4 (by decide) (htg _ m_49) (fun _ h9 => h9) rfl d_LetterSet_putLetter_43 ?_
        refine lv_iconst (v := 1) hx hb d_LetterSet_putLetter_46 (by decide) ?_
        refine lv_iload_n hx hb d_LetterSet_putLetter_47 rfl (lv_at hl 2 rfl) ?_
        refine lv_ishl hx hb d_LetterSet_putLetter_48 ?_
        refine lv_ior hx hb d_LetterSet_putLetter_49 ?_
        refine va_put (ci := 3) (v := .int (v_o_named ||| ((1 : Int32) <<< (l2 &&& 31)))) (ty := .int) hx hb htg in_LetterSet t_LetterSet tok_LetterSet nm_LetterSet hown hK hP hD hS 0 rfl rfl 4 (by decide) (htg _ m_49) (fun _ h9 => h9) rfl (by decide +kernel) rfl rfl (Nat.le_of_ble_eq_true rfl) d_LetterSet_putLetter_50 (fun H locs hP hD hS => ?_)
        have hP : va_P G vwCl [(a0, .inr (3, [.int v_o_isOpen, .int v_o_isFresh, .int v_o_isOfOthers, .int v_o_isBehindDash, .int (v_o_named ||| ((1 : Int32) <<< (l2 &&& 31))), .int v_o_from]))] H := hP
        have hD : va_D A [(a0, .inr (3, [.int v_o_isOpen, .int v_o_isFresh, .int v_o_isOfOthers, .int v_o_isBehindDash, .int (v_o_named ||| ((1 : Int32) <<< (l2 &&& 31))), .int v_o_from]))] := hD
        refine lv_iinc (v := (l2 + 1)) (lv' := [(2, .int (l2 + 1)), (0, .ref a0), (1, .int x1)]) hx hb d_LetterSet_putLetter_53 hl (k := 2) rfl (by first | rfl | decide) (by decide) rfl (fun ls hl => ?_)
        refine lv_goto (tgt := 36) hx hb d_LetterSet_putLetter_56 (by decide) ?_
        exact ih (l2 + 1) v_o_isFresh v_o_isBehindDash (v_o_named ||| ((1 : Int32) <<< (l2 &&& 31))) v_o_from  _ _ (hP.sub [0] rfl) (hD.sub [0] (by decide) rfl) hS _ (lv_sub hl [1, 2, 0] rfl) h
  refine lv_aload_n hx hb d_LetterSet_putLetter_0 rfl (lv_at hl 0 rfl) ?_
  refine lv_iconst (v := 0) hx hb d_LetterSet_putLetter_1 (by decide) ?_
  refine va_put (ci := 3) (v := .int 0) (ty := .boolean) hx hb htg in_LetterSet t_LetterSet tok_LetterSet nm_LetterSet hown hK hP hD hS 0 rfl rfl 1 (by decide) (htg _ m_46) (fun _ h9 => h9) rfl (by decide +kernel) (by decide +kernel) (by decide +kernel) (Nat.le_of_ble_eq_true rfl) d_LetterSet_putLetter_2 (fun H locs hP hD hS => ?_)
  have hP : va_P G vwCl [(a0, .inr (3, [.int v_o_isOpen, .int 0, .int v_o_isOfOthers, .int v_o_isBehindDash, .int v_o_named, .int v_o_from]))] H := hP
  have hD : va_D A [(a0, .inr (3, [.int v_o_isOpen, .int 0, .int v_o_isOfOthers, .int v_o_isBehindDash, .int v_o_named, .int v_o_from]))] := hD
  refine lv_aload_n hx hb d_LetterSet_putLetter_5 rfl (lv_at hl 0 rfl) ?_
  refine va_get (ci := 3) (v := .int v_o_isBehindDash) hx hb htg in_LetterSet hown hK hP 0 rfl rfl 3 (by decide) (htg _ m_48) (fun _ h9 => h9) rfl d_LetterSet_putLetter_6 ?_
  refine lv_if_ne (tgt := 31) hx hb d_LetterSet_putLetter_9 (by decide) (fun hc => ?_) (fun hc => ?_)
  · replace h := h.1 hc
    refine lv_aload_n hx hb d_LetterSet_putLetter_31 rfl (lv_at hl 0 rfl) ?_
    refine va_get (ci := 3) (v := .int v_o_from) hx hb htg in_LetterSet hown hK hP 0 rfl rfl 5 (by decide) (htg _ m_50) (fun _ h9 => h9) rfl d_LetterSet_putLetter_32 ?_
    refine lv_istore_n (lv' := [(2, .int v_o_from), (0, .ref a0), (1, .int x1)]) hx hb d_LetterSet_putLetter_35 rfl hl (by decide) rfl (fun ls hl => ?_)
    obtain ⟨k, h⟩ := h
    exact C_36 k v_o_from 0 v_o_isBehindDash v_o_named v_o_from  _ _ (hP.sub [0] rfl) (hD.sub [0] (by decide) rfl) hS _ (lv_sub hl [1, 2, 0] rfl) h
  · replace h := h.2 hc
    refine lv_aload_n hx hb d_LetterSet_putLetter_12 rfl (lv_at hl 0 rfl) ?_
    refine lv_dup hx hb d_LetterSet_putLetter_13 rfl ?_
    refine va_get (ci := 3) (v := .int v_o_named) hx hb htg in_LetterSet hown hK hP 0 rfl rfl 4 (by decide) (htg _ m_49) (fun _ h9 => h9) rfl d_LetterSet_putLetter_14 ?_
    refine lv_iconst (v := 1) hx hb d_LetterSet_putLetter_17 (by decide) ?_
    refine lv_iload_n hx hb d_LetterSet_putLetter_18 rfl (lv_at hl 1 rfl) ?_
    refine lv_ishl hx hb d_LetterSet_putLetter_19 ?_
    refine lv_ior hx hb d_LetterSet_putLetter_20 ?_
    refine va_put (ci := 3) (v := .int (v_o_named ||| ((1 : Int32) <<< (x1 &&& 31)))) (ty := .int) hx hb htg in_LetterSet t_LetterSet tok_LetterSet nm_LetterSet hown hK hP hD hS 0 rfl rfl 4 (by decide) (htg _ m_49) (fun _ h9 => h9) rfl (by decide +kernel) rfl rfl (Nat.le_of_ble_eq_true rfl) d_LetterSet_putLetter_21 (fun H locs hP hD hS => ?_)
    have hP : va_P G vwCl [(a0, .inr (3, [.int v_o_isOpen, .int 0, .int v_o_isOfOthers, .int v_o_isBehindDash, .int (v_o_named ||| ((1 : Int32) <<< (x1 &&& 31))), .int v_o_from]))] H := hP
    have hD : va_D A [(a0, .inr (3, [.int v_o_isOpen, .int 0, .int v_o_isOfOthers, .int v_o_isBehindDash, .int (v_o_named ||| ((1 : Int32) <<< (x1 &&& 31))), .int v_o_from]))] := hD
    refine lv_aload_n hx hb d_LetterSet_putLetter_24 rfl (lv_at hl 0 rfl) ?_
    refine lv_iload_n hx hb d_LetterSet_putLetter_25 rfl (lv_at hl 1 rfl) ?_
    refine va_put (ci := 3) (v := .int x1) (ty := .int) hx hb htg in_LetterSet t_LetterSet tok_LetterSet nm_LetterSet hown hK hP hD hS 0 rfl rfl 5 (by decide) (htg _ m_50) (fun _ h9 => h9) rfl (by decide +kernel) rfl rfl (Nat.le_of_ble_eq_true rfl) d_LetterSet_putLetter_26 (fun H locs hP hD hS => ?_)
    have hP : va_P G vwCl [(a0, .inr (3, [.int v_o_isOpen, .int 0, .int v_o_isOfOthers, .int v_o_isBehindDash, .int (v_o_named ||| ((1 : Int32) <<< (x1 &&& 31))), .int x1]))] H := hP
    have hD : va_D A [(a0, .inr (3, [.int v_o_isOpen, .int 0, .int v_o_isOfOthers, .int v_o_isBehindDash, .int (v_o_named ||| ((1 : Int32) <<< (x1 &&& 31))), .int x1]))] := hD
    refine lv_iconst (v := 1) hx hb d_LetterSet_putLetter_29 (by decide) ?_
    exact hret _ (0, v_o_isBehindDash, (v_o_named ||| ((1 : Int32) <<< (x1 &&& 31))), x1) _ _ _ _ h (by decide +kernel) (hP.sub [0] rfl) (hD.sub [0] (by decide) rfl) hS d_LetterSet_putLetter_30
