theorem d_GapFinder_init_0 : decode c_GapFinder_init 0 = .ok (.aload_n 0, 1) := by decide +kernel
theorem d_GapFinder_init_1 : decode c_GapFinder_init 1 = .ok (.invokespecial 3, 3) := by decide +kernel
theorem d_GapFinder_init_4 : decode c_GapFinder_init 4 = .ok (.aload_n 0, 1) := by decide +kernel
theorem d_GapFinder_init_5 : decode c_GapFinder_init 5 = .ok (.iconst 0, 1) := by decide +kernel
theorem d_GapFinder_init_6 : decode c_GapFinder_init 6 = .ok (.putfield 9, 3) := by decide +kernel
theorem d_GapFinder_init_9 : decode c_GapFinder_init 9 = .ok (.aload_n 0, 1) := by decide +kernel
theorem d_GapFinder_init_10 : decode c_GapFinder_init 10 = .ok (.iconst 0, 1) := by decide +kernel
theorem d_GapFinder_init_11 : decode c_GapFinder_init 11 = .ok (.putfield 15, 3) := by decide +kernel
theorem d_GapFinder_init_14 : decode c_GapFinder_init 14 = .ok (.aload_n 0, 1) := by decide +kernel
theorem d_GapFinder_init_15 : decode c_GapFinder_init 15 = .ok (.iconst 0, 1) := by decide +kernel
theorem d_GapFinder_init_16 : decode c_GapFinder_init 16 = .ok (.putfield 18, 3) := by decide +kernel
theorem d_GapFinder_init_19 : decode c_GapFinder_init 19 = .ok (.aload_n 0, 1) := by decide +kernel
theorem d_GapFinder_init_20 : decode c_GapFinder_init 20 = .ok (.aload_n 1, 1) := by decide +kernel
theorem d_GapFinder_init_21 : decode c_GapFinder_init 21 = .ok (.putfield 21, 3) := by decide +kernel
theorem d_GapFinder_init_24 : decode c_GapFinder_init 24 = .ok (.aload_n 0, 1) := by decide +kernel
theorem d_GapFinder_init_25 : decode c_GapFinder_init 25 = .ok (.aload_n 1, 1) := by decide +kernel
theorem d_GapFinder_init_26 : decode c_GapFinder_init 26 = .ok (.invokevirtual 25, 3) := by decide +kernel
theorem d_GapFinder_init_29 : decode c_GapFinder_init 29 = .ok (.newarray .int, 2) := by decide +kernel
theorem d_GapFinder_init_31 : decode c_GapFinder_init 31 = .ok (.putfield 31, 3) := by decide +kernel
theorem d_GapFinder_init_34 : decode c_GapFinder_init 34 = .ok (.aload_n 0, 1) := by decide +kernel
theorem d_GapFinder_init_35 : decode c_GapFinder_init 35 = .ok (.aload_n 1, 1) := by decide +kernel
theorem d_GapFinder_init_36 : decode c_GapFinder_init 36 = .ok (.invokevirtual 25, 3) := by decide +kernel
theorem d_GapFinder_init_39 : decode c_GapFinder_init 39 = .ok (.newarray .boolean, 2) := by decide +kernel
theorem d_GapFinder_init_41 : decode c_GapFinder_init 41 = .ok (.putfield 35, 3) := by decide +kernel
theorem d_GapFinder_init_44 : decode c_GapFinder_init 44 = .ok (.aload_n 0, 1) := by decide +kernel
theorem d_GapFinder_init_45 : decode c_GapFinder_init 45 = .ok (.aload_n 1, 1) := by decide +kernel
theorem d_GapFinder_init_46 : decode c_GapFinder_init 46 = .ok (.invokevirtual 25, 3) := by decide +kernel
theorem d_GapFinder_init_49 : decode c_GapFinder_init 49 = .ok (.newarray .int, 2) := by decide +kernel
theorem d_GapFinder_init_51 : decode c_GapFinder_init 51 = .ok (.putfield 39, 3) := by decide +kernel
theorem d_GapFinder_init_54 : decode c_GapFinder_init 54 = .ok (.aload_n 0, 1) := by decide +kernel
theorem d_GapFinder_init_55 : decode c_GapFinder_init 55 = .ok (.aload_n 1, 1) := by decide +kernel
theorem d_GapFinder_init_56 : decode c_GapFinder_init 56 = .ok (.invokevirtual 25, 3) := by decide +kernel
theorem d_GapFinder_init_59 : decode c_GapFinder_init 59 = .ok (.newarray .int, 2) := by decide +kernel
theorem d_GapFinder_init_61 : decode c_GapFinder_init 61 = .ok (.putfield 42, 3) := by decide +kernel
theorem d_GapFinder_init_64 : decode c_GapFinder_init 64 = .ok (.aload_n 0, 1) := by decide +kernel
theorem d_GapFinder_init_65 : decode c_GapFinder_init 65 = .ok (.aload_n 1, 1) := by decide +kernel
theorem d_GapFinder_init_66 : decode c_GapFinder_init 66 = .ok (.invokevirtual 25, 3) := by decide +kernel
theorem d_GapFinder_init_69 : decode c_GapFinder_init 69 = .ok (.newarray .int, 2) := by decide +kernel
theorem d_GapFinder_init_71 : decode c_GapFinder_init 71 = .ok (.putfield 45, 3) := by decide +kernel
theorem d_GapFinder_init_74 : decode c_GapFinder_init 74 = .ok (.return_, 1) := by decide +kernel
theorem d_GapFinder_settle_0 : decode c_GapFinder_settle 0 = .ok (.aload_n 0, 1) := by decide +kernel
theorem d_GapFinder_settle_1 : decode c_GapFinder_settle 1 = .ok (.getfield 45, 3) := by decide +kernel
theorem d_GapFinder_settle_4 : decode c_GapFinder_settle 4 = .ok (.aload_n 0, 1) := by decide +kernel
theorem d_GapFinder_settle_5 : decode c_GapFinder_settle 5 = .ok (.getfield 15, 3) := by decide +kernel
theorem d_GapFinder_settle_8 : decode c_GapFinder_settle 8 = .ok (.iload_n 1, 1) := by decide +kernel
theorem d_GapFinder_settle_9 : decode c_GapFinder_settle 9 = .ok (.iastore, 1) := by decide +kernel
theorem d_GapFinder_settle_10 : decode c_GapFinder_settle 10 = .ok (.aload_n 0, 1) := by decide +kernel
theorem d_GapFinder_settle_11 : decode c_GapFinder_settle 11 = .ok (.dup, 1) := by decide +kernel
theorem d_GapFinder_settle_12 : decode c_GapFinder_settle 12 = .ok (.getfield 15, 3) := by decide +kernel
theorem d_GapFinder_settle_15 : decode c_GapFinder_settle 15 = .ok (.iconst 1, 1) := by decide +kernel
theorem d_GapFinder_settle_16 : decode c_GapFinder_settle 16 = .ok (.iadd, 1) := by decide +kernel
theorem d_GapFinder_settle_17 : decode c_GapFinder_settle 17 = .ok (.putfield 15, 3) := by decide +kernel
theorem d_GapFinder_settle_20 : decode c_GapFinder_settle 20 = .ok (.return_, 1) := by decide +kernel
theorem d_GapFinder_meetFollowers_0 : decode c_GapFinder_meetFollowers 0 = .ok (.iconst 0, 1) := by decide +kernel
theorem d_GapFinder_meetFollowers_1 : decode c_GapFinder_meetFollowers 1 = .ok (.istore_n 2, 1) := by decide +kernel
theorem d_GapFinder_meetFollowers_2 : decode c_GapFinder_meetFollowers 2 = .ok (.iload_n 2, 1) := by decide +kernel
theorem d_GapFinder_meetFollowers_3 : decode c_GapFinder_meetFollowers 3 = .ok (.bipush 6, 2) := by decide +kernel
theorem d_GapFinder_meetFollowers_5 : decode c_GapFinder_meetFollowers 5 = .ok (.if_icmp .ge 89, 3) := by decide +kernel
theorem d_GapFinder_meetFollowers_8 : decode c_GapFinder_meetFollowers 8 = .ok (.aload_n 0, 1) := by decide +kernel
theorem d_GapFinder_meetFollowers_9 : decode c_GapFinder_meetFollowers 9 = .ok (.getfield 21, 3) := by decide +kernel
theorem d_GapFinder_meetFollowers_12 : decode c_GapFinder_meetFollowers 12 = .ok (.iload_n 1, 1) := by decide +kernel
theorem d_GapFinder_meetFollowers_13 : decode c_GapFinder_meetFollowers 13 = .ok (.iload_n 2, 1) := by decide +kernel
theorem d_GapFinder_meetFollowers_14 : decode c_GapFinder_meetFollowers 14 = .ok (.invokevirtual 62, 3) := by decide +kernel
theorem d_GapFinder_meetFollowers_17 : decode c_GapFinder_meetFollowers 17 = .ok (.istore_n 3, 1) := by decide +kernel
theorem d_GapFinder_meetFollowers_18 : decode c_GapFinder_meetFollowers 18 = .ok (.iload_n 3, 1) := by decide +kernel
theorem d_GapFinder_meetFollowers_19 : decode c_GapFinder_meetFollowers 19 = .ok (.iconst (-1), 1) := by decide +kernel
theorem d_GapFinder_meetFollowers_20 : decode c_GapFinder_meetFollowers 20 = .ok (.if_icmp .ne 6, 3) := by decide +kernel
theorem d_GapFinder_meetFollowers_23 : decode c_GapFinder_meetFollowers 23 = .ok (.goto 65, 3) := by decide +kernel
theorem d_GapFinder_meetFollowers_26 : decode c_GapFinder_meetFollowers 26 = .ok (.aload_n 0, 1) := by decide +kernel
theorem d_GapFinder_meetFollowers_27 : decode c_GapFinder_meetFollowers 27 = .ok (.getfield 21, 3) := by decide +kernel
theorem d_GapFinder_meetFollowers_30 : decode c_GapFinder_meetFollowers 30 = .ok (.iload_n 3, 1) := by decide +kernel
theorem d_GapFinder_meetFollowers_31 : decode c_GapFinder_meetFollowers 31 = .ok (.invokevirtual 48, 3) := by decide +kernel
theorem d_GapFinder_meetFollowers_34 : decode c_GapFinder_meetFollowers 34 = .ok (.ifCond .eq 11, 3) := by decide +kernel
theorem d_GapFinder_meetFollowers_37 : decode c_GapFinder_meetFollowers 37 = .ok (.aload_n 0, 1) := by decide +kernel
theorem d_GapFinder_meetFollowers_38 : decode c_GapFinder_meetFollowers 38 = .ok (.iconst 1, 1) := by decide +kernel
theorem d_GapFinder_meetFollowers_39 : decode c_GapFinder_meetFollowers 39 = .ok (.putfield 18, 3) := by decide +kernel
theorem d_GapFinder_meetFollowers_42 : decode c_GapFinder_meetFollowers 42 = .ok (.goto 46, 3) := by decide +kernel
theorem d_GapFinder_meetFollowers_45 : decode c_GapFinder_meetFollowers 45 = .ok (.aload_n 0, 1) := by decide +kernel
theorem d_GapFinder_meetFollowers_46 : decode c_GapFinder_meetFollowers 46 = .ok (.getfield 35, 3) := by decide +kernel
theorem d_GapFinder_meetFollowers_49 : decode c_GapFinder_meetFollowers 49 = .ok (.iload_n 3, 1) := by decide +kernel
theorem d_GapFinder_meetFollowers_50 : decode c_GapFinder_meetFollowers 50 = .ok (.baload, 1) := by decide +kernel
theorem d_GapFinder_meetFollowers_51 : decode c_GapFinder_meetFollowers 51 = .ok (.ifCond .ne 37, 3) := by decide +kernel
theorem d_GapFinder_meetFollowers_54 : decode c_GapFinder_meetFollowers 54 = .ok (.aload_n 0, 1) := by decide +kernel
theorem d_GapFinder_meetFollowers_55 : decode c_GapFinder_meetFollowers 55 = .ok (.getfield 35, 3) := by decide +kernel
theorem d_GapFinder_meetFollowers_58 : decode c_GapFinder_meetFollowers 58 = .ok (.iload_n 3, 1) := by decide +kernel
theorem d_GapFinder_meetFollowers_59 : decode c_GapFinder_meetFollowers 59 = .ok (.iconst 1, 1) := by decide +kernel
theorem d_GapFinder_meetFollowers_60 : decode c_GapFinder_meetFollowers 60 = .ok (.bastore, 1) := by decide +kernel
theorem d_GapFinder_meetFollowers_61 : decode c_GapFinder_meetFollowers 61 = .ok (.aload_n 0, 1) := by decide +kernel
theorem d_GapFinder_meetFollowers_62 : decode c_GapFinder_meetFollowers 62 = .ok (.getfield 42, 3) := by decide +kernel
theorem d_GapFinder_meetFollowers_65 : decode c_GapFinder_meetFollowers 65 = .ok (.iload_n 3, 1) := by decide +kernel
theorem d_GapFinder_meetFollowers_66 : decode c_GapFinder_meetFollowers 66 = .ok (.iconst 1, 1) := by decide +kernel
theorem d_GapFinder_meetFollowers_67 : decode c_GapFinder_meetFollowers 67 = .ok (.iastore, 1) := by decide +kernel
theorem d_GapFinder_meetFollowers_68 : decode c_GapFinder_meetFollowers 68 = .ok (.aload_n 0, 1) := by decide +kernel
theorem d_GapFinder_meetFollowers_69 : decode c_GapFinder_meetFollowers 69 = .ok (.getfield 31, 3) := by decide +kernel
theorem d_GapFinder_meetFollowers_72 : decode c_GapFinder_meetFollowers 72 = .ok (.aload_n 0, 1) := by decide +kernel
theorem d_GapFinder_meetFollowers_73 : decode c_GapFinder_meetFollowers 73 = .ok (.getfield 9, 3) := by decide +kernel
theorem d_GapFinder_meetFollowers_76 : decode c_GapFinder_meetFollowers 76 = .ok (.iload_n 3, 1) := by decide +kernel
theorem d_GapFinder_meetFollowers_77 : decode c_GapFinder_meetFollowers 77 = .ok (.iastore, 1) := by decide +kernel
theorem d_GapFinder_meetFollowers_78 : decode c_GapFinder_meetFollowers 78 = .ok (.aload_n 0, 1) := by decide +kernel
theorem d_GapFinder_meetFollowers_79 : decode c_GapFinder_meetFollowers 79 = .ok (.dup, 1) := by decide +kernel
theorem d_GapFinder_meetFollowers_80 : decode c_GapFinder_meetFollowers 80 = .ok (.getfield 9, 3) := by decide +kernel
theorem d_GapFinder_meetFollowers_83 : decode c_GapFinder_meetFollowers 83 = .ok (.iconst 1, 1) := by decide +kernel
theorem d_GapFinder_meetFollowers_84 : decode c_GapFinder_meetFollowers 84 = .ok (.iadd, 1) := by decide +kernel
theorem d_GapFinder_meetFollowers_85 : decode c_GapFinder_meetFollowers 85 = .ok (.putfield 9, 3) := by decide +kernel
theorem d_GapFinder_meetFollowers_88 : decode c_GapFinder_meetFollowers 88 = .ok (.iinc 2 1, 3) := by decide +kernel
theorem d_GapFinder_meetFollowers_91 : decode c_GapFinder_meetFollowers 91 = .ok (.goto (-89), 3) := by decide +kernel
theorem d_GapFinder_meetFollowers_94 : decode c_GapFinder_meetFollowers 94 = .ok (.return_, 1) := by decide +kernel
theorem d_GapFinder_countWaysIn_0 : decode c_GapFinder_countWaysIn 0 = .ok (.iconst 0, 1) := by decide +kernel
theorem d_GapFinder_countWaysIn_1 : decode c_GapFinder_countWaysIn 1 = .ok (.istore_n 1, 1) := by decide +kernel
theorem d_GapFinder_countWaysIn_2 : decode c_GapFinder_countWaysIn 2 = .ok (.iload_n 1, 1) := by decide +kernel
theorem d_GapFinder_countWaysIn_3 : decode c_GapFinder_countWaysIn 3 = .ok (.aload_n 0, 1) := by decide +kernel
theorem d_GapFinder_countWaysIn_4 : decode c_GapFinder_countWaysIn 4 = .ok (.getfield 9, 3) := by decide +kernel
theorem d_GapFinder_countWaysIn_7 : decode c_GapFinder_countWaysIn 7 = .ok (.if_icmp .ge 53, 3) := by decide +kernel
theorem d_GapFinder_countWaysIn_10 : decode c_GapFinder_countWaysIn 10 = .ok (.iconst 0, 1) := by decide +kernel
theorem d_GapFinder_countWaysIn_11 : decode c_GapFinder_countWaysIn 11 = .ok (.istore_n 2, 1) := by decide +kernel
theorem d_GapFinder_countWaysIn_12 : decode c_GapFinder_countWaysIn 12 = .ok (.iload_n 2, 1) := by decide +kernel
theorem d_GapFinder_countWaysIn_13 : decode c_GapFinder_countWaysIn 13 = .ok (.bipush 6, 2) := by decide +kernel
theorem d_GapFinder_countWaysIn_15 : decode c_GapFinder_countWaysIn 15 = .ok (.if_icmp .ge 39, 3) := by decide +kernel
theorem d_GapFinder_countWaysIn_18 : decode c_GapFinder_countWaysIn 18 = .ok (.aload_n 0, 1) := by decide +kernel
theorem d_GapFinder_countWaysIn_19 : decode c_GapFinder_countWaysIn 19 = .ok (.getfield 21, 3) := by decide +kernel
theorem d_GapFinder_countWaysIn_22 : decode c_GapFinder_countWaysIn 22 = .ok (.aload_n 0, 1) := by decide +kernel
theorem d_GapFinder_countWaysIn_23 : decode c_GapFinder_countWaysIn 23 = .ok (.getfield 31, 3) := by decide +kernel
theorem d_GapFinder_countWaysIn_26 : decode c_GapFinder_countWaysIn 26 = .ok (.iload_n 1, 1) := by decide +kernel
theorem d_GapFinder_countWaysIn_27 : decode c_GapFinder_countWaysIn 27 = .ok (.iaload, 1) := by decide +kernel
theorem d_GapFinder_countWaysIn_28 : decode c_GapFinder_countWaysIn 28 = .ok (.iload_n 2, 1) := by decide +kernel
theorem d_GapFinder_countWaysIn_29 : decode c_GapFinder_countWaysIn 29 = .ok (.invokevirtual 62, 3) := by decide +kernel
theorem d_GapFinder_countWaysIn_32 : decode c_GapFinder_countWaysIn 32 = .ok (.istore_n 3, 1) := by decide +kernel
theorem d_GapFinder_countWaysIn_33 : decode c_GapFinder_countWaysIn 33 = .ok (.iload_n 3, 1) := by decide +kernel
theorem d_GapFinder_countWaysIn_34 : decode c_GapFinder_countWaysIn 34 = .ok (.iconst (-1), 1) := by decide +kernel
theorem d_GapFinder_countWaysIn_35 : decode c_GapFinder_countWaysIn 35 = .ok (.if_icmp .eq 13, 3) := by decide +kernel
theorem d_GapFinder_countWaysIn_38 : decode c_GapFinder_countWaysIn 38 = .ok (.aload_n 0, 1) := by decide +kernel
theorem d_GapFinder_countWaysIn_39 : decode c_GapFinder_countWaysIn 39 = .ok (.getfield 39, 3) := by decide +kernel
theorem d_GapFinder_countWaysIn_42 : decode c_GapFinder_countWaysIn 42 = .ok (.iload_n 3, 1) := by decide +kernel
theorem d_GapFinder_countWaysIn_43 : decode c_GapFinder_countWaysIn 43 = .ok (.dup2, 1) := by decide +kernel
theorem d_GapFinder_countWaysIn_44 : decode c_GapFinder_countWaysIn 44 = .ok (.iaload, 1) := by decide +kernel
theorem d_GapFinder_countWaysIn_45 : decode c_GapFinder_countWaysIn 45 = .ok (.iconst 1, 1) := by decide +kernel
theorem d_GapFinder_countWaysIn_46 : decode c_GapFinder_countWaysIn 46 = .ok (.iadd, 1) := by decide +kernel
theorem d_GapFinder_countWaysIn_47 : decode c_GapFinder_countWaysIn 47 = .ok (.iastore, 1) := by decide +kernel
theorem d_GapFinder_countWaysIn_48 : decode c_GapFinder_countWaysIn 48 = .ok (.iinc 2 1, 3) := by decide +kernel
theorem d_GapFinder_countWaysIn_51 : decode c_GapFinder_countWaysIn 51 = .ok (.goto (-39), 3) := by decide +kernel
theorem d_GapFinder_countWaysIn_54 : decode c_GapFinder_countWaysIn 54 = .ok (.iinc 1 1, 3) := by decide +kernel
theorem d_GapFinder_countWaysIn_57 : decode c_GapFinder_countWaysIn 57 = .ok (.goto (-55), 3) := by decide +kernel
theorem d_GapFinder_countWaysIn_60 : decode c_GapFinder_countWaysIn 60 = .ok (.iconst 0, 1) := by decide +kernel
theorem d_GapFinder_countWaysIn_61 : decode c_GapFinder_countWaysIn 61 = .ok (.istore_n 1, 1) := by decide +kernel
theorem d_GapFinder_countWaysIn_62 : decode c_GapFinder_countWaysIn 62 = .ok (.iload_n 1, 1) := by decide +kernel
theorem d_GapFinder_countWaysIn_63 : decode c_GapFinder_countWaysIn 63 = .ok (.aload_n 0, 1) := by decide +kernel
theorem d_GapFinder_countWaysIn_64 : decode c_GapFinder_countWaysIn 64 = .ok (.getfield 9, 3) := by decide +kernel
theorem d_GapFinder_countWaysIn_67 : decode c_GapFinder_countWaysIn 67 = .ok (.if_icmp .ge 33, 3) := by decide +kernel
theorem d_GapFinder_countWaysIn_70 : decode c_GapFinder_countWaysIn 70 = .ok (.aload_n 0, 1) := by decide +kernel
theorem d_GapFinder_countWaysIn_71 : decode c_GapFinder_countWaysIn 71 = .ok (.getfield 39, 3) := by decide +kernel
theorem d_GapFinder_countWaysIn_74 : decode c_GapFinder_countWaysIn 74 = .ok (.aload_n 0, 1) := by decide +kernel
theorem d_GapFinder_countWaysIn_75 : decode c_GapFinder_countWaysIn 75 = .ok (.getfield 31, 3) := by decide +kernel
theorem d_GapFinder_countWaysIn_78 : decode c_GapFinder_countWaysIn 78 = .ok (.iload_n 1, 1) := by decide +kernel
theorem d_GapFinder_countWaysIn_79 : decode c_GapFinder_countWaysIn 79 = .ok (.iaload, 1) := by decide +kernel
theorem d_GapFinder_countWaysIn_80 : decode c_GapFinder_countWaysIn 80 = .ok (.iaload, 1) := by decide +kernel
theorem d_GapFinder_countWaysIn_81 : decode c_GapFinder_countWaysIn 81 = .ok (.ifCond .ne 13, 3) := by decide +kernel
theorem d_GapFinder_countWaysIn_84 : decode c_GapFinder_countWaysIn 84 = .ok (.aload_n 0, 1) := by decide +kernel
theorem d_GapFinder_countWaysIn_85 : decode c_GapFinder_countWaysIn 85 = .ok (.aload_n 0, 1) := by decide +kernel
theorem d_GapFinder_countWaysIn_86 : decode c_GapFinder_countWaysIn 86 = .ok (.getfield 31, 3) := by decide +kernel
theorem d_GapFinder_countWaysIn_89 : decode c_GapFinder_countWaysIn 89 = .ok (.iload_n 1, 1) := by decide +kernel
theorem d_GapFinder_countWaysIn_90 : decode c_GapFinder_countWaysIn 90 = .ok (.iaload, 1) := by decide +kernel
theorem d_GapFinder_countWaysIn_91 : decode c_GapFinder_countWaysIn 91 = .ok (.invokevirtual 66, 3) := by decide +kernel
theorem d_GapFinder_countWaysIn_94 : decode c_GapFinder_countWaysIn 94 = .ok (.iinc 1 1, 3) := by decide +kernel
theorem d_GapFinder_countWaysIn_97 : decode c_GapFinder_countWaysIn 97 = .ok (.goto (-35), 3) := by decide +kernel
theorem d_GapFinder_countWaysIn_100 : decode c_GapFinder_countWaysIn 100 = .ok (.return_, 1) := by decide +kernel
theorem d_GapFinder_passOn_0 : decode c_GapFinder_passOn 0 = .ok (.aload_n 0, 1) := by decide +kernel
theorem d_GapFinder_passOn_1 : decode c_GapFinder_passOn 1 = .ok (.getfield 42, 3) := by decide +kernel
theorem d_GapFinder_passOn_4 : decode c_GapFinder_passOn 4 = .ok (.iload_n 1, 1) := by decide +kernel
theorem d_GapFinder_passOn_5 : decode c_GapFinder_passOn 5 = .ok (.iaload, 1) := by decide +kernel
theorem d_GapFinder_passOn_6 : decode c_GapFinder_passOn 6 = .ok (.iconst 1, 1) := by decide +kernel
theorem d_GapFinder_passOn_7 : decode c_GapFinder_passOn 7 = .ok (.iadd, 1) := by decide +kernel
theorem d_GapFinder_passOn_8 : decode c_GapFinder_passOn 8 = .ok (.istore_n 2, 1) := by decide +kernel
theorem d_GapFinder_passOn_9 : decode c_GapFinder_passOn 9 = .ok (.iconst 0, 1) := by decide +kernel
theorem d_GapFinder_passOn_10 : decode c_GapFinder_passOn 10 = .ok (.istore_n 3, 1) := by decide +kernel
theorem d_GapFinder_passOn_11 : decode c_GapFinder_passOn 11 = .ok (.iload_n 3, 1) := by decide +kernel
theorem d_GapFinder_passOn_12 : decode c_GapFinder_passOn 12 = .ok (.bipush 6, 2) := by decide +kernel
theorem d_GapFinder_passOn_14 : decode c_GapFinder_passOn 14 = .ok (.if_icmp .ge 101, 3) := by decide +kernel
theorem d_GapFinder_passOn_17 : decode c_GapFinder_passOn 17 = .ok (.aload_n 0, 1) := by decide +kernel
theorem d_GapFinder_passOn_18 : decode c_GapFinder_passOn 18 = .ok (.getfield 21, 3) := by decide +kernel
theorem d_GapFinder_passOn_21 : decode c_GapFinder_passOn 21 = .ok (.iload_n 1, 1) := by decide +kernel
theorem d_GapFinder_passOn_22 : decode c_GapFinder_passOn 22 = .ok (.iload_n 3, 1) := by decide +kernel
theorem d_GapFinder_passOn_23 : decode c_GapFinder_passOn 23 = .ok (.invokevirtual 62, 3) := by decide +kernel
theorem d_GapFinder_passOn_26 : decode c_GapFinder_passOn 26 = .ok (.istore 4, 2) := by decide +kernel
theorem d_GapFinder_passOn_28 : decode c_GapFinder_passOn 28 = .ok (.iload 4, 2) := by decide +kernel
theorem d_GapFinder_passOn_30 : decode c_GapFinder_passOn 30 = .ok (.iconst (-1), 1) := by decide +kernel
theorem d_GapFinder_passOn_31 : decode c_GapFinder_passOn 31 = .ok (.if_icmp .ne 6, 3) := by decide +kernel
theorem d_GapFinder_passOn_34 : decode c_GapFinder_passOn 34 = .ok (.goto 75, 3) := by decide +kernel
theorem d_GapFinder_passOn_37 : decode c_GapFinder_passOn 37 = .ok (.aload_n 0, 1) := by decide +kernel
theorem d_GapFinder_passOn_38 : decode c_GapFinder_passOn 38 = .ok (.getfield 21, 3) := by decide +kernel
theorem d_GapFinder_passOn_41 : decode c_GapFinder_passOn 41 = .ok (.iload 4, 2) := by decide +kernel
theorem d_GapFinder_passOn_43 : decode c_GapFinder_passOn 43 = .ok (.invokevirtual 48, 3) := by decide +kernel
theorem d_GapFinder_passOn_46 : decode c_GapFinder_passOn 46 = .ok (.ifCond .eq 18, 3) := by decide +kernel
theorem d_GapFinder_passOn_49 : decode c_GapFinder_passOn 49 = .ok (.aload_n 0, 1) := by decide +kernel
theorem d_GapFinder_passOn_50 : decode c_GapFinder_passOn 50 = .ok (.aload_n 0, 1) := by decide +kernel
theorem d_GapFinder_passOn_51 : decode c_GapFinder_passOn 51 = .ok (.getfield 18, 3) := by decide +kernel
theorem d_GapFinder_passOn_54 : decode c_GapFinder_passOn 54 = .ok (.iload_n 2, 1) := by decide +kernel
theorem d_GapFinder_passOn_55 : decode c_GapFinder_passOn 55 = .ok (.invokestatic 69, 3) := by decide +kernel
theorem d_GapFinder_passOn_58 : decode c_GapFinder_passOn 58 = .ok (.putfield 18, 3) := by decide +kernel
theorem d_GapFinder_passOn_61 : decode c_GapFinder_passOn 61 = .ok (.goto 48, 3) := by decide +kernel
theorem d_GapFinder_passOn_64 : decode c_GapFinder_passOn 64 = .ok (.aload_n 0, 1) := by decide +kernel
theorem d_GapFinder_passOn_65 : decode c_GapFinder_passOn 65 = .ok (.getfield 42, 3) := by decide +kernel
theorem d_GapFinder_passOn_68 : decode c_GapFinder_passOn 68 = .ok (.iload 4, 2) := by decide +kernel
theorem d_GapFinder_passOn_70 : decode c_GapFinder_passOn 70 = .ok (.aload_n 0, 1) := by decide +kernel
theorem d_GapFinder_passOn_71 : decode c_GapFinder_passOn 71 = .ok (.getfield 42, 3) := by decide +kernel
theorem d_GapFinder_passOn_74 : decode c_GapFinder_passOn 74 = .ok (.iload 4, 2) := by decide +kernel
theorem d_GapFinder_passOn_76 : decode c_GapFinder_passOn 76 = .ok (.iaload, 1) := by decide +kernel
theorem d_GapFinder_passOn_77 : decode c_GapFinder_passOn 77 = .ok (.iload_n 2, 1) := by decide +kernel
theorem d_GapFinder_passOn_78 : decode c_GapFinder_passOn 78 = .ok (.invokestatic 69, 3) := by decide +kernel
theorem d_GapFinder_passOn_81 : decode c_GapFinder_passOn 81 = .ok (.iastore, 1) := by decide +kernel
theorem d_GapFinder_passOn_82 : decode c_GapFinder_passOn 82 = .ok (.aload_n 0, 1) := by decide +kernel
theorem d_GapFinder_passOn_83 : decode c_GapFinder_passOn 83 = .ok (.getfield 39, 3) := by decide +kernel
theorem d_GapFinder_passOn_86 : decode c_GapFinder_passOn 86 = .ok (.iload 4, 2) := by decide +kernel
theorem d_GapFinder_passOn_88 : decode c_GapFinder_passOn 88 = .ok (.dup2, 1) := by decide +kernel
theorem d_GapFinder_passOn_89 : decode c_GapFinder_passOn 89 = .ok (.iaload, 1) := by decide +kernel
theorem d_GapFinder_passOn_90 : decode c_GapFinder_passOn 90 = .ok (.iconst 1, 1) := by decide +kernel
theorem d_GapFinder_passOn_91 : decode c_GapFinder_passOn 91 = .ok (.isub, 1) := by decide +kernel
theorem d_GapFinder_passOn_92 : decode c_GapFinder_passOn 92 = .ok (.iastore, 1) := by decide +kernel
theorem d_GapFinder_passOn_93 : decode c_GapFinder_passOn 93 = .ok (.aload_n 0, 1) := by decide +kernel
theorem d_GapFinder_passOn_94 : decode c_GapFinder_passOn 94 = .ok (.getfield 39, 3) := by decide +kernel
theorem d_GapFinder_passOn_97 : decode c_GapFinder_passOn 97 = .ok (.iload 4, 2) := by decide +kernel
theorem d_GapFinder_passOn_99 : decode c_GapFinder_passOn 99 = .ok (.iaload, 1) := by decide +kernel
theorem d_GapFinder_passOn_100 : decode c_GapFinder_passOn 100 = .ok (.ifCond .ne 9, 3) := by decide +kernel
theorem d_GapFinder_passOn_103 : decode c_GapFinder_passOn 103 = .ok (.aload_n 0, 1) := by decide +kernel
theorem d_GapFinder_passOn_104 : decode c_GapFinder_passOn 104 = .ok (.iload 4, 2) := by decide +kernel
theorem d_GapFinder_passOn_106 : decode c_GapFinder_passOn 106 = .ok (.invokevirtual 66, 3) := by decide +kernel
theorem d_GapFinder_passOn_109 : decode c_GapFinder_passOn 109 = .ok (.iinc 3 1, 3) := by decide +kernel
theorem d_GapFinder_passOn_112 : decode c_GapFinder_passOn 112 = .ok (.goto (-101), 3) := by decide +kernel
theorem d_GapFinder_passOn_115 : decode c_GapFinder_passOn 115 = .ok (.return_, 1) := by decide +kernel
theorem d_GapFinder_widest_0 : decode c_GapFinder_widest 0 = .ok (.iconst 0, 1) := by decide +kernel
theorem d_GapFinder_widest_1 : decode c_GapFinder_widest 1 = .ok (.istore_n 1, 1) := by decide +kernel
theorem d_GapFinder_widest_2 : decode c_GapFinder_widest 2 = .ok (.iload_n 1, 1) := by decide +kernel
theorem d_GapFinder_widest_3 : decode c_GapFinder_widest 3 = .ok (.aload_n 0, 1) := by decide +kernel
theorem d_GapFinder_widest_4 : decode c_GapFinder_widest 4 = .ok (.getfield 21, 3) := by decide +kernel
theorem d_GapFinder_widest_7 : decode c_GapFinder_widest 7 = .ok (.invokevirtual 25, 3) := by decide +kernel
theorem d_GapFinder_widest_10 : decode c_GapFinder_widest 10 = .ok (.if_icmp .ge 25, 3) := by decide +kernel
theorem d_GapFinder_widest_13 : decode c_GapFinder_widest 13 = .ok (.aload_n 0, 1) := by decide +kernel
theorem d_GapFinder_widest_14 : decode c_GapFinder_widest 14 = .ok (.getfield 21, 3) := by decide +kernel
theorem d_GapFinder_widest_17 : decode c_GapFinder_widest 17 = .ok (.iload_n 1, 1) := by decide +kernel
theorem d_GapFinder_widest_18 : decode c_GapFinder_widest 18 = .ok (.invokevirtual 48, 3) := by decide +kernel
theorem d_GapFinder_widest_21 : decode c_GapFinder_widest 21 = .ok (.ifCond .eq 8, 3) := by decide +kernel
theorem d_GapFinder_widest_24 : decode c_GapFinder_widest 24 = .ok (.aload_n 0, 1) := by decide +kernel
theorem d_GapFinder_widest_25 : decode c_GapFinder_widest 25 = .ok (.iload_n 1, 1) := by decide +kernel
theorem d_GapFinder_widest_26 : decode c_GapFinder_widest 26 = .ok (.invokevirtual 52, 3) := by decide +kernel
theorem d_GapFinder_widest_29 : decode c_GapFinder_widest 29 = .ok (.iinc 1 1, 3) := by decide +kernel
theorem d_GapFinder_widest_32 : decode c_GapFinder_widest 32 = .ok (.goto (-30), 3) := by decide +kernel
theorem d_GapFinder_widest_35 : decode c_GapFinder_widest 35 = .ok (.iconst 0, 1) := by decide +kernel
theorem d_GapFinder_widest_36 : decode c_GapFinder_widest 36 = .ok (.istore_n 1, 1) := by decide +kernel
theorem d_GapFinder_widest_37 : decode c_GapFinder_widest 37 = .ok (.iload_n 1, 1) := by decide +kernel
theorem d_GapFinder_widest_38 : decode c_GapFinder_widest 38 = .ok (.aload_n 0, 1) := by decide +kernel
theorem d_GapFinder_widest_39 : decode c_GapFinder_widest 39 = .ok (.getfield 9, 3) := by decide +kernel
theorem d_GapFinder_widest_42 : decode c_GapFinder_widest 42 = .ok (.if_icmp .ge 28, 3) := by decide +kernel
theorem d_GapFinder_widest_45 : decode c_GapFinder_widest 45 = .ok (.iload_n 1, 1) := by decide +kernel
theorem d_GapFinder_widest_46 : decode c_GapFinder_widest 46 = .ok (.aload_n 0, 1) := by decide +kernel
theorem d_GapFinder_widest_47 : decode c_GapFinder_widest 47 = .ok (.getfield 31, 3) := by decide +kernel
theorem d_GapFinder_widest_50 : decode c_GapFinder_widest 50 = .ok (.arraylength, 1) := by decide +kernel
theorem d_GapFinder_widest_51 : decode c_GapFinder_widest 51 = .ok (.if_icmp .ge 19, 3) := by decide +kernel
theorem d_GapFinder_widest_54 : decode c_GapFinder_widest 54 = .ok (.aload_n 0, 1) := by decide +kernel
theorem d_GapFinder_widest_55 : decode c_GapFinder_widest 55 = .ok (.aload_n 0, 1) := by decide +kernel
theorem d_GapFinder_widest_56 : decode c_GapFinder_widest 56 = .ok (.getfield 31, 3) := by decide +kernel
theorem d_GapFinder_widest_59 : decode c_GapFinder_widest 59 = .ok (.iload_n 1, 1) := by decide +kernel
theorem d_GapFinder_widest_60 : decode c_GapFinder_widest 60 = .ok (.iaload, 1) := by decide +kernel
theorem d_GapFinder_widest_61 : decode c_GapFinder_widest 61 = .ok (.invokevirtual 52, 3) := by decide +kernel
theorem d_GapFinder_widest_64 : decode c_GapFinder_widest 64 = .ok (.iinc 1 1, 3) := by decide +kernel
theorem d_GapFinder_widest_67 : decode c_GapFinder_widest 67 = .ok (.goto (-30), 3) := by decide +kernel
theorem d_GapFinder_widest_70 : decode c_GapFinder_widest 70 = .ok (.aload_n 0, 1) := by decide +kernel
theorem d_GapFinder_widest_71 : decode c_GapFinder_widest 71 = .ok (.invokevirtual 56, 3) := by decide +kernel
theorem d_GapFinder_widest_74 : decode c_GapFinder_widest 74 = .ok (.iconst 0, 1) := by decide +kernel
theorem d_GapFinder_widest_75 : decode c_GapFinder_widest 75 = .ok (.istore_n 1, 1) := by decide +kernel
theorem d_GapFinder_widest_76 : decode c_GapFinder_widest 76 = .ok (.iload_n 1, 1) := by decide +kernel
theorem d_GapFinder_widest_77 : decode c_GapFinder_widest 77 = .ok (.aload_n 0, 1) := by decide +kernel
theorem d_GapFinder_widest_78 : decode c_GapFinder_widest 78 = .ok (.getfield 15, 3) := by decide +kernel
theorem d_GapFinder_widest_81 : decode c_GapFinder_widest 81 = .ok (.if_icmp .ge 28, 3) := by decide +kernel
theorem d_GapFinder_widest_84 : decode c_GapFinder_widest 84 = .ok (.iload_n 1, 1) := by decide +kernel
theorem d_GapFinder_widest_85 : decode c_GapFinder_widest 85 = .ok (.aload_n 0, 1) := by decide +kernel
theorem d_GapFinder_widest_86 : decode c_GapFinder_widest 86 = .ok (.getfield 45, 3) := by decide +kernel
theorem d_GapFinder_widest_89 : decode c_GapFinder_widest 89 = .ok (.arraylength, 1) := by decide +kernel
theorem d_GapFinder_widest_90 : decode c_GapFinder_widest 90 = .ok (.if_icmp .ge 19, 3) := by decide +kernel
theorem d_GapFinder_widest_93 : decode c_GapFinder_widest 93 = .ok (.aload_n 0, 1) := by decide +kernel
theorem d_GapFinder_widest_94 : decode c_GapFinder_widest 94 = .ok (.aload_n 0, 1) := by decide +kernel
theorem d_GapFinder_widest_95 : decode c_GapFinder_widest 95 = .ok (.getfield 45, 3) := by decide +kernel
theorem d_GapFinder_widest_98 : decode c_GapFinder_widest 98 = .ok (.iload_n 1, 1) := by decide +kernel
theorem d_GapFinder_widest_99 : decode c_GapFinder_widest 99 = .ok (.iaload, 1) := by decide +kernel
theorem d_GapFinder_widest_100 : decode c_GapFinder_widest 100 = .ok (.invokevirtual 59, 3) := by decide +kernel
theorem d_GapFinder_widest_103 : decode c_GapFinder_widest 103 = .ok (.iinc 1 1, 3) := by decide +kernel
theorem d_GapFinder_widest_106 : decode c_GapFinder_widest 106 = .ok (.goto (-30), 3) := by decide +kernel
theorem d_GapFinder_widest_109 : decode c_GapFinder_widest 109 = .ok (.aload_n 0, 1) := by decide +kernel
theorem d_GapFinder_widest_110 : decode c_GapFinder_widest 110 = .ok (.getfield 15, 3) := by decide +kernel
theorem d_GapFinder_widest_113 : decode c_GapFinder_widest 113 = .ok (.aload_n 0, 1) := by decide +kernel
theorem d_GapFinder_widest_114 : decode c_GapFinder_widest 114 = .ok (.getfield 9, 3) := by decide +kernel
theorem d_GapFinder_widest_117 : decode c_GapFinder_widest 117 = .ok (.if_icmp .ge 7, 3) := by decide +kernel
theorem d_GapFinder_widest_120 : decode c_GapFinder_widest 120 = .ok (.iconst (-1), 1) := by decide +kernel
theorem d_GapFinder_widest_121 : decode c_GapFinder_widest 121 = .ok (.goto 7, 3) := by decide +kernel
theorem d_GapFinder_widest_124 : decode c_GapFinder_widest 124 = .ok (.aload_n 0, 1) := by decide +kernel
theorem d_GapFinder_widest_125 : decode c_GapFinder_widest 125 = .ok (.getfield 18, 3) := by decide +kernel
theorem d_GapFinder_widest_128 : decode c_GapFinder_widest 128 = .ok (.ireturn, 1) := by decide +kernel
theorem d_Machine_widestGap_0 : decode c_Machine_widestGap 0 = .ok (.aload_n 0, 1) := by decide +kernel
theorem d_Machine_widestGap_1 : decode c_Machine_widestGap 1 = .ok (.getfield 15, 3) := by decide +kernel
theorem d_Machine_widestGap_4 : decode c_Machine_widestGap 4 = .ok (.ifCond .ne 23, 3) := by decide +kernel
theorem d_Machine_widestGap_7 : decode c_Machine_widestGap 7 = .ok (.aload_n 0, 1) := by decide +kernel
theorem d_Machine_widestGap_8 : decode c_Machine_widestGap 8 = .ok (.new 37, 3) := by decide +kernel
theorem d_Machine_widestGap_11 : decode c_Machine_widestGap 11 = .ok (.dup, 1) := by decide +kernel
theorem d_Machine_widestGap_12 : decode c_Machine_widestGap 12 = .ok (.aload_n 0, 1) := by decide +kernel
theorem d_Machine_widestGap_13 : decode c_Machine_widestGap 13 = .ok (.invokespecial 39, 3) := by decide +kernel
theorem d_Machine_widestGap_16 : decode c_Machine_widestGap 16 = .ok (.invokevirtual 42, 3) := by decide +kernel
theorem d_Machine_widestGap_19 : decode c_Machine_widestGap 19 = .ok (.putfield 9, 3) := by decide +kernel
theorem d_Machine_widestGap_22 : decode c_Machine_widestGap 22 = .ok (.aload_n 0, 1) := by decide +kernel
theorem d_Machine_widestGap_23 : decode c_Machine_widestGap 23 = .ok (.iconst 1, 1) := by decide +kernel
theorem d_Machine_widestGap_24 : decode c_Machine_widestGap 24 = .ok (.putfield 15, 3) := by decide +kernel
theorem d_Machine_widestGap_27 : decode c_Machine_widestGap 27 = .ok (.aload_n 0, 1) := by decide +kernel
theorem d_Machine_widestGap_28 : decode c_Machine_widestGap 28 = .ok (.getfield 9, 3) := by decide +kernel
theorem d_Machine_widestGap_31 : decode c_Machine_widestGap 31 = .ok (.ireturn, 1) := by decide +kernel
def p_GapFinder_init (n_p1_winners : Nat) (post : Int32 → Int32 → Int32 → Nat → (Nat → Int32) → Nat → (Nat → Int32) → Nat → (Nat → Int32) → Nat → (Nat → Int32) → Nat → (Nat → Int32) → Prop) : Prop := (p_Machine_size n_p1_winners (fun r1 => (¬ r1 < 0 ∧ r1.toNatClampNeg ≤ 512 ∧ (p_Machine_size n_p1_winners (fun r3 => (¬ r3 < 0 ∧ r3.toNatClampNeg ≤ 512 ∧ (p_Machine_size n_p1_winners (fun r5 => (¬ r5 < 0 ∧ r5.toNatClampNeg ≤ 512 ∧ (p_Machine_size n_p1_winners (fun r7 => (¬ r7 < 0 ∧ r7.toNatClampNeg ≤ 512 ∧ (p_Machine_size n_p1_winners (fun r9 => (¬ r9 < 0 ∧ r9.toNatClampNeg ≤ 512 ∧ (post 0 0 0 r1.toNatClampNeg (fun _ => 0) r3.toNatClampNeg (fun _ => 0) r5.toNatClampNeg (fun _ => 0) r7.toNatClampNeg (fun _ => 0) r9.toNatClampNeg (fun _ => 0)))))))))))))))))
set_option maxHeartbeats 4000000 in
set_option maxRecDepth 100000 in
theorem k_GapFinder_init (l : Launch) (G : va_G) (K : Nat → ClassId) (a0 a1 a1_winners a1_after : Nat) (sz : Nat) (v_p1_gap : Int32) (v_p1_isGapKnown : Int32) (n_p1_winners : Nat) (f_p1_winners : (Nat → Int32)) (post : Int32 → Int32 → Int32 → Nat → (Nat → Int32) → Nat → (Nat → Int32) → Nat → (Nat → Int32) → Nat → (Nat → Int32) → Nat → (Nat → Int32) → Prop) (h : p_GapFinder_init n_p1_winners post) : MWv l y_GapFinder_init (.code y_GapFinder_init c_GapFinder_init 2 none) { frames := 1, cells := 5, slots := 2560, locals := 20 } G K [(a0, .inr (2, [.null, .null, .int 0, .null, .null, .null, .null, .int 0, .int 0]))] [(a1, .inr (4, [.ref a1_after, .ref a1_winners, .int v_p1_gap, .int v_p1_isGapKnown])), (a1_winners, .inl (K 0, n_p1_winners, .inl f_p1_winners))] [.ref a0, .ref a1] sz (fun (u : Int32 × Int32 × Int32 × Nat × (Nat → Int32) × Nat × (Nat → Int32) × Nat × (Nat → Int32) × Nat × (Nat → Int32) × Nat × (Nat → Int32) × Nat × Nat × Nat × Nat × Nat) => post u.1 u.2.1 u.2.2.1 u.2.2.2.1 u.2.2.2.2.1 u.2.2.2.2.2.1 u.2.2.2.2.2.2.1 u.2.2.2.2.2.2.2.1 u.2.2.2.2.2.2.2.2.1 u.2.2.2.2.2.2.2.2.2.1 u.2.2.2.2.2.2.2.2.2.2.1 u.2.2.2.2.2.2.2.2.2.2.2.1 u.2.2.2.2.2.2.2.2.2.2.2.2.1) (fun u => [(a0, .inr (2, [.ref a1, .ref u.2.2.2.2.2.2.2.2.2.2.2.2.2.1, .int u.1, .ref u.2.2.2.2.2.2.2.2.2.2.2.2.2.2.1, .ref u.2.2.2.2.2.2.2.2.2.2.2.2.2.2.2.1, .ref u.2.2.2.2.2.2.2.2.2.2.2.2.2.2.2.2.1, .ref u.2.2.2.2.2.2.2.2.2.2.2.2.2.2.2.2.2, .int u.2.1, .int u.2.2.1])), (u.2.2.2.2.2.2.2.2.2.2.2.2.2.1, .inl (K 0, u.2.2.2.1, .inl u.2.2.2.2.1)), (u.2.2.2.2.2.2.2.2.2.2.2.2.2.2.1, .inl (K 1, u.2.2.2.2.2.1, .inl u.2.2.2.2.2.2.1)), (u.2.2.2.2.2.2.2.2.2.2.2.2.2.2.2.1, .inl (K 0, u.2.2.2.2.2.2.2.1, .inl u.2.2.2.2.2.2.2.2.1)), (u.2.2.2.2.2.2.2.2.2.2.2.2.2.2.2.2.1, .inl (K 0, u.2.2.2.2.2.2.2.2.2.1, .inl u.2.2.2.2.2.2.2.2.2.2.1)), (u.2.2.2.2.2.2.2.2.2.2.2.2.2.2.2.2.2, .inl (K 0, u.2.2.2.2.2.2.2.2.2.2.2.1, .inl u.2.2.2.2.2.2.2.2.2.2.2.2.1))]) 5 2560 := by
  refine g_metWv (cc := c_GapFinder_init) (maxL := 2) (ret := none) (by decide) rfl rfl (Nat.le_of_ble_eq_true rfl) ?_
  intro p e s m below meth c A Q hx hb hml hown hname htg hK hN hP hD hA hS hR rN hret ls hl
  have hl : lv_has ls 2 [(0, .ref a0), (1, .ref a1)] := hl
  refine lv_aload_n hx hb d_GapFinder_init_0 rfl (lv_at hl 0 rfl) ?_
  refine W.objInit hx hb hown (htg _ m_387) (htg _ m_23) (htg _ m_24) rfl (by rw [hml]; exact hl.1) rfl d_GapFinder_init_1 (Nat.le_of_ble_eq_true rfl) (Nat.le_of_ble_eq_true rfl) ?_
  refine W.eq (g2 := F0 m 4 ls []) rfl ?_
  refine lv_aload_n hx hb d_GapFinder_init_4 rfl (lv_at hl 0 rfl) ?_
  refine lv_iconst (v := 0) hx hb d_GapFinder_init_5 (by decide) ?_
  refine va_put (ci := 2) (v := .int 0) (ty := .int) hx hb htg in_GapFinder t_GapFinder tok_GapFinder nm_GapFinder hown hK hP hD hS 0 rfl rfl 2 (by decide) (htg _ m_391) (fun _ h9 => h9) rfl (by decide +kernel) rfl rfl (Nat.le_of_ble_eq_true rfl) d_GapFinder_init_6 (fun H locs hP hD hS => ?_)
  have hP : va_P G vwCl [(a0, .inr (2, [.null, .null, .int 0, .null, .null, .null, .null, .int 0, .int 0]))] H := hP
  have hD : va_D A [(a0, .inr (2, [.null, .null, .int 0, .null, .null, .null, .null, .int 0, .int 0]))] := hD
  refine lv_aload_n hx hb d_GapFinder_init_9 rfl (lv_at hl 0 rfl) ?_
  refine lv_iconst (v := 0) hx hb d_GapFinder_init_10 (by decide) ?_
  refine va_put (ci := 2) (v := .int 0) (ty := .int) hx hb htg in_GapFinder t_GapFinder tok_GapFinder nm_GapFinder hown hK hP hD hS 0 rfl rfl 7 (by decide) (htg _ m_396) (fun _ h9 => h9) rfl (by decide +kernel) rfl rfl (Nat.le_of_ble_eq_true rfl) d_GapFinder_init_11 (fun H locs hP hD hS => ?_)
  have hP : va_P G vwCl [(a0, .inr (2, [.null, .null, .int 0, .null, .null, .null, .null, .int 0, .int 0]))] H := hP
  have hD : va_D A [(a0, .inr (2, [.null, .null, .int 0, .null, .null, .null, .null, .int 0, .int 0]))] := hD
  refine lv_aload_n hx hb d_GapFinder_init_14 rfl (lv_at hl 0 rfl) ?_
  refine lv_iconst (v := 0) hx hb d_GapFinder_init_15 (by decide) ?_
  refine va_put (ci := 2) (v := .int 0) (ty := .int) hx hb htg in_GapFinder t_GapFinder tok_GapFinder nm_GapFinder hown hK hP hD hS 0 rfl rfl 8 (by decide) (htg _ m_397) (fun _ h9 => h9) rfl (by decide +kernel) rfl rfl (Nat.le_of_ble_eq_true rfl) d_GapFinder_init_16 (fun H locs hP hD hS => ?_)
  have hP : va_P G vwCl [(a0, .inr (2, [.null, .null, .int 0, .null, .null, .null, .null, .int 0, .int 0]))] H := hP
  have hD : va_D A [(a0, .inr (2, [.null, .null, .int 0, .null, .null, .null, .null, .int 0, .int 0]))] := hD
  refine lv_aload_n hx hb d_GapFinder_init_19 rfl (lv_at hl 0 rfl) ?_
  refine lv_aload_n hx hb d_GapFinder_init_20 rfl (lv_at hl 1 rfl) ?_
  refine va_putF (ci := 2) (v := .ref a1) (ty := (.object "TokenBench$Machine")) hx hb htg in_GapFinder t_GapFinder tok_GapFinder nm_GapFinder hown hK hP hD hS 0 rfl rfl 0 (by decide) (htg _ m_389) (fun _ h9 => h9) rfl hname rfl (by decide +kernel) rfl rfl (Nat.le_of_ble_eq_true rfl) d_GapFinder_init_21 (fun H locs hP hD hS => ?_)
  have hP : va_P G vwCl [(a0, .inr (2, [.ref a1, .null, .int 0, .null, .null, .null, .null, .int 0, .int 0]))] H := hP
  have hD : va_D A [(a0, .inr (2, [.ref a1, .null, .int 0, .null, .null, .null, .null, .int 0, .int 0]))] := hD
  refine lv_aload_n hx hb d_GapFinder_init_24 rfl (lv_at hl 0 rfl) ?_
  refine lv_aload_n hx hb d_GapFinder_init_25 rfl (lv_at hl 1 rfl) ?_
  have hPc : va_P G vwCl [(a1, .inr (4, [.ref a1_after, .ref a1_winners, .int v_p1_gap, .int v_p1_isGapKnown])), (a1_winners, .inl (K 0, n_p1_winners, .inl f_p1_winners))] _ := (gR hR rN hS).sub [0, 1] rfl
  refine vp_callSi (va_Run.run (va_runV (As := []) (rest := [.ref a0]) ⟨hx, hb, hml, hown, htg⟩ (k_Machine_size l G K a1 a1_winners a1_after v_p1_gap v_p1_isGapKnown n_p1_winners f_p1_winners _ h) (cwV 0 htg (gGoodV m_388 m_352 m_353 m_9 m_354) rfl rfl rfl (by decide +kernel) ⟨(Nat.le_of_ble_eq_true rfl), (Nat.le_of_ble_eq_true rfl)⟩) (gS_preV (ci := 4) (q0 := 0) hK hN hPc rfl rfl) rfl rfl hl.1 rfl (lv_room (Nat.le_of_ble_eq_true rfl)) d_GapFinder_init_26 ⟨(Nat.le_of_ble_eq_true rfl), (Nat.le_of_ble_eq_true rfl)⟩)) (fun r1 h => ?_)
  obtain ⟨hn0, hnB, h⟩ := h
  refine g_newiB (B := 512) hx hb (htg _ m_39) hK hP hD hS hA hn0 hnB (by decide) (Nat.le_of_ble_eq_true rfl) (Nat.le_of_ble_eq_true rfl) d_GapFinder_init_29 (fun q2 H hP hD hS => ?_)
  have hP : va_P G vwCl [(a0, .inr (2, [.ref a1, .null, .int 0, .null, .null, .null, .null, .int 0, .int 0])), (q2, .inl (K 0, r1.toNatClampNeg, .inl (fun _ => 0)))] H := hP
  have hD : va_D A [(a0, .inr (2, [.ref a1, .null, .int 0, .null, .null, .null, .null, .int 0, .int 0])), (q2, .inl (K 0, r1.toNatClampNeg, .inl (fun _ => 0)))] := hD
  refine va_putF (ci := 2) (v := .ref q2) (ty := (.array .int)) hx hb htg in_GapFinder t_GapFinder tok_GapFinder nm_GapFinder hown hK hP hD hS 0 rfl rfl 1 (by decide) (htg _ m_390) (fun _ h9 => h9) rfl hname rfl (by decide +kernel) rfl rfl (Nat.le_of_ble_eq_true rfl) d_GapFinder_init_31 (fun H locs hP hD hS => ?_)
  have hP : va_P G vwCl [(a0, .inr (2, [.ref a1, .ref q2, .int 0, .null, .null, .null, .null, .int 0, .int 0])), (q2, .inl (K 0, r1.toNatClampNeg, .inl (fun _ => 0)))] H := hP
  have hD : va_D A [(a0, .inr (2, [.ref a1, .ref q2, .int 0, .null, .null, .null, .null, .int 0, .int 0])), (q2, .inl (K 0, r1.toNatClampNeg, .inl (fun _ => 0)))] := hD
  refine lv_aload_n hx hb d_GapFinder_init_34 rfl (lv_at hl 0 rfl) ?_
  refine lv_aload_n hx hb d_GapFinder_init_35 rfl (lv_at hl 1 rfl) ?_
  have hPc : va_P G vwCl [(a1, .inr (4, [.ref a1_after, .ref a1_winners, .int v_p1_gap, .int v_p1_isGapKnown])), (a1_winners, .inl (K 0, n_p1_winners, .inl f_p1_winners))] _ := (gR hR rN hS).sub [0, 1] rfl
  refine vp_callSi (va_Run.run (va_runV (As := []) (rest := [.ref a0]) ⟨hx, hb, hml, hown, htg⟩ (k_Machine_size l G K a1 a1_winners a1_after v_p1_gap v_p1_isGapKnown n_p1_winners f_p1_winners _ h) (cwV 0 htg (gGoodV m_388 m_352 m_353 m_9 m_354) rfl rfl rfl (by decide +kernel) ⟨(Nat.le_of_ble_eq_true rfl), (Nat.le_of_ble_eq_true rfl)⟩) (gS_preV (ci := 4) (q0 := 0) hK hN hPc rfl rfl) rfl rfl hl.1 rfl (lv_room (Nat.le_of_ble_eq_true rfl)) d_GapFinder_init_36 ⟨(Nat.le_of_ble_eq_true rfl), (Nat.le_of_ble_eq_true rfl)⟩)) (fun r3 h => ?_)
  obtain ⟨hn0, hnB, h⟩ := h
  refine g_newzB (B := 512) hx hb (htg _ m_398) hK hP hD hS hA hn0 hnB (by decide) (Nat.le_of_ble_eq_true rfl) (Nat.le_of_ble_eq_true rfl) d_GapFinder_init_39 (fun q4 H hP hD hS => ?_)
  have hP : va_P G vwCl [(a0, .inr (2, [.ref a1, .ref q2, .int 0, .null, .null, .null, .null, .int 0, .int 0])), (q2, .inl (K 0, r1.toNatClampNeg, .inl (fun _ => 0))), (q4, .inl (K 1, r3.toNatClampNeg, .inl (fun _ => 0)))] H := hP
  have hD : va_D A [(a0, .inr (2, [.ref a1, .ref q2, .int 0, .null, .null, .null, .null, .int 0, .int 0])), (q2, .inl (K 0, r1.toNatClampNeg, .inl (fun _ => 0))), (q4, .inl (K 1, r3.toNatClampNeg, .inl (fun _ => 0)))] := hD
  refine va_putF (ci := 2) (v := .ref q4) (ty := (.array .boolean)) hx hb htg in_GapFinder t_GapFinder tok_GapFinder nm_GapFinder hown hK hP hD hS 0 rfl rfl 3 (by decide) (htg _ m_392) (fun _ h9 => h9) rfl hname rfl (by decide +kernel) rfl rfl (Nat.le_of_ble_eq_true rfl) d_GapFinder_init_41 (fun H locs hP hD hS => ?_)
  have hP : va_P G vwCl [(a0, .inr (2, [.ref a1, .ref q2, .int 0, .ref q4, .null, .null, .null, .int 0, .int 0])), (q2, .inl (K 0, r1.toNatClampNeg, .inl (fun _ => 0))), (q4, .inl (K 1, r3.toNatClampNeg, .inl (fun _ => 0)))] H := hP
  have hD : va_D A [(a0, .inr (2, [.ref a1, .ref q2, .int 0, .ref q4, .null, .null, .null, .int 0, .int 0])), (q2, .inl (K 0, r1.toNatClampNeg, .inl (fun _ => 0))), (q4, .inl (K 1, r3.toNatClampNeg, .inl (fun _ => 0)))] := hD
  refine lv_aload_n hx hb d_GapFinder_init_44 rfl (lv_at hl 0 rfl) ?_
  refine lv_aload_n hx hb d_GapFinder_init_45 rfl (lv_at hl 1 rfl) ?_
  have hPc : va_P G vwCl [(a1, .inr (4, [.ref a1_after, .ref a1_winners, .int v_p1_gap, .int v_p1_isGapKnown])), (a1_winners, .inl (K 0, n_p1_winners, .inl f_p1_winners))] _ := (gR hR rN hS).sub [0, 1] rfl
  refine vp_callSi (va_Run.run (va_runV (As := []) (rest := [.ref a0]) ⟨hx, hb, hml, hown, htg⟩ (k_Machine_size l G K a1 a1_winners a1_after v_p1_gap v_p1_isGapKnown n_p1_winners f_p1_winners _ h) (cwV 0 htg (gGoodV m_388 m_352 m_353 m_9 m_354) rfl rfl rfl (by decide +kernel) ⟨(Nat.le_of_ble_eq_true rfl), (Nat.le_of_ble_eq_true rfl)⟩) (gS_preV (ci := 4) (q0 := 0) hK hN hPc rfl rfl) rfl rfl hl.1 rfl (lv_room (Nat.le_of_ble_eq_true rfl)) d_GapFinder_init_46 ⟨(Nat.le_of_ble_eq_true rfl), (Nat.le_of_ble_eq_true rfl)⟩)) (fun r5 h => ?_)
  obtain ⟨hn0, hnB, h⟩ := h
  refine g_newiB (B := 512) hx hb (htg _ m_39) hK hP hD hS hA hn0 hnB (by decide) (Nat.le_of_ble_eq_true rfl) (Nat.le_of_ble_eq_true rfl) d_GapFinder_init_49 (fun q6 H hP hD hS => ?_)
  have hP : va_P G vwCl [(a0, .inr (2, [.ref a1, .ref q2, .int 0, .ref q4, .null, .null, .null, .int 0, .int 0])), (q2, .inl (K 0, r1.toNatClampNeg, .inl (fun _ => 0))), (q4, .inl (K 1, r3.toNatClampNeg, .inl (fun _ => 0))), (q6, .inl (K 0, r5.toNatClampNeg, .inl (fun _ => 0)))] H := hP
  have hD : va_D A [(a0, .inr (2, [.ref a1, .ref q2, .int 0, .ref q4, .null, .null, .null, .int 0, .int 0])), (q2, .inl (K 0, r1.toNatClampNeg, .inl (fun _ => 0))), (q4, .inl (K 1, r3.toNatClampNeg, .inl (fun _ => 0))), (q6, .inl (K 0, r5.toNatClampNeg, .inl (fun _ => 0)))] := hD
  refine va_putF (ci := 2) (v := .ref q6) (ty := (.array .int)) hx hb htg in_GapFinder t_GapFinder tok_GapFinder nm_GapFinder hown hK hP hD hS 0 rfl rfl 4 (by decide) (htg _ m_393) (fun _ h9 => h9) rfl hname rfl (by decide +kernel) rfl rfl (Nat.le_of_ble_eq_true rfl) d_GapFinder_init_51 (fun H locs hP hD hS => ?_)
  have hP : va_P G vwCl [(a0, .inr (2, [.ref a1, .ref q2, .int 0, .ref q4, .ref q6, .null, .null, .int 0, .int 0])), (q2, .inl (K 0, r1.toNatClampNeg, .inl (fun _ => 0))), (q4, .inl (K 1, r3.toNatClampNeg, .inl (fun _ => 0))), (q6, .inl (K 0, r5.toNatClampNeg, .inl (fun _ => 0)))] H := hP
  have hD : va_D A [(a0, .inr (2, [.ref a1, .ref q2, .int 0, .ref q4, .ref q6, .null, .null, .int 0, .int 0])), (q2, .inl (K 0, r1.toNatClampNeg, .inl (fun _ => 0))), (q4, .inl (K 1, r3.toNatClampNeg, .inl (fun _ => 0))), (q6, .inl (K 0, r5.toNatClampNeg, .inl (fun _ => 0)))] := hD
  refine lv_aload_n hx hb d_GapFinder_init_54 rfl (lv_at hl 0 rfl) ?_
  refine lv_aload_n hx hb d_GapFinder_init_55 rfl (lv_at hl 1 rfl) ?_
  have hPc : va_P G vwCl [(a1, .inr (4, [.ref a1_after, .ref a1_winners, .int v_p1_gap, .int v_p1_isGapKnown])), (a1_winners, .inl (K 0, n_p1_winners, .inl f_p1_winners))] _ := (gR hR rN hS).sub [0, 1] rfl
  refine vp_callSi (va_Run.run (va_runV (As := []) (rest := [.ref a0]) ⟨hx, hb, hml, hown, htg⟩ (k_Machine_size l G K a1 a1_winners a1_after v_p1_gap v_p1_isGapKnown n_p1_winners f_p1_winners _ h) (cwV 0 htg (gGoodV m_388 m_352 m_353 m_9 m_354) rfl rfl rfl (by decide +kernel) ⟨(Nat.le_of_ble_eq_true rfl), (Nat.le_of_ble_eq_true rfl)⟩) (gS_preV (ci := 4) (q0 := 0) hK hN hPc rfl rfl) rfl rfl hl.1 rfl (lv_room (Nat.le_of_ble_eq_true rfl)) d_GapFinder_init_56 ⟨(Nat.le_of_ble_eq_true rfl), (Nat.le_of_ble_eq_true rfl)⟩)) (fun r7 h => ?_)
  obtain ⟨hn0, hnB, h⟩ := h
  refine g_newiB (B := 512) hx hb (htg _ m_39) hK hP hD hS hA hn0 hnB (by decide) (Nat.le_of_ble_eq_true rfl) (Nat.le_of_ble_eq_true rfl) d_GapFinder_init_59 (fun q8 H hP hD hS => ?_)
  have hP : va_P G vwCl [(a0, .inr (2, [.ref a1, .ref q2, .int 0, .ref q4, .ref q6, .null, .null, .int 0, .int 0])), (q2, .inl (K 0, r1.toNatClampNeg, .inl (fun _ => 0))), (q4, .inl (K 1, r3.toNatClampNeg, .inl (fun _ => 0))), (q6, .inl (K 0, r5.toNatClampNeg, .inl (fun _ => 0))), (q8, .inl (K 0, r7.toNatClampNeg, .inl (fun _ => 0)))] H := hP
  have hD : va_D A [(a0, .inr (2, [.ref a1, .ref q2, .int 0, .ref q4, .ref q6, .null, .null, .int 0, .int 0])), (q2, .inl (K 0, r1.toNatClampNeg, .inl (fun _ => 0))), (q4, .inl (K 1, r3.toNatClampNeg, .inl (fun _ => 0))), (q6, .inl (K 0, r5.toNatClampNeg, .inl (fun _ => 0))), (q8, .inl (K 0, r7.toNatClampNeg, .inl (fun _ => 0)))] := hD
  refine va_putF (ci := 2) (v := .ref q8) (ty := (.array .int)) hx hb htg in_GapFinder t_GapFinder tok_GapFinder nm_GapFinder hown hK hP hD hS 0 rfl rfl 5 (by decide) (htg _ m_394) (fun _ h9 => h9) rfl hname rfl (by decide +kernel) rfl rfl (Nat.le_of_ble_eq_true rfl) d_GapFinder_init_61 (fun H locs hP hD hS => ?_)
  have hP : va_P G vwCl [(a0, .inr (2, [.ref a1, .ref q2, .int 0, .ref q4, .ref q6, .ref q8, .null, .int 0, .int 0])), (q2, .inl (K 0, r1.toNatClampNeg, .inl (fun _ => 0))), (q4, .inl (K 1, r3.toNatClampNeg, .inl (fun _ => 0))), (q6, .inl (K 0, r5.toNatClampNeg, .inl (fun _ => 0))), (q8, .inl (K 0, r7.toNatClampNeg, .inl (fun _ => 0)))] H := hP
  have hD : va_D A [(a0, .inr (2, [.ref a1, .ref q2, .int 0, .ref q4, .ref q6, .ref q8, .null, .int 0, .int 0])), (q2, .inl (K 0, r1.toNatClampNeg, .inl (fun _ => 0))), (q4, .inl (K 1, r3.toNatClampNeg, .inl (fun _ => 0))), (q6, .inl (K 0, r5.toNatClampNeg, .inl (fun _ => 0))), (q8, .inl (K 0, r7.toNatClampNeg, .inl (fun _ => 0)))] := hD
  refine lv_aload_n hx hb d_GapFinder_init_64 rfl (lv_at hl 0 rfl) ?_
  refine lv_aload_n hx hb d_GapFinder_init_65 rfl (lv_at hl 1 rfl) ?_
  have hPc : va_P G vwCl [(a1, .inr (4, [.ref a1_after, .ref a1_winners, .int v_p1_gap, .int v_p1_isGapKnown])), (a1_winners, .inl (K 0, n_p1_winners, .inl f_p1_winners))] _ := (gR hR rN hS).sub [0, 1] rfl
  refine vp_callSi (va_Run.run (va_runV (As := []) (rest := [.ref a0]) ⟨hx, hb, hml, hown, htg⟩ (k_Machine_size l G K a1 a1_winners a1_after v_p1_gap v_p1_isGapKnown n_p1_winners f_p1_winners _ h) (cwV 0 htg (gGoodV m_388 m_352 m_353 m_9 m_354) rfl rfl rfl (by decide +kernel) ⟨(Nat.le_of_ble_eq_true rfl), (Nat.le_of_ble_eq_true rfl)⟩) (gS_preV (ci := 4) (q0 := 0) hK hN hPc rfl rfl) rfl rfl hl.1 rfl (lv_room (Nat.le_of_ble_eq_true rfl)) d_GapFinder_init_66 ⟨(Nat.le_of_ble_eq_true rfl), (Nat.le_of_ble_eq_true rfl)⟩)) (fun r9 h => ?_)
  obtain ⟨hn0, hnB, h⟩ := h
  refine g_newiB (B := 512) hx hb (htg _ m_39) hK hP hD hS hA hn0 hnB (by decide) (Nat.le_of_ble_eq_true rfl) (Nat.le_of_ble_eq_true rfl) d_GapFinder_init_69 (fun q10 H hP hD hS => ?_)
  have hP : va_P G vwCl [(a0, .inr (2, [.ref a1, .ref q2, .int 0, .ref q4, .ref q6, .ref q8, .null, .int 0, .int 0])), (q2, .inl (K 0, r1.toNatClampNeg, .inl (fun _ => 0))), (q4, .inl (K 1, r3.toNatClampNeg, .inl (fun _ => 0))), (q6, .inl (K 0, r5.toNatClampNeg, .inl (fun _ => 0))), (q8, .inl (K 0, r7.toNatClampNeg, .inl (fun _ => 0))), (q10, .inl (K 0, r9.toNatClampNeg, .inl (fun _ => 0)))] H := hP
  have hD : va_D A [(a0, .inr (2, [.ref a1, .ref q2, .int 0, .ref q4, .ref q6, .ref q8, .null, .int 0, .int 0])), (q2, .inl (K 0, r1.toNatClampNeg, .inl (fun _ => 0))), (q4, .inl (K 1, r3.toNatClampNeg, .inl (fun _ => 0))), (q6, .inl (K 0, r5.toNatClampNeg, .inl (fun _ => 0))), (q8, .inl (K 0, r7.toNatClampNeg, .inl (fun _ => 0))), (q10, .inl (K 0, r9.toNatClampNeg, .inl (fun _ => 0)))] := hD
  refine va_putF (ci := 2) (v := .ref q10) (ty := (.array .int)) hx hb htg in_GapFinder t_GapFinder tok_GapFinder nm_GapFinder hown hK hP hD hS 0 rfl rfl 6 (by decide) (htg _ m_395) (fun _ h9 => h9) rfl hname rfl (by decide +kernel) rfl rfl (Nat.le_of_ble_eq_true rfl) d_GapFinder_init_71 (fun H locs hP hD hS => ?_)
  have hP : va_P G vwCl [(a0, .inr (2, [.ref a1, .ref q2, .int 0, .ref q4, .ref q6, .ref q8, .ref q10, .int 0, .int 0])), (q2, .inl (K 0, r1.toNatClampNeg, .inl (fun _ => 0))), (q4, .inl (K 1, r3.toNatClampNeg, .inl (fun _ => 0))), (q6, .inl (K 0, r5.toNatClampNeg, .inl (fun _ => 0))), (q8, .inl (K 0, r7.toNatClampNeg, .inl (fun _ => 0))), (q10, .inl (K 0, r9.toNatClampNeg, .inl (fun _ => 0)))] H := hP
  have hD : va_D A [(a0, .inr (2, [.ref a1, .ref q2, .int 0, .ref q4, .ref q6, .ref q8, .ref q10, .int 0, .int 0])), (q2, .inl (K 0, r1.toNatClampNeg, .inl (fun _ => 0))), (q4, .inl (K 1, r3.toNatClampNeg, .inl (fun _ => 0))), (q6, .inl (K 0, r5.toNatClampNeg, .inl (fun _ => 0))), (q8, .inl (K 0, r7.toNatClampNeg, .inl (fun _ => 0))), (q10, .inl (K 0, r9.toNatClampNeg, .inl (fun _ => 0)))] := hD
  exact hret (0, 0, 0, r1.toNatClampNeg, (fun _ => 0), r3.toNatClampNeg, (fun _ => 0), r5.toNatClampNeg, (fun _ => 0), r7.toNatClampNeg, (fun _ => 0), r9.toNatClampNeg, (fun _ => 0), q2, q4, q6, q8, q10) _ _ _ _ h (hP.sub [0, 1, 2, 3, 4, 5] rfl) (hD.sub [0, 1, 2, 3, 4, 5] (by decide) rfl) hS d_GapFinder_init_74
def p_GapFinder_settle (v_o_settledCount : Int32) (n_o_settled : Nat) (f_o_settled : (Nat → Int32)) (x1 : Int32) (post : Int32 → (Nat → Int32) → Prop) : Prop := (vp_in v_o_settledCount n_o_settled ∧ (post (v_o_settledCount + 1) (upd f_o_settled v_o_settledCount.toNatClampNeg x1)))
set_option maxHeartbeats 4000000 in
set_option maxRecDepth 100000 in
theorem k_GapFinder_settle (l : Launch) (G : va_G) (K : Nat → ClassId) (a0 a0_settled a0_machine a0_between a0_isBetween a0_waysIn a0_far : Nat) (sz : Nat) (v_o_betweenCount : Int32) (v_o_settledCount : Int32) (v_o_widest : Int32) (n_o_settled : Nat) (f_o_settled : (Nat → Int32)) (x1 : Int32) (post : Int32 → (Nat → Int32) → Prop) (h : p_GapFinder_settle v_o_settledCount n_o_settled f_o_settled x1 post) : MWv l y_GapFinder_settle (.code y_GapFinder_settle c_GapFinder_settle 2 none) { frames := 0, cells := 0, slots := 0, locals := 0 } G K [(a0, .inr (2, [.ref a0_machine, .ref a0_between, .int v_o_betweenCount, .ref a0_isBetween, .ref a0_waysIn, .ref a0_far, .ref a0_settled, .int v_o_settledCount, .int v_o_widest])), (a0_settled, .inl (K 0, n_o_settled, .inl f_o_settled))] [] [.ref a0, .int x1] sz (fun (u : Int32 × (Nat → Int32)) => post u.1 u.2) (fun u => [(a0, .inr (2, [.ref a0_machine, .ref a0_between, .int v_o_betweenCount, .ref a0_isBetween, .ref a0_waysIn, .ref a0_far, .ref a0_settled, .int u.1, .int v_o_widest])), (a0_settled, .inl (K 0, n_o_settled, .inl u.2))]) 0 0 := by
  refine g_metWv (cc := c_GapFinder_settle) (maxL := 2) (ret := none) (by decide) rfl rfl (Nat.le_of_ble_eq_true rfl) ?_
  intro p e s m below meth c A Q hx hb hml hown hname htg hK hN hP hD hA hS hR rN hret ls hl
  have hl : lv_has ls 2 [(0, .ref a0), (1, .int x1)] := hl
  refine lv_aload_n hx hb d_GapFinder_settle_0 rfl (lv_at hl 0 rfl) ?_
  refine va_get (ci := 2) (v := .ref a0_settled) hx hb htg in_GapFinder hown hK hP 0 rfl rfl 6 (by decide) (htg _ m_395) (fun _ h9 => h9) rfl d_GapFinder_settle_1 ?_
  refine lv_aload_n hx hb d_GapFinder_settle_4 rfl (lv_at hl 0 rfl) ?_
  refine va_get (ci := 2) (v := .int v_o_settledCount) hx hb htg in_GapFinder hown hK hP 0 rfl rfl 7 (by decide) (htg _ m_396) (fun _ h9 => h9) rfl d_GapFinder_settle_5 ?_
  refine lv_iload_n hx hb d_GapFinder_settle_8 rfl (lv_at hl 1 rfl) ?_
  obtain ⟨hin, h⟩ := h
  refine va_iast hx hb hK hP hD hS 1 0 rfl rfl hin d_GapFinder_settle_9 (fun H locs hP hD hS => ?_)
  have hP : va_P G vwCl [(a0, .inr (2, [.ref a0_machine, .ref a0_between, .int v_o_betweenCount, .ref a0_isBetween, .ref a0_waysIn, .ref a0_far, .ref a0_settled, .int v_o_settledCount, .int v_o_widest])), (a0_settled, .inl (K 0, n_o_settled, .inl (upd f_o_settled v_o_settledCount.toNatClampNeg x1)))] H := hP
  have hD : va_D A [(a0, .inr (2, [.ref a0_machine, .ref a0_between, .int v_o_betweenCount, .ref a0_isBetween, .ref a0_waysIn, .ref a0_far, .ref a0_settled, .int v_o_settledCount, .int v_o_widest])), (a0_settled, .inl (K 0, n_o_settled, .inl (upd f_o_settled v_o_settledCount.toNatClampNeg x1)))] := hD
  refine lv_aload_n hx hb d_GapFinder_settle_10 rfl (lv_at hl 0 rfl) ?_
  refine lv_dup hx hb d_GapFinder_settle_11 rfl ?_
  refine va_get (ci := 2) (v := .int v_o_settledCount) hx hb htg in_GapFinder hown hK hP 0 rfl rfl 7 (by decide) (htg _ m_396) (fun _ h9 => h9) rfl d_GapFinder_settle_12 ?_
  refine lv_iconst (v := 1) hx hb d_GapFinder_settle_15 (by decide) ?_
  refine lv_iadd hx hb d_GapFinder_settle_16 ?_
  refine va_put (ci := 2) (v := .int (v_o_settledCount + 1)) (ty := .int) hx hb htg in_GapFinder t_GapFinder tok_GapFinder nm_GapFinder hown hK hP hD hS 0 rfl rfl 7 (by decide) (htg _ m_396) (fun _ h9 => h9) rfl (by decide +kernel) rfl rfl (Nat.le_of_ble_eq_true rfl) d_GapFinder_settle_17 (fun H locs hP hD hS => ?_)
  have hP : va_P G vwCl [(a0, .inr (2, [.ref a0_machine, .ref a0_between, .int v_o_betweenCount, .ref a0_isBetween, .ref a0_waysIn, .ref a0_far, .ref a0_settled, .int (v_o_settledCount + 1), .int v_o_widest])), (a0_settled, .inl (K 0, n_o_settled, .inl (upd f_o_settled v_o_settledCount.toNatClampNeg x1)))] H := hP
  have hD : va_D A [(a0, .inr (2, [.ref a0_machine, .ref a0_between, .int v_o_betweenCount, .ref a0_isBetween, .ref a0_waysIn, .ref a0_far, .ref a0_settled, .int (v_o_settledCount + 1), .int v_o_widest])), (a0_settled, .inl (K 0, n_o_settled, .inl (upd f_o_settled v_o_settledCount.toNatClampNeg x1)))] := hD
  exact hret ((v_o_settledCount + 1), (upd f_o_settled v_o_settledCount.toNatClampNeg x1)) _ _ _ _ h (hP.sub [0, 1] rfl) (hD.sub [0, 1] (by decide) rfl) hS d_GapFinder_settle_20
def p_GapFinder_meetFollowers_2 (n_o_machine_winners : Nat) (f_o_machine_winners : (Nat → Int32)) (n_o_machine_after : Nat) (f_o_machine_after : (Nat → Int32)) (n_o_isBetween : Nat) (n_o_far : Nat) (n_o_between : Nat) (x1 : Int32) (post : Int32 → Int32 → (Nat → Int32) → (Nat → Int32) → (Nat → Int32) → Prop) : Nat → Int32 → Int32 → Int32 → (Nat → Int32) → (Nat → Int32) → (Nat → Int32) → Prop
  | 0, _, _, _, _, _, _ => False
  | n + 1, l2, v_o_betweenCount, v_o_widest, f_o_isBetween, f_o_far, f_o_between => ((6 ≤ l2 → (post v_o_betweenCount v_o_widest f_o_isBetween f_o_far f_o_between)) ∧ (¬ 6 ≤ l2 → (p_Machine_after n_o_machine_winners n_o_machine_after f_o_machine_after x1 l2 (fun r1201 => ((¬ r1201 = (-1) → (p_Machine_hasWinner n_o_machine_winners f_o_machine_winners r1201 (fun r1202 => ((r1202 = 0 → (vp_in r1201 n_o_isBetween ∧ ((¬ (f_o_isBetween r1201.toNatClampNeg) = 0 → (p_GapFinder_meetFollowers_2 n_o_machine_winners f_o_machine_winners n_o_machine_after f_o_machine_after n_o_isBetween n_o_far n_o_between x1 post n (l2 + 1) v_o_betweenCount v_o_widest f_o_isBetween f_o_far f_o_between)) ∧ ((f_o_isBetween r1201.toNatClampNeg) = 0 → (vp_in r1201 n_o_isBetween ∧ (vp_in r1201 n_o_far ∧ (vp_in v_o_betweenCount n_o_between ∧ (p_GapFinder_meetFollowers_2 n_o_machine_winners f_o_machine_winners n_o_machine_after f_o_machine_after n_o_isBetween n_o_far n_o_between x1 post n (l2 + 1) (v_o_betweenCount + 1) v_o_widest (upd f_o_isBetween r1201.toNatClampNeg (vp_nar .boolean 1)) (upd f_o_far r1201.toNatClampNeg 1) (upd f_o_between v_o_betweenCount.toNatClampNeg r1201))))))))) ∧ (¬ r1202 = 0 → (p_GapFinder_meetFollowers_2 n_o_machine_winners f_o_machine_winners n_o_machine_after f_o_machine_after n_o_isBetween n_o_far n_o_between x1 post n (l2 + 1) v_o_betweenCount 1 f_o_isBetween f_o_far f_o_between)))))) ∧ (r1201 = (-1) → (p_GapFinder_meetFollowers_2 n_o_machine_winners f_o_machine_winners n_o_machine_after f_o_machine_after n_o_isBetween n_o_far n_o_between x1 post n (l2 + 1) v_o_betweenCount v_o_widest f_o_isBetween f_o_far f_o_between)))))))
def p_GapFinder_meetFollowers (v_o_betweenCount : Int32) (v_o_widest : Int32) (n_o_machine_winners : Nat) (f_o_machine_winners : (Nat → Int32)) (n_o_machine_after : Nat) (f_o_machine_after : (Nat → Int32)) (n_o_isBetween : Nat) (f_o_isBetween : (Nat → Int32)) (n_o_far : Nat) (f_o_far : (Nat → Int32)) (n_o_between : Nat) (f_o_between : (Nat → Int32)) (x1 : Int32) (post : Int32 → Int32 → (Nat → Int32) → (Nat → Int32) → (Nat → Int32) → Prop) : Prop := (∃ k, p_GapFinder_meetFollowers_2 n_o_machine_winners f_o_machine_winners n_o_machine_after f_o_machine_after n_o_isBetween n_o_far n_o_between x1 post k 0 v_o_betweenCount v_o_widest f_o_isBetween f_o_far f_o_between)
set_option maxHeartbeats 4000000 in
set_option maxRecDepth 100000 in
theorem k_GapFinder_meetFollowers (l : Launch) (G : va_G) (K : Nat → ClassId) (a0 a0_machine a0_machine_winners a0_machine_after a0_isBetween a0_far a0_between a0_waysIn a0_settled : Nat) (sz : Nat) (v_o_betweenCount : Int32) (v_o_settledCount : Int32) (v_o_widest : Int32) (v_o_machine_gap : Int32) (v_o_machine_isGapKnown : Int32) (n_o_machine_winners : Nat) (f_o_machine_winners : (Nat → Int32)) (n_o_machine_after : Nat) (f_o_machine_after : (Nat → Int32)) (n_o_isBetween : Nat) (f_o_isBetween : (Nat → Int32)) (n_o_far : Nat) (f_o_far : (Nat → Int32)) (n_o_between : Nat) (f_o_between : (Nat → Int32)) (x1 : Int32) (post : Int32 → Int32 → (Nat → Int32) → (Nat → Int32) → (Nat → Int32) → Prop) (h : p_GapFinder_meetFollowers v_o_betweenCount v_o_widest n_o_machine_winners f_o_machine_winners n_o_machine_after f_o_machine_after n_o_isBetween f_o_isBetween n_o_far f_o_far n_o_between f_o_between x1 post) : MWv l y_GapFinder_meetFollowers (.code y_GapFinder_meetFollowers c_GapFinder_meetFollowers 4 none) { frames := 3, cells := 0, slots := 0, locals := 63 } G K [(a0, .inr (2, [.ref a0_machine, .ref a0_between, .int v_o_betweenCount, .ref a0_isBetween, .ref a0_waysIn, .ref a0_far, .ref a0_settled, .int v_o_settledCount, .int v_o_widest])), (a0_isBetween, .inl (K 1, n_o_isBetween, .inl f_o_isBetween)), (a0_far, .inl (K 0, n_o_far, .inl f_o_far)), (a0_between, .inl (K 0, n_o_between, .inl f_o_between))] [(a0_machine, .inr (4, [.ref a0_machine_after, .ref a0_machine_winners, .int v_o_machine_gap, .int v_o_machine_isGapKnown])), (a0_machine_winners, .inl (K 0, n_o_machine_winners, .inl f_o_machine_winners)), (a0_machine_after, .inl (K 0, n_o_machine_after, .inl f_o_machine_after))] [.ref a0, .int x1] sz (fun (u : Int32 × Int32 × (Nat → Int32) × (Nat → Int32) × (Nat → Int32)) => post u.1 u.2.1 u.2.2.1 u.2.2.2.1 u.2.2.2.2) (fun u => [(a0, .inr (2, [.ref a0_machine, .ref a0_between, .int u.1, .ref a0_isBetween, .ref a0_waysIn, .ref a0_far, .ref a0_settled, .int v_o_settledCount, .int u.2.1])), (a0_isBetween, .inl (K 1, n_o_isBetween, .inl u.2.2.1)), (a0_far, .inl (K 0, n_o_far, .inl u.2.2.2.1)), (a0_between, .inl (K 0, n_o_between, .inl u.2.2.2.2))]) 0 0 := by
  refine g_metWv (cc := c_GapFinder_meetFollowers) (maxL := 4) (ret := none) (by decide) rfl rfl (Nat.le_of_ble_eq_true rfl) ?_
  intro p e s m below meth c A Q hx hb hml hown hname htg hK hN hP hD hA hS hR rN hret ls hl
  have hl : lv_has ls 4 [(0, .ref a0), (1, .int x1)] := hl
  have C_2 : ∀ (n : Nat) (l2 : Int32) (v_o_betweenCount : Int32) (v_o_widest : Int32) (f_o_isBetween : (Nat → Int32)) (f_o_far : (Nat → Int32)) (f_o_between : (Nat → Int32)) (H : Heap) (locs : List Loc), va_P G vwCl [(a0, .inr (2, [.ref a0_machine, .ref a0_between, .int v_o_betweenCount, .ref a0_isBetween, .ref a0_waysIn, .ref a0_far, .ref a0_settled, .int v_o_settledCount, .int v_o_widest])), (a0_isBetween, .inl (K 1, n_o_isBetween, .inl f_o_isBetween)), (a0_far, .inl (K 0, n_o_far, .inl f_o_far)), (a0_between, .inl (K 0, n_o_between, .inl f_o_between))] H → va_D A [(a0, .inr (2, [.ref a0_machine, .ref a0_between, .int v_o_betweenCount, .ref a0_isBetween, .ref a0_waysIn, .ref a0_far, .ref a0_settled, .int v_o_settledCount, .int v_o_widest])), (a0_isBetween, .inl (K 1, n_o_isBetween, .inl f_o_isBetween)), (a0_far, .inl (K 0, n_o_far, .inl f_o_far)), (a0_between, .inl (K 0, n_o_between, .inl f_o_between))] → va_S A s.heap H locs → ∀ (ls : Array Slot), lv_has ls 4 [(0, .ref a0), (1, .int x1), (2, .int l2)] → p_GapFinder_meetFollowers_2 n_o_machine_winners f_o_machine_winners n_o_machine_after f_o_machine_after n_o_isBetween n_o_far n_o_between x1 post n l2 v_o_betweenCount v_o_widest f_o_isBetween f_o_far f_o_between → W p l e { frames := 3, cells := 0, slots := 0, locals := 63 } s m ([.ref a0, .int x1] : List Value).toArray below meth c H locs 0 0 Q (F0 m 2 ls []) := by
    intro n
    induction n with
    | zero =>
      intro l2 v_o_betweenCount v_o_widest f_o_isBetween f_o_far f_o_between  H locs hP hD hS ls hl h
      exact False.elim h
    | succ n ih =>
      intro l2 v_o_betweenCount v_o_widest f_o_isBetween f_o_far f_o_between  H locs hP hD hS ls hl h
      refine lv_iload_n hx hb d_GapFinder_meetFollowers_2 rfl (lv_at hl 2 rfl) ?_
      refine lv_bipush (v := 6) hx hb d_GapFinder_meetFollowers_3 (by decide) ?_
      refine lv_icmp_ge (tgt := 94) hx hb d_GapFinder_meetFollowers_5 (by decide) (fun hc => ?_) (fun hc => ?_)
      · replace h := h.1 hc
        exact hret (v_o_betweenCount, v_o_widest, f_o_isBetween, f_o_far, f_o_between) _ _ _ _ h (hP.sub [0, 1, 2, 3] rfl) (hD.sub [0, 1, 2, 3] (by decide) rfl) hS d_GapFinder_meetFollowers_94
      · replace h := h.2 hc
        refine lv_aload_n hx hb d_GapFinder_meetFollowers_8 rfl (lv_at hl 0 rfl) ?_
        refine va_get (ci := 2) (v := .ref a0_machine) hx hb htg in_GapFinder hown hK hP 0 rfl rfl 0 (by decide) (htg _ m_389) (fun _ h9 => h9) rfl d_GapFinder_meetFollowers_9 ?_
        refine lv_iload_n hx hb d_GapFinder_meetFollowers_12 rfl (lv_at hl 1 rfl) ?_
        refine lv_iload_n hx hb d_GapFinder_meetFollowers_13 rfl (lv_at hl 2 rfl) ?_
        have hPc : va_P G vwCl [(a0_machine, .inr (4, [.ref a0_machine_after, .ref a0_machine_winners, .int v_o_machine_gap, .int v_o_machine_isGapKnown])), (a0_machine_winners, .inl (K 0, n_o_machine_winners, .inl f_o_machine_winners)), (a0_machine_after, .inl (K 0, n_o_machine_after, .inl f_o_machine_after))] _ := (gR hR rN hS).sub [0, 1, 2] rfl
        refine vp_callSi (va_Run.run (va_runV (As := [.int x1, .int l2]) (rest := []) ⟨hx, hb, hml, hown, htg⟩ (k_Machine_after l G K a0_machine a0_machine_winners a0_machine_after v_o_machine_gap v_o_machine_isGapKnown n_o_machine_winners f_o_machine_winners n_o_machine_after f_o_machine_after x1 l2 _ h) (cwV 2 htg (gGoodV m_411 m_360 m_361 m_9 m_362) rfl rfl rfl (by decide +kernel) ⟨(Nat.le_of_ble_eq_true rfl), (Nat.le_of_ble_eq_true rfl)⟩) (gS_preV (ci := 4) (q0 := 0) hK hN hPc rfl rfl) rfl rfl hl.1 rfl (lv_room (Nat.le_of_ble_eq_true rfl)) d_GapFinder_meetFollowers_14 ⟨(Nat.le_of_ble_eq_true rfl), (Nat.le_of_ble_eq_true rfl)⟩)) (fun r1201 h => ?_)
        refine lv_istore_n (lv' := [(3, .int r1201), (0, .ref a0), (1, .int x1), (2, .int l2)]) hx hb d_GapFinder_meetFollowers_17 rfl hl (by decide) rfl (fun ls hl => ?_)
        refine lv_iload_n hx hb d_GapFinder_meetFollowers_18 rfl (lv_at hl 0 rfl) ?_
        refine lv_iconst (v := (-1)) hx hb d_GapFinder_meetFollowers_19 (by decide) ?_
        refine lv_icmp_ne (tgt := 26) hx hb d_GapFinder_meetFollowers_20 (by decide) (fun hc => ?_) (fun hc => ?_)
        · replace h := h.1 hc
          refine lv_aload_n hx hb d_GapFinder_meetFollowers_26 rfl (lv_at hl 1 rfl) ?_
          refine va_get (ci := 2) (v := .ref a0_machine) hx hb htg in_GapFinder hown hK hP 0 rfl rfl 0 (by decide) (htg _ m_389) (fun _ h9 => h9) rfl d_GapFinder_meetFollowers_27 ?_
          refine lv_iload_n hx hb d_GapFinder_meetFollowers_30 rfl (lv_at hl 0 rfl) ?_
          have hPc : va_P G vwCl [(a0_machine, .inr (4, [.ref a0_machine_after, .ref a0_machine_winners, .int v_o_machine_gap, .int v_o_machine_isGapKnown])), (a0_machine_winners, .inl (K 0, n_o_machine_winners, .inl f_o_machine_winners))] _ := (gR hR rN hS).sub [0, 1] rfl
          refine vp_callSi (va_Run.run (va_runV (As := [.int r1201]) (rest := []) ⟨hx, hb, hml, hown, htg⟩ (k_Machine_hasWinner l G K a0_machine a0_machine_winners a0_machine_after v_o_machine_gap v_o_machine_isGapKnown n_o_machine_winners f_o_machine_winners r1201 _ h) (cwV 1 htg (gGoodV m_403 m_404 m_405 m_9 m_406) rfl rfl rfl (by decide +kernel) ⟨(Nat.le_of_ble_eq_true rfl), (Nat.le_of_ble_eq_true rfl)⟩) (gS_preV (ci := 4) (q0 := 0) hK hN hPc rfl rfl) rfl rfl hl.1 rfl (lv_room (Nat.le_of_ble_eq_true rfl)) d_GapFinder_meetFollowers_31 ⟨(Nat.le_of_ble_eq_true rfl), (Nat.le_of_ble_eq_true rfl)⟩)) (fun r1202 h => ?_)
          refine lv_if_eq (tgt := 45) hx hb d_GapFinder_meetFollowers_34 (by decide) (fun hc => ?_) (fun hc => ?_)
          · replace h := h.1 hc
            refine lv_aload_n hx hb d_GapFinder_meetFollowers_45 rfl (lv_at hl 1 rfl) ?_
            refine va_get (ci := 2) (v := .ref a0_isBetween) hx hb htg in_GapFinder hown hK hP 0 rfl rfl 3 (by decide) (htg _ m_392) (fun _ h9 => h9) rfl d_GapFinder_meetFollowers_46 ?_
            refine lv_iload_n hx hb d_GapFinder_meetFollowers_49 rfl (lv_at hl 0 rfl) ?_
            obtain ⟨hin, h⟩ := h
            refine va_zald hx hb hK hP 1 1 rfl rfl hin d_GapFinder_meetFollowers_50 ?_
            refine lv_if_ne (tgt := 88) hx hb d_GapFinder_meetFollowers_51 (by decide) (fun hc => ?_) (fun hc => ?_)
            · replace h := h.1 hc
              refine lv_iinc (v := (l2 + 1)) (lv' := [(2, .int (l2 + 1)), (3, .int r1201), (0, .ref a0), (1, .int x1)]) hx hb d_GapFinder_meetFollowers_88 hl (k := 3) rfl (by first | rfl | decide) (by decide) rfl (fun ls hl => ?_)
              refine lv_goto (tgt := 2) hx hb d_GapFinder_meetFollowers_91 (by decide) ?_
              exact ih (l2 + 1) v_o_betweenCount v_o_widest f_o_isBetween f_o_far f_o_between  _ _ (hP.sub [0, 1, 2, 3] rfl) (hD.sub [0, 1, 2, 3] (by decide) rfl) hS _ (lv_sub hl [2, 3, 0] rfl) h
            · replace h := h.2 hc
              refine lv_aload_n hx hb d_GapFinder_meetFollowers_54 rfl (lv_at hl 1 rfl) ?_
              refine va_get (ci := 2) (v := .ref a0_isBetween) hx hb htg in_GapFinder hown hK hP 0 rfl rfl 3 (by decide) (htg _ m_392) (fun _ h9 => h9) rfl d_GapFinder_meetFollowers_55 ?_
              refine lv_iload_n hx hb d_GapFinder_meetFollowers_58 rfl (lv_at hl 0 rfl) ?_
              refine lv_iconst (v := 1) hx hb d_GapFinder_meetFollowers_59 (by decide) ?_
              obtain ⟨hin, h⟩ := h
              refine va_zast hx hb hK hP hD hS 1 1 rfl rfl hin d_GapFinder_meetFollowers_60 (fun H locs hP hD hS => ?_)
              have hP : va_P G vwCl [(a0, .inr (2, [.ref a0_machine, .ref a0_between, .int v_o_betweenCount, .ref a0_isBetween, .ref a0_waysIn, .ref a0_far, .ref a0_settled, .int v_o_settledCount, .int v_o_widest])), (a0_isBetween, .inl (K 1, n_o_isBetween, .inl (upd f_o_isBetween r1201.toNatClampNeg (vp_nar .boolean 1)))), (a0_far, .inl (K 0, n_o_far, .inl f_o_far)), (a0_between, .inl (K 0, n_o_between, .inl f_o_between))] H := hP
              have hD : va_D A [(a0, .inr (2, [.ref a0_machine, .ref a0_between, .int v_o_betweenCount, .ref a0_isBetween, .ref a0_waysIn, .ref a0_far, .ref a0_settled, .int v_o_settledCount, .int v_o_widest])), (a0_isBetween, .inl (K 1, n_o_isBetween, .inl (upd f_o_isBetween r1201.toNatClampNeg (vp_nar .boolean 1)))), (a0_far, .inl (K 0, n_o_far, .inl f_o_far)), (a0_between, .inl (K 0, n_o_between, .inl f_o_between))] := hD
              refine lv_aload_n hx hb d_GapFinder_meetFollowers_61 rfl (lv_at hl 1 rfl) ?_
              refine va_get (ci := 2) (v := .ref a0_far) hx hb htg in_GapFinder hown hK hP 0 rfl rfl 5 (by decide) (htg _ m_394) (fun _ h9 => h9) rfl d_GapFinder_meetFollowers_62 ?_
              refine lv_iload_n hx hb d_GapFinder_meetFollowers_65 rfl (lv_at hl 0 rfl) ?_
              refine lv_iconst (v := 1) hx hb d_GapFinder_meetFollowers_66 (by decide) ?_
              obtain ⟨hin, h⟩ := h
              refine va_iast hx hb hK hP hD hS 2 0 rfl rfl hin d_GapFinder_meetFollowers_67 (fun H locs hP hD hS => ?_)
              have hP : va_P G vwCl [(a0, .inr (2, [.ref a0_machine, .ref a0_between, .int v_o_betweenCount, .ref a0_isBetween, .ref a0_waysIn, .ref a0_far, .ref a0_settled, .int v_o_settledCount, .int v_o_widest])), (a0_isBetween, .inl (K 1, n_o_isBetween, .inl (upd f_o_isBetween r1201.toNatClampNeg (vp_nar .boolean 1)))), (a0_far, .inl (K 0, n_o_far, .inl (upd f_o_far r1201.toNatClampNeg 1))), (a0_between, .inl (K 0, n_o_between, .inl f_o_between))] H := hP
              have hD : va_D A [(a0, .inr (2, [.ref a0_machine, .ref a0_between, .int v_o_betweenCount, .ref a0_isBetween, .ref a0_waysIn, .ref a0_far, .ref a0_settled, .int v_o_settledCount, .int v_o_widest])), (a0_isBetween, .inl (K 1, n_o_isBetween, .inl (upd f_o_isBetween r1201.toNatClampNeg (vp_nar .boolean 1)))), (a0_far, .inl (K 0, n_o_far, .inl (upd f_o_far r1201.toNatClampNeg 1))), (a0_between, .inl (K 0, n_o_between, .inl f_o_between))] := hD
              refine lv_aload_n hx hb d_GapFinder_meetFollowers_68 rfl (lv_at hl 1 rfl) ?_
              refine va_get (ci := 2) (v := .ref a0_between) hx hb htg in_GapFinder hown hK hP 0 rfl rfl 1 (by decide) (htg _ m_390) (fun _ h9 => h9) rfl d_GapFinder_meetFollowers_69 ?_
              refine lv_aload_n hx hb d_GapFinder_meetFollowers_72 rfl (lv_at hl 1 rfl) ?_
              refine va_get (ci := 2) (v := .int v_o_betweenCount) hx hb htg in_GapFinder hown hK hP 0 rfl rfl 2 (by decide) (htg _ m_391) (fun _ h9 => h9) rfl d_GapFinder_meetFollowers_73 ?_
              refine lv_iload_n hx hb d_GapFinder_meetFollowers_76 rfl (lv_at hl 0 rfl) ?_
              obtain ⟨hin, h⟩ := h
              refine va_iast hx hb hK hP hD hS 3 0 rfl rfl hin d_GapFinder_meetFollowers_77 (fun H locs hP hD hS => ?_)
              have hP : va_P G vwCl [(a0, .inr (2, [.ref a0_machine, .ref a0_between, .int v_o_betweenCount, .ref a0_isBetween, .ref a0_waysIn, .ref a0_far, .ref a0_settled, .int v_o_settledCount, .int v_o_widest])), (a0_isBetween, .inl (K 1, n_o_isBetween, .inl (upd f_o_isBetween r1201.toNatClampNeg (vp_nar .boolean 1)))), (a0_far, .inl (K 0, n_o_far, .inl (upd f_o_far r1201.toNatClampNeg 1))), (a0_between, .inl (K 0, n_o_between, .inl (upd f_o_between v_o_betweenCount.toNatClampNeg r1201)))] H := hP
              have hD : va_D A [(a0, .inr (2, [.ref a0_machine, .ref a0_between, .int v_o_betweenCount, .ref a0_isBetween, .ref a0_waysIn, .ref a0_far, .ref a0_settled, .int v_o_settledCount, .int v_o_widest])), (a0_isBetween, .inl (K 1, n_o_isBetween, .inl (upd f_o_isBetween r1201.toNatClampNeg (vp_nar .boolean 1)))), (a0_far, .inl (K 0, n_o_far, .inl (upd f_o_far r1201.toNatClampNeg 1))), (a0_between, .inl (K 0, n_o_between, .inl (upd f_o_between v_o_betweenCount.toNatClampNeg r1201)))] := hD
              refine lv_aload_n hx hb d_GapFinder_meetFollowers_78 rfl (lv_at hl 1 rfl) ?_
              refine lv_dup hx hb d_GapFinder_meetFollowers_79 rfl ?_
              refine va_get (ci := 2) (v := .int v_o_betweenCount) hx hb htg in_GapFinder hown hK hP 0 rfl rfl 2 (by decide) (htg _ m_391) (fun _ h9 => h9) rfl d_GapFinder_meetFollowers_80 ?_
              refine lv_iconst (v := 1) hx hb d_GapFinder_meetFollowers_83 (by decide) ?_
              refine lv_iadd hx hb d_GapFinder_meetFollowers_84 ?_
              refine va_put (ci := 2) (v := .int (v_o_betweenCount + 1)) (ty := .int) hx hb htg in_GapFinder t_GapFinder tok_GapFinder nm_GapFinder hown hK hP hD hS 0 rfl rfl 2 (by decide) (htg _ m_391) (fun _ h9 => h9) rfl (by decide +kernel) rfl rfl (Nat.le_of_ble_eq_true rfl) d_GapFinder_meetFollowers_85 (fun H locs hP hD hS => ?_)
              have hP : va_P G vwCl [(a0, .inr (2, [.ref a0_machine, .ref a0_between, .int (v_o_betweenCount + 1), .ref a0_isBetween, .ref a0_waysIn, .ref a0_far, .ref a0_settled, .int v_o_settledCount, .int v_o_widest])), (a0_isBetween, .inl (K 1, n_o_isBetween, .inl (upd f_o_isBetween r1201.toNatClampNeg (vp_nar .boolean 1)))), (a0_far, .inl (K 0, n_o_far, .inl (upd f_o_far r1201.toNatClampNeg 1))), (a0_between, .inl (K 0, n_o_between, .inl (upd f_o_between v_o_betweenCount.toNatClampNeg r1201)))] H := hP
              have hD : va_D A [(a0, .inr (2, [.ref a0_machine, .ref a0_between, .int (v_o_betweenCount + 1), .ref a0_isBetween, .ref a0_waysIn, .ref a0_far, .ref a0_settled, .int v_o_settledCount, .int v_o_widest])), (a0_isBetween, .inl (K 1, n_o_isBetween, .inl (upd f_o_isBetween r1201.toNatClampNeg (vp_nar .boolean 1)))), (a0_far, .inl (K 0, n_o_far, .inl (upd f_o_far r1201.toNatClampNeg 1))), (a0_between, .inl (K 0, n_o_between, .inl (upd f_o_between v_o_betweenCount.toNatClampNeg r1201)))] := hD
              refine lv_iinc (v := (l2 + 1)) (lv' := [(2, .int (l2 + 1)), (3, .int r1201), (0, .ref a0), (1, .int x1)]) hx hb d_GapFinder_meetFollowers_88 hl (k := 3) rfl (by first | rfl | decide) (by decide) rfl (fun ls hl => ?_)
              refine lv_goto (tgt := 2) hx hb d_GapFinder_meetFollowers_91 (by decide) ?_
              exact ih (l2 + 1) (v_o_betweenCount + 1) v_o_widest (upd f_o_isBetween r1201.toNatClampNeg (vp_nar .boolean 1)) (upd f_o_far r1201.toNatClampNeg 1) (upd f_o_between v_o_betweenCount.toNatClampNeg r1201)  _ _ (hP.sub [0, 1, 2, 3] rfl) (hD.sub [0, 1, 2, 3] (by decide) rfl) hS _ (lv_sub hl [2, 3, 0] rfl) h
          · replace h := h.2 hc
            refine lv_aload_n hx hb d_GapFinder_meetFollowers_37 rfl (lv_at hl 1 rfl) ?_
            refine lv_iconst (v := 1) hx hb d_GapFinder_meetFollowers_38 (by decide) ?_
            refine va_put (ci := 2) (v := .int 1) (ty := .int) hx hb htg in_GapFinder t_GapFinder tok_GapFinder nm_GapFinder hown hK hP hD hS 0 rfl rfl 8 (by decide) (htg _ m_397) (fun _ h9 => h9) rfl (by decide +kernel) rfl rfl (Nat.le_of_ble_eq_true rfl) d_GapFinder_meetFollowers_39 (fun H locs hP hD hS => ?_)
            have hP : va_P G vwCl [(a0, .inr (2, [.ref a0_machine, .ref a0_between, .int v_o_betweenCount, .ref a0_isBetween, .ref a0_waysIn, .ref a0_far, .ref a0_settled, .int v_o_settledCount, .int 1])), (a0_isBetween, .inl (K 1, n_o_isBetween, .inl f_o_isBetween)), (a0_far, .inl (K 0, n_o_far, .inl f_o_far)), (a0_between, .inl (K 0, n_o_between, .inl f_o_between))] H := hP
            have hD : va_D A [(a0, .inr (2, [.ref a0_machine, .ref a0_between, .int v_o_betweenCount, .ref a0_isBetween, .ref a0_waysIn, .ref a0_far, .ref a0_settled, .int v_o_settledCount, .int 1])), (a0_isBetween, .inl (K 1, n_o_isBetween, .inl f_o_isBetween)), (a0_far, .inl (K 0, n_o_far, .inl f_o_far)), (a0_between, .inl (K 0, n_o_between, .inl f_o_between))] := hD
            refine lv_goto (tgt := 88) hx hb d_GapFinder_meetFollowers_42 (by decide) ?_
            refine lv_iinc (v := (l2 + 1)) (lv' := [(2, .int (l2 + 1)), (3, .int r1201), (0, .ref a0), (1, .int x1)]) hx hb d_GapFinder_meetFollowers_88 hl (k := 3) rfl (by first | rfl | decide) (by decide) rfl (fun ls hl => ?_)
            refine lv_goto (tgt := 2) hx hb d_GapFinder_meetFollowers_91 (by decide) ?_
            exact ih (l2 + 1) v_o_betweenCount 1 f_o_isBetween f_o_far f_o_between  _ _ (hP.sub [0, 1, 2, 3] rfl) (hD.sub [0, 1, 2, 3] (by decide) rfl) hS _ (lv_sub hl [2, 3, 0] rfl) h
        · replace h := h.2 hc
          refine lv_goto (tgt := 88) hx hb d_GapFinder_meetFollowers_23 (by decide) ?_
          refine lv_iinc (v := (l2 + 1)) (lv' := [(2, .int (l2 + 1)), (3, .int r1201), (0, .ref a0), (1, .int x1)]) hx hb d_GapFinder_meetFollowers_88 hl (k := 3) rfl (by first | rfl | decide) (by decide) rfl (fun ls hl => ?_)
          refine lv_goto (tgt := 2) hx hb d_GapFinder_meetFollowers_91 (by decide) ?_
          exact ih (l2 + 1) v_o_betweenCount v_o_widest f_o_isBetween f_o_far f_o_between  _ _ (hP.sub [0, 1, 2, 3] rfl) (hD.sub [0, 1, 2, 3] (by decide) rfl) hS _ (lv_sub hl [2, 3, 0] rfl) h
  refine lv_iconst (v := 0) hx hb d_GapFinder_meetFollowers_0 (by decide) ?_
  refine lv_istore_n (lv' := [(2, .int 0), (0, .ref a0), (1, .int x1)]) hx hb d_GapFinder_meetFollowers_1 rfl hl (by decide) rfl (fun ls hl => ?_)
  obtain ⟨k, h⟩ := h
  exact C_2 k 0 v_o_betweenCount v_o_widest f_o_isBetween f_o_far f_o_between  _ _ (hP.sub [0, 1, 2, 3] rfl) (hD.sub [0, 1, 2, 3] (by decide) rfl) hS _ (lv_sub hl [1, 2, 0] rfl) h
def p_GapFinder_countWaysIn_62 (v_o_betweenCount : Int32) (n_o_between : Nat) (f_o_between : (Nat → Int32)) (n_o_waysIn : Nat) (n_o_settled : Nat) (post : Int32 → (Nat → Int32) → (Nat → Int32) → Prop) : Nat → Int32 → Int32 → (Nat → Int32) → (Nat → Int32) → Prop
  | 0, _, _, _, _ => False
  | n + 1, l1, v_o_settledCount, f_o_waysIn, f_o_settled => ((v_o_betweenCount ≤ l1 → (post v_o_settledCount f_o_waysIn f_o_settled)) ∧ (¬ v_o_betweenCount ≤ l1 → (vp_in l1 n_o_between ∧ (vp_in (f_o_between l1.toNatClampNeg) n_o_waysIn ∧ ((¬ (f_o_waysIn (f_o_between l1.toNatClampNeg).toNatClampNeg) = 0 → (p_GapFinder_countWaysIn_62 v_o_betweenCount n_o_between f_o_between n_o_waysIn n_o_settled post n (l1 + 1) v_o_settledCount f_o_waysIn f_o_settled)) ∧ ((f_o_waysIn (f_o_between l1.toNatClampNeg).toNatClampNeg) = 0 → (vp_in l1 n_o_between ∧ (p_GapFinder_settle v_o_settledCount n_o_settled f_o_settled (f_o_between l1.toNatClampNeg) (fun u7201 u7202 => (p_GapFinder_countWaysIn_62 v_o_betweenCount n_o_between f_o_between n_o_waysIn n_o_settled post n (l1 + 1) u7201 f_o_waysIn u7202))))))))))
def p_GapFinder_countWaysIn_60 (v_o_betweenCount : Int32) (n_o_between : Nat) (f_o_between : (Nat → Int32)) (n_o_waysIn : Nat) (n_o_settled : Nat) (post : Int32 → (Nat → Int32) → (Nat → Int32) → Prop) (v_o_settledCount : Int32) (f_o_waysIn : (Nat → Int32)) (f_o_settled : (Nat → Int32)) : Prop := (∃ k, p_GapFinder_countWaysIn_62 v_o_betweenCount n_o_between f_o_between n_o_waysIn n_o_settled post k 0 v_o_settledCount f_o_waysIn f_o_settled)
def p_GapFinder_countWaysIn_54  (post : Int32 → (Nat → Int32) → (Nat → Int32) → Prop) (K_2 : Int32 → Int32 → (Nat → Int32) → (Nat → Int32) → Prop) (l1 : Int32) (v_o_settledCount : Int32) (f_o_waysIn : (Nat → Int32)) (f_o_settled : (Nat → Int32)) : Prop := (K_2 (l1 + 1) v_o_settledCount f_o_waysIn f_o_settled)
def p_GapFinder_countWaysIn_12 (n_o_between : Nat) (f_o_between : (Nat → Int32)) (n_o_machine_winners : Nat) (n_o_machine_after : Nat) (f_o_machine_after : (Nat → Int32)) (n_o_waysIn : Nat) (post : Int32 → (Nat → Int32) → (Nat → Int32) → Prop) (K_2 : Int32 → Int32 → (Nat → Int32) → (Nat → Int32) → Prop) : Nat → Int32 → Int32 → Int32 → (Nat → Int32) → (Nat → Int32) → Prop
  | 0, _, _, _, _, _ => False
  | n + 1, l1, l2, v_o_settledCount, f_o_waysIn, f_o_settled => ((6 ≤ l2 → (p_GapFinder_countWaysIn_54 post K_2 l1 v_o_settledCount f_o_waysIn f_o_settled)) ∧ (¬ 6 ≤ l2 → (vp_in l1 n_o_between ∧ (p_Machine_after n_o_machine_winners n_o_machine_after f_o_machine_after (f_o_between l1.toNatClampNeg) l2 (fun r2201 => ((r2201 = (-1) → (p_GapFinder_countWaysIn_12 n_o_between f_o_between n_o_machine_winners n_o_machine_after f_o_machine_after n_o_waysIn post K_2 n l1 (l2 + 1) v_o_settledCount f_o_waysIn f_o_settled)) ∧ (¬ r2201 = (-1) → (vp_in r2201 n_o_waysIn ∧ (vp_in r2201 n_o_waysIn ∧ (p_GapFinder_countWaysIn_12 n_o_between f_o_between n_o_machine_winners n_o_machine_after f_o_machine_after n_o_waysIn post K_2 n l1 (l2 + 1) v_o_settledCount (upd f_o_waysIn r2201.toNatClampNeg ((f_o_waysIn r2201.toNatClampNeg) + 1)) f_o_settled))))))))))
def p_GapFinder_countWaysIn_2 (v_o_betweenCount : Int32) (n_o_between : Nat) (f_o_between : (Nat → Int32)) (n_o_machine_winners : Nat) (n_o_machine_after : Nat) (f_o_machine_after : (Nat → Int32)) (n_o_waysIn : Nat) (n_o_settled : Nat) (post : Int32 → (Nat → Int32) → (Nat → Int32) → Prop) : Nat → Int32 → Int32 → (Nat → Int32) → (Nat → Int32) → Prop
  | 0, _, _, _, _ => False
  | n + 1, l1, v_o_settledCount, f_o_waysIn, f_o_settled => ((v_o_betweenCount ≤ l1 → (p_GapFinder_countWaysIn_60 v_o_betweenCount n_o_between f_o_between n_o_waysIn n_o_settled post v_o_settledCount f_o_waysIn f_o_settled)) ∧ (¬ v_o_betweenCount ≤ l1 → (∃ k, p_GapFinder_countWaysIn_12 n_o_between f_o_between n_o_machine_winners n_o_machine_after f_o_machine_after n_o_waysIn post (p_GapFinder_countWaysIn_2 v_o_betweenCount n_o_between f_o_between n_o_machine_winners n_o_machine_after f_o_machine_after n_o_waysIn n_o_settled post n) k l1 0 v_o_settledCount f_o_waysIn f_o_settled)))
def p_GapFinder_countWaysIn (v_o_betweenCount : Int32) (v_o_settledCount : Int32) (n_o_between : Nat) (f_o_between : (Nat → Int32)) (n_o_machine_winners : Nat) (n_o_machine_after : Nat) (f_o_machine_after : (Nat → Int32)) (n_o_waysIn : Nat) (f_o_waysIn : (Nat → Int32)) (n_o_settled : Nat) (f_o_settled : (Nat → Int32)) (post : Int32 → (Nat → Int32) → (Nat → Int32) → Prop) : Prop := (∃ k, p_GapFinder_countWaysIn_2 v_o_betweenCount n_o_between f_o_between n_o_machine_winners n_o_machine_after f_o_machine_after n_o_waysIn n_o_settled post k 0 v_o_settledCount f_o_waysIn f_o_settled)
set_option maxHeartbeats 4000000 in
set_option maxRecDepth 100000 in
theorem k_GapFinder_countWaysIn (l : Launch) (G : va_G) (K : Nat → ClassId) (a0 a0_between a0_machine a0_machine_winners a0_machine_after a0_waysIn a0_settled a0_isBetween a0_far : Nat) (sz : Nat) (v_o_betweenCount : Int32) (v_o_settledCount : Int32) (v_o_widest : Int32) (n_o_between : Nat) (f_o_between : (Nat → Int32)) (v_o_machine_gap : Int32) (v_o_machine_isGapKnown : Int32) (n_o_machine_winners : Nat) (f_o_machine_winners : (Nat → Int32)) (n_o_machine_after : Nat) (f_o_machine_after : (Nat → Int32)) (n_o_waysIn : Nat) (f_o_waysIn : (Nat → Int32)) (n_o_settled : Nat) (f_o_settled : (Nat → Int32)) (post : Int32 → (Nat → Int32) → (Nat → Int32) → Prop) (h : p_GapFinder_countWaysIn v_o_betweenCount v_o_settledCount n_o_between f_o_between n_o_machine_winners n_o_machine_after f_o_machine_after n_o_waysIn f_o_waysIn n_o_settled f_o_settled post) : MWv l y_GapFinder_countWaysIn (.code y_GapFinder_countWaysIn c_GapFinder_countWaysIn 4 none) { frames := 2, cells := 0, slots := 0, locals := 44 } G K [(a0, .inr (2, [.ref a0_machine, .ref a0_between, .int v_o_betweenCount, .ref a0_isBetween, .ref a0_waysIn, .ref a0_far, .ref a0_settled, .int v_o_settledCount, .int v_o_widest])), (a0_waysIn, .inl (K 0, n_o_waysIn, .inl f_o_waysIn)), (a0_settled, .inl (K 0, n_o_settled, .inl f_o_settled))] [(a0_between, .inl (K 0, n_o_between, .inl f_o_between)), (a0_machine, .inr (4, [.ref a0_machine_after, .ref a0_machine_winners, .int v_o_machine_gap, .int v_o_machine_isGapKnown])), (a0_machine_winners, .inl (K 0, n_o_machine_winners, .inl f_o_machine_winners)), (a0_machine_after, .inl (K 0, n_o_machine_after, .inl f_o_machine_after))] [.ref a0] sz (fun (u : Int32 × (Nat → Int32) × (Nat → Int32)) => post u.1 u.2.1 u.2.2) (fun u => [(a0, .inr (2, [.ref a0_machine, .ref a0_between, .int v_o_betweenCount, .ref a0_isBetween, .ref a0_waysIn, .ref a0_far, .ref a0_settled, .int u.1, .int v_o_widest])), (a0_waysIn, .inl (K 0, n_o_waysIn, .inl u.2.1)), (a0_settled, .inl (K 0, n_o_settled, .inl u.2.2))]) 0 0 := by
  refine g_metWv (cc := c_GapFinder_countWaysIn) (maxL := 4) (ret := none) (by decide) rfl rfl (Nat.le_of_ble_eq_true rfl) ?_
  intro p e s m below meth c A Q hx hb hml hown hname htg hK hN hP hD hA hS hR rN hret ls hl
  have hl : lv_has ls 4 [(0, .ref a0)] := hl
  have C_62 : ∀ (n : Nat) (l1 : Int32) (v_o_settledCount : Int32) (f_o_waysIn : (Nat → Int32)) (f_o_settled : (Nat → Int32)) (H : Heap) (locs : List Loc), va_P G vwCl [(a0, .inr (2, [.ref a0_machine, .ref a0_between, .int v_o_betweenCount, .ref a0_isBetween, .ref a0_waysIn, .ref a0_far, .ref a0_settled, .int v_o_settledCount, .int v_o_widest])), (a0_waysIn, .inl (K 0, n_o_waysIn, .inl f_o_waysIn)), (a0_settled, .inl (K 0, n_o_settled, .inl f_o_settled))] H → va_D A [(a0, .inr (2, [.ref a0_machine, .ref a0_between, .int v_o_betweenCount, .ref a0_isBetween, .ref a0_waysIn, .ref a0_far, .ref a0_settled, .int v_o_settledCount, .int v_o_widest])), (a0_waysIn, .inl (K 0, n_o_waysIn, .inl f_o_waysIn)), (a0_settled, .inl (K 0, n_o_settled, .inl f_o_settled))] → va_S A s.heap H locs → ∀ (ls : Array Slot), lv_has ls 4 [(0, .ref a0), (1, .int l1)] → p_GapFinder_countWaysIn_62 v_o_betweenCount n_o_between f_o_between n_o_waysIn n_o_settled post n l1 v_o_settledCount f_o_waysIn f_o_settled → W p l e { frames := 2, cells := 0, slots := 0, locals := 44 } s m ([.ref a0] : List Value).toArray below meth c H locs 0 0 Q (F0 m 62 ls []) := by
    intro n
    induction n with
    | zero =>
      intro l1 v_o_settledCount f_o_waysIn f_o_settled  H locs hP hD hS ls hl h
      exact False.elim h
    | succ n ih =>
      intro l1 v_o_settledCount f_o_waysIn f_o_settled  H locs hP hD hS ls hl h
      refine lv_iload_n hx hb d_GapFinder_countWaysIn_62 rfl (lv_at hl 1 rfl) ?_
      refine lv_aload_n hx hb d_GapFinder_countWaysIn_63 rfl (lv_at hl 0 rfl) ?_
      refine va_get (ci := 2) (v := .int v_o_betweenCount) hx hb htg in_GapFinder hown hK hP 0 rfl rfl 2 (by decide) (htg _ m_391) (fun _ h9 => h9) rfl d_GapFinder_countWaysIn_64 ?_
      refine lv_icmp_ge (tgt := 100) hx hb d_GapFinder_countWaysIn_67 (by decide) (fun hc => ?_) (fun hc => ?_)
      · replace h := h.1 hc
        exact hret (v_o_settledCount, f_o_waysIn, f_o_settled) _ _ _ _ h (hP.sub [0, 1, 2] rfl) (hD.sub [0, 1, 2] (by decide) rfl) hS d_GapFinder_countWaysIn_100
      · replace h := h.2 hc
        refine lv_aload_n hx hb d_GapFinder_countWaysIn_70 rfl (lv_at hl 0 rfl) ?_
        refine va_get (ci := 2) (v := .ref a0_waysIn) hx hb htg in_GapFinder hown hK hP 0 rfl rfl 4 (by decide) (htg _ m_393) (fun _ h9 => h9) rfl d_GapFinder_countWaysIn_71 ?_
        refine lv_aload_n hx hb d_GapFinder_countWaysIn_74 rfl (lv_at hl 0 rfl) ?_
        refine va_get (ci := 2) (v := .ref a0_between) hx hb htg in_GapFinder hown hK hP 0 rfl rfl 1 (by decide) (htg _ m_390) (fun _ h9 => h9) rfl d_GapFinder_countWaysIn_75 ?_
        refine lv_iload_n hx hb d_GapFinder_countWaysIn_78 rfl (lv_at hl 1 rfl) ?_
        obtain ⟨hin, h⟩ := h
        refine va_iald hx hb hK (gR hR rN hS) 0 0 rfl rfl hin d_GapFinder_countWaysIn_79 ?_
        obtain ⟨hin, h⟩ := h
        refine va_iald hx hb hK hP 1 0 rfl rfl hin d_GapFinder_countWaysIn_80 ?_
        refine lv_if_ne (tgt := 94) hx hb d_GapFinder_countWaysIn_81 (by decide) (fun hc => ?_) (fun hc => ?_)
        · replace h := h.1 hc
          refine lv_iinc (v := (l1 + 1)) (lv' := [(1, .int (l1 + 1)), (0, .ref a0)]) hx hb d_GapFinder_countWaysIn_94 hl (k := 1) rfl (by first | rfl | decide) (by decide) rfl (fun ls hl => ?_)
          refine lv_goto (tgt := 62) hx hb d_GapFinder_countWaysIn_97 (by decide) ?_
          exact ih (l1 + 1) v_o_settledCount f_o_waysIn f_o_settled  _ _ (hP.sub [0, 1, 2] rfl) (hD.sub [0, 1, 2] (by decide) rfl) hS _ (lv_sub hl [1, 0] rfl) h
        · replace h := h.2 hc
          refine lv_aload_n hx hb d_GapFinder_countWaysIn_84 rfl (lv_at hl 0 rfl) ?_
          refine lv_aload_n hx hb d_GapFinder_countWaysIn_85 rfl (lv_at hl 0 rfl) ?_
          refine va_get (ci := 2) (v := .ref a0_between) hx hb htg in_GapFinder hown hK hP 0 rfl rfl 1 (by decide) (htg _ m_390) (fun _ h9 => h9) rfl d_GapFinder_countWaysIn_86 ?_
          refine lv_iload_n hx hb d_GapFinder_countWaysIn_89 rfl (lv_at hl 1 rfl) ?_
          obtain ⟨hin, h⟩ := h
          refine va_iald hx hb hK (gR hR rN hS) 0 0 rfl rfl hin d_GapFinder_countWaysIn_90 ?_
          have hPc : va_P G vwCl [(a0, .inr (2, [.ref a0_machine, .ref a0_between, .int v_o_betweenCount, .ref a0_isBetween, .ref a0_waysIn, .ref a0_far, .ref a0_settled, .int v_o_settledCount, .int v_o_widest])), (a0_settled, .inl (K 0, n_o_settled, .inl f_o_settled))] _ := hP.sub [0, 2] rfl
          have hDc : va_D A [(a0, .inr (2, [.ref a0_machine, .ref a0_between, .int v_o_betweenCount, .ref a0_isBetween, .ref a0_waysIn, .ref a0_far, .ref a0_settled, .int v_o_settledCount, .int v_o_widest])), (a0_settled, .inl (K 0, n_o_settled, .inl f_o_settled))] := hD.sub [0, 2] (by decide) rfl
          have hRc : va_P G vwCl [] _ := hP.sub [] rfl
          have hJc : gJ [(a0, .inr (2, [.ref a0_machine, .ref a0_between, .int v_o_betweenCount, .ref a0_isBetween, .ref a0_waysIn, .ref a0_far, .ref a0_settled, .int v_o_settledCount, .int v_o_widest])), (a0_settled, .inl (K 0, n_o_settled, .inl f_o_settled))] [] := gJ_nil
          refine g_callv (wr := [(a0_waysIn, .inl (K 0, n_o_waysIn, .inl f_o_waysIn))]) (va_runV (As := [.int (f_o_between l1.toNatClampNeg)]) (rest := []) ⟨hx, hb, hml, hown, htg⟩ (k_GapFinder_settle l G K a0 a0_settled a0_machine a0_between a0_isBetween a0_waysIn a0_far _ v_o_betweenCount v_o_settledCount v_o_widest n_o_settled f_o_settled (f_o_between l1.toNatClampNeg) _ h) (cwV 1 htg (gGoodV m_415 m_416 m_848 m_14 m_417) rfl rfl rfl (by decide +kernel) ⟨(Nat.le_of_ble_eq_true rfl), (Nat.le_of_ble_eq_true rfl)⟩) (gW_preV (ci := 2) (q0 := 0) hK hN hPc hDc hRc hJc hPc rfl rfl) rfl rfl hl.1 rfl (lv_room (Nat.le_of_ble_eq_true rfl)) d_GapFinder_countWaysIn_91 ⟨(Nat.le_of_ble_eq_true rfl), (Nat.le_of_ble_eq_true rfl)⟩) hP hD hS hA [0, 2] [1] rfl rfl (by decide) (by decide) (fun u H locs h hP hD hS => ?_)
          obtain ⟨u7201, u7202⟩ := u
          try dsimp only at h
          have hP : va_P G vwCl [(a0_waysIn, .inl (K 0, n_o_waysIn, .inl f_o_waysIn)), (a0, .inr (2, [.ref a0_machine, .ref a0_between, .int v_o_betweenCount, .ref a0_isBetween, .ref a0_waysIn, .ref a0_far, .ref a0_settled, .int u7201, .int v_o_widest])), (a0_settled, .inl (K 0, n_o_settled, .inl u7202))] H := hP
          have hD : va_D A [(a0_waysIn, .inl (K 0, n_o_waysIn, .inl f_o_waysIn)), (a0, .inr (2, [.ref a0_machine, .ref a0_between, .int v_o_betweenCount, .ref a0_isBetween, .ref a0_waysIn, .ref a0_far, .ref a0_settled, .int u7201, .int v_o_widest])), (a0_settled, .inl (K 0, n_o_settled, .inl u7202))] := hD
          refine lv_iinc (v := (l1 + 1)) (lv' := [(1, .int (l1 + 1)), (0, .ref a0)]) hx hb d_GapFinder_countWaysIn_94 hl (k := 1) rfl (by first | rfl | decide) (by decide) rfl (fun ls hl => ?_)
          refine lv_goto (tgt := 62) hx hb d_GapFinder_countWaysIn_97 (by decide) ?_
          exact ih (l1 + 1) u7201 f_o_waysIn u7202  _ _ (hP.sub [1, 0, 2] rfl) (hD.sub [1, 0, 2] (by decide) rfl) hS _ (lv_sub hl [1, 0] rfl) h
  have C_60 : ∀ (v_o_settledCount : Int32) (f_o_waysIn : (Nat → Int32)) (f_o_settled : (Nat → Int32)) (H : Heap) (locs : List Loc), va_P G vwCl [(a0, .inr (2, [.ref a0_machine, .ref a0_between, .int v_o_betweenCount, .ref a0_isBetween, .ref a0_waysIn, .ref a0_far, .ref a0_settled, .int v_o_settledCount, .int v_o_widest])), (a0_waysIn, .inl (K 0, n_o_waysIn, .inl f_o_waysIn)), (a0_settled, .inl (K 0, n_o_settled, .inl f_o_settled))] H → va_D A [(a0, .inr (2, [.ref a0_machine, .ref a0_between, .int v_o_betweenCount, .ref a0_isBetween, .ref a0_waysIn, .ref a0_far, .ref a0_settled, .int v_o_settledCount, .int v_o_widest])), (a0_waysIn, .inl (K 0, n_o_waysIn, .inl f_o_waysIn)), (a0_settled, .inl (K 0, n_o_settled, .inl f_o_settled))] → va_S A s.heap H locs → ∀ (ls : Array Slot), lv_has ls 4 [(0, .ref a0)] → p_GapFinder_countWaysIn_60 v_o_betweenCount n_o_between f_o_between n_o_waysIn n_o_settled post v_o_settledCount f_o_waysIn f_o_settled → W p l e { frames := 2, cells := 0, slots := 0, locals := 44 } s m ([.ref a0] : List Value).toArray below meth c H locs 0 0 Q (F0 m 60 ls []) := by
    intro  v_o_settledCount f_o_waysIn f_o_settled  H locs hP hD hS ls hl h
    refine lv_iconst (v := 0) hx hb d_GapFinder_countWaysIn_60 (by decide) ?_
    refine lv_istore_n (lv' := [(1, .int 0), (0, .ref a0)]) hx hb d_GapFinder_countWaysIn_61 rfl hl (by decide) rfl (fun ls hl => ?_)
    obtain ⟨k, h⟩ := h
    exact C_62 k 0 v_o_settledCount f_o_waysIn f_o_settled  _ _ (hP.sub [0, 1, 2] rfl) (hD.sub [0, 1, 2] (by decide) rfl) hS _ (lv_sub hl [1, 0] rfl) h
  have C_54 : ∀ (K_2 : Int32 → Int32 → (Nat → Int32) → (Nat → Int32) → Prop) (hK_2 : ∀ (l1 : Int32) (v_o_settledCount : Int32) (f_o_waysIn : (Nat → Int32)) (f_o_settled : (Nat → Int32)) (H : Heap) (locs : List Loc), va_P G vwCl [(a0, .inr (2, [.ref a0_machine, .ref a0_between, .int v_o_betweenCount, .ref a0_isBetween, .ref a0_waysIn, .ref a0_far, .ref a0_settled, .int v_o_settledCount, .int v_o_widest])), (a0_waysIn, .inl (K 0, n_o_waysIn, .inl f_o_waysIn)), (a0_settled, .inl (K 0, n_o_settled, .inl f_o_settled))] H → va_D A [(a0, .inr (2, [.ref a0_machine, .ref a0_between, .int v_o_betweenCount, .ref a0_isBetween, .ref a0_waysIn, .ref a0_far, .ref a0_settled, .int v_o_settledCount, .int v_o_widest])), (a0_waysIn, .inl (K 0, n_o_waysIn, .inl f_o_waysIn)), (a0_settled, .inl (K 0, n_o_settled, .inl f_o_settled))] → va_S A s.heap H locs → ∀ (ls : Array Slot), lv_has ls 4 [(0, .ref a0), (1, .int l1)] → K_2 l1 v_o_settledCount f_o_waysIn f_o_settled → W p l e { frames := 2, cells := 0, slots := 0, locals := 44 } s m ([.ref a0] : List Value).toArray below meth c H locs 0 0 Q (F0 m 2 ls [])) (l1 : Int32) (v_o_settledCount : Int32) (f_o_waysIn : (Nat → Int32)) (f_o_settled : (Nat → Int32)) (H : Heap) (locs : List Loc), va_P G vwCl [(a0, .inr (2, [.ref a0_machine, .ref a0_between, .int v_o_betweenCount, .ref a0_isBetween, .ref a0_waysIn, .ref a0_far, .ref a0_settled, .int v_o_settledCount, .int v_o_widest])), (a0_waysIn, .inl (K 0, n_o_waysIn, .inl f_o_waysIn)), (a0_settled, .inl (K 0, n_o_settled, .inl f_o_settled))] H → va_D A [(a0, .inr (2, [.ref a0_machine, .ref a0_between, .int v_o_betweenCount, .ref a0_isBetween, .ref a0_waysIn, .ref a0_far, .ref a0_settled, .int v_o_settledCount, .int v_o_widest])), (a0_waysIn, .inl (K 0, n_o_waysIn, .inl f_o_waysIn)), (a0_settled, .inl (K 0, n_o_settled, .inl f_o_settled))] → va_S A s.heap H locs → ∀ (ls : Array Slot), lv_has ls 4 [(0, .ref a0), (1, .int l1)] → p_GapFinder_countWaysIn_54 post K_2 l1 v_o_settledCount f_o_waysIn f_o_settled → W p l e { frames := 2, cells := 0, slots := 0, locals := 44 } s m ([.ref a0] : List Value).toArray below meth c H locs 0 0 Q (F0 m 54 ls []) := by
    intro K_2 hK_2 l1 v_o_settledCount f_o_waysIn f_o_settled  H locs hP hD hS ls hl h
    refine lv_iinc (v := (l1 + 1)) (lv' := [(1, .int (l1 + 1)), (0, .ref a0)]) hx hb d_GapFinder_countWaysIn_54 hl (k := 1) rfl (by first | rfl | decide) (by decide) rfl (fun ls hl => ?_)
    refine lv_goto (tgt := 2) hx hb d_GapFinder_countWaysIn_57 (by decide) ?_
    exact hK_2 (l1 + 1) v_o_settledCount f_o_waysIn f_o_settled  _ _ (hP.sub [0, 1, 2] rfl) (hD.sub [0, 1, 2] (by decide) rfl) hS _ (lv_sub hl [1, 0] rfl) h
  have C_12 : ∀ (K_2 : Int32 → Int32 → (Nat → Int32) → (Nat → Int32) → Prop) (hK_2 : ∀ (l1 : Int32) (v_o_settledCount : Int32) (f_o_waysIn : (Nat → Int32)) (f_o_settled : (Nat → Int32)) (H : Heap) (locs : List Loc), va_P G vwCl [(a0, .inr (2, [.ref a0_machine, .ref a0_between, .int v_o_betweenCount, .ref a0_isBetween, .ref a0_waysIn, .ref a0_far, .ref a0_settled, .int v_o_settledCount, .int v_o_widest])), (a0_waysIn, .inl (K 0, n_o_waysIn, .inl f_o_waysIn)), (a0_settled, .inl (K 0, n_o_settled, .inl f_o_settled))] H → va_D A [(a0, .inr (2, [.ref a0_machine, .ref a0_between, .int v_o_betweenCount, .ref a0_isBetween, .ref a0_waysIn, .ref a0_far, .ref a0_settled, .int v_o_settledCount, .int v_o_widest])), (a0_waysIn, .inl (K 0, n_o_waysIn, .inl f_o_waysIn)), (a0_settled, .inl (K 0, n_o_settled, .inl f_o_settled))] → va_S A s.heap H locs → ∀ (ls : Array Slot), lv_has ls 4 [(0, .ref a0), (1, .int l1)] → K_2 l1 v_o_settledCount f_o_waysIn f_o_settled → W p l e { frames := 2, cells := 0, slots := 0, locals := 44 } s m ([.ref a0] : List Value).toArray below meth c H locs 0 0 Q (F0 m 2 ls [])) (n : Nat) (l1 : Int32) (l2 : Int32) (v_o_settledCount : Int32) (f_o_waysIn : (Nat → Int32)) (f_o_settled : (Nat → Int32)) (H : Heap) (locs : List Loc), va_P G vwCl [(a0, .inr (2, [.ref a0_machine, .ref a0_between, .int v_o_betweenCount, .ref a0_isBetween, .ref a0_waysIn, .ref a0_far, .ref a0_settled, .int v_o_settledCount, .int v_o_widest])), (a0_waysIn, .inl (K 0, n_o_waysIn, .inl f_o_waysIn)), (a0_settled, .inl (K 0, n_o_settled, .inl f_o_settled))] H → va_D A [(a0, .inr (2, [.ref a0_machine, .ref a0_between, .int v_o_betweenCount, .ref a0_isBetween, .ref a0_waysIn, .ref a0_far, .ref a0_settled, .int v_o_settledCount, .int v_o_widest])), (a0_waysIn, .inl (K 0, n_o_waysIn, .inl f_o_waysIn)), (a0_settled, .inl (K 0, n_o_settled, .inl f_o_settled))] → va_S A s.heap H locs → ∀ (ls : Array Slot), lv_has ls 4 [(0, .ref a0), (1, .int l1), (2, .int l2)] → p_GapFinder_countWaysIn_12 n_o_between f_o_between n_o_machine_winners n_o_machine_after f_o_machine_after n_o_waysIn post K_2 n l1 l2 v_o_settledCount f_o_waysIn f_o_settled → W p l e { frames := 2, cells := 0, slots := 0, locals := 44 } s m ([.ref a0] : List Value).toArray below meth c H locs 0 0 Q (F0 m 12 ls []) := by
    intro K_2 hK_2
    intro n
    induction n with
    | zero =>
      intro l1 l2 v_o_settledCount f_o_waysIn f_o_settled  H locs hP hD hS ls hl h
      exact False.elim h
    | succ n ih =>
      intro l1 l2 v_o_settledCount f_o_waysIn f_o_settled  H locs hP hD hS ls hl h
      refine lv_iload_n hx hb d_GapFinder_countWaysIn_12 rfl (lv_at hl 2 rfl) ?_
      refine lv_bipush (v := 6) hx hb d_GapFinder_countWaysIn_13 (by decide) ?_
      refine lv_icmp_ge (tgt := 54) hx hb d_GapFinder_countWaysIn_15 (by decide) (fun hc => ?_) (fun hc => ?_)
      · replace h := h.1 hc
        exact C_54 _ hK_2 l1 v_o_settledCount f_o_waysIn f_o_settled  _ _ (hP.sub [0, 1, 2] rfl) (hD.sub [0, 1, 2] (by decide) rfl) hS _ (lv_sub hl [0, 1] rfl) h
      · replace h := h.2 hc
        refine lv_aload_n hx hb d_GapFinder_countWaysIn_18 rfl (lv_at hl 0 rfl) ?_
        refine va_get (ci := 2) (v := .ref a0_machine) hx hb htg in_GapFinder hown hK hP 0 rfl rfl 0 (by decide) (htg _ m_389) (fun _ h9 => h9) rfl d_GapFinder_countWaysIn_19 ?_
        refine lv_aload_n hx hb d_GapFinder_countWaysIn_22 rfl (lv_at hl 0 rfl) ?_
        refine va_get (ci := 2) (v := .ref a0_between) hx hb htg in_GapFinder hown hK hP 0 rfl rfl 1 (by decide) (htg _ m_390) (fun _ h9 => h9) rfl d_GapFinder_countWaysIn_23 ?_
        refine lv_iload_n hx hb d_GapFinder_countWaysIn_26 rfl (lv_at hl 1 rfl) ?_
        obtain ⟨hin, h⟩ := h
        refine va_iald hx hb hK (gR hR rN hS) 0 0 rfl rfl hin d_GapFinder_countWaysIn_27 ?_
        refine lv_iload_n hx hb d_GapFinder_countWaysIn_28 rfl (lv_at hl 2 rfl) ?_
        have hPc : va_P G vwCl [(a0_machine, .inr (4, [.ref a0_machine_after, .ref a0_machine_winners, .int v_o_machine_gap, .int v_o_machine_isGapKnown])), (a0_machine_winners, .inl (K 0, n_o_machine_winners, .inl f_o_machine_winners)), (a0_machine_after, .inl (K 0, n_o_machine_after, .inl f_o_machine_after))] _ := (gR hR rN hS).sub [1, 2, 3] rfl
        refine vp_callSi (va_Run.run (va_runV (As := [.int (f_o_between l1.toNatClampNeg), .int l2]) (rest := []) ⟨hx, hb, hml, hown, htg⟩ (k_Machine_after l G K a0_machine a0_machine_winners a0_machine_after v_o_machine_gap v_o_machine_isGapKnown n_o_machine_winners f_o_machine_winners n_o_machine_after f_o_machine_after (f_o_between l1.toNatClampNeg) l2 _ h) (cwV 2 htg (gGoodV m_411 m_360 m_361 m_9 m_362) rfl rfl rfl (by decide +kernel) ⟨(Nat.le_of_ble_eq_true rfl), (Nat.le_of_ble_eq_true rfl)⟩) (gS_preV (ci := 4) (q0 := 0) hK hN hPc rfl rfl) rfl rfl hl.1 rfl (lv_room (Nat.le_of_ble_eq_true rfl)) d_GapFinder_countWaysIn_29 ⟨(Nat.le_of_ble_eq_true rfl), (Nat.le_of_ble_eq_true rfl)⟩)) (fun r2201 h => ?_)
        refine lv_istore_n (lv' := [(3, .int r2201), (0, .ref a0), (1, .int l1), (2, .int l2)]) hx hb d_GapFinder_countWaysIn_32 rfl hl (by decide) rfl (fun ls hl => ?_)
        refine lv_iload_n hx hb d_GapFinder_countWaysIn_33 rfl (lv_at hl 0 rfl) ?_
        refine lv_iconst (v := (-1)) hx hb d_GapFinder_countWaysIn_34 (by decide) ?_
        refine lv_icmp_eq (tgt := 48) hx hb d_GapFinder_countWaysIn_35 (by decide) (fun hc => ?_) (fun hc => ?_)
        · replace h := h.1 hc
          refine lv_iinc (v := (l2 + 1)) (lv' := [(2, .int (l2 + 1)), (3, .int r2201), (0, .ref a0), (1, .int l1)]) hx hb d_GapFinder_countWaysIn_48 hl (k := 3) rfl (by first | rfl | decide) (by decide) rfl (fun ls hl => ?_)
          refine lv_goto (tgt := 12) hx hb d_GapFinder_countWaysIn_51 (by decide) ?_
          exact ih l1 (l2 + 1) v_o_settledCount f_o_waysIn f_o_settled  _ _ (hP.sub [0, 1, 2] rfl) (hD.sub [0, 1, 2] (by decide) rfl) hS _ (lv_sub hl [2, 3, 0] rfl) h
        · replace h := h.2 hc
          refine lv_aload_n hx hb d_GapFinder_countWaysIn_38 rfl (lv_at hl 1 rfl) ?_
          refine va_get (ci := 2) (v := .ref a0_waysIn) hx hb htg in_GapFinder hown hK hP 0 rfl rfl 4 (by decide) (htg _ m_393) (fun _ h9 => h9) rfl d_GapFinder_countWaysIn_39 ?_
          refine lv_iload_n hx hb d_GapFinder_countWaysIn_42 rfl (lv_at hl 0 rfl) ?_
          refine lv_dup2_11 hx hb d_GapFinder_countWaysIn_43 rfl rfl ?_
          obtain ⟨hin, h⟩ := h
          refine va_iald hx hb hK hP 1 0 rfl rfl hin d_GapFinder_countWaysIn_44 ?_
          refine lv_iconst (v := 1) hx hb d_GapFinder_countWaysIn_45 (by decide) ?_
          refine lv_iadd hx hb d_GapFinder_countWaysIn_46 ?_
          obtain ⟨hin, h⟩ := h
          refine va_iast hx hb hK hP hD hS 1 0 rfl rfl hin d_GapFinder_countWaysIn_47 (fun H locs hP hD hS => ?_)
          have hP : va_P G vwCl [(a0, .inr (2, [.ref a0_machine, .ref a0_between, .int v_o_betweenCount, .ref a0_isBetween, .ref a0_waysIn, .ref a0_far, .ref a0_settled, .int v_o_settledCount, .int v_o_widest])), (a0_waysIn, .inl (K 0, n_o_waysIn, .inl (upd f_o_waysIn r2201.toNatClampNeg ((f_o_waysIn r2201.toNatClampNeg) + 1)))), (a0_settled, .inl (K 0, n_o_settled, .inl f_o_settled))] H := hP
          have hD : va_D A [(a0, .inr (2, [.ref a0_machine, .ref a0_between, .int v_o_betweenCount, .ref a0_isBetween, .ref a0_waysIn, .ref a0_far, .ref a0_settled, .int v_o_settledCount, .int v_o_widest])), (a0_waysIn, .inl (K 0, n_o_waysIn, .inl (upd f_o_waysIn r2201.toNatClampNeg ((f_o_waysIn r2201.toNatClampNeg) + 1)))), (a0_settled, .inl (K 0, n_o_settled, .inl f_o_settled))] := hD
          refine lv_iinc (v := (l2 + 1)) (lv' := [(2, .int (l2 + 1)), (3, .int r2201), (0, .ref a0), (1, .int l1)]) hx hb d_GapFinder_countWaysIn_48 hl (k := 3) rfl (by first | rfl | decide) (by decide) rfl (fun ls hl => ?_)
          refine lv_goto (tgt := 12) hx hb d_GapFinder_countWaysIn_51 (by decide) ?_
          exact ih l1 (l2 + 1) v_o_settledCount (upd f_o_waysIn r2201.toNatClampNeg ((f_o_waysIn r2201.toNatClampNeg) + 1)) f_o_settled  _ _ (hP.sub [0, 1, 2] rfl) (hD.sub [0, 1, 2] (by decide) rfl) hS _ (lv_sub hl [2, 3, 0] rfl) h
  have C_2 : ∀ (n : Nat) (l1 : Int32) (v_o_settledCount : Int32) (f_o_waysIn : (Nat → Int32)) (f_o_settled : (Nat → Int32)) (H : Heap) (locs : List Loc), va_P G vwCl [(a0, .inr (2, [.ref a0_machine, .ref a0_between, .int v_o_betweenCount, .ref a0_isBetween, .ref a0_waysIn, .ref a0_far, .ref a0_settled, .int v_o_settledCount, .int v_o_widest])), (a0_waysIn, .inl (K 0, n_o_waysIn, .inl f_o_waysIn)), (a0_settled, .inl (K 0, n_o_settled, .inl f_o_settled))] H → va_D A [(a0, .inr (2, [.ref a0_machine, .ref a0_between, .int v_o_betweenCount, .ref a0_isBetween, .ref a0_waysIn, .ref a0_far, .ref a0_settled, .int v_o_settledCount, .int v_o_widest])), (a0_waysIn, .inl (K 0, n_o_waysIn, .inl f_o_waysIn)), (a0_settled, .inl (K 0, n_o_settled, .inl f_o_settled))] → va_S A s.heap H locs → ∀ (ls : Array Slot), lv_has ls 4 [(0, .ref a0), (1, .int l1)] → p_GapFinder_countWaysIn_2 v_o_betweenCount n_o_between f_o_between n_o_machine_winners n_o_machine_after f_o_machine_after n_o_waysIn n_o_settled post n l1 v_o_settledCount f_o_waysIn f_o_settled → W p l e { frames := 2, cells := 0, slots := 0, locals := 44 } s m ([.ref a0] : List Value).toArray below meth c H locs 0 0 Q (F0 m 2 ls []) := by
    intro n
    induction n with
    | zero =>
      intro l1 v_o_settledCount f_o_waysIn f_o_settled  H locs hP hD hS ls hl h
      exact False.elim h
    | succ n ih =>
      intro l1 v_o_settledCount f_o_waysIn f_o_settled  H locs hP hD hS ls hl h
      refine lv_iload_n hx hb d_GapFinder_countWaysIn_2 rfl (lv_at hl 1 rfl) ?_
      refine lv_aload_n hx hb d_GapFinder_countWaysIn_3 rfl (lv_at hl 0 rfl) ?_
      refine va_get (ci := 2) (v := .int v_o_betweenCount) hx hb htg in_GapFinder hown hK hP 0 rfl rfl 2 (by decide) (htg _ m_391) (fun _ h9 => h9) rfl d_GapFinder_countWaysIn_4 ?_
      refine lv_icmp_ge (tgt := 60) hx hb d_GapFinder_countWaysIn_7 (by decide) (fun hc => ?_) (fun hc => ?_)
      · replace h := h.1 hc
        exact C_60 v_o_settledCount f_o_waysIn f_o_settled  _ _ (hP.sub [0, 1, 2] rfl) (hD.sub [0, 1, 2] (by decide) rfl) hS _ (lv_sub hl [0] rfl) h
      · replace h := h.2 hc
        refine lv_iconst (v := 0) hx hb d_GapFinder_countWaysIn_10 (by decide) ?_
        refine lv_istore_n (lv' := [(2, .int 0), (0, .ref a0), (1, .int l1)]) hx hb d_GapFinder_countWaysIn_11 rfl hl (by decide) rfl (fun ls hl => ?_)
        obtain ⟨k, h⟩ := h
        exact C_12 _ ih k l1 0 v_o_settledCount f_o_waysIn f_o_settled  _ _ (hP.sub [0, 1, 2] rfl) (hD.sub [0, 1, 2] (by decide) rfl) hS _ (lv_sub hl [1, 2, 0] rfl) h
  refine lv_iconst (v := 0) hx hb d_GapFinder_countWaysIn_0 (by decide) ?_
  refine lv_istore_n (lv' := [(1, .int 0), (0, .ref a0)]) hx hb d_GapFinder_countWaysIn_1 rfl hl (by decide) rfl (fun ls hl => ?_)
  obtain ⟨k, h⟩ := h
  exact C_2 k 0 v_o_settledCount f_o_waysIn f_o_settled  _ _ (hP.sub [0, 1, 2] rfl) (hD.sub [0, 1, 2] (by decide) rfl) hS _ (lv_sub hl [1, 0] rfl) h
def p_GapFinder_passOn_11 (n_o_far : Nat) (n_o_machine_winners : Nat) (f_o_machine_winners : (Nat → Int32)) (n_o_machine_after : Nat) (f_o_machine_after : (Nat → Int32)) (n_o_waysIn : Nat) (n_o_settled : Nat) (x1 : Int32) (post : Int32 → Int32 → (Nat → Int32) → (Nat → Int32) → (Nat → Int32) → Prop) : Nat → Int32 → Int32 → Int32 → Int32 → (Nat → Int32) → (Nat → Int32) → (Nat → Int32) → Prop
  | 0, _, _, _, _, _, _, _ => False
  | n + 1, l2, l3, v_o_settledCount, v_o_widest, f_o_far, f_o_waysIn, f_o_settled => ((6 ≤ l3 → (post v_o_settledCount v_o_widest f_o_far f_o_waysIn f_o_settled)) ∧ (¬ 6 ≤ l3 → (p_Machine_after n_o_machine_winners n_o_machine_after f_o_machine_after x1 l3 (fun r2101 => ((¬ r2101 = (-1) → (p_Machine_hasWinner n_o_machine_winners f_o_machine_winners r2101 (fun r2102 => ((r2102 = 0 → (vp_in r2101 n_o_far ∧ (vp_in r2101 n_o_far ∧ (vp_in r2101 n_o_waysIn ∧ (vp_in r2101 n_o_waysIn ∧ (vp_in r2101 n_o_waysIn ∧ ((¬ ((upd f_o_waysIn r2101.toNatClampNeg ((f_o_waysIn r2101.toNatClampNeg) - 1)) r2101.toNatClampNeg) = 0 → (p_GapFinder_passOn_11 n_o_far n_o_machine_winners f_o_machine_winners n_o_machine_after f_o_machine_after n_o_waysIn n_o_settled x1 post n l2 (l3 + 1) v_o_settledCount v_o_widest (upd f_o_far r2101.toNatClampNeg (if (f_o_far r2101.toNatClampNeg) < l2 then l2 else (f_o_far r2101.toNatClampNeg))) (upd f_o_waysIn r2101.toNatClampNeg ((f_o_waysIn r2101.toNatClampNeg) - 1)) f_o_settled)) ∧ (((upd f_o_waysIn r2101.toNatClampNeg ((f_o_waysIn r2101.toNatClampNeg) - 1)) r2101.toNatClampNeg) = 0 → (p_GapFinder_settle v_o_settledCount n_o_settled f_o_settled r2101 (fun u2103 u2104 => (p_GapFinder_passOn_11 n_o_far n_o_machine_winners f_o_machine_winners n_o_machine_after f_o_machine_after n_o_waysIn n_o_settled x1 post n l2 (l3 + 1) u2103 v_o_widest (upd f_o_far r2101.toNatClampNeg (if (f_o_far r2101.toNatClampNeg) < l2 then l2 else (f_o_far r2101.toNatClampNeg))) (upd f_o_waysIn r2101.toNatClampNeg ((f_o_waysIn r2101.toNatClampNeg) - 1)) u2104))))))))))) ∧ (¬ r2102 = 0 → (p_GapFinder_passOn_11 n_o_far n_o_machine_winners f_o_machine_winners n_o_machine_after f_o_machine_after n_o_waysIn n_o_settled x1 post n l2 (l3 + 1) v_o_settledCount (if v_o_widest < l2 then l2 else v_o_widest) f_o_far f_o_waysIn f_o_settled)))))) ∧ (r2101 = (-1) → (p_GapFinder_passOn_11 n_o_far n_o_machine_winners f_o_machine_winners n_o_machine_after f_o_machine_after n_o_waysIn n_o_settled x1 post n l2 (l3 + 1) v_o_settledCount v_o_widest f_o_far f_o_waysIn f_o_settled)))))))
def p_GapFinder_passOn (v_o_settledCount : Int32) (v_o_widest : Int32) (n_o_far : Nat) (f_o_far : (Nat → Int32)) (n_o_machine_winners : Nat) (f_o_machine_winners : (Nat → Int32)) (n_o_machine_after : Nat) (f_o_machine_after : (Nat → Int32)) (n_o_waysIn : Nat) (f_o_waysIn : (Nat → Int32)) (n_o_settled : Nat) (f_o_settled : (Nat → Int32)) (x1 : Int32) (post : Int32 → Int32 → (Nat → Int32) → (Nat → Int32) → (Nat → Int32) → Prop) : Prop := (vp_in x1 n_o_far ∧ (∃ k, p_GapFinder_passOn_11 n_o_far n_o_machine_winners f_o_machine_winners n_o_machine_after f_o_machine_after n_o_waysIn n_o_settled x1 post k ((f_o_far x1.toNatClampNeg) + 1) 0 v_o_settledCount v_o_widest f_o_far f_o_waysIn f_o_settled))
set_option maxHeartbeats 4000000 in
set_option maxRecDepth 100000 in
theorem k_GapFinder_passOn (l : Launch) (G : va_G) (K : Nat → ClassId) (a0 a0_far a0_machine a0_machine_winners a0_machine_after a0_waysIn a0_settled a0_between a0_isBetween : Nat) (sz : Nat) (v_o_betweenCount : Int32) (v_o_settledCount : Int32) (v_o_widest : Int32) (n_o_far : Nat) (f_o_far : (Nat → Int32)) (v_o_machine_gap : Int32) (v_o_machine_isGapKnown : Int32) (n_o_machine_winners : Nat) (f_o_machine_winners : (Nat → Int32)) (n_o_machine_after : Nat) (f_o_machine_after : (Nat → Int32)) (n_o_waysIn : Nat) (f_o_waysIn : (Nat → Int32)) (n_o_settled : Nat) (f_o_settled : (Nat → Int32)) (x1 : Int32) (post : Int32 → Int32 → (Nat → Int32) → (Nat → Int32) → (Nat → Int32) → Prop) (h : p_GapFinder_passOn v_o_settledCount v_o_widest n_o_far f_o_far n_o_machine_winners f_o_machine_winners n_o_machine_after f_o_machine_after n_o_waysIn f_o_waysIn n_o_settled f_o_settled x1 post) : MWv l y_GapFinder_passOn (.code y_GapFinder_passOn c_GapFinder_passOn 5 none) { frames := 3, cells := 0, slots := 0, locals := 63 } G K [(a0, .inr (2, [.ref a0_machine, .ref a0_between, .int v_o_betweenCount, .ref a0_isBetween, .ref a0_waysIn, .ref a0_far, .ref a0_settled, .int v_o_settledCount, .int v_o_widest])), (a0_far, .inl (K 0, n_o_far, .inl f_o_far)), (a0_waysIn, .inl (K 0, n_o_waysIn, .inl f_o_waysIn)), (a0_settled, .inl (K 0, n_o_settled, .inl f_o_settled))] [(a0_machine, .inr (4, [.ref a0_machine_after, .ref a0_machine_winners, .int v_o_machine_gap, .int v_o_machine_isGapKnown])), (a0_machine_winners, .inl (K 0, n_o_machine_winners, .inl f_o_machine_winners)), (a0_machine_after, .inl (K 0, n_o_machine_after, .inl f_o_machine_after))] [.ref a0, .int x1] sz (fun (u : Int32 × Int32 × (Nat → Int32) × (Nat → Int32) × (Nat → Int32)) => post u.1 u.2.1 u.2.2.1 u.2.2.2.1 u.2.2.2.2) (fun u => [(a0, .inr (2, [.ref a0_machine, .ref a0_between, .int v_o_betweenCount, .ref a0_isBetween, .ref a0_waysIn, .ref a0_far, .ref a0_settled, .int u.1, .int u.2.1])), (a0_far, .inl (K 0, n_o_far, .inl u.2.2.1)), (a0_waysIn, .inl (K 0, n_o_waysIn, .inl u.2.2.2.1)), (a0_settled, .inl (K 0, n_o_settled, .inl u.2.2.2.2))]) 0 0 := by
  refine g_metWv (cc := c_GapFinder_passOn) (maxL := 5) (ret := none) (by decide) rfl rfl (Nat.le_of_ble_eq_true rfl) ?_
  intro p e s m below meth c A Q hx hb hml hown hname htg hK hN hP hD hA hS hR rN hret ls hl
  have hl : lv_has ls 5 [(0, .ref a0), (1, .int x1)] := hl
  have C_11 : ∀ (n : Nat) (l2 : Int32) (l3 : Int32) (v_o_settledCount : Int32) (v_o_widest : Int32) (f_o_far : (Nat → Int32)) (f_o_waysIn : (Nat → Int32)) (f_o_settled : (Nat → Int32)) (H : Heap) (locs : List Loc), va_P G vwCl [(a0, .inr (2, [.ref a0_machine, .ref a0_between, .int v_o_betweenCount, .ref a0_isBetween, .ref a0_waysIn, .ref a0_far, .ref a0_settled, .int v_o_settledCount, .int v_o_widest])), (a0_far, .inl (K 0, n_o_far, .inl f_o_far)), (a0_waysIn, .inl (K 0, n_o_waysIn, .inl f_o_waysIn)), (a0_settled, .inl (K 0, n_o_settled, .inl f_o_settled))] H → va_D A [(a0, .inr (2, [.ref a0_machine, .ref a0_between, .int v_o_betweenCount, .ref a0_isBetween, .ref a0_waysIn, .ref a0_far, .ref a0_settled, .int v_o_settledCount, .int v_o_widest])), (a0_far, .inl (K 0, n_o_far, .inl f_o_far)), (a0_waysIn, .inl (K 0, n_o_waysIn, .inl f_o_waysIn)), (a0_settled, .inl (K 0, n_o_settled, .inl f_o_settled))] → va_S A s.heap H locs → ∀ (ls : Array Slot), lv_has ls 5 [(0, .ref a0), (1, .int x1), (2, .int l2), (3, .int l3)] → p_GapFinder_passOn_11 n_o_far n_o_machine_winners f_o_machine_winners n_o_machine_after f_o_machine_after n_o_waysIn n_o_settled x1 post n l2 l3 v_o_settledCount v_o_widest f_o_far f_o_waysIn f_o_settled → W p l e { frames := 3, cells := 0, slots := 0, locals := 63 } s m ([.ref a0, .int x1] : List Value).toArray below meth c H locs 0 0 Q (F0 m 11 ls []) := by
    intro n
    induction n with
    | zero =>
      intro l2 l3 v_o_settledCount v_o_widest f_o_far f_o_waysIn f_o_settled  H locs hP hD hS ls hl h
      exact False.elim h
    | succ n ih =>
      intro l2 l3 v_o_settledCount v_o_widest f_o_far f_o_waysIn f_o_settled  H locs hP hD hS ls hl h
      refine lv_iload_n hx hb d_GapFinder_passOn_11 rfl (lv_at hl 3 rfl) ?_
      refine lv_bipush (v := 6) hx hb d_GapFinder_passOn_12 (by decide) ?_
      refine lv_icmp_ge (tgt := 115) hx hb d_GapFinder_passOn_14 (by decide) (fun hc => ?_) (fun hc => ?_)
      · replace h := h.1 hc
        exact hret (v_o_settledCount, v_o_widest, f_o_far, f_o_waysIn, f_o_settled) _ _ _ _ h (hP.sub [0, 1, 2, 3] rfl) (hD.sub [0, 1, 2, 3] (by decide) rfl) hS d_GapFinder_passOn_115
      · replace h := h.2 hc
        refine lv_aload_n hx hb d_GapFinder_passOn_17 rfl (lv_at hl 0 rfl) ?_
        refine va_get (ci := 2) (v := .ref a0_machine) hx hb htg in_GapFinder hown hK hP 0 rfl rfl 0 (by decide) (htg _ m_389) (fun _ h9 => h9) rfl d_GapFinder_passOn_18 ?_
        refine lv_iload_n hx hb d_GapFinder_passOn_21 rfl (lv_at hl 1 rfl) ?_
        refine lv_iload_n hx hb d_GapFinder_passOn_22 rfl (lv_at hl 3 rfl) ?_
        have hPc : va_P G vwCl [(a0_machine, .inr (4, [.ref a0_machine_after, .ref a0_machine_winners, .int v_o_machine_gap, .int v_o_machine_isGapKnown])), (a0_machine_winners, .inl (K 0, n_o_machine_winners, .inl f_o_machine_winners)), (a0_machine_after, .inl (K 0, n_o_machine_after, .inl f_o_machine_after))] _ := (gR hR rN hS).sub [0, 1, 2] rfl
        refine vp_callSi (va_Run.run (va_runV (As := [.int x1, .int l3]) (rest := []) ⟨hx, hb, hml, hown, htg⟩ (k_Machine_after l G K a0_machine a0_machine_winners a0_machine_after v_o_machine_gap v_o_machine_isGapKnown n_o_machine_winners f_o_machine_winners n_o_machine_after f_o_machine_after x1 l3 _ h) (cwV 2 htg (gGoodV m_411 m_360 m_361 m_9 m_362) rfl rfl rfl (by decide +kernel) ⟨(Nat.le_of_ble_eq_true rfl), (Nat.le_of_ble_eq_true rfl)⟩) (gS_preV (ci := 4) (q0 := 0) hK hN hPc rfl rfl) rfl rfl hl.1 rfl (lv_room (Nat.le_of_ble_eq_true rfl)) d_GapFinder_passOn_23 ⟨(Nat.le_of_ble_eq_true rfl), (Nat.le_of_ble_eq_true rfl)⟩)) (fun r2101 h => ?_)
        refine lv_istore (lv' := [(4, .int r2101), (0, .ref a0), (1, .int x1), (2, .int l2), (3, .int l3)]) hx hb d_GapFinder_passOn_26 hl (by decide) rfl (fun ls hl => ?_)
        refine lv_iload hx hb d_GapFinder_passOn_28 (lv_at hl 0 rfl) ?_
        refine lv_iconst (v := (-1)) hx hb d_GapFinder_passOn_30 (by decide) ?_
        refine lv_icmp_ne (tgt := 37) hx hb d_GapFinder_passOn_31 (by decide) (fun hc => ?_) (fun hc => ?_)
        · replace h := h.1 hc
          refine lv_aload_n hx hb d_GapFinder_passOn_37 rfl (lv_at hl 1 rfl) ?_
          refine va_get (ci := 2) (v := .ref a0_machine) hx hb htg in_GapFinder hown hK hP 0 rfl rfl 0 (by decide) (htg _ m_389) (fun _ h9 => h9) rfl d_GapFinder_passOn_38 ?_
          refine lv_iload hx hb d_GapFinder_passOn_41 (lv_at hl 0 rfl) ?_
          have hPc : va_P G vwCl [(a0_machine, .inr (4, [.ref a0_machine_after, .ref a0_machine_winners, .int v_o_machine_gap, .int v_o_machine_isGapKnown])), (a0_machine_winners, .inl (K 0, n_o_machine_winners, .inl f_o_machine_winners))] _ := (gR hR rN hS).sub [0, 1] rfl
          refine vp_callSi (va_Run.run (va_runV (As := [.int r2101]) (rest := []) ⟨hx, hb, hml, hown, htg⟩ (k_Machine_hasWinner l G K a0_machine a0_machine_winners a0_machine_after v_o_machine_gap v_o_machine_isGapKnown n_o_machine_winners f_o_machine_winners r2101 _ h) (cwV 1 htg (gGoodV m_403 m_404 m_405 m_9 m_406) rfl rfl rfl (by decide +kernel) ⟨(Nat.le_of_ble_eq_true rfl), (Nat.le_of_ble_eq_true rfl)⟩) (gS_preV (ci := 4) (q0 := 0) hK hN hPc rfl rfl) rfl rfl hl.1 rfl (lv_room (Nat.le_of_ble_eq_true rfl)) d_GapFinder_passOn_43 ⟨(Nat.le_of_ble_eq_true rfl), (Nat.le_of_ble_eq_true rfl)⟩)) (fun r2102 h => ?_)
          refine lv_if_eq (tgt := 64) hx hb d_GapFinder_passOn_46 (by decide) (fun hc => ?_) (fun hc => ?_)
          · replace h := h.1 hc
            refine lv_aload_n hx hb d_GapFinder_passOn_64 rfl (lv_at hl 1 rfl) ?_
            refine va_get (ci := 2) (v := .ref a0_far) hx hb htg in_GapFinder hown hK hP 0 rfl rfl 5 (by decide) (htg _ m_394) (fun _ h9 => h9) rfl d_GapFinder_passOn_65 ?_
            refine lv_iload hx hb d_GapFinder_passOn_68 (lv_at hl 0 rfl) ?_
            refine lv_aload_n hx hb d_GapFinder_passOn_70 rfl (lv_at hl 1 rfl) ?_
            refine va_get (ci := 2) (v := .ref a0_far) hx hb htg in_GapFinder hown hK hP 0 rfl rfl 5 (by decide) (htg _ m_394) (fun _ h9 => h9) rfl d_GapFinder_passOn_71 ?_
            refine lv_iload hx hb d_GapFinder_passOn_74 (lv_at hl 0 rfl) ?_
            obtain ⟨hin, h⟩ := h
            refine va_iald hx hb hK hP 1 0 rfl rfl hin d_GapFinder_passOn_76 ?_
            refine lv_iload_n hx hb d_GapFinder_passOn_77 rfl (lv_at hl 3 rfl) ?_
            refine va_mmax hx hb (hml.trans hl.1.symm) hown (htg _ m_421) (htg _ m_422) (htg _ m_15) (htg _ m_423) (Nat.le_of_ble_eq_true rfl) (Nat.le_of_ble_eq_true rfl) (Nat.le_of_ble_eq_true rfl) (Nat.le_of_ble_eq_true rfl) d_GapFinder_passOn_78 ?_
            obtain ⟨hin, h⟩ := h
            refine va_iast hx hb hK hP hD hS 1 0 rfl rfl hin d_GapFinder_passOn_81 (fun H locs hP hD hS => ?_)
            have hP : va_P G vwCl [(a0, .inr (2, [.ref a0_machine, .ref a0_between, .int v_o_betweenCount, .ref a0_isBetween, .ref a0_waysIn, .ref a0_far, .ref a0_settled, .int v_o_settledCount, .int v_o_widest])), (a0_far, .inl (K 0, n_o_far, .inl (upd f_o_far r2101.toNatClampNeg (if (f_o_far r2101.toNatClampNeg) < l2 then l2 else (f_o_far r2101.toNatClampNeg))))), (a0_waysIn, .inl (K 0, n_o_waysIn, .inl f_o_waysIn)), (a0_settled, .inl (K 0, n_o_settled, .inl f_o_settled))] H := hP
            have hD : va_D A [(a0, .inr (2, [.ref a0_machine, .ref a0_between, .int v_o_betweenCount, .ref a0_isBetween, .ref a0_waysIn, .ref a0_far, .ref a0_settled, .int v_o_settledCount, .int v_o_widest])), (a0_far, .inl (K 0, n_o_far, .inl (upd f_o_far r2101.toNatClampNeg (if (f_o_far r2101.toNatClampNeg) < l2 then l2 else (f_o_far r2101.toNatClampNeg))))), (a0_waysIn, .inl (K 0, n_o_waysIn, .inl f_o_waysIn)), (a0_settled, .inl (K 0, n_o_settled, .inl f_o_settled))] := hD
            refine lv_aload_n hx hb d_GapFinder_passOn_82 rfl (lv_at hl 1 rfl) ?_
            refine va_get (ci := 2) (v := .ref a0_waysIn) hx hb htg in_GapFinder hown hK hP 0 rfl rfl 4 (by decide) (htg _ m_393) (fun _ h9 => h9) rfl d_GapFinder_passOn_83 ?_
            refine lv_iload hx hb d_GapFinder_passOn_86 (lv_at hl 0 rfl) ?_
            refine lv_dup2_11 hx hb d_GapFinder_passOn_88 rfl rfl ?_
            obtain ⟨hin, h⟩ := h
            refine va_iald hx hb hK hP 2 0 rfl rfl hin d_GapFinder_passOn_89 ?_
            refine lv_iconst (v := 1) hx hb d_GapFinder_passOn_90 (by decide) ?_
            refine lv_isub hx hb d_GapFinder_passOn_91 ?_
            obtain ⟨hin, h⟩ := h
            refine va_iast hx hb hK hP hD hS 2 0 rfl rfl hin d_GapFinder_passOn_92 (fun H locs hP hD hS => ?_)
            have hP : va_P G vwCl [(a0, .inr (2, [.ref a0_machine, .ref a0_between, .int v_o_betweenCount, .ref a0_isBetween, .ref a0_waysIn, .ref a0_far, .ref a0_settled, .int v_o_settledCount, .int v_o_widest])), (a0_far, .inl (K 0, n_o_far, .inl (upd f_o_far r2101.toNatClampNeg (if (f_o_far r2101.toNatClampNeg) < l2 then l2 else (f_o_far r2101.toNatClampNeg))))), (a0_waysIn, .inl (K 0, n_o_waysIn, .inl (upd f_o_waysIn r2101.toNatClampNeg ((f_o_waysIn r2101.toNatClampNeg) - 1)))), (a0_settled, .inl (K 0, n_o_settled, .inl f_o_settled))] H := hP
            have hD : va_D A [(a0, .inr (2, [.ref a0_machine, .ref a0_between, .int v_o_betweenCount, .ref a0_isBetween, .ref a0_waysIn, .ref a0_far, .ref a0_settled, .int v_o_settledCount, .int v_o_widest])), (a0_far, .inl (K 0, n_o_far, .inl (upd f_o_far r2101.toNatClampNeg (if (f_o_far r2101.toNatClampNeg) < l2 then l2 else (f_o_far r2101.toNatClampNeg))))), (a0_waysIn, .inl (K 0, n_o_waysIn, .inl (upd f_o_waysIn r2101.toNatClampNeg ((f_o_waysIn r2101.toNatClampNeg) - 1)))), (a0_settled, .inl (K 0, n_o_settled, .inl f_o_settled))] := hD
            refine lv_aload_n hx hb d_GapFinder_passOn_93 rfl (lv_at hl 1 rfl) ?_
            refine va_get (ci := 2) (v := .ref a0_waysIn) hx hb htg in_GapFinder hown hK hP 0 rfl rfl 4 (by decide) (htg _ m_393) (fun _ h9 => h9) rfl d_GapFinder_passOn_94 ?_
            refine lv_iload hx hb d_GapFinder_passOn_97 (lv_at hl 0 rfl) ?_
            obtain ⟨hin, h⟩ := h
            refine va_iald hx hb hK hP 2 0 rfl rfl hin d_GapFinder_passOn_99 ?_
            refine lv_if_ne (tgt := 109) hx hb d_GapFinder_passOn_100 (by decide) (fun hc => ?_) (fun hc => ?_)
            · replace h := h.1 hc
              refine lv_iinc (v := (l3 + 1)) (lv' := [(3, .int (l3 + 1)), (4, .int r2101), (0, .ref a0), (1, .int x1), (2, .int l2)]) hx hb d_GapFinder_passOn_109 hl (k := 4) rfl (by first | rfl | decide) (by decide) rfl (fun ls hl => ?_)
              refine lv_goto (tgt := 11) hx hb d_GapFinder_passOn_112 (by decide) ?_
              exact ih l2 (l3 + 1) v_o_settledCount v_o_widest (upd f_o_far r2101.toNatClampNeg (if (f_o_far r2101.toNatClampNeg) < l2 then l2 else (f_o_far r2101.toNatClampNeg))) (upd f_o_waysIn r2101.toNatClampNeg ((f_o_waysIn r2101.toNatClampNeg) - 1)) f_o_settled  _ _ (hP.sub [0, 1, 2, 3] rfl) (hD.sub [0, 1, 2, 3] (by decide) rfl) hS _ (lv_sub hl [2, 3, 4, 0] rfl) h
            · replace h := h.2 hc
              refine lv_aload_n hx hb d_GapFinder_passOn_103 rfl (lv_at hl 1 rfl) ?_
              refine lv_iload hx hb d_GapFinder_passOn_104 (lv_at hl 0 rfl) ?_
              have hPc : va_P G vwCl [(a0, .inr (2, [.ref a0_machine, .ref a0_between, .int v_o_betweenCount, .ref a0_isBetween, .ref a0_waysIn, .ref a0_far, .ref a0_settled, .int v_o_settledCount, .int v_o_widest])), (a0_settled, .inl (K 0, n_o_settled, .inl f_o_settled))] _ := hP.sub [0, 3] rfl
              have hDc : va_D A [(a0, .inr (2, [.ref a0_machine, .ref a0_between, .int v_o_betweenCount, .ref a0_isBetween, .ref a0_waysIn, .ref a0_far, .ref a0_settled, .int v_o_settledCount, .int v_o_widest])), (a0_settled, .inl (K 0, n_o_settled, .inl f_o_settled))] := hD.sub [0, 3] (by decide) rfl
              have hRc : va_P G vwCl [] _ := hP.sub [] rfl
              have hJc : gJ [(a0, .inr (2, [.ref a0_machine, .ref a0_between, .int v_o_betweenCount, .ref a0_isBetween, .ref a0_waysIn, .ref a0_far, .ref a0_settled, .int v_o_settledCount, .int v_o_widest])), (a0_settled, .inl (K 0, n_o_settled, .inl f_o_settled))] [] := gJ_nil
              refine g_callv (wr := [(a0_far, .inl (K 0, n_o_far, .inl (upd f_o_far r2101.toNatClampNeg (if (f_o_far r2101.toNatClampNeg) < l2 then l2 else (f_o_far r2101.toNatClampNeg))))), (a0_waysIn, .inl (K 0, n_o_waysIn, .inl (upd f_o_waysIn r2101.toNatClampNeg ((f_o_waysIn r2101.toNatClampNeg) - 1))))]) (va_runV (As := [.int r2101]) (rest := []) ⟨hx, hb, hml, hown, htg⟩ (k_GapFinder_settle l G K a0 a0_settled a0_machine a0_between a0_isBetween a0_waysIn a0_far _ v_o_betweenCount v_o_settledCount v_o_widest n_o_settled f_o_settled r2101 _ h) (cwV 1 htg (gGoodV m_415 m_416 m_848 m_14 m_417) rfl rfl rfl (by decide +kernel) ⟨(Nat.le_of_ble_eq_true rfl), (Nat.le_of_ble_eq_true rfl)⟩) (gW_preV (ci := 2) (q0 := 0) hK hN hPc hDc hRc hJc hPc rfl rfl) rfl rfl hl.1 rfl (lv_room (Nat.le_of_ble_eq_true rfl)) d_GapFinder_passOn_106 ⟨(Nat.le_of_ble_eq_true rfl), (Nat.le_of_ble_eq_true rfl)⟩) hP hD hS hA [0, 3] [1, 2] rfl rfl (by decide) (by decide) (fun u H locs h hP hD hS => ?_)
              obtain ⟨u2103, u2104⟩ := u
              try dsimp only at h
              have hP : va_P G vwCl [(a0_far, .inl (K 0, n_o_far, .inl (upd f_o_far r2101.toNatClampNeg (if (f_o_far r2101.toNatClampNeg) < l2 then l2 else (f_o_far r2101.toNatClampNeg))))), (a0_waysIn, .inl (K 0, n_o_waysIn, .inl (upd f_o_waysIn r2101.toNatClampNeg ((f_o_waysIn r2101.toNatClampNeg) - 1)))), (a0, .inr (2, [.ref a0_machine, .ref a0_between, .int v_o_betweenCount, .ref a0_isBetween, .ref a0_waysIn, .ref a0_far, .ref a0_settled, .int u2103, .int v_o_widest])), (a0_settled, .inl (K 0, n_o_settled, .inl u2104))] H := hP
              have hD : va_D A [(a0_far, .inl (K 0, n_o_far, .inl (upd f_o_far r2101.toNatClampNeg (if (f_o_far r2101.toNatClampNeg) < l2 then l2 else (f_o_far r2101.toNatClampNeg))))), (a0_waysIn, .inl (K 0, n_o_waysIn, .inl (upd f_o_waysIn r2101.toNatClampNeg ((f_o_waysIn r2101.toNatClampNeg) - 1)))), (a0, .inr (2, [.ref a0_machine, .ref a0_between, .int v_o_betweenCount, .ref a0_isBetween, .ref a0_waysIn, .ref a0_far, .ref a0_settled, .int u2103, .int v_o_widest])), (a0_settled, .inl (K 0, n_o_settled, .inl u2104))] := hD
              refine lv_iinc (v := (l3 + 1)) (lv' := [(3, .int (l3 + 1)), (4, .int r2101), (0, .ref a0), (1, .int x1), (2, .int l2)]) hx hb d_GapFinder_passOn_109 hl (k := 4) rfl (by first | rfl | decide) (by decide) rfl (fun ls hl => ?_)
              refine lv_goto (tgt := 11) hx hb d_GapFinder_passOn_112 (by decide) ?_
              exact ih l2 (l3 + 1) u2103 v_o_widest (upd f_o_far r2101.toNatClampNeg (if (f_o_far r2101.toNatClampNeg) < l2 then l2 else (f_o_far r2101.toNatClampNeg))) (upd f_o_waysIn r2101.toNatClampNeg ((f_o_waysIn r2101.toNatClampNeg) - 1)) u2104  _ _ (hP.sub [2, 0, 1, 3] rfl) (hD.sub [2, 0, 1, 3] (by decide) rfl) hS _ (lv_sub hl [2, 3, 4, 0] rfl) h
          · replace h := h.2 hc
            refine lv_aload_n hx hb d_GapFinder_passOn_49 rfl (lv_at hl 1 rfl) ?_
            refine lv_aload_n hx hb d_GapFinder_passOn_50 rfl (lv_at hl 1 rfl) ?_
            refine va_get (ci := 2) (v := .int v_o_widest) hx hb htg in_GapFinder hown hK hP 0 rfl rfl 8 (by decide) (htg _ m_397) (fun _ h9 => h9) rfl d_GapFinder_passOn_51 ?_
            refine lv_iload_n hx hb d_GapFinder_passOn_54 rfl (lv_at hl 3 rfl) ?_
            refine va_mmax hx hb (hml.trans hl.1.symm) hown (htg _ m_421) (htg _ m_422) (htg _ m_15) (htg _ m_423) (Nat.le_of_ble_eq_true rfl) (Nat.le_of_ble_eq_true rfl) (Nat.le_of_ble_eq_true rfl) (Nat.le_of_ble_eq_true rfl) d_GapFinder_passOn_55 ?_
            refine va_put (ci := 2) (v := .int (if v_o_widest < l2 then l2 else v_o_widest)) (ty := .int) hx hb htg in_GapFinder t_GapFinder tok_GapFinder nm_GapFinder hown hK hP hD hS 0 rfl rfl 8 (by decide) (htg _ m_397) (fun _ h9 => h9) rfl (by decide +kernel) rfl rfl (Nat.le_of_ble_eq_true rfl) d_GapFinder_passOn_58 (fun H locs hP hD hS => ?_)
            have hP : va_P G vwCl [(a0, .inr (2, [.ref a0_machine, .ref a0_between, .int v_o_betweenCount, .ref a0_isBetween, .ref a0_waysIn, .ref a0_far, .ref a0_settled, .int v_o_settledCount, .int (if v_o_widest < l2 then l2 else v_o_widest)])), (a0_far, .inl (K 0, n_o_far, .inl f_o_far)), (a0_waysIn, .inl (K 0, n_o_waysIn, .inl f_o_waysIn)), (a0_settled, .inl (K 0, n_o_settled, .inl f_o_settled))] H := hP
            have hD : va_D A [(a0, .inr (2, [.ref a0_machine, .ref a0_between, .int v_o_betweenCount, .ref a0_isBetween, .ref a0_waysIn, .ref a0_far, .ref a0_settled, .int v_o_settledCount, .int (if v_o_widest < l2 then l2 else v_o_widest)])), (a0_far, .inl (K 0, n_o_far, .inl f_o_far)), (a0_waysIn, .inl (K 0, n_o_waysIn, .inl f_o_waysIn)), (a0_settled, .inl (K 0, n_o_settled, .inl f_o_settled))] := hD
            refine lv_goto (tgt := 109) hx hb d_GapFinder_passOn_61 (by decide) ?_
            refine lv_iinc (v := (l3 + 1)) (lv' := [(3, .int (l3 + 1)), (4, .int r2101), (0, .ref a0), (1, .int x1), (2, .int l2)]) hx hb d_GapFinder_passOn_109 hl (k := 4) rfl (by first | rfl | decide) (by decide) rfl (fun ls hl => ?_)
            refine lv_goto (tgt := 11) hx hb d_GapFinder_passOn_112 (by decide) ?_
            exact ih l2 (l3 + 1) v_o_settledCount (if v_o_widest < l2 then l2 else v_o_widest) f_o_far f_o_waysIn f_o_settled  _ _ (hP.sub [0, 1, 2, 3] rfl) (hD.sub [0, 1, 2, 3] (by decide) rfl) hS _ (lv_sub hl [2, 3, 4, 0] rfl) h
        · replace h := h.2 hc
          refine lv_goto (tgt := 109) hx hb d_GapFinder_passOn_34 (by decide) ?_
          refine lv_iinc (v := (l3 + 1)) (lv' := [(3, .int (l3 + 1)), (4, .int r2101), (0, .ref a0), (1, .int x1), (2, .int l2)]) hx hb d_GapFinder_passOn_109 hl (k := 4) rfl (by first | rfl | decide) (by decide) rfl (fun ls hl => ?_)
          refine lv_goto (tgt := 11) hx hb d_GapFinder_passOn_112 (by decide) ?_
          exact ih l2 (l3 + 1) v_o_settledCount v_o_widest f_o_far f_o_waysIn f_o_settled  _ _ (hP.sub [0, 1, 2, 3] rfl) (hD.sub [0, 1, 2, 3] (by decide) rfl) hS _ (lv_sub hl [2, 3, 4, 0] rfl) h
  refine lv_aload_n hx hb d_GapFinder_passOn_0 rfl (lv_at hl 0 rfl) ?_
  refine va_get (ci := 2) (v := .ref a0_far) hx hb htg in_GapFinder hown hK hP 0 rfl rfl 5 (by decide) (htg _ m_394) (fun _ h9 => h9) rfl d_GapFinder_passOn_1 ?_
  refine lv_iload_n hx hb d_GapFinder_passOn_4 rfl (lv_at hl 1 rfl) ?_
  obtain ⟨hin, h⟩ := h
  refine va_iald hx hb hK hP 1 0 rfl rfl hin d_GapFinder_passOn_5 ?_
  refine lv_iconst (v := 1) hx hb d_GapFinder_passOn_6 (by decide) ?_
  refine lv_iadd hx hb d_GapFinder_passOn_7 ?_
  refine lv_istore_n (lv' := [(2, .int ((f_o_far x1.toNatClampNeg) + 1)), (0, .ref a0), (1, .int x1)]) hx hb d_GapFinder_passOn_8 rfl hl (by decide) rfl (fun ls hl => ?_)
  refine lv_iconst (v := 0) hx hb d_GapFinder_passOn_9 (by decide) ?_
  refine lv_istore_n (lv' := [(3, .int 0), (2, .int ((f_o_far x1.toNatClampNeg) + 1)), (0, .ref a0), (1, .int x1)]) hx hb d_GapFinder_passOn_10 rfl hl (by decide) rfl (fun ls hl => ?_)
  obtain ⟨k, h⟩ := h
  exact C_11 k ((f_o_far x1.toNatClampNeg) + 1) 0 v_o_settledCount v_o_widest f_o_far f_o_waysIn f_o_settled  _ _ (hP.sub [0, 1, 2, 3] rfl) (hD.sub [0, 1, 2, 3] (by decide) rfl) hS _ (lv_sub hl [2, 3, 1, 0] rfl) h
def p_GapFinder_widest_109  (post : Int32 → Int32 → Int32 → Int32 → (Nat → Int32) → (Nat → Int32) → (Nat → Int32) → (Nat → Int32) → (Nat → Int32) → Prop) (v_o_betweenCount : Int32) (v_o_settledCount : Int32) (v_o_widest : Int32) (f_o_isBetween : (Nat → Int32)) (f_o_far : (Nat → Int32)) (f_o_between : (Nat → Int32)) (f_o_waysIn : (Nat → Int32)) (f_o_settled : (Nat → Int32)) : Prop := ((v_o_betweenCount ≤ v_o_settledCount → (post v_o_widest v_o_betweenCount v_o_settledCount v_o_widest f_o_isBetween f_o_far f_o_between f_o_waysIn f_o_settled)) ∧ (¬ v_o_betweenCount ≤ v_o_settledCount → (post (-1) v_o_betweenCount v_o_settledCount v_o_widest f_o_isBetween f_o_far f_o_between f_o_waysIn f_o_settled)))
def p_GapFinder_widest_76 (n_o_machine_winners : Nat) (f_o_machine_winners : (Nat → Int32)) (n_o_machine_after : Nat) (f_o_machine_after : (Nat → Int32)) (n_o_far : Nat) (n_o_waysIn : Nat) (n_o_settled : Nat) (post : Int32 → Int32 → Int32 → Int32 → (Nat → Int32) → (Nat → Int32) → (Nat → Int32) → (Nat → Int32) → (Nat → Int32) → Prop) : Nat → Int32 → Int32 → Int32 → Int32 → (Nat → Int32) → (Nat → Int32) → (Nat → Int32) → (Nat → Int32) → (Nat → Int32) → Prop
  | 0, _, _, _, _, _, _, _, _, _ => False
  | n + 1, l1, v_o_betweenCount, v_o_settledCount, v_o_widest, f_o_isBetween, f_o_far, f_o_between, f_o_waysIn, f_o_settled => ((v_o_settledCount ≤ l1 → (p_GapFinder_widest_109 post v_o_betweenCount v_o_settledCount v_o_widest f_o_isBetween f_o_far f_o_between f_o_waysIn f_o_settled)) ∧ (¬ v_o_settledCount ≤ l1 → (((Int32.ofNat n_o_settled) ≤ l1 → (p_GapFinder_widest_109 post v_o_betweenCount v_o_settledCount v_o_widest f_o_isBetween f_o_far f_o_between f_o_waysIn f_o_settled)) ∧ (¬ (Int32.ofNat n_o_settled) ≤ l1 → (vp_in l1 n_o_settled ∧ (p_GapFinder_passOn v_o_settledCount v_o_widest n_o_far f_o_far n_o_machine_winners f_o_machine_winners n_o_machine_after f_o_machine_after n_o_waysIn f_o_waysIn n_o_settled f_o_settled (f_o_settled l1.toNatClampNeg) (fun u8601 u8602 u8603 u8604 u8605 => (p_GapFinder_widest_76 n_o_machine_winners f_o_machine_winners n_o_machine_after f_o_machine_after n_o_far n_o_waysIn n_o_settled post n (l1 + 1) v_o_betweenCount u8601 u8602 f_o_isBetween u8603 f_o_between u8604 u8605))))))))
def p_GapFinder_widest_70 (n_o_machine_winners : Nat) (f_o_machine_winners : (Nat → Int32)) (n_o_machine_after : Nat) (f_o_machine_after : (Nat → Int32)) (n_o_far : Nat) (n_o_between : Nat) (n_o_waysIn : Nat) (n_o_settled : Nat) (post : Int32 → Int32 → Int32 → Int32 → (Nat → Int32) → (Nat → Int32) → (Nat → Int32) → (Nat → Int32) → (Nat → Int32) → Prop) (v_o_betweenCount : Int32) (v_o_settledCount : Int32) (v_o_widest : Int32) (f_o_isBetween : (Nat → Int32)) (f_o_far : (Nat → Int32)) (f_o_between : (Nat → Int32)) (f_o_waysIn : (Nat → Int32)) (f_o_settled : (Nat → Int32)) : Prop := (p_GapFinder_countWaysIn v_o_betweenCount v_o_settledCount n_o_between f_o_between n_o_machine_winners n_o_machine_after f_o_machine_after n_o_waysIn f_o_waysIn n_o_settled f_o_settled (fun u8001 u8002 u8003 => (∃ k, p_GapFinder_widest_76 n_o_machine_winners f_o_machine_winners n_o_machine_after f_o_machine_after n_o_far n_o_waysIn n_o_settled post k 0 v_o_betweenCount u8001 v_o_widest f_o_isBetween f_o_far f_o_between u8002 u8003)))
def p_GapFinder_widest_37 (n_o_machine_winners : Nat) (f_o_machine_winners : (Nat → Int32)) (n_o_machine_after : Nat) (f_o_machine_after : (Nat → Int32)) (n_o_isBetween : Nat) (n_o_far : Nat) (n_o_between : Nat) (n_o_waysIn : Nat) (n_o_settled : Nat) (post : Int32 → Int32 → Int32 → Int32 → (Nat → Int32) → (Nat → Int32) → (Nat → Int32) → (Nat → Int32) → (Nat → Int32) → Prop) : Nat → Int32 → Int32 → Int32 → Int32 → (Nat → Int32) → (Nat → Int32) → (Nat → Int32) → (Nat → Int32) → (Nat → Int32) → Prop
  | 0, _, _, _, _, _, _, _, _, _ => False
  | n + 1, l1, v_o_betweenCount, v_o_settledCount, v_o_widest, f_o_isBetween, f_o_far, f_o_between, f_o_waysIn, f_o_settled => ((v_o_betweenCount ≤ l1 → (p_GapFinder_widest_70 n_o_machine_winners f_o_machine_winners n_o_machine_after f_o_machine_after n_o_far n_o_between n_o_waysIn n_o_settled post v_o_betweenCount v_o_settledCount v_o_widest f_o_isBetween f_o_far f_o_between f_o_waysIn f_o_settled)) ∧ (¬ v_o_betweenCount ≤ l1 → (((Int32.ofNat n_o_between) ≤ l1 → (p_GapFinder_widest_70 n_o_machine_winners f_o_machine_winners n_o_machine_after f_o_machine_after n_o_far n_o_between n_o_waysIn n_o_settled post v_o_betweenCount v_o_settledCount v_o_widest f_o_isBetween f_o_far f_o_between f_o_waysIn f_o_settled)) ∧ (¬ (Int32.ofNat n_o_between) ≤ l1 → (vp_in l1 n_o_between ∧ (p_GapFinder_meetFollowers v_o_betweenCount v_o_widest n_o_machine_winners f_o_machine_winners n_o_machine_after f_o_machine_after n_o_isBetween f_o_isBetween n_o_far f_o_far n_o_between f_o_between (f_o_between l1.toNatClampNeg) (fun u4701 u4702 u4703 u4704 u4705 => (p_GapFinder_widest_37 n_o_machine_winners f_o_machine_winners n_o_machine_after f_o_machine_after n_o_isBetween n_o_far n_o_between n_o_waysIn n_o_settled post n (l1 + 1) u4701 v_o_settledCount u4702 u4703 u4704 u4705 f_o_waysIn f_o_settled))))))))
def p_GapFinder_widest_35 (n_o_machine_winners : Nat) (f_o_machine_winners : (Nat → Int32)) (n_o_machine_after : Nat) (f_o_machine_after : (Nat → Int32)) (n_o_isBetween : Nat) (n_o_far : Nat) (n_o_between : Nat) (n_o_waysIn : Nat) (n_o_settled : Nat) (post : Int32 → Int32 → Int32 → Int32 → (Nat → Int32) → (Nat → Int32) → (Nat → Int32) → (Nat → Int32) → (Nat → Int32) → Prop) (v_o_betweenCount : Int32) (v_o_settledCount : Int32) (v_o_widest : Int32) (f_o_isBetween : (Nat → Int32)) (f_o_far : (Nat → Int32)) (f_o_between : (Nat → Int32)) (f_o_waysIn : (Nat → Int32)) (f_o_settled : (Nat → Int32)) : Prop := (∃ k, p_GapFinder_widest_37 n_o_machine_winners f_o_machine_winners n_o_machine_after f_o_machine_after n_o_isBetween n_o_far n_o_between n_o_waysIn n_o_settled post k 0 v_o_betweenCount v_o_settledCount v_o_widest f_o_isBetween f_o_far f_o_between f_o_waysIn f_o_settled)
def p_GapFinder_widest_2 (n_o_machine_winners : Nat) (f_o_machine_winners : (Nat → Int32)) (n_o_machine_after : Nat) (f_o_machine_after : (Nat → Int32)) (n_o_isBetween : Nat) (n_o_far : Nat) (n_o_between : Nat) (n_o_waysIn : Nat) (n_o_settled : Nat) (post : Int32 → Int32 → Int32 → Int32 → (Nat → Int32) → (Nat → Int32) → (Nat → Int32) → (Nat → Int32) → (Nat → Int32) → Prop) : Nat → Int32 → Int32 → Int32 → Int32 → (Nat → Int32) → (Nat → Int32) → (Nat → Int32) → (Nat → Int32) → (Nat → Int32) → Prop
  | 0, _, _, _, _, _, _, _, _, _ => False
  | n + 1, l1, v_o_betweenCount, v_o_settledCount, v_o_widest, f_o_isBetween, f_o_far, f_o_between, f_o_waysIn, f_o_settled => (p_Machine_size n_o_machine_winners (fun r1201 => ((r1201 ≤ l1 → (p_GapFinder_widest_35 n_o_machine_winners f_o_machine_winners n_o_machine_after f_o_machine_after n_o_isBetween n_o_far n_o_between n_o_waysIn n_o_settled post v_o_betweenCount v_o_settledCount v_o_widest f_o_isBetween f_o_far f_o_between f_o_waysIn f_o_settled)) ∧ (¬ r1201 ≤ l1 → (p_Machine_hasWinner n_o_machine_winners f_o_machine_winners l1 (fun r1202 => ((r1202 = 0 → (p_GapFinder_widest_2 n_o_machine_winners f_o_machine_winners n_o_machine_after f_o_machine_after n_o_isBetween n_o_far n_o_between n_o_waysIn n_o_settled post n (l1 + 1) v_o_betweenCount v_o_settledCount v_o_widest f_o_isBetween f_o_far f_o_between f_o_waysIn f_o_settled)) ∧ (¬ r1202 = 0 → (p_GapFinder_meetFollowers v_o_betweenCount v_o_widest n_o_machine_winners f_o_machine_winners n_o_machine_after f_o_machine_after n_o_isBetween f_o_isBetween n_o_far f_o_far n_o_between f_o_between l1 (fun u1203 u1204 u1205 u1206 u1207 => (p_GapFinder_widest_2 n_o_machine_winners f_o_machine_winners n_o_machine_after f_o_machine_after n_o_isBetween n_o_far n_o_between n_o_waysIn n_o_settled post n (l1 + 1) u1203 v_o_settledCount u1204 u1205 u1206 u1207 f_o_waysIn f_o_settled)))))))))))
def p_GapFinder_widest (v_o_betweenCount : Int32) (v_o_settledCount : Int32) (v_o_widest : Int32) (n_o_machine_winners : Nat) (f_o_machine_winners : (Nat → Int32)) (n_o_machine_after : Nat) (f_o_machine_after : (Nat → Int32)) (n_o_isBetween : Nat) (f_o_isBetween : (Nat → Int32)) (n_o_far : Nat) (f_o_far : (Nat → Int32)) (n_o_between : Nat) (f_o_between : (Nat → Int32)) (n_o_waysIn : Nat) (f_o_waysIn : (Nat → Int32)) (n_o_settled : Nat) (f_o_settled : (Nat → Int32)) (post : Int32 → Int32 → Int32 → Int32 → (Nat → Int32) → (Nat → Int32) → (Nat → Int32) → (Nat → Int32) → (Nat → Int32) → Prop) : Prop := (∃ k, p_GapFinder_widest_2 n_o_machine_winners f_o_machine_winners n_o_machine_after f_o_machine_after n_o_isBetween n_o_far n_o_between n_o_waysIn n_o_settled post k 0 v_o_betweenCount v_o_settledCount v_o_widest f_o_isBetween f_o_far f_o_between f_o_waysIn f_o_settled)
set_option maxHeartbeats 4000000 in
set_option maxRecDepth 100000 in
theorem k_GapFinder_widest (l : Launch) (G : va_G) (K : Nat → ClassId) (a0 a0_machine a0_machine_winners a0_machine_after a0_isBetween a0_far a0_between a0_waysIn a0_settled : Nat) (sz : Nat) (v_o_betweenCount : Int32) (v_o_settledCount : Int32) (v_o_widest : Int32) (v_o_machine_gap : Int32) (v_o_machine_isGapKnown : Int32) (n_o_machine_winners : Nat) (f_o_machine_winners : (Nat → Int32)) (n_o_machine_after : Nat) (f_o_machine_after : (Nat → Int32)) (n_o_isBetween : Nat) (f_o_isBetween : (Nat → Int32)) (n_o_far : Nat) (f_o_far : (Nat → Int32)) (n_o_between : Nat) (f_o_between : (Nat → Int32)) (n_o_waysIn : Nat) (f_o_waysIn : (Nat → Int32)) (n_o_settled : Nat) (f_o_settled : (Nat → Int32)) (post : Int32 → Int32 → Int32 → Int32 → (Nat → Int32) → (Nat → Int32) → (Nat → Int32) → (Nat → Int32) → (Nat → Int32) → Prop) (h : p_GapFinder_widest v_o_betweenCount v_o_settledCount v_o_widest n_o_machine_winners f_o_machine_winners n_o_machine_after f_o_machine_after n_o_isBetween f_o_isBetween n_o_far f_o_far n_o_between f_o_between n_o_waysIn f_o_waysIn n_o_settled f_o_settled post) : MWi l y_GapFinder_widest (.code y_GapFinder_widest c_GapFinder_widest 2 (some .int)) { frames := 4, cells := 0, slots := 0, locals := 87 } G K [(a0, .inr (2, [.ref a0_machine, .ref a0_between, .int v_o_betweenCount, .ref a0_isBetween, .ref a0_waysIn, .ref a0_far, .ref a0_settled, .int v_o_settledCount, .int v_o_widest])), (a0_isBetween, .inl (K 1, n_o_isBetween, .inl f_o_isBetween)), (a0_far, .inl (K 0, n_o_far, .inl f_o_far)), (a0_between, .inl (K 0, n_o_between, .inl f_o_between)), (a0_waysIn, .inl (K 0, n_o_waysIn, .inl f_o_waysIn)), (a0_settled, .inl (K 0, n_o_settled, .inl f_o_settled))] [(a0_machine, .inr (4, [.ref a0_machine_after, .ref a0_machine_winners, .int v_o_machine_gap, .int v_o_machine_isGapKnown])), (a0_machine_winners, .inl (K 0, n_o_machine_winners, .inl f_o_machine_winners)), (a0_machine_after, .inl (K 0, n_o_machine_after, .inl f_o_machine_after))] [.ref a0] sz (fun r (u : Int32 × Int32 × Int32 × (Nat → Int32) × (Nat → Int32) × (Nat → Int32) × (Nat → Int32) × (Nat → Int32)) => post r u.1 u.2.1 u.2.2.1 u.2.2.2.1 u.2.2.2.2.1 u.2.2.2.2.2.1 u.2.2.2.2.2.2.1 u.2.2.2.2.2.2.2) (fun u => [(a0, .inr (2, [.ref a0_machine, .ref a0_between, .int u.1, .ref a0_isBetween, .ref a0_waysIn, .ref a0_far, .ref a0_settled, .int u.2.1, .int u.2.2.1])), (a0_isBetween, .inl (K 1, n_o_isBetween, .inl u.2.2.2.1)), (a0_far, .inl (K 0, n_o_far, .inl u.2.2.2.2.1)), (a0_between, .inl (K 0, n_o_between, .inl u.2.2.2.2.2.1)), (a0_waysIn, .inl (K 0, n_o_waysIn, .inl u.2.2.2.2.2.2.1)), (a0_settled, .inl (K 0, n_o_settled, .inl u.2.2.2.2.2.2.2))]) 0 0 := by
  refine g_metWi (cc := c_GapFinder_widest) (maxL := 2) (ret := some .int) (rt := .int) (by decide) rfl rfl (Nat.le_of_ble_eq_true rfl) ?_
  intro p e s m below meth c A Q hx hb hml hown hname htg hK hN hP hD hA hS hR rN hret ls hl
  have hl : lv_has ls 2 [(0, .ref a0)] := hl
  have C_109 : ∀ (v_o_betweenCount : Int32) (v_o_settledCount : Int32) (v_o_widest : Int32) (f_o_isBetween : (Nat → Int32)) (f_o_far : (Nat → Int32)) (f_o_between : (Nat → Int32)) (f_o_waysIn : (Nat → Int32)) (f_o_settled : (Nat → Int32)) (H : Heap) (locs : List Loc), va_P G vwCl [(a0, .inr (2, [.ref a0_machine, .ref a0_between, .int v_o_betweenCount, .ref a0_isBetween, .ref a0_waysIn, .ref a0_far, .ref a0_settled, .int v_o_settledCount, .int v_o_widest])), (a0_isBetween, .inl (K 1, n_o_isBetween, .inl f_o_isBetween)), (a0_far, .inl (K 0, n_o_far, .inl f_o_far)), (a0_between, .inl (K 0, n_o_between, .inl f_o_between)), (a0_waysIn, .inl (K 0, n_o_waysIn, .inl f_o_waysIn)), (a0_settled, .inl (K 0, n_o_settled, .inl f_o_settled))] H → va_D A [(a0, .inr (2, [.ref a0_machine, .ref a0_between, .int v_o_betweenCount, .ref a0_isBetween, .ref a0_waysIn, .ref a0_far, .ref a0_settled, .int v_o_settledCount, .int v_o_widest])), (a0_isBetween, .inl (K 1, n_o_isBetween, .inl f_o_isBetween)), (a0_far, .inl (K 0, n_o_far, .inl f_o_far)), (a0_between, .inl (K 0, n_o_between, .inl f_o_between)), (a0_waysIn, .inl (K 0, n_o_waysIn, .inl f_o_waysIn)), (a0_settled, .inl (K 0, n_o_settled, .inl f_o_settled))] → va_S A s.heap H locs → ∀ (ls : Array Slot), lv_has ls 2 [(0, .ref a0)] → p_GapFinder_widest_109 post v_o_betweenCount v_o_settledCount v_o_widest f_o_isBetween f_o_far f_o_between f_o_waysIn f_o_settled → W p l e { frames := 4, cells := 0, slots := 0, locals := 87 } s m ([.ref a0] : List Value).toArray below meth c H locs 0 0 Q (F0 m 109 ls []) := by
    intro  v_o_betweenCount v_o_settledCount v_o_widest f_o_isBetween f_o_far f_o_between f_o_waysIn f_o_settled  H locs hP hD hS ls hl h
    refine lv_aload_n hx hb d_GapFinder_widest_109 rfl (lv_at hl 0 rfl) ?_
    refine va_get (ci := 2) (v := .int v_o_settledCount) hx hb htg in_GapFinder hown hK hP 0 rfl rfl 7 (by decide) (htg _ m_396) (fun _ h9 => h9) rfl d_GapFinder_widest_110 ?_
    refine lv_aload_n hx hb d_GapFinder_widest_113 rfl (lv_at hl 0 rfl) ?_
    refine va_get (ci := 2) (v := .int v_o_betweenCount) hx hb htg in_GapFinder hown hK hP 0 rfl rfl 2 (by decide) (htg _ m_391) (fun _ h9 => h9) rfl d_GapFinder_widest_114 ?_
    refine lv_icmp_ge (tgt := 124) hx hb d_GapFinder_widest_117 (by decide) (fun hc => ?_) (fun hc => ?_)
    · replace h := h.1 hc
      refine lv_aload_n hx hb d_GapFinder_widest_124 rfl (lv_at hl 0 rfl) ?_
      refine va_get (ci := 2) (v := .int v_o_widest) hx hb htg in_GapFinder hown hK hP 0 rfl rfl 8 (by decide) (htg _ m_397) (fun _ h9 => h9) rfl d_GapFinder_widest_125 ?_
      exact hret _ (v_o_betweenCount, v_o_settledCount, v_o_widest, f_o_isBetween, f_o_far, f_o_between, f_o_waysIn, f_o_settled) _ _ _ _ h (vp_nar_int _) (hP.sub [0, 1, 2, 3, 4, 5] rfl) (hD.sub [0, 1, 2, 3, 4, 5] (by decide) rfl) hS d_GapFinder_widest_128
    · replace h := h.2 hc
      refine lv_iconst (v := (-1)) hx hb d_GapFinder_widest_120 (by decide) ?_
      refine lv_goto (tgt := 128) hx hb d_GapFinder_widest_121 (by decide) ?_
      exact hret _ (v_o_betweenCount, v_o_settledCount, v_o_widest, f_o_isBetween, f_o_far, f_o_between, f_o_waysIn, f_o_settled) _ _ _ _ h (vp_nar_int _) (hP.sub [0, 1, 2, 3, 4, 5] rfl) (hD.sub [0, 1, 2, 3, 4, 5] (by decide) rfl) hS d_GapFinder_widest_128
  have C_76 : ∀ (n : Nat) (l1 : Int32) (v_o_betweenCount : Int32) (v_o_settledCount : Int32) (v_o_widest : Int32) (f_o_isBetween : (Nat → Int32)) (f_o_far : (Nat → Int32)) (f_o_between : (Nat → Int32)) (f_o_waysIn : (Nat → Int32)) (f_o_settled : (Nat → Int32)) (H : Heap) (locs : List Loc), va_P G vwCl [(a0, .inr (2, [.ref a0_machine, .ref a0_between, .int v_o_betweenCount, .ref a0_isBetween, .ref a0_waysIn, .ref a0_far, .ref a0_settled, .int v_o_settledCount, .int v_o_widest])), (a0_isBetween, .inl (K 1, n_o_isBetween, .inl f_o_isBetween)), (a0_far, .inl (K 0, n_o_far, .inl f_o_far)), (a0_between, .inl (K 0, n_o_between, .inl f_o_between)), (a0_waysIn, .inl (K 0, n_o_waysIn, .inl f_o_waysIn)), (a0_settled, .inl (K 0, n_o_settled, .inl f_o_settled))] H → va_D A [(a0, .inr (2, [.ref a0_machine, .ref a0_between, .int v_o_betweenCount, .ref a0_isBetween, .ref a0_waysIn, .ref a0_far, .ref a0_settled, .int v_o_settledCount, .int v_o_widest])), (a0_isBetween, .inl (K 1, n_o_isBetween, .inl f_o_isBetween)), (a0_far, .inl (K 0, n_o_far, .inl f_o_far)), (a0_between, .inl (K 0, n_o_between, .inl f_o_between)), (a0_waysIn, .inl (K 0, n_o_waysIn, .inl f_o_waysIn)), (a0_settled, .inl (K 0, n_o_settled, .inl f_o_settled))] → va_S A s.heap H locs → ∀ (ls : Array Slot), lv_has ls 2 [(0, .ref a0), (1, .int l1)] → p_GapFinder_widest_76 n_o_machine_winners f_o_machine_winners n_o_machine_after f_o_machine_after n_o_far n_o_waysIn n_o_settled post n l1 v_o_betweenCount v_o_settledCount v_o_widest f_o_isBetween f_o_far f_o_between f_o_waysIn f_o_settled → W p l e { frames := 4, cells := 0, slots := 0, locals := 87 } s m ([.ref a0] : List Value).toArray below meth c H locs 0 0 Q (F0 m 76 ls []) := by
    intro n
    induction n with
    | zero =>
      intro l1 v_o_betweenCount v_o_settledCount v_o_widest f_o_isBetween f_o_far f_o_between f_o_waysIn f_o_settled  H locs hP hD hS ls hl h
      exact False.elim h
    | succ n ih =>
      intro l1 v_o_betweenCount v_o_settledCount v_o_widest f_o_isBetween f_o_far f_o_between f_o_waysIn f_o_settled  H locs hP hD hS ls hl h
      refine lv_iload_n hx hb d_GapFinder_widest_76 rfl (lv_at hl 1 rfl) ?_
      refine lv_aload_n hx hb d_GapFinder_widest_77 rfl (lv_at hl 0 rfl) ?_
      refine va_get (ci := 2) (v := .int v_o_settledCount) hx hb htg in_GapFinder hown hK hP 0 rfl rfl 7 (by decide) (htg _ m_396) (fun _ h9 => h9) rfl d_GapFinder_widest_78 ?_
      refine lv_icmp_ge (tgt := 109) hx hb d_GapFinder_widest_81 (by decide) (fun hc => ?_) (fun hc => ?_)
      · replace h := h.1 hc
        exact C_109 v_o_betweenCount v_o_settledCount v_o_widest f_o_isBetween f_o_far f_o_between f_o_waysIn f_o_settled  _ _ (hP.sub [0, 1, 2, 3, 4, 5] rfl) (hD.sub [0, 1, 2, 3, 4, 5] (by decide) rfl) hS _ (lv_sub hl [0] rfl) h
      · replace h := h.2 hc
        refine lv_iload_n hx hb d_GapFinder_widest_84 rfl (lv_at hl 1 rfl) ?_
        refine lv_aload_n hx hb d_GapFinder_widest_85 rfl (lv_at hl 0 rfl) ?_
        refine va_get (ci := 2) (v := .ref a0_settled) hx hb htg in_GapFinder hown hK hP 0 rfl rfl 6 (by decide) (htg _ m_395) (fun _ h9 => h9) rfl d_GapFinder_widest_86 ?_
        refine va_alen (v := (Int32.ofNat n_o_settled)) hx hb hK hP 5 0 rfl rfl (by first | rfl | decide) d_GapFinder_widest_89 ?_
        refine lv_icmp_ge (tgt := 109) hx hb d_GapFinder_widest_90 (by decide) (fun hc => ?_) (fun hc => ?_)
        · replace h := h.1 hc
          exact C_109 v_o_betweenCount v_o_settledCount v_o_widest f_o_isBetween f_o_far f_o_between f_o_waysIn f_o_settled  _ _ (hP.sub [0, 1, 2, 3, 4, 5] rfl) (hD.sub [0, 1, 2, 3, 4, 5] (by decide) rfl) hS _ (lv_sub hl [0] rfl) h
        · replace h := h.2 hc
          refine lv_aload_n hx hb d_GapFinder_widest_93 rfl (lv_at hl 0 rfl) ?_
          refine lv_aload_n hx hb d_GapFinder_widest_94 rfl (lv_at hl 0 rfl) ?_
          refine va_get (ci := 2) (v := .ref a0_settled) hx hb htg in_GapFinder hown hK hP 0 rfl rfl 6 (by decide) (htg _ m_395) (fun _ h9 => h9) rfl d_GapFinder_widest_95 ?_
          refine lv_iload_n hx hb d_GapFinder_widest_98 rfl (lv_at hl 1 rfl) ?_
          obtain ⟨hin, h⟩ := h
          refine va_iald hx hb hK hP 5 0 rfl rfl hin d_GapFinder_widest_99 ?_
          have hPc : va_P G vwCl [(a0, .inr (2, [.ref a0_machine, .ref a0_between, .int v_o_betweenCount, .ref a0_isBetween, .ref a0_waysIn, .ref a0_far, .ref a0_settled, .int v_o_settledCount, .int v_o_widest])), (a0_far, .inl (K 0, n_o_far, .inl f_o_far)), (a0_waysIn, .inl (K 0, n_o_waysIn, .inl f_o_waysIn)), (a0_settled, .inl (K 0, n_o_settled, .inl f_o_settled))] _ := hP.sub [0, 2, 4, 5] rfl
          have hDc : va_D A [(a0, .inr (2, [.ref a0_machine, .ref a0_between, .int v_o_betweenCount, .ref a0_isBetween, .ref a0_waysIn, .ref a0_far, .ref a0_settled, .int v_o_settledCount, .int v_o_widest])), (a0_far, .inl (K 0, n_o_far, .inl f_o_far)), (a0_waysIn, .inl (K 0, n_o_waysIn, .inl f_o_waysIn)), (a0_settled, .inl (K 0, n_o_settled, .inl f_o_settled))] := hD.sub [0, 2, 4, 5] (by decide) rfl
          have hRc : va_P G vwCl [(a0_machine, .inr (4, [.ref a0_machine_after, .ref a0_machine_winners, .int v_o_machine_gap, .int v_o_machine_isGapKnown])), (a0_machine_winners, .inl (K 0, n_o_machine_winners, .inl f_o_machine_winners)), (a0_machine_after, .inl (K 0, n_o_machine_after, .inl f_o_machine_after))] _ := (gR hR rN hS).sub [0, 1, 2] rfl
          have hJc : gJ [(a0, .inr (2, [.ref a0_machine, .ref a0_between, .int v_o_betweenCount, .ref a0_isBetween, .ref a0_waysIn, .ref a0_far, .ref a0_settled, .int v_o_settledCount, .int v_o_widest])), (a0_far, .inl (K 0, n_o_far, .inl f_o_far)), (a0_waysIn, .inl (K 0, n_o_waysIn, .inl f_o_waysIn)), (a0_settled, .inl (K 0, n_o_settled, .inl f_o_settled))] [(a0_machine, .inr (4, [.ref a0_machine_after, .ref a0_machine_winners, .int v_o_machine_gap, .int v_o_machine_isGapKnown])), (a0_machine_winners, .inl (K 0, n_o_machine_winners, .inl f_o_machine_winners)), (a0_machine_after, .inl (K 0, n_o_machine_after, .inl f_o_machine_after))] := gJ_A hDc (gN_sub rN [0, 1, 2] rfl)
          refine g_callv (wr := [(a0_isBetween, .inl (K 1, n_o_isBetween, .inl f_o_isBetween)), (a0_between, .inl (K 0, n_o_between, .inl f_o_between))]) (va_runV (As := [.int (f_o_settled l1.toNatClampNeg)]) (rest := []) ⟨hx, hb, hml, hown, htg⟩ (k_GapFinder_passOn l G K a0 a0_far a0_machine a0_machine_winners a0_machine_after a0_waysIn a0_settled a0_between a0_isBetween _ v_o_betweenCount v_o_settledCount v_o_widest n_o_far f_o_far v_o_machine_gap v_o_machine_isGapKnown n_o_machine_winners f_o_machine_winners n_o_machine_after f_o_machine_after n_o_waysIn f_o_waysIn n_o_settled f_o_settled (f_o_settled l1.toNatClampNeg) _ h) (cwV 1 htg (gGoodV m_418 m_419 m_847 m_14 m_420) rfl rfl rfl (by decide +kernel) ⟨(Nat.le_of_ble_eq_true rfl), (Nat.le_of_ble_eq_true rfl)⟩) (gW_preV (ci := 2) (q0 := 0) hK hN hPc hDc hRc hJc hPc rfl rfl) rfl rfl hl.1 rfl (lv_room (Nat.le_of_ble_eq_true rfl)) d_GapFinder_widest_100 ⟨(Nat.le_of_ble_eq_true rfl), (Nat.le_of_ble_eq_true rfl)⟩) hP hD hS hA [0, 2, 4, 5] [1, 3] rfl rfl (by decide) (by decide) (fun u H locs h hP hD hS => ?_)
          obtain ⟨u8601, u8602, u8603, u8604, u8605⟩ := u
          try dsimp only at h
          have hP : va_P G vwCl [(a0_isBetween, .inl (K 1, n_o_isBetween, .inl f_o_isBetween)), (a0_between, .inl (K 0, n_o_between, .inl f_o_between)), (a0, .inr (2, [.ref a0_machine, .ref a0_between, .int v_o_betweenCount, .ref a0_isBetween, .ref a0_waysIn, .ref a0_far, .ref a0_settled, .int u8601, .int u8602])), (a0_far, .inl (K 0, n_o_far, .inl u8603)), (a0_waysIn, .inl (K 0, n_o_waysIn, .inl u8604)), (a0_settled, .inl (K 0, n_o_settled, .inl u8605))] H := hP
          have hD : va_D A [(a0_isBetween, .inl (K 1, n_o_isBetween, .inl f_o_isBetween)), (a0_between, .inl (K 0, n_o_between, .inl f_o_between)), (a0, .inr (2, [.ref a0_machine, .ref a0_between, .int v_o_betweenCount, .ref a0_isBetween, .ref a0_waysIn, .ref a0_far, .ref a0_settled, .int u8601, .int u8602])), (a0_far, .inl (K 0, n_o_far, .inl u8603)), (a0_waysIn, .inl (K 0, n_o_waysIn, .inl u8604)), (a0_settled, .inl (K 0, n_o_settled, .inl u8605))] := hD
          refine lv_iinc (v := (l1 + 1)) (lv' := [(1, .int (l1 + 1)), (0, .ref a0)]) hx hb d_GapFinder_widest_103 hl (k := 1) rfl (by first | rfl | decide) (by decide) rfl (fun ls hl => ?_)
          refine lv_goto (tgt := 76) hx hb d_GapFinder_widest_106 (by decide) ?_
          exact ih (l1 + 1) v_o_betweenCount u8601 u8602 f_o_isBetween u8603 f_o_between u8604 u8605  _ _ (hP.sub [2, 0, 3, 1, 4, 5] rfl) (hD.sub [2, 0, 3, 1, 4, 5] (by decide) rfl) hS _ (lv_sub hl [1, 0] rfl) h
  have C_70 : ∀ (v_o_betweenCount : Int32) (v_o_settledCount : Int32) (v_o_widest : Int32) (f_o_isBetween : (Nat → Int32)) (f_o_far : (Nat → Int32)) (f_o_between : (Nat → Int32)) (f_o_waysIn : (Nat → Int32)) (f_o_settled : (Nat → Int32)) (H : Heap) (locs : List Loc), va_P G vwCl [(a0, .inr (2, [.ref a0_machine, .ref a0_between, .int v_o_betweenCount, .ref a0_isBetween, .ref a0_waysIn, .ref a0_far, .ref a0_settled, .int v_o_settledCount, .int v_o_widest])), (a0_isBetween, .inl (K 1, n_o_isBetween, .inl f_o_isBetween)), (a0_far, .inl (K 0, n_o_far, .inl f_o_far)), (a0_between, .inl (K 0, n_o_between, .inl f_o_between)), (a0_waysIn, .inl (K 0, n_o_waysIn, .inl f_o_waysIn)), (a0_settled, .inl (K 0, n_o_settled, .inl f_o_settled))] H → va_D A [(a0, .inr (2, [.ref a0_machine, .ref a0_between, .int v_o_betweenCount, .ref a0_isBetween, .ref a0_waysIn, .ref a0_far, .ref a0_settled, .int v_o_settledCount, .int v_o_widest])), (a0_isBetween, .inl (K 1, n_o_isBetween, .inl f_o_isBetween)), (a0_far, .inl (K 0, n_o_far, .inl f_o_far)), (a0_between, .inl (K 0, n_o_between, .inl f_o_between)), (a0_waysIn, .inl (K 0, n_o_waysIn, .inl f_o_waysIn)), (a0_settled, .inl (K 0, n_o_settled, .inl f_o_settled))] → va_S A s.heap H locs → ∀ (ls : Array Slot), lv_has ls 2 [(0, .ref a0)] → p_GapFinder_widest_70 n_o_machine_winners f_o_machine_winners n_o_machine_after f_o_machine_after n_o_far n_o_between n_o_waysIn n_o_settled post v_o_betweenCount v_o_settledCount v_o_widest f_o_isBetween f_o_far f_o_between f_o_waysIn f_o_settled → W p l e { frames := 4, cells := 0, slots := 0, locals := 87 } s m ([.ref a0] : List Value).toArray below meth c H locs 0 0 Q (F0 m 70 ls []) := by
    intro  v_o_betweenCount v_o_settledCount v_o_widest f_o_isBetween f_o_far f_o_between f_o_waysIn f_o_settled  H locs hP hD hS ls hl h
    refine lv_aload_n hx hb d_GapFinder_widest_70 rfl (lv_at hl 0 rfl) ?_
    have hPc : va_P G vwCl [(a0, .inr (2, [.ref a0_machine, .ref a0_between, .int v_o_betweenCount, .ref a0_isBetween, .ref a0_waysIn, .ref a0_far, .ref a0_settled, .int v_o_settledCount, .int v_o_widest])), (a0_waysIn, .inl (K 0, n_o_waysIn, .inl f_o_waysIn)), (a0_settled, .inl (K 0, n_o_settled, .inl f_o_settled))] _ := hP.sub [0, 4, 5] rfl
    have hDc : va_D A [(a0, .inr (2, [.ref a0_machine, .ref a0_between, .int v_o_betweenCount, .ref a0_isBetween, .ref a0_waysIn, .ref a0_far, .ref a0_settled, .int v_o_settledCount, .int v_o_widest])), (a0_waysIn, .inl (K 0, n_o_waysIn, .inl f_o_waysIn)), (a0_settled, .inl (K 0, n_o_settled, .inl f_o_settled))] := hD.sub [0, 4, 5] (by decide) rfl
    have hRc : va_P G vwCl [(a0_between, .inl (K 0, n_o_between, .inl f_o_between)), (a0_machine, .inr (4, [.ref a0_machine_after, .ref a0_machine_winners, .int v_o_machine_gap, .int v_o_machine_isGapKnown])), (a0_machine_winners, .inl (K 0, n_o_machine_winners, .inl f_o_machine_winners)), (a0_machine_after, .inl (K 0, n_o_machine_after, .inl f_o_machine_after))] _ := (hP.app (gR hR rN hS)).sub [3, 6, 7, 8] rfl
    have hJc : gJ [(a0, .inr (2, [.ref a0_machine, .ref a0_between, .int v_o_betweenCount, .ref a0_isBetween, .ref a0_waysIn, .ref a0_far, .ref a0_settled, .int v_o_settledCount, .int v_o_widest])), (a0_waysIn, .inl (K 0, n_o_waysIn, .inl f_o_waysIn)), (a0_settled, .inl (K 0, n_o_settled, .inl f_o_settled))] [(a0_between, .inl (K 0, n_o_between, .inl f_o_between)), (a0_machine, .inr (4, [.ref a0_machine_after, .ref a0_machine_winners, .int v_o_machine_gap, .int v_o_machine_isGapKnown])), (a0_machine_winners, .inl (K 0, n_o_machine_winners, .inl f_o_machine_winners)), (a0_machine_after, .inl (K 0, n_o_machine_after, .inl f_o_machine_after))] := gJ_sub hD rN [0, 4, 5] [3, 6, 7, 8] rfl rfl (by decide)
    refine g_callv (wr := [(a0_isBetween, .inl (K 1, n_o_isBetween, .inl f_o_isBetween)), (a0_far, .inl (K 0, n_o_far, .inl f_o_far)), (a0_between, .inl (K 0, n_o_between, .inl f_o_between))]) (va_runV (As := []) (rest := []) ⟨hx, hb, hml, hown, htg⟩ (k_GapFinder_countWaysIn l G K a0 a0_between a0_machine a0_machine_winners a0_machine_after a0_waysIn a0_settled a0_isBetween a0_far _ v_o_betweenCount v_o_settledCount v_o_widest n_o_between f_o_between v_o_machine_gap v_o_machine_isGapKnown n_o_machine_winners f_o_machine_winners n_o_machine_after f_o_machine_after n_o_waysIn f_o_waysIn n_o_settled f_o_settled _ h) (cwV 0 htg (gGoodV m_412 m_413 m_845 m_14 m_414) rfl rfl rfl (by decide +kernel) ⟨(Nat.le_of_ble_eq_true rfl), (Nat.le_of_ble_eq_true rfl)⟩) (gW_preV (ci := 2) (q0 := 0) hK hN hPc hDc hRc hJc hPc rfl rfl) rfl rfl hl.1 rfl (lv_room (Nat.le_of_ble_eq_true rfl)) d_GapFinder_widest_71 ⟨(Nat.le_of_ble_eq_true rfl), (Nat.le_of_ble_eq_true rfl)⟩) hP hD hS hA [0, 4, 5] [1, 2, 3] rfl rfl (by decide) (by decide) (fun u H locs h hP hD hS => ?_)
    obtain ⟨u8001, u8002, u8003⟩ := u
    try dsimp only at h
    have hP : va_P G vwCl [(a0_isBetween, .inl (K 1, n_o_isBetween, .inl f_o_isBetween)), (a0_far, .inl (K 0, n_o_far, .inl f_o_far)), (a0_between, .inl (K 0, n_o_between, .inl f_o_between)), (a0, .inr (2, [.ref a0_machine, .ref a0_between, .int v_o_betweenCount, .ref a0_isBetween, .ref a0_waysIn, .ref a0_far, .ref a0_settled, .int u8001, .int v_o_widest])), (a0_waysIn, .inl (K 0, n_o_waysIn, .inl u8002)), (a0_settled, .inl (K 0, n_o_settled, .inl u8003))] H := hP
    have hD : va_D A [(a0_isBetween, .inl (K 1, n_o_isBetween, .inl f_o_isBetween)), (a0_far, .inl (K 0, n_o_far, .inl f_o_far)), (a0_between, .inl (K 0, n_o_between, .inl f_o_between)), (a0, .inr (2, [.ref a0_machine, .ref a0_between, .int v_o_betweenCount, .ref a0_isBetween, .ref a0_waysIn, .ref a0_far, .ref a0_settled, .int u8001, .int v_o_widest])), (a0_waysIn, .inl (K 0, n_o_waysIn, .inl u8002)), (a0_settled, .inl (K 0, n_o_settled, .inl u8003))] := hD
    refine lv_iconst (v := 0) hx hb d_GapFinder_widest_74 (by decide) ?_
    refine lv_istore_n (lv' := [(1, .int 0), (0, .ref a0)]) hx hb d_GapFinder_widest_75 rfl hl (by decide) rfl (fun ls hl => ?_)
    obtain ⟨k, h⟩ := h
    exact C_76 k 0 v_o_betweenCount u8001 v_o_widest f_o_isBetween f_o_far f_o_between u8002 u8003  _ _ (hP.sub [3, 0, 1, 2, 4, 5] rfl) (hD.sub [3, 0, 1, 2, 4, 5] (by decide) rfl) hS _ (lv_sub hl [1, 0] rfl) h
  have C_37 : ∀ (n : Nat) (l1 : Int32) (v_o_betweenCount : Int32) (v_o_settledCount : Int32) (v_o_widest : Int32) (f_o_isBetween : (Nat → Int32)) (f_o_far : (Nat → Int32)) (f_o_between : (Nat → Int32)) (f_o_waysIn : (Nat → Int32)) (f_o_settled : (Nat → Int32)) (H : Heap) (locs : List Loc), va_P G vwCl [(a0, .inr (2, [.ref a0_machine, .ref a0_between, .int v_o_betweenCount, .ref a0_isBetween, .ref a0_waysIn, .ref a0_far, .ref a0_settled, .int v_o_settledCount, .int v_o_widest])), (a0_isBetween, .inl (K 1, n_o_isBetween, .inl f_o_isBetween)), (a0_far, .inl (K 0, n_o_far, .inl f_o_far)), (a0_between, .inl (K 0, n_o_between, .inl f_o_between)), (a0_waysIn, .inl (K 0, n_o_waysIn, .inl f_o_waysIn)), (a0_settled, .inl (K 0, n_o_settled, .inl f_o_settled))] H → va_D A [(a0, .inr (2, [.ref a0_machine, .ref a0_between, .int v_o_betweenCount, .ref a0_isBetween, .ref a0_waysIn, .ref a0_far, .ref a0_settled, .int v_o_settledCount, .int v_o_widest])), (a0_isBetween, .inl (K 1, n_o_isBetween, .inl f_o_isBetween)), (a0_far, .inl (K 0, n_o_far, .inl f_o_far)), (a0_between, .inl (K 0, n_o_between, .inl f_o_between)), (a0_waysIn, .inl (K 0, n_o_waysIn, .inl f_o_waysIn)), (a0_settled, .inl (K 0, n_o_settled, .inl f_o_settled))] → va_S A s.heap H locs → ∀ (ls : Array Slot), lv_has ls 2 [(0, .ref a0), (1, .int l1)] → p_GapFinder_widest_37 n_o_machine_winners f_o_machine_winners n_o_machine_after f_o_machine_after n_o_isBetween n_o_far n_o_between n_o_waysIn n_o_settled post n l1 v_o_betweenCount v_o_settledCount v_o_widest f_o_isBetween f_o_far f_o_between f_o_waysIn f_o_settled → W p l e { frames := 4, cells := 0, slots := 0, locals := 87 } s m ([.ref a0] : List Value).toArray below meth c H locs 0 0 Q (F0 m 37 ls []) := by
    intro n
    induction n with
    | zero =>
      intro l1 v_o_betweenCount v_o_settledCount v_o_widest f_o_isBetween f_o_far f_o_between f_o_waysIn f_o_settled  H locs hP hD hS ls hl h
      exact False.elim h
    | succ n ih =>
      intro l1 v_o_betweenCount v_o_settledCount v_o_widest f_o_isBetween f_o_far f_o_between f_o_waysIn f_o_settled  H locs hP hD hS ls hl h
      refine lv_iload_n hx hb d_GapFinder_widest_37 rfl (lv_at hl 1 rfl) ?_
      refine lv_aload_n hx hb d_GapFinder_widest_38 rfl (lv_at hl 0 rfl) ?_
      refine va_get (ci := 2) (v := .int v_o_betweenCount) hx hb htg in_GapFinder hown hK hP 0 rfl rfl 2 (by decide) (htg _ m_391) (fun _ h9 => h9) rfl d_GapFinder_widest_39 ?_
      refine lv_icmp_ge (tgt := 70) hx hb d_GapFinder_widest_42 (by decide) (fun hc => ?_) (fun hc => ?_)
      · replace h := h.1 hc
        exact C_70 v_o_betweenCount v_o_settledCount v_o_widest f_o_isBetween f_o_far f_o_between f_o_waysIn f_o_settled  _ _ (hP.sub [0, 1, 2, 3, 4, 5] rfl) (hD.sub [0, 1, 2, 3, 4, 5] (by decide) rfl) hS _ (lv_sub hl [0] rfl) h
      · replace h := h.2 hc
        refine lv_iload_n hx hb d_GapFinder_widest_45 rfl (lv_at hl 1 rfl) ?_
        refine lv_aload_n hx hb d_GapFinder_widest_46 rfl (lv_at hl 0 rfl) ?_
        refine va_get (ci := 2) (v := .ref a0_between) hx hb htg in_GapFinder hown hK hP 0 rfl rfl 1 (by decide) (htg _ m_390) (fun _ h9 => h9) rfl d_GapFinder_widest_47 ?_
        refine va_alen (v := (Int32.ofNat n_o_between)) hx hb hK hP 3 0 rfl rfl (by first | rfl | decide) d_GapFinder_widest_50 ?_
        refine lv_icmp_ge (tgt := 70) hx hb d_GapFinder_widest_51 (by decide) (fun hc => ?_) (fun hc => ?_)
        · replace h := h.1 hc
          exact C_70 v_o_betweenCount v_o_settledCount v_o_widest f_o_isBetween f_o_far f_o_between f_o_waysIn f_o_settled  _ _ (hP.sub [0, 1, 2, 3, 4, 5] rfl) (hD.sub [0, 1, 2, 3, 4, 5] (by decide) rfl) hS _ (lv_sub hl [0] rfl) h
        · replace h := h.2 hc
          refine lv_aload_n hx hb d_GapFinder_widest_54 rfl (lv_at hl 0 rfl) ?_
          refine lv_aload_n hx hb d_GapFinder_widest_55 rfl (lv_at hl 0 rfl) ?_
          refine va_get (ci := 2) (v := .ref a0_between) hx hb htg in_GapFinder hown hK hP 0 rfl rfl 1 (by decide) (htg _ m_390) (fun _ h9 => h9) rfl d_GapFinder_widest_56 ?_
          refine lv_iload_n hx hb d_GapFinder_widest_59 rfl (lv_at hl 1 rfl) ?_
          obtain ⟨hin, h⟩ := h
          refine va_iald hx hb hK hP 3 0 rfl rfl hin d_GapFinder_widest_60 ?_
          have hPc : va_P G vwCl [(a0, .inr (2, [.ref a0_machine, .ref a0_between, .int v_o_betweenCount, .ref a0_isBetween, .ref a0_waysIn, .ref a0_far, .ref a0_settled, .int v_o_settledCount, .int v_o_widest])), (a0_isBetween, .inl (K 1, n_o_isBetween, .inl f_o_isBetween)), (a0_far, .inl (K 0, n_o_far, .inl f_o_far)), (a0_between, .inl (K 0, n_o_between, .inl f_o_between))] _ := hP.sub [0, 1, 2, 3] rfl
          have hDc : va_D A [(a0, .inr (2, [.ref a0_machine, .ref a0_between, .int v_o_betweenCount, .ref a0_isBetween, .ref a0_waysIn, .ref a0_far, .ref a0_settled, .int v_o_settledCount, .int v_o_widest])), (a0_isBetween, .inl (K 1, n_o_isBetween, .inl f_o_isBetween)), (a0_far, .inl (K 0, n_o_far, .inl f_o_far)), (a0_between, .inl (K 0, n_o_between, .inl f_o_between))] := hD.sub [0, 1, 2, 3] (by decide) rfl
          have hRc : va_P G vwCl [(a0_machine, .inr (4, [.ref a0_machine_after, .ref a0_machine_winners, .int v_o_machine_gap, .int v_o_machine_isGapKnown])), (a0_machine_winners, .inl (K 0, n_o_machine_winners, .inl f_o_machine_winners)), (a0_machine_after, .inl (K 0, n_o_machine_after, .inl f_o_machine_after))] _ := (gR hR rN hS).sub [0, 1, 2] rfl
          have hJc : gJ [(a0, .inr (2, [.ref a0_machine, .ref a0_between, .int v_o_betweenCount, .ref a0_isBetween, .ref a0_waysIn, .ref a0_far, .ref a0_settled, .int v_o_settledCount, .int v_o_widest])), (a0_isBetween, .inl (K 1, n_o_isBetween, .inl f_o_isBetween)), (a0_far, .inl (K 0, n_o_far, .inl f_o_far)), (a0_between, .inl (K 0, n_o_between, .inl f_o_between))] [(a0_machine, .inr (4, [.ref a0_machine_after, .ref a0_machine_winners, .int v_o_machine_gap, .int v_o_machine_isGapKnown])), (a0_machine_winners, .inl (K 0, n_o_machine_winners, .inl f_o_machine_winners)), (a0_machine_after, .inl (K 0, n_o_machine_after, .inl f_o_machine_after))] := gJ_A hDc (gN_sub rN [0, 1, 2] rfl)
          refine g_callv (wr := [(a0_waysIn, .inl (K 0, n_o_waysIn, .inl f_o_waysIn)), (a0_settled, .inl (K 0, n_o_settled, .inl f_o_settled))]) (va_runV (As := [.int (f_o_between l1.toNatClampNeg)]) (rest := []) ⟨hx, hb, hml, hown, htg⟩ (k_GapFinder_meetFollowers l G K a0 a0_machine a0_machine_winners a0_machine_after a0_isBetween a0_far a0_between a0_waysIn a0_settled _ v_o_betweenCount v_o_settledCount v_o_widest v_o_machine_gap v_o_machine_isGapKnown n_o_machine_winners f_o_machine_winners n_o_machine_after f_o_machine_after n_o_isBetween f_o_isBetween n_o_far f_o_far n_o_between f_o_between (f_o_between l1.toNatClampNeg) _ h) (cwV 1 htg (gGoodV m_408 m_409 m_846 m_14 m_410) rfl rfl rfl (by decide +kernel) ⟨(Nat.le_of_ble_eq_true rfl), (Nat.le_of_ble_eq_true rfl)⟩) (gW_preV (ci := 2) (q0 := 0) hK hN hPc hDc hRc hJc hPc rfl rfl) rfl rfl hl.1 rfl (lv_room (Nat.le_of_ble_eq_true rfl)) d_GapFinder_widest_61 ⟨(Nat.le_of_ble_eq_true rfl), (Nat.le_of_ble_eq_true rfl)⟩) hP hD hS hA [0, 1, 2, 3] [4, 5] rfl rfl (by decide) (by decide) (fun u H locs h hP hD hS => ?_)
          obtain ⟨u4701, u4702, u4703, u4704, u4705⟩ := u
          try dsimp only at h
          have hP : va_P G vwCl [(a0_waysIn, .inl (K 0, n_o_waysIn, .inl f_o_waysIn)), (a0_settled, .inl (K 0, n_o_settled, .inl f_o_settled)), (a0, .inr (2, [.ref a0_machine, .ref a0_between, .int u4701, .ref a0_isBetween, .ref a0_waysIn, .ref a0_far, .ref a0_settled, .int v_o_settledCount, .int u4702])), (a0_isBetween, .inl (K 1, n_o_isBetween, .inl u4703)), (a0_far, .inl (K 0, n_o_far, .inl u4704)), (a0_between, .inl (K 0, n_o_between, .inl u4705))] H := hP
          have hD : va_D A [(a0_waysIn, .inl (K 0, n_o_waysIn, .inl f_o_waysIn)), (a0_settled, .inl (K 0, n_o_settled, .inl f_o_settled)), (a0, .inr (2, [.ref a0_machine, .ref a0_between, .int u4701, .ref a0_isBetween, .ref a0_waysIn, .ref a0_far, .ref a0_settled, .int v_o_settledCount, .int u4702])), (a0_isBetween, .inl (K 1, n_o_isBetween, .inl u4703)), (a0_far, .inl (K 0, n_o_far, .inl u4704)), (a0_between, .inl (K 0, n_o_between, .inl u4705))] := hD
          refine lv_iinc (v := (l1 + 1)) (lv' := [(1, .int (l1 + 1)), (0, .ref a0)]) hx hb d_GapFinder_widest_64 hl (k := 1) rfl (by first | rfl | decide) (by decide) rfl (fun ls hl => ?_)
          refine lv_goto (tgt := 37) hx hb d_GapFinder_widest_67 (by decide) ?_
          exact ih (l1 + 1) u4701 v_o_settledCount u4702 u4703 u4704 u4705 f_o_waysIn f_o_settled  _ _ (hP.sub [2, 3, 4, 5, 0, 1] rfl) (hD.sub [2, 3, 4, 5, 0, 1] (by decide) rfl) hS _ (lv_sub hl [1, 0] rfl) h
  have C_35 : ∀ (v_o_betweenCount : Int32) (v_o_settledCount : Int32) (v_o_widest : Int32) (f_o_isBetween : (Nat → Int32)) (f_o_far : (Nat → Int32)) (f_o_between : (Nat → Int32)) (f_o_waysIn : (Nat → Int32)) (f_o_settled : (Nat → Int32)) (H : Heap) (locs : List Loc), va_P G vwCl [(a0, .inr (2, [.ref a0_machine, .ref a0_between, .int v_o_betweenCount, .ref a0_isBetween, .ref a0_waysIn, .ref a0_far, .ref a0_settled, .int v_o_settledCount, .int v_o_widest])), (a0_isBetween, .inl (K 1, n_o_isBetween, .inl f_o_isBetween)), (a0_far, .inl (K 0, n_o_far, .inl f_o_far)), (a0_between, .inl (K 0, n_o_between, .inl f_o_between)), (a0_waysIn, .inl (K 0, n_o_waysIn, .inl f_o_waysIn)), (a0_settled, .inl (K 0, n_o_settled, .inl f_o_settled))] H → va_D A [(a0, .inr (2, [.ref a0_machine, .ref a0_between, .int v_o_betweenCount, .ref a0_isBetween, .ref a0_waysIn, .ref a0_far, .ref a0_settled, .int v_o_settledCount, .int v_o_widest])), (a0_isBetween, .inl (K 1, n_o_isBetween, .inl f_o_isBetween)), (a0_far, .inl (K 0, n_o_far, .inl f_o_far)), (a0_between, .inl (K 0, n_o_between, .inl f_o_between)), (a0_waysIn, .inl (K 0, n_o_waysIn, .inl f_o_waysIn)), (a0_settled, .inl (K 0, n_o_settled, .inl f_o_settled))] → va_S A s.heap H locs → ∀ (ls : Array Slot), lv_has ls 2 [(0, .ref a0)] → p_GapFinder_widest_35 n_o_machine_winners f_o_machine_winners n_o_machine_after f_o_machine_after n_o_isBetween n_o_far n_o_between n_o_waysIn n_o_settled post v_o_betweenCount v_o_settledCount v_o_widest f_o_isBetween f_o_far f_o_between f_o_waysIn f_o_settled → W p l e { frames := 4, cells := 0, slots := 0, locals := 87 } s m ([.ref a0] : List Value).toArray below meth c H locs 0 0 Q (F0 m 35 ls []) := by
    intro  v_o_betweenCount v_o_settledCount v_o_widest f_o_isBetween f_o_far f_o_between f_o_waysIn f_o_settled  H locs hP hD hS ls hl h
    refine lv_iconst (v := 0) hx hb d_GapFinder_widest_35 (by decide) ?_
    refine lv_istore_n (lv' := [(1, .int 0), (0, .ref a0)]) hx hb d_GapFinder_widest_36 rfl hl (by decide) rfl (fun ls hl => ?_)
    obtain ⟨k, h⟩ := h
    exact C_37 k 0 v_o_betweenCount v_o_settledCount v_o_widest f_o_isBetween f_o_far f_o_between f_o_waysIn f_o_settled  _ _ (hP.sub [0, 1, 2, 3, 4, 5] rfl) (hD.sub [0, 1, 2, 3, 4, 5] (by decide) rfl) hS _ (lv_sub hl [1, 0] rfl) h
  have C_2 : ∀ (n : Nat) (l1 : Int32) (v_o_betweenCount : Int32) (v_o_settledCount : Int32) (v_o_widest : Int32) (f_o_isBetween : (Nat → Int32)) (f_o_far : (Nat → Int32)) (f_o_between : (Nat → Int32)) (f_o_waysIn : (Nat → Int32)) (f_o_settled : (Nat → Int32)) (H : Heap) (locs : List Loc), va_P G vwCl [(a0, .inr (2, [.ref a0_machine, .ref a0_between, .int v_o_betweenCount, .ref a0_isBetween, .ref a0_waysIn, .ref a0_far, .ref a0_settled, .int v_o_settledCount, .int v_o_widest])), (a0_isBetween, .inl (K 1, n_o_isBetween, .inl f_o_isBetween)), (a0_far, .inl (K 0, n_o_far, .inl f_o_far)), (a0_between, .inl (K 0, n_o_between, .inl f_o_between)), (a0_waysIn, .inl (K 0, n_o_waysIn, .inl f_o_waysIn)), (a0_settled, .inl (K 0, n_o_settled, .inl f_o_settled))] H → va_D A [(a0, .inr (2, [.ref a0_machine, .ref a0_between, .int v_o_betweenCount, .ref a0_isBetween, .ref a0_waysIn, .ref a0_far, .ref a0_settled, .int v_o_settledCount, .int v_o_widest])), (a0_isBetween, .inl (K 1, n_o_isBetween, .inl f_o_isBetween)), (a0_far, .inl (K 0, n_o_far, .inl f_o_far)), (a0_between, .inl (K 0, n_o_between, .inl f_o_between)), (a0_waysIn, .inl (K 0, n_o_waysIn, .inl f_o_waysIn)), (a0_settled, .inl (K 0, n_o_settled, .inl f_o_settled))] → va_S A s.heap H locs → ∀ (ls : Array Slot), lv_has ls 2 [(0, .ref a0), (1, .int l1)] → p_GapFinder_widest_2 n_o_machine_winners f_o_machine_winners n_o_machine_after f_o_machine_after n_o_isBetween n_o_far n_o_between n_o_waysIn n_o_settled post n l1 v_o_betweenCount v_o_settledCount v_o_widest f_o_isBetween f_o_far f_o_between f_o_waysIn f_o_settled → W p l e { frames := 4, cells := 0, slots := 0, locals := 87 } s m ([.ref a0] : List Value).toArray below meth c H locs 0 0 Q (F0 m 2 ls []) := by
    intro n
    induction n with
    | zero =>
      intro l1 v_o_betweenCount v_o_settledCount v_o_widest f_o_isBetween f_o_far f_o_between f_o_waysIn f_o_settled  H locs hP hD hS ls hl h
      exact False.elim h
    | succ n ih =>
      intro l1 v_o_betweenCount v_o_settledCount v_o_widest f_o_isBetween f_o_far f_o_between f_o_waysIn f_o_settled  H locs hP hD hS ls hl h
      refine lv_iload_n hx hb d_GapFinder_widest_2 rfl (lv_at hl 1 rfl) ?_
      refine lv_aload_n hx hb d_GapFinder_widest_3 rfl (lv_at hl 0 rfl) ?_
      refine va_get (ci := 2) (v := .ref a0_machine) hx hb htg in_GapFinder hown hK hP 0 rfl rfl 0 (by decide) (htg _ m_389) (fun _ h9 => h9) rfl d_GapFinder_widest_4 ?_
      have hPc : va_P G vwCl [(a0_machine, .inr (4, [.ref a0_machine_after, .ref a0_machine_winners, .int v_o_machine_gap, .int v_o_machine_isGapKnown])), (a0_machine_winners, .inl (K 0, n_o_machine_winners, .inl f_o_machine_winners))] _ := (gR hR rN hS).sub [0, 1] rfl
      refine vp_callSi (va_Run.run (va_runV (As := []) (rest := [.int l1]) ⟨hx, hb, hml, hown, htg⟩ (k_Machine_size l G K a0_machine a0_machine_winners a0_machine_after v_o_machine_gap v_o_machine_isGapKnown n_o_machine_winners f_o_machine_winners _ h) (cwV 0 htg (gGoodV m_388 m_352 m_353 m_9 m_354) rfl rfl rfl (by decide +kernel) ⟨(Nat.le_of_ble_eq_true rfl), (Nat.le_of_ble_eq_true rfl)⟩) (gS_preV (ci := 4) (q0 := 0) hK hN hPc rfl rfl) rfl rfl hl.1 rfl (lv_room (Nat.le_of_ble_eq_true rfl)) d_GapFinder_widest_7 ⟨(Nat.le_of_ble_eq_true rfl), (Nat.le_of_ble_eq_true rfl)⟩)) (fun r1201 h => ?_)
      refine lv_icmp_ge (tgt := 35) hx hb d_GapFinder_widest_10 (by decide) (fun hc => ?_) (fun hc => ?_)
      · replace h := h.1 hc
        exact C_35 v_o_betweenCount v_o_settledCount v_o_widest f_o_isBetween f_o_far f_o_between f_o_waysIn f_o_settled  _ _ (hP.sub [0, 1, 2, 3, 4, 5] rfl) (hD.sub [0, 1, 2, 3, 4, 5] (by decide) rfl) hS _ (lv_sub hl [0] rfl) h
      · replace h := h.2 hc
        refine lv_aload_n hx hb d_GapFinder_widest_13 rfl (lv_at hl 0 rfl) ?_
        refine va_get (ci := 2) (v := .ref a0_machine) hx hb htg in_GapFinder hown hK hP 0 rfl rfl 0 (by decide) (htg _ m_389) (fun _ h9 => h9) rfl d_GapFinder_widest_14 ?_
        refine lv_iload_n hx hb d_GapFinder_widest_17 rfl (lv_at hl 1 rfl) ?_
        have hPc : va_P G vwCl [(a0_machine, .inr (4, [.ref a0_machine_after, .ref a0_machine_winners, .int v_o_machine_gap, .int v_o_machine_isGapKnown])), (a0_machine_winners, .inl (K 0, n_o_machine_winners, .inl f_o_machine_winners))] _ := (gR hR rN hS).sub [0, 1] rfl
        refine vp_callSi (va_Run.run (va_runV (As := [.int l1]) (rest := []) ⟨hx, hb, hml, hown, htg⟩ (k_Machine_hasWinner l G K a0_machine a0_machine_winners a0_machine_after v_o_machine_gap v_o_machine_isGapKnown n_o_machine_winners f_o_machine_winners l1 _ h) (cwV 1 htg (gGoodV m_403 m_404 m_405 m_9 m_406) rfl rfl rfl (by decide +kernel) ⟨(Nat.le_of_ble_eq_true rfl), (Nat.le_of_ble_eq_true rfl)⟩) (gS_preV (ci := 4) (q0 := 0) hK hN hPc rfl rfl) rfl rfl hl.1 rfl (lv_room (Nat.le_of_ble_eq_true rfl)) d_GapFinder_widest_18 ⟨(Nat.le_of_ble_eq_true rfl), (Nat.le_of_ble_eq_true rfl)⟩)) (fun r1202 h => ?_)
        refine lv_if_eq (tgt := 29) hx hb d_GapFinder_widest_21 (by decide) (fun hc => ?_) (fun hc => ?_)
        · replace h := h.1 hc
          refine lv_iinc (v := (l1 + 1)) (lv' := [(1, .int (l1 + 1)), (0, .ref a0)]) hx hb d_GapFinder_widest_29 hl (k := 1) rfl (by first | rfl | decide) (by decide) rfl (fun ls hl => ?_)
          refine lv_goto (tgt := 2) hx hb d_GapFinder_widest_32 (by decide) ?_
          exact ih (l1 + 1) v_o_betweenCount v_o_settledCount v_o_widest f_o_isBetween f_o_far f_o_between f_o_waysIn f_o_settled  _ _ (hP.sub [0, 1, 2, 3, 4, 5] rfl) (hD.sub [0, 1, 2, 3, 4, 5] (by decide) rfl) hS _ (lv_sub hl [1, 0] rfl) h
        · replace h := h.2 hc
          refine lv_aload_n hx hb d_GapFinder_widest_24 rfl (lv_at hl 0 rfl) ?_
          refine lv_iload_n hx hb d_GapFinder_widest_25 rfl (lv_at hl 1 rfl) ?_
          have hPc : va_P G vwCl [(a0, .inr (2, [.ref a0_machine, .ref a0_between, .int v_o_betweenCount, .ref a0_isBetween, .ref a0_waysIn, .ref a0_far, .ref a0_settled, .int v_o_settledCount, .int v_o_widest])), (a0_isBetween, .inl (K 1, n_o_isBetween, .inl f_o_isBetween)), (a0_far, .inl (K 0, n_o_far, .inl f_o_far)), (a0_between, .inl (K 0, n_o_between, .inl f_o_between))] _ := hP.sub [0, 1, 2, 3] rfl
          have hDc : va_D A [(a0, .inr (2, [.ref a0_machine, .ref a0_between, .int v_o_betweenCount, .ref a0_isBetween, .ref a0_waysIn, .ref a0_far, .ref a0_settled, .int v_o_settledCount, .int v_o_widest])), (a0_isBetween, .inl (K 1, n_o_isBetween, .inl f_o_isBetween)), (a0_far, .inl (K 0, n_o_far, .inl f_o_far)), (a0_between, .inl (K 0, n_o_between, .inl f_o_between))] := hD.sub [0, 1, 2, 3] (by decide) rfl
          have hRc : va_P G vwCl [(a0_machine, .inr (4, [.ref a0_machine_after, .ref a0_machine_winners, .int v_o_machine_gap, .int v_o_machine_isGapKnown])), (a0_machine_winners, .inl (K 0, n_o_machine_winners, .inl f_o_machine_winners)), (a0_machine_after, .inl (K 0, n_o_machine_after, .inl f_o_machine_after))] _ := (gR hR rN hS).sub [0, 1, 2] rfl
          have hJc : gJ [(a0, .inr (2, [.ref a0_machine, .ref a0_between, .int v_o_betweenCount, .ref a0_isBetween, .ref a0_waysIn, .ref a0_far, .ref a0_settled, .int v_o_settledCount, .int v_o_widest])), (a0_isBetween, .inl (K 1, n_o_isBetween, .inl f_o_isBetween)), (a0_far, .inl (K 0, n_o_far, .inl f_o_far)), (a0_between, .inl (K 0, n_o_between, .inl f_o_between))] [(a0_machine, .inr (4, [.ref a0_machine_after, .ref a0_machine_winners, .int v_o_machine_gap, .int v_o_machine_isGapKnown])), (a0_machine_winners, .inl (K 0, n_o_machine_winners, .inl f_o_machine_winners)), (a0_machine_after, .inl (K 0, n_o_machine_after, .inl f_o_machine_after))] := gJ_A hDc (gN_sub rN [0, 1, 2] rfl)
          refine g_callv (wr := [(a0_waysIn, .inl (K 0, n_o_waysIn, .inl f_o_waysIn)), (a0_settled, .inl (K 0, n_o_settled, .inl f_o_settled))]) (va_runV (As := [.int l1]) (rest := []) ⟨hx, hb, hml, hown, htg⟩ (k_GapFinder_meetFollowers l G K a0 a0_machine a0_machine_winners a0_machine_after a0_isBetween a0_far a0_between a0_waysIn a0_settled _ v_o_betweenCount v_o_settledCount v_o_widest v_o_machine_gap v_o_machine_isGapKnown n_o_machine_winners f_o_machine_winners n_o_machine_after f_o_machine_after n_o_isBetween f_o_isBetween n_o_far f_o_far n_o_between f_o_between l1 _ h) (cwV 1 htg (gGoodV m_408 m_409 m_846 m_14 m_410) rfl rfl rfl (by decide +kernel) ⟨(Nat.le_of_ble_eq_true rfl), (Nat.le_of_ble_eq_true rfl)⟩) (gW_preV (ci := 2) (q0 := 0) hK hN hPc hDc hRc hJc hPc rfl rfl) rfl rfl hl.1 rfl (lv_room (Nat.le_of_ble_eq_true rfl)) d_GapFinder_widest_26 ⟨(Nat.le_of_ble_eq_true rfl), (Nat.le_of_ble_eq_true rfl)⟩) hP hD hS hA [0, 1, 2, 3] [4, 5] rfl rfl (by decide) (by decide) (fun u H locs h hP hD hS => ?_)
          obtain ⟨u1203, u1204, u1205, u1206, u1207⟩ := u
          try dsimp only at h
          have hP : va_P G vwCl [(a0_waysIn, .inl (K 0, n_o_waysIn, .inl f_o_waysIn)), (a0_settled, .inl (K 0, n_o_settled, .inl f_o_settled)), (a0, .inr (2, [.ref a0_machine, .ref a0_between, .int u1203, .ref a0_isBetween, .ref a0_waysIn, .ref a0_far, .ref a0_settled, .int v_o_settledCount, .int u1204])), (a0_isBetween, .inl (K 1, n_o_isBetween, .inl u1205)), (a0_far, .inl (K 0, n_o_far, .inl u1206)), (a0_between, .inl (K 0, n_o_between, .inl u1207))] H := hP
          have hD : va_D A [(a0_waysIn, .inl (K 0, n_o_waysIn, .inl f_o_waysIn)), (a0_settled, .inl (K 0, n_o_settled, .inl f_o_settled)), (a0, .inr (2, [.ref a0_machine, .ref a0_between, .int u1203, .ref a0_isBetween, .ref a0_waysIn, .ref a0_far, .ref a0_settled, .int v_o_settledCount, .int u1204])), (a0_isBetween, .inl (K 1, n_o_isBetween, .inl u1205)), (a0_far, .inl (K 0, n_o_far, .inl u1206)), (a0_between, .inl (K 0, n_o_between, .inl u1207))] := hD
          refine lv_iinc (v := (l1 + 1)) (lv' := [(1, .int (l1 + 1)), (0, .ref a0)]) hx hb d_GapFinder_widest_29 hl (k := 1) rfl (by first | rfl | decide) (by decide) rfl (fun ls hl => ?_)
          refine lv_goto (tgt := 2) hx hb d_GapFinder_widest_32 (by decide) ?_
          exact ih (l1 + 1) u1203 v_o_settledCount u1204 u1205 u1206 u1207 f_o_waysIn f_o_settled  _ _ (hP.sub [2, 3, 4, 5, 0, 1] rfl) (hD.sub [2, 3, 4, 5, 0, 1] (by decide) rfl) hS _ (lv_sub hl [1, 0] rfl) h
  refine lv_iconst (v := 0) hx hb d_GapFinder_widest_0 (by decide) ?_
  refine lv_istore_n (lv' := [(1, .int 0), (0, .ref a0)]) hx hb d_GapFinder_widest_1 rfl hl (by decide) rfl (fun ls hl => ?_)
  obtain ⟨k, h⟩ := h
  exact C_2 k 0 v_o_betweenCount v_o_settledCount v_o_widest f_o_isBetween f_o_far f_o_between f_o_waysIn f_o_settled  _ _ (hP.sub [0, 1, 2, 3, 4, 5] rfl) (hD.sub [0, 1, 2, 3, 4, 5] (by decide) rfl) hS _ (lv_sub hl [1, 0] rfl) h
def p_Machine_widestGap (v_o_gap : Int32) (v_o_isGapKnown : Int32) (n_o_winners : Nat) (f_o_winners : (Nat → Int32)) (n_o_after : Nat) (f_o_after : (Nat → Int32)) (post : Int32 → Int32 → Int32 → Prop) : Prop := ((¬ v_o_isGapKnown = 0 → (post v_o_gap v_o_gap v_o_isGapKnown)) ∧ (v_o_isGapKnown = 0 → (p_GapFinder_init n_o_winners (fun u2 u3 u4 n10 u11 n12 u13 n14 u15 n16 u17 n18 u19 => (p_GapFinder_widest u2 u3 u4 n_o_winners f_o_winners n_o_after f_o_after n12 u13 n16 u17 n10 u11 n14 u15 n18 u19 (fun r29 u21 u22 u23 u24 u25 u26 u27 u28 => (post r29 r29 1)))))))
set_option maxHeartbeats 4000000 in
set_option maxRecDepth 100000 in
theorem k_Machine_widestGap (l : Launch) (G : va_G) (K : Nat → ClassId) (a0 a0_winners a0_after : Nat) (sz : Nat) (v_o_gap : Int32) (v_o_isGapKnown : Int32) (n_o_winners : Nat) (f_o_winners : (Nat → Int32)) (n_o_after : Nat) (f_o_after : (Nat → Int32)) (post : Int32 → Int32 → Int32 → Prop) (h : p_Machine_widestGap v_o_gap v_o_isGapKnown n_o_winners f_o_winners n_o_after f_o_after post) : MWi l y_Machine_widestGap (.code y_Machine_widestGap c_Machine_widestGap 1 (some .int)) { frames := 5, cells := 6, slots := 2569, locals := 108 } G K [(a0, .inr (4, [.ref a0_after, .ref a0_winners, .int v_o_gap, .int v_o_isGapKnown]))] [(a0_winners, .inl (K 0, n_o_winners, .inl f_o_winners)), (a0_after, .inl (K 0, n_o_after, .inl f_o_after))] [.ref a0] sz (fun r (u : Int32 × Int32) => post r u.1 u.2) (fun u => [(a0, .inr (4, [.ref a0_after, .ref a0_winners, .int u.1, .int u.2]))]) 6 2569 := by
  refine g_metWi (cc := c_Machine_widestGap) (maxL := 1) (ret := some .int) (rt := .int) (by decide) rfl rfl (Nat.le_of_ble_eq_true rfl) ?_
  intro p e s m below meth c A Q hx hb hml hown hname htg hK hN hP hD hA hS hR rN hret ls hl
  have hl : lv_has ls 1 [(0, .ref a0)] := hl
  refine lv_aload_n hx hb d_Machine_widestGap_0 rfl (lv_at hl 0 rfl) ?_
  refine va_get (ci := 4) (v := .int v_o_isGapKnown) hx hb htg in_Machine hown hK hP 0 rfl rfl 3 (by decide) (htg _ m_144) (fun _ h9 => h9) rfl d_Machine_widestGap_1 ?_
  refine lv_if_ne (tgt := 27) hx hb d_Machine_widestGap_4 (by decide) (fun hc => ?_) (fun hc => ?_)
  · replace h := h.1 hc
    refine lv_aload_n hx hb d_Machine_widestGap_27 rfl (lv_at hl 0 rfl) ?_
    refine va_get (ci := 4) (v := .int v_o_gap) hx hb htg in_Machine hown hK hP 0 rfl rfl 2 (by decide) (htg _ m_143) (fun _ h9 => h9) rfl d_Machine_widestGap_28 ?_
    refine W.widen (k := 6) (n := 2569) (by decide) (by decide) ?_
    exact hret _ (v_o_gap, v_o_isGapKnown) _ _ _ _ h (vp_nar_int _) (hP.sub [0] rfl) (hD.sub [0] (by decide) rfl) hS d_Machine_widestGap_31
  · replace h := h.2 hc
    refine lv_aload_n hx hb d_Machine_widestGap_7 rfl (lv_at hl 0 rfl) ?_
    refine va_new (ci := 2) (fs := [.null, .null, .int 0, .null, .null, .null, .null, .int 0, .int 0]) hx hb htg in_GapFinder t_GapFinder tok_GapFinder hown (htg _ m_382) (htg _ m_383) (htg _ m_14) hK hP hD hS hA rfl (fun j hj => by rcases (show j = 0 ∨ j = 1 ∨ j = 2 ∨ j = 3 ∨ j = 4 ∨ j = 5 ∨ j = 6 ∨ j = 7 ∨ j = 8 by omega) with rfl | rfl | rfl | rfl | rfl | rfl | rfl | rfl | rfl <;> rfl) (Nat.le_of_ble_eq_true rfl) (Nat.le_of_ble_eq_true rfl) d_Machine_widestGap_8 (fun q1 H hP hD hS => ?_)
    have hP : va_P G vwCl [(a0, .inr (4, [.ref a0_after, .ref a0_winners, .int v_o_gap, .int v_o_isGapKnown])), (q1, .inr (2, [.null, .null, .int 0, .null, .null, .null, .null, .int 0, .int 0]))] H := hP
    have hD : va_D A [(a0, .inr (4, [.ref a0_after, .ref a0_winners, .int v_o_gap, .int v_o_isGapKnown])), (q1, .inr (2, [.null, .null, .int 0, .null, .null, .null, .null, .int 0, .int 0]))] := hD
    refine lv_dup hx hb d_Machine_widestGap_11 rfl ?_
    refine lv_aload_n hx hb d_Machine_widestGap_12 rfl (lv_at hl 0 rfl) ?_
    have hPc : va_P G vwCl [(q1, .inr (2, [.null, .null, .int 0, .null, .null, .null, .null, .int 0, .int 0]))] _ := hP.sub [1] rfl
    have hDc : va_D A [(q1, .inr (2, [.null, .null, .int 0, .null, .null, .null, .null, .int 0, .int 0]))] := hD.sub [1] (by decide) rfl
    have hRc : va_P G vwCl [(a0, .inr (4, [.ref a0_after, .ref a0_winners, .int v_o_gap, .int v_o_isGapKnown])), (a0_winners, .inl (K 0, n_o_winners, .inl f_o_winners))] _ := (hP.app (gR hR rN hS)).sub [0, 2] rfl
    have hJc : gJ [(q1, .inr (2, [.null, .null, .int 0, .null, .null, .null, .null, .int 0, .int 0]))] [(a0, .inr (4, [.ref a0_after, .ref a0_winners, .int v_o_gap, .int v_o_isGapKnown])), (a0_winners, .inl (K 0, n_o_winners, .inl f_o_winners))] := gJ_sub hD rN [1] [0, 2] rfl rfl (by decide)
    refine g_callv (wr := [(a0, .inr (4, [.ref a0_after, .ref a0_winners, .int v_o_gap, .int v_o_isGapKnown]))]) (va_runI (As := [.ref a0]) (rest := [.ref q1, .ref a0]) ⟨hx, hb, hml, hown, htg⟩ (k_GapFinder_init l G K q1 a0 a0_winners a0_after _ v_o_gap v_o_isGapKnown n_o_winners f_o_winners _ h) (cwI 1 htg (gGood m_386) rfl rfl rfl (htg _ m_14) (htg _ m_384) (htg _ m_385) rfl (by decide +kernel) ⟨(Nat.le_of_ble_eq_true rfl), (Nat.le_of_ble_eq_true rfl)⟩) (gW_pre hK hN hPc hDc hRc hJc) rfl rfl hl.1 rfl (lv_room (Nat.le_of_ble_eq_true rfl)) d_Machine_widestGap_13 ⟨(Nat.le_of_ble_eq_true rfl), (Nat.le_of_ble_eq_true rfl)⟩) hP hD hS hA [1] [0] rfl rfl (by decide) (by decide) (fun u H locs h hP hD hS => ?_)
    obtain ⟨u2, u3, u4, n10, u11, n12, u13, n14, u15, n16, u17, n18, u19, q5, q6, q7, q8, q9⟩ := u
    try dsimp only at h
    have hP : va_P G vwCl [(a0, .inr (4, [.ref a0_after, .ref a0_winners, .int v_o_gap, .int v_o_isGapKnown])), (q1, .inr (2, [.ref a0, .ref q5, .int u2, .ref q6, .ref q7, .ref q8, .ref q9, .int u3, .int u4])), (q5, .inl (K 0, n10, .inl u11)), (q6, .inl (K 1, n12, .inl u13)), (q7, .inl (K 0, n14, .inl u15)), (q8, .inl (K 0, n16, .inl u17)), (q9, .inl (K 0, n18, .inl u19))] H := hP
    have hD : va_D A [(a0, .inr (4, [.ref a0_after, .ref a0_winners, .int v_o_gap, .int v_o_isGapKnown])), (q1, .inr (2, [.ref a0, .ref q5, .int u2, .ref q6, .ref q7, .ref q8, .ref q9, .int u3, .int u4])), (q5, .inl (K 0, n10, .inl u11)), (q6, .inl (K 1, n12, .inl u13)), (q7, .inl (K 0, n14, .inl u15)), (q8, .inl (K 0, n16, .inl u17)), (q9, .inl (K 0, n18, .inl u19))] := hD
    have hPc : va_P G vwCl [(q1, .inr (2, [.ref a0, .ref q5, .int u2, .ref q6, .ref q7, .ref q8, .ref q9, .int u3, .int u4])), (q6, .inl (K 1, n12, .inl u13)), (q8, .inl (K 0, n16, .inl u17)), (q5, .inl (K 0, n10, .inl u11)), (q7, .inl (K 0, n14, .inl u15)), (q9, .inl (K 0, n18, .inl u19))] _ := hP.sub [1, 3, 5, 2, 4, 6] rfl
    have hDc : va_D A [(q1, .inr (2, [.ref a0, .ref q5, .int u2, .ref q6, .ref q7, .ref q8, .ref q9, .int u3, .int u4])), (q6, .inl (K 1, n12, .inl u13)), (q8, .inl (K 0, n16, .inl u17)), (q5, .inl (K 0, n10, .inl u11)), (q7, .inl (K 0, n14, .inl u15)), (q9, .inl (K 0, n18, .inl u19))] := hD.sub [1, 3, 5, 2, 4, 6] (by decide) rfl
    have hRc : va_P G vwCl [(a0, .inr (4, [.ref a0_after, .ref a0_winners, .int v_o_gap, .int v_o_isGapKnown])), (a0_winners, .inl (K 0, n_o_winners, .inl f_o_winners)), (a0_after, .inl (K 0, n_o_after, .inl f_o_after))] _ := (hP.app (gR hR rN hS)).sub [0, 7, 8] rfl
    have hJc : gJ [(q1, .inr (2, [.ref a0, .ref q5, .int u2, .ref q6, .ref q7, .ref q8, .ref q9, .int u3, .int u4])), (q6, .inl (K 1, n12, .inl u13)), (q8, .inl (K 0, n16, .inl u17)), (q5, .inl (K 0, n10, .inl u11)), (q7, .inl (K 0, n14, .inl u15)), (q9, .inl (K 0, n18, .inl u19))] [(a0, .inr (4, [.ref a0_after, .ref a0_winners, .int v_o_gap, .int v_o_isGapKnown])), (a0_winners, .inl (K 0, n_o_winners, .inl f_o_winners)), (a0_after, .inl (K 0, n_o_after, .inl f_o_after))] := gJ_sub hD rN [1, 3, 5, 2, 4, 6] [0, 7, 8] rfl rfl (by decide)
    refine g_calli (wr := [(a0, .inr (4, [.ref a0_after, .ref a0_winners, .int v_o_gap, .int v_o_isGapKnown]))]) (va_runV (As := []) (rest := [.ref a0]) ⟨hx, hb, hml, hown, htg⟩ (k_GapFinder_widest l G K q1 a0 a0_winners a0_after q6 q8 q5 q7 q9 _ u2 u3 u4 v_o_gap v_o_isGapKnown n_o_winners f_o_winners n_o_after f_o_after n12 u13 n16 u17 n10 u11 n14 u15 n18 u19 _ h) (cwV 0 htg (gGoodV m_399 m_400 m_401 m_14 m_402) rfl rfl rfl (by decide +kernel) ⟨(Nat.le_of_ble_eq_true rfl), (Nat.le_of_ble_eq_true rfl)⟩) (gW_preV (ci := 2) (q0 := 0) hK hN hPc hDc hRc hJc hPc rfl rfl) rfl rfl hl.1 rfl (lv_room (Nat.le_of_ble_eq_true rfl)) d_Machine_widestGap_16 ⟨(Nat.le_of_ble_eq_true rfl), (Nat.le_of_ble_eq_true rfl)⟩) hP hD hS hA [1, 3, 5, 2, 4, 6] [0] rfl rfl (by decide) (by decide) (fun r29 u H locs h hP hD hS => ?_)
    obtain ⟨u21, u22, u23, u24, u25, u26, u27, u28⟩ := u
    try dsimp only at h
    have hP : va_P G vwCl [(a0, .inr (4, [.ref a0_after, .ref a0_winners, .int v_o_gap, .int v_o_isGapKnown])), (q1, .inr (2, [.ref a0, .ref q5, .int u21, .ref q6, .ref q7, .ref q8, .ref q9, .int u22, .int u23])), (q6, .inl (K 1, n12, .inl u24)), (q8, .inl (K 0, n16, .inl u25)), (q5, .inl (K 0, n10, .inl u26)), (q7, .inl (K 0, n14, .inl u27)), (q9, .inl (K 0, n18, .inl u28))] H := hP
    have hD : va_D A [(a0, .inr (4, [.ref a0_after, .ref a0_winners, .int v_o_gap, .int v_o_isGapKnown])), (q1, .inr (2, [.ref a0, .ref q5, .int u21, .ref q6, .ref q7, .ref q8, .ref q9, .int u22, .int u23])), (q6, .inl (K 1, n12, .inl u24)), (q8, .inl (K 0, n16, .inl u25)), (q5, .inl (K 0, n10, .inl u26)), (q7, .inl (K 0, n14, .inl u27)), (q9, .inl (K 0, n18, .inl u28))] := hD
    refine va_put (ci := 4) (v := .int r29) (ty := .int) hx hb htg in_Machine t_Machine tok_Machine nm_Machine hown hK hP hD hS 0 rfl rfl 2 (by decide) (htg _ m_143) (fun _ h9 => h9) rfl (by decide +kernel) rfl rfl (Nat.le_of_ble_eq_true rfl) d_Machine_widestGap_19 (fun H locs hP hD hS => ?_)
    have hP : va_P G vwCl [(a0, .inr (4, [.ref a0_after, .ref a0_winners, .int r29, .int v_o_isGapKnown])), (q1, .inr (2, [.ref a0, .ref q5, .int u21, .ref q6, .ref q7, .ref q8, .ref q9, .int u22, .int u23])), (q6, .inl (K 1, n12, .inl u24)), (q8, .inl (K 0, n16, .inl u25)), (q5, .inl (K 0, n10, .inl u26)), (q7, .inl (K 0, n14, .inl u27)), (q9, .inl (K 0, n18, .inl u28))] H := hP
    have hD : va_D A [(a0, .inr (4, [.ref a0_after, .ref a0_winners, .int r29, .int v_o_isGapKnown])), (q1, .inr (2, [.ref a0, .ref q5, .int u21, .ref q6, .ref q7, .ref q8, .ref q9, .int u22, .int u23])), (q6, .inl (K 1, n12, .inl u24)), (q8, .inl (K 0, n16, .inl u25)), (q5, .inl (K 0, n10, .inl u26)), (q7, .inl (K 0, n14, .inl u27)), (q9, .inl (K 0, n18, .inl u28))] := hD
    refine lv_aload_n hx hb d_Machine_widestGap_22 rfl (lv_at hl 0 rfl) ?_
    refine lv_iconst (v := 1) hx hb d_Machine_widestGap_23 (by decide) ?_
    refine va_put (ci := 4) (v := .int 1) (ty := .boolean) hx hb htg in_Machine t_Machine tok_Machine nm_Machine hown hK hP hD hS 0 rfl rfl 3 (by decide) (htg _ m_144) (fun _ h9 => h9) rfl (by decide +kernel) (by decide +kernel) (by decide +kernel) (Nat.le_of_ble_eq_true rfl) d_Machine_widestGap_24 (fun H locs hP hD hS => ?_)
    have hP : va_P G vwCl [(a0, .inr (4, [.ref a0_after, .ref a0_winners, .int r29, .int 1])), (q1, .inr (2, [.ref a0, .ref q5, .int u21, .ref q6, .ref q7, .ref q8, .ref q9, .int u22, .int u23])), (q6, .inl (K 1, n12, .inl u24)), (q8, .inl (K 0, n16, .inl u25)), (q5, .inl (K 0, n10, .inl u26)), (q7, .inl (K 0, n14, .inl u27)), (q9, .inl (K 0, n18, .inl u28))] H := hP
    have hD : va_D A [(a0, .inr (4, [.ref a0_after, .ref a0_winners, .int r29, .int 1])), (q1, .inr (2, [.ref a0, .ref q5, .int u21, .ref q6, .ref q7, .ref q8, .ref q9, .int u22, .int u23])), (q6, .inl (K 1, n12, .inl u24)), (q8, .inl (K 0, n16, .inl u25)), (q5, .inl (K 0, n10, .inl u26)), (q7, .inl (K 0, n14, .inl u27)), (q9, .inl (K 0, n18, .inl u28))] := hD
    refine lv_aload_n hx hb d_Machine_widestGap_27 rfl (lv_at hl 0 rfl) ?_
    refine va_get (ci := 4) (v := .int r29) hx hb htg in_Machine hown hK hP 0 rfl rfl 2 (by decide) (htg _ m_143) (fun _ h9 => h9) rfl d_Machine_widestGap_28 ?_
    exact hret _ (r29, 1) _ _ _ _ h (vp_nar_int _) (hP.sub [0] rfl) (hD.sub [0] (by decide) rfl) hS d_Machine_widestGap_31
