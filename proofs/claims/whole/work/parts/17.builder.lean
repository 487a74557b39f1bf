theorem d_MachineBuilder_init_0 : decode c_MachineBuilder_init 0 = .ok (.aload_n 0, 1) := by decide +kernel
theorem d_MachineBuilder_init_1 : decode c_MachineBuilder_init 1 = .ok (.invokespecial 3, 3) := by decide +kernel
theorem d_MachineBuilder_init_4 : decode c_MachineBuilder_init 4 = .ok (.aload_n 0, 1) := by decide +kernel
theorem d_MachineBuilder_init_5 : decode c_MachineBuilder_init 5 = .ok (.bipush 6, 2) := by decide +kernel
theorem d_MachineBuilder_init_7 : decode c_MachineBuilder_init 7 = .ok (.newarray .int, 2) := by decide +kernel
theorem d_MachineBuilder_init_9 : decode c_MachineBuilder_init 9 = .ok (.putfield 9, 3) := by decide +kernel
theorem d_MachineBuilder_init_12 : decode c_MachineBuilder_init 12 = .ok (.aload_n 0, 1) := by decide +kernel
theorem d_MachineBuilder_init_13 : decode c_MachineBuilder_init 13 = .ok (.sipush 512, 3) := by decide +kernel
theorem d_MachineBuilder_init_16 : decode c_MachineBuilder_init 16 = .ok (.newarray .int, 2) := by decide +kernel
theorem d_MachineBuilder_init_18 : decode c_MachineBuilder_init 18 = .ok (.putfield 15, 3) := by decide +kernel
theorem d_MachineBuilder_init_21 : decode c_MachineBuilder_init 21 = .ok (.aload_n 0, 1) := by decide +kernel
theorem d_MachineBuilder_init_22 : decode c_MachineBuilder_init 22 = .ok (.iconst 0, 1) := by decide +kernel
theorem d_MachineBuilder_init_23 : decode c_MachineBuilder_init 23 = .ok (.putfield 18, 3) := by decide +kernel
theorem d_MachineBuilder_init_26 : decode c_MachineBuilder_init 26 = .ok (.aload_n 0, 1) := by decide +kernel
theorem d_MachineBuilder_init_27 : decode c_MachineBuilder_init 27 = .ok (.sipush 512, 3) := by decide +kernel
theorem d_MachineBuilder_init_30 : decode c_MachineBuilder_init 30 = .ok (.newarray .int, 2) := by decide +kernel
theorem d_MachineBuilder_init_32 : decode c_MachineBuilder_init 32 = .ok (.putfield 22, 3) := by decide +kernel
theorem d_MachineBuilder_init_35 : decode c_MachineBuilder_init 35 = .ok (.aload_n 0, 1) := by decide +kernel
theorem d_MachineBuilder_init_36 : decode c_MachineBuilder_init 36 = .ok (.sipush 512, 3) := by decide +kernel
theorem d_MachineBuilder_init_39 : decode c_MachineBuilder_init 39 = .ok (.newarray .int, 2) := by decide +kernel
theorem d_MachineBuilder_init_41 : decode c_MachineBuilder_init 41 = .ok (.putfield 25, 3) := by decide +kernel
theorem d_MachineBuilder_init_44 : decode c_MachineBuilder_init 44 = .ok (.aload_n 0, 1) := by decide +kernel
theorem d_MachineBuilder_init_45 : decode c_MachineBuilder_init 45 = .ok (.sipush 512, 3) := by decide +kernel
theorem d_MachineBuilder_init_48 : decode c_MachineBuilder_init 48 = .ok (.newarray .int, 2) := by decide +kernel
theorem d_MachineBuilder_init_50 : decode c_MachineBuilder_init 50 = .ok (.putfield 28, 3) := by decide +kernel
theorem d_MachineBuilder_init_53 : decode c_MachineBuilder_init 53 = .ok (.aload_n 0, 1) := by decide +kernel
theorem d_MachineBuilder_init_54 : decode c_MachineBuilder_init 54 = .ok (.sipush 512, 3) := by decide +kernel
theorem d_MachineBuilder_init_57 : decode c_MachineBuilder_init 57 = .ok (.newarray .int, 2) := by decide +kernel
theorem d_MachineBuilder_init_59 : decode c_MachineBuilder_init 59 = .ok (.putfield 31, 3) := by decide +kernel
theorem d_MachineBuilder_init_62 : decode c_MachineBuilder_init 62 = .ok (.aload_n 0, 1) := by decide +kernel
theorem d_MachineBuilder_init_63 : decode c_MachineBuilder_init 63 = .ok (.sipush 512, 3) := by decide +kernel
theorem d_MachineBuilder_init_66 : decode c_MachineBuilder_init 66 = .ok (.newarray .int, 2) := by decide +kernel
theorem d_MachineBuilder_init_68 : decode c_MachineBuilder_init 68 = .ok (.putfield 34, 3) := by decide +kernel
theorem d_MachineBuilder_init_71 : decode c_MachineBuilder_init 71 = .ok (.aload_n 0, 1) := by decide +kernel
theorem d_MachineBuilder_init_72 : decode c_MachineBuilder_init 72 = .ok (.sipush 512, 3) := by decide +kernel
theorem d_MachineBuilder_init_75 : decode c_MachineBuilder_init 75 = .ok (.newarray .int, 2) := by decide +kernel
theorem d_MachineBuilder_init_77 : decode c_MachineBuilder_init 77 = .ok (.putfield 37, 3) := by decide +kernel
theorem d_MachineBuilder_init_80 : decode c_MachineBuilder_init 80 = .ok (.return_, 1) := by decide +kernel
theorem d_MachineBuilder_meet_0 : decode c_MachineBuilder_meet 0 = .ok (.aload_n 0, 1) := by decide +kernel
theorem d_MachineBuilder_meet_1 : decode c_MachineBuilder_meet 1 = .ok (.getfield 15, 3) := by decide +kernel
theorem d_MachineBuilder_meet_4 : decode c_MachineBuilder_meet 4 = .ok (.aload_n 0, 1) := by decide +kernel
theorem d_MachineBuilder_meet_5 : decode c_MachineBuilder_meet 5 = .ok (.getfield 18, 3) := by decide +kernel
theorem d_MachineBuilder_meet_8 : decode c_MachineBuilder_meet 8 = .ok (.iload_n 1, 1) := by decide +kernel
theorem d_MachineBuilder_meet_9 : decode c_MachineBuilder_meet 9 = .ok (.iastore, 1) := by decide +kernel
theorem d_MachineBuilder_meet_10 : decode c_MachineBuilder_meet 10 = .ok (.aload_n 0, 1) := by decide +kernel
theorem d_MachineBuilder_meet_11 : decode c_MachineBuilder_meet 11 = .ok (.dup, 1) := by decide +kernel
theorem d_MachineBuilder_meet_12 : decode c_MachineBuilder_meet 12 = .ok (.getfield 18, 3) := by decide +kernel
theorem d_MachineBuilder_meet_15 : decode c_MachineBuilder_meet 15 = .ok (.iconst 1, 1) := by decide +kernel
theorem d_MachineBuilder_meet_16 : decode c_MachineBuilder_meet 16 = .ok (.iadd, 1) := by decide +kernel
theorem d_MachineBuilder_meet_17 : decode c_MachineBuilder_meet 17 = .ok (.putfield 18, 3) := by decide +kernel
theorem d_MachineBuilder_meet_20 : decode c_MachineBuilder_meet 20 = .ok (.aload_n 0, 1) := by decide +kernel
theorem d_MachineBuilder_meet_21 : decode c_MachineBuilder_meet 21 = .ok (.getfield 22, 3) := by decide +kernel
theorem d_MachineBuilder_meet_24 : decode c_MachineBuilder_meet 24 = .ok (.iload_n 1, 1) := by decide +kernel
theorem d_MachineBuilder_meet_25 : decode c_MachineBuilder_meet 25 = .ok (.aload_n 2, 1) := by decide +kernel
theorem d_MachineBuilder_meet_26 : decode c_MachineBuilder_meet 26 = .ok (.iload_n 1, 1) := by decide +kernel
theorem d_MachineBuilder_meet_27 : decode c_MachineBuilder_meet 27 = .ok (.invokevirtual 67, 3) := by decide +kernel
theorem d_MachineBuilder_meet_30 : decode c_MachineBuilder_meet 30 = .ok (.iastore, 1) := by decide +kernel
theorem d_MachineBuilder_meet_31 : decode c_MachineBuilder_meet 31 = .ok (.aload_n 0, 1) := by decide +kernel
theorem d_MachineBuilder_meet_32 : decode c_MachineBuilder_meet 32 = .ok (.getfield 25, 3) := by decide +kernel
theorem d_MachineBuilder_meet_35 : decode c_MachineBuilder_meet 35 = .ok (.iload_n 1, 1) := by decide +kernel
theorem d_MachineBuilder_meet_36 : decode c_MachineBuilder_meet 36 = .ok (.aload_n 2, 1) := by decide +kernel
theorem d_MachineBuilder_meet_37 : decode c_MachineBuilder_meet 37 = .ok (.iload_n 1, 1) := by decide +kernel
theorem d_MachineBuilder_meet_38 : decode c_MachineBuilder_meet 38 = .ok (.invokevirtual 70, 3) := by decide +kernel
theorem d_MachineBuilder_meet_41 : decode c_MachineBuilder_meet 41 = .ok (.iconst 1, 1) := by decide +kernel
theorem d_MachineBuilder_meet_42 : decode c_MachineBuilder_meet 42 = .ok (.iadd, 1) := by decide +kernel
theorem d_MachineBuilder_meet_43 : decode c_MachineBuilder_meet 43 = .ok (.iastore, 1) := by decide +kernel
theorem d_MachineBuilder_meet_44 : decode c_MachineBuilder_meet 44 = .ok (.return_, 1) := by decide +kernel
theorem d_MachineBuilder_findSets_0 : decode c_MachineBuilder_findSets 0 = .ok (.iconst 0, 1) := by decide +kernel
theorem d_MachineBuilder_findSets_1 : decode c_MachineBuilder_findSets 1 = .ok (.istore_n 2, 1) := by decide +kernel
theorem d_MachineBuilder_findSets_2 : decode c_MachineBuilder_findSets 2 = .ok (.iload_n 2, 1) := by decide +kernel
theorem d_MachineBuilder_findSets_3 : decode c_MachineBuilder_findSets 3 = .ok (.bipush 6, 2) := by decide +kernel
theorem d_MachineBuilder_findSets_5 : decode c_MachineBuilder_findSets 5 = .ok (.if_icmp .ge 20, 3) := by decide +kernel
theorem d_MachineBuilder_findSets_8 : decode c_MachineBuilder_findSets 8 = .ok (.aload_n 0, 1) := by decide +kernel
theorem d_MachineBuilder_findSets_9 : decode c_MachineBuilder_findSets 9 = .ok (.getfield 9, 3) := by decide +kernel
theorem d_MachineBuilder_findSets_12 : decode c_MachineBuilder_findSets 12 = .ok (.iload_n 2, 1) := by decide +kernel
theorem d_MachineBuilder_findSets_13 : decode c_MachineBuilder_findSets 13 = .ok (.aload_n 1, 1) := by decide +kernel
theorem d_MachineBuilder_findSets_14 : decode c_MachineBuilder_findSets 14 = .ok (.iload_n 2, 1) := by decide +kernel
theorem d_MachineBuilder_findSets_15 : decode c_MachineBuilder_findSets 15 = .ok (.invokevirtual 52, 3) := by decide +kernel
theorem d_MachineBuilder_findSets_18 : decode c_MachineBuilder_findSets 18 = .ok (.iastore, 1) := by decide +kernel
theorem d_MachineBuilder_findSets_19 : decode c_MachineBuilder_findSets 19 = .ok (.iinc 2 1, 3) := by decide +kernel
theorem d_MachineBuilder_findSets_22 : decode c_MachineBuilder_findSets 22 = .ok (.goto (-20), 3) := by decide +kernel
theorem d_MachineBuilder_findSets_25 : decode c_MachineBuilder_findSets 25 = .ok (.aload_n 0, 1) := by decide +kernel
theorem d_MachineBuilder_findSets_26 : decode c_MachineBuilder_findSets 26 = .ok (.getfield 25, 3) := by decide +kernel
theorem d_MachineBuilder_findSets_29 : decode c_MachineBuilder_findSets 29 = .ok (.iconst (-1), 1) := by decide +kernel
theorem d_MachineBuilder_findSets_30 : decode c_MachineBuilder_findSets 30 = .ok (.invokestatic 57, 3) := by decide +kernel
theorem d_MachineBuilder_findSets_33 : decode c_MachineBuilder_findSets 33 = .ok (.aload_n 0, 1) := by decide +kernel
theorem d_MachineBuilder_findSets_34 : decode c_MachineBuilder_findSets 34 = .ok (.iconst 0, 1) := by decide +kernel
theorem d_MachineBuilder_findSets_35 : decode c_MachineBuilder_findSets 35 = .ok (.putfield 18, 3) := by decide +kernel
theorem d_MachineBuilder_findSets_38 : decode c_MachineBuilder_findSets 38 = .ok (.aload_n 0, 1) := by decide +kernel
theorem d_MachineBuilder_findSets_39 : decode c_MachineBuilder_findSets 39 = .ok (.iconst 0, 1) := by decide +kernel
theorem d_MachineBuilder_findSets_40 : decode c_MachineBuilder_findSets 40 = .ok (.aload_n 1, 1) := by decide +kernel
theorem d_MachineBuilder_findSets_41 : decode c_MachineBuilder_findSets 41 = .ok (.invokevirtual 63, 3) := by decide +kernel
theorem d_MachineBuilder_findSets_44 : decode c_MachineBuilder_findSets 44 = .ok (.iconst 0, 1) := by decide +kernel
theorem d_MachineBuilder_findSets_45 : decode c_MachineBuilder_findSets 45 = .ok (.istore_n 2, 1) := by decide +kernel
theorem d_MachineBuilder_findSets_46 : decode c_MachineBuilder_findSets 46 = .ok (.iload_n 2, 1) := by decide +kernel
theorem d_MachineBuilder_findSets_47 : decode c_MachineBuilder_findSets 47 = .ok (.aload_n 0, 1) := by decide +kernel
theorem d_MachineBuilder_findSets_48 : decode c_MachineBuilder_findSets 48 = .ok (.getfield 18, 3) := by decide +kernel
theorem d_MachineBuilder_findSets_51 : decode c_MachineBuilder_findSets 51 = .ok (.if_icmp .ge 73, 3) := by decide +kernel
theorem d_MachineBuilder_findSets_54 : decode c_MachineBuilder_findSets 54 = .ok (.iload_n 2, 1) := by decide +kernel
theorem d_MachineBuilder_findSets_55 : decode c_MachineBuilder_findSets 55 = .ok (.sipush 512, 3) := by decide +kernel
theorem d_MachineBuilder_findSets_58 : decode c_MachineBuilder_findSets 58 = .ok (.if_icmp .ge 66, 3) := by decide +kernel
theorem d_MachineBuilder_findSets_61 : decode c_MachineBuilder_findSets 61 = .ok (.iconst 0, 1) := by decide +kernel
theorem d_MachineBuilder_findSets_62 : decode c_MachineBuilder_findSets 62 = .ok (.istore_n 3, 1) := by decide +kernel
theorem d_MachineBuilder_findSets_63 : decode c_MachineBuilder_findSets 63 = .ok (.iload_n 3, 1) := by decide +kernel
theorem d_MachineBuilder_findSets_64 : decode c_MachineBuilder_findSets 64 = .ok (.bipush 6, 2) := by decide +kernel
theorem d_MachineBuilder_findSets_66 : decode c_MachineBuilder_findSets 66 = .ok (.if_icmp .ge 52, 3) := by decide +kernel
theorem d_MachineBuilder_findSets_69 : decode c_MachineBuilder_findSets 69 = .ok (.aload_n 0, 1) := by decide +kernel
theorem d_MachineBuilder_findSets_70 : decode c_MachineBuilder_findSets 70 = .ok (.getfield 22, 3) := by decide +kernel
theorem d_MachineBuilder_findSets_73 : decode c_MachineBuilder_findSets 73 = .ok (.aload_n 0, 1) := by decide +kernel
theorem d_MachineBuilder_findSets_74 : decode c_MachineBuilder_findSets 74 = .ok (.getfield 15, 3) := by decide +kernel
theorem d_MachineBuilder_findSets_77 : decode c_MachineBuilder_findSets 77 = .ok (.iload_n 2, 1) := by decide +kernel
theorem d_MachineBuilder_findSets_78 : decode c_MachineBuilder_findSets 78 = .ok (.iaload, 1) := by decide +kernel
theorem d_MachineBuilder_findSets_79 : decode c_MachineBuilder_findSets 79 = .ok (.iaload, 1) := by decide +kernel
theorem d_MachineBuilder_findSets_80 : decode c_MachineBuilder_findSets 80 = .ok (.aload_n 0, 1) := by decide +kernel
theorem d_MachineBuilder_findSets_81 : decode c_MachineBuilder_findSets 81 = .ok (.getfield 9, 3) := by decide +kernel
theorem d_MachineBuilder_findSets_84 : decode c_MachineBuilder_findSets 84 = .ok (.iload_n 3, 1) := by decide +kernel
theorem d_MachineBuilder_findSets_85 : decode c_MachineBuilder_findSets 85 = .ok (.iaload, 1) := by decide +kernel
theorem d_MachineBuilder_findSets_86 : decode c_MachineBuilder_findSets 86 = .ok (.iand, 1) := by decide +kernel
theorem d_MachineBuilder_findSets_87 : decode c_MachineBuilder_findSets 87 = .ok (.istore 4, 2) := by decide +kernel
theorem d_MachineBuilder_findSets_89 : decode c_MachineBuilder_findSets 89 = .ok (.iload 4, 2) := by decide +kernel
theorem d_MachineBuilder_findSets_91 : decode c_MachineBuilder_findSets 91 = .ok (.ifCond .eq 21, 3) := by decide +kernel
theorem d_MachineBuilder_findSets_94 : decode c_MachineBuilder_findSets 94 = .ok (.aload_n 0, 1) := by decide +kernel
theorem d_MachineBuilder_findSets_95 : decode c_MachineBuilder_findSets 95 = .ok (.getfield 25, 3) := by decide +kernel
theorem d_MachineBuilder_findSets_98 : decode c_MachineBuilder_findSets 98 = .ok (.iload 4, 2) := by decide +kernel
theorem d_MachineBuilder_findSets_100 : decode c_MachineBuilder_findSets 100 = .ok (.iaload, 1) := by decide +kernel
theorem d_MachineBuilder_findSets_101 : decode c_MachineBuilder_findSets 101 = .ok (.iconst (-1), 1) := by decide +kernel
theorem d_MachineBuilder_findSets_102 : decode c_MachineBuilder_findSets 102 = .ok (.if_icmp .ne 10, 3) := by decide +kernel
theorem d_MachineBuilder_findSets_105 : decode c_MachineBuilder_findSets 105 = .ok (.aload_n 0, 1) := by decide +kernel
theorem d_MachineBuilder_findSets_106 : decode c_MachineBuilder_findSets 106 = .ok (.iload 4, 2) := by decide +kernel
theorem d_MachineBuilder_findSets_108 : decode c_MachineBuilder_findSets 108 = .ok (.aload_n 1, 1) := by decide +kernel
theorem d_MachineBuilder_findSets_109 : decode c_MachineBuilder_findSets 109 = .ok (.invokevirtual 63, 3) := by decide +kernel
theorem d_MachineBuilder_findSets_112 : decode c_MachineBuilder_findSets 112 = .ok (.iinc 3 1, 3) := by decide +kernel
theorem d_MachineBuilder_findSets_115 : decode c_MachineBuilder_findSets 115 = .ok (.goto (-52), 3) := by decide +kernel
theorem d_MachineBuilder_findSets_118 : decode c_MachineBuilder_findSets 118 = .ok (.iinc 2 1, 3) := by decide +kernel
theorem d_MachineBuilder_findSets_121 : decode c_MachineBuilder_findSets 121 = .ok (.goto (-75), 3) := by decide +kernel
theorem d_MachineBuilder_findSets_124 : decode c_MachineBuilder_findSets 124 = .ok (.return_, 1) := by decide +kernel
theorem d_MachineBuilder_groupAfter_0 : decode c_MachineBuilder_groupAfter 0 = .ok (.aload_n 0, 1) := by decide +kernel
theorem d_MachineBuilder_groupAfter_1 : decode c_MachineBuilder_groupAfter 1 = .ok (.getfield 22, 3) := by decide +kernel
theorem d_MachineBuilder_groupAfter_4 : decode c_MachineBuilder_groupAfter 4 = .ok (.iload_n 1, 1) := by decide +kernel
theorem d_MachineBuilder_groupAfter_5 : decode c_MachineBuilder_groupAfter 5 = .ok (.iaload, 1) := by decide +kernel
theorem d_MachineBuilder_groupAfter_6 : decode c_MachineBuilder_groupAfter 6 = .ok (.aload_n 0, 1) := by decide +kernel
theorem d_MachineBuilder_groupAfter_7 : decode c_MachineBuilder_groupAfter 7 = .ok (.getfield 9, 3) := by decide +kernel
theorem d_MachineBuilder_groupAfter_10 : decode c_MachineBuilder_groupAfter 10 = .ok (.iload_n 2, 1) := by decide +kernel
theorem d_MachineBuilder_groupAfter_11 : decode c_MachineBuilder_groupAfter 11 = .ok (.iaload, 1) := by decide +kernel
theorem d_MachineBuilder_groupAfter_12 : decode c_MachineBuilder_groupAfter 12 = .ok (.iand, 1) := by decide +kernel
theorem d_MachineBuilder_groupAfter_13 : decode c_MachineBuilder_groupAfter 13 = .ok (.istore_n 3, 1) := by decide +kernel
theorem d_MachineBuilder_groupAfter_14 : decode c_MachineBuilder_groupAfter 14 = .ok (.iload_n 3, 1) := by decide +kernel
theorem d_MachineBuilder_groupAfter_15 : decode c_MachineBuilder_groupAfter 15 = .ok (.ifCond .ne 7, 3) := by decide +kernel
theorem d_MachineBuilder_groupAfter_18 : decode c_MachineBuilder_groupAfter 18 = .ok (.iconst (-1), 1) := by decide +kernel
theorem d_MachineBuilder_groupAfter_19 : decode c_MachineBuilder_groupAfter 19 = .ok (.goto 9, 3) := by decide +kernel
theorem d_MachineBuilder_groupAfter_22 : decode c_MachineBuilder_groupAfter 22 = .ok (.aload_n 0, 1) := by decide +kernel
theorem d_MachineBuilder_groupAfter_23 : decode c_MachineBuilder_groupAfter 23 = .ok (.getfield 25, 3) := by decide +kernel
theorem d_MachineBuilder_groupAfter_26 : decode c_MachineBuilder_groupAfter 26 = .ok (.iload_n 3, 1) := by decide +kernel
theorem d_MachineBuilder_groupAfter_27 : decode c_MachineBuilder_groupAfter 27 = .ok (.iaload, 1) := by decide +kernel
theorem d_MachineBuilder_groupAfter_28 : decode c_MachineBuilder_groupAfter 28 = .ok (.ireturn, 1) := by decide +kernel
theorem d_MachineBuilder_goOnAlike_0 : decode c_MachineBuilder_goOnAlike 0 = .ok (.iconst 0, 1) := by decide +kernel
theorem d_MachineBuilder_goOnAlike_1 : decode c_MachineBuilder_goOnAlike 1 = .ok (.istore_n 3, 1) := by decide +kernel
theorem d_MachineBuilder_goOnAlike_2 : decode c_MachineBuilder_goOnAlike 2 = .ok (.iload_n 3, 1) := by decide +kernel
theorem d_MachineBuilder_goOnAlike_3 : decode c_MachineBuilder_goOnAlike 3 = .ok (.bipush 6, 2) := by decide +kernel
theorem d_MachineBuilder_goOnAlike_5 : decode c_MachineBuilder_goOnAlike 5 = .ok (.if_icmp .ge 26, 3) := by decide +kernel
theorem d_MachineBuilder_goOnAlike_8 : decode c_MachineBuilder_goOnAlike 8 = .ok (.aload_n 0, 1) := by decide +kernel
theorem d_MachineBuilder_goOnAlike_9 : decode c_MachineBuilder_goOnAlike 9 = .ok (.iload_n 1, 1) := by decide +kernel
theorem d_MachineBuilder_goOnAlike_10 : decode c_MachineBuilder_goOnAlike 10 = .ok (.iload_n 3, 1) := by decide +kernel
theorem d_MachineBuilder_goOnAlike_11 : decode c_MachineBuilder_goOnAlike 11 = .ok (.invokevirtual 80, 3) := by decide +kernel
theorem d_MachineBuilder_goOnAlike_14 : decode c_MachineBuilder_goOnAlike 14 = .ok (.aload_n 0, 1) := by decide +kernel
theorem d_MachineBuilder_goOnAlike_15 : decode c_MachineBuilder_goOnAlike 15 = .ok (.iload_n 2, 1) := by decide +kernel
theorem d_MachineBuilder_goOnAlike_16 : decode c_MachineBuilder_goOnAlike 16 = .ok (.iload_n 3, 1) := by decide +kernel
theorem d_MachineBuilder_goOnAlike_17 : decode c_MachineBuilder_goOnAlike 17 = .ok (.invokevirtual 80, 3) := by decide +kernel
theorem d_MachineBuilder_goOnAlike_20 : decode c_MachineBuilder_goOnAlike 20 = .ok (.if_icmp .eq 5, 3) := by decide +kernel
theorem d_MachineBuilder_goOnAlike_23 : decode c_MachineBuilder_goOnAlike 23 = .ok (.iconst 0, 1) := by decide +kernel
theorem d_MachineBuilder_goOnAlike_24 : decode c_MachineBuilder_goOnAlike 24 = .ok (.ireturn, 1) := by decide +kernel
theorem d_MachineBuilder_goOnAlike_25 : decode c_MachineBuilder_goOnAlike 25 = .ok (.iinc 3 1, 3) := by decide +kernel
theorem d_MachineBuilder_goOnAlike_28 : decode c_MachineBuilder_goOnAlike 28 = .ok (.goto (-26), 3) := by decide +kernel
theorem d_MachineBuilder_goOnAlike_31 : decode c_MachineBuilder_goOnAlike 31 = .ok (.iconst 1, 1) := by decide +kernel
theorem d_MachineBuilder_goOnAlike_32 : decode c_MachineBuilder_goOnAlike 32 = .ok (.ireturn, 1) := by decide +kernel
theorem d_MachineBuilder_homeOf_0 : decode c_MachineBuilder_homeOf 0 = .ok (.aload_n 0, 1) := by decide +kernel
theorem d_MachineBuilder_homeOf_1 : decode c_MachineBuilder_homeOf 1 = .ok (.getfield 31, 3) := by decide +kernel
theorem d_MachineBuilder_homeOf_4 : decode c_MachineBuilder_homeOf 4 = .ok (.aload_n 0, 1) := by decide +kernel
theorem d_MachineBuilder_homeOf_5 : decode c_MachineBuilder_homeOf 5 = .ok (.getfield 25, 3) := by decide +kernel
theorem d_MachineBuilder_homeOf_8 : decode c_MachineBuilder_homeOf 8 = .ok (.iload_n 1, 1) := by decide +kernel
theorem d_MachineBuilder_homeOf_9 : decode c_MachineBuilder_homeOf 9 = .ok (.iaload, 1) := by decide +kernel
theorem d_MachineBuilder_homeOf_10 : decode c_MachineBuilder_homeOf 10 = .ok (.iaload, 1) := by decide +kernel
theorem d_MachineBuilder_homeOf_11 : decode c_MachineBuilder_homeOf 11 = .ok (.istore_n 2, 1) := by decide +kernel
theorem d_MachineBuilder_homeOf_12 : decode c_MachineBuilder_homeOf 12 = .ok (.iconst 0, 1) := by decide +kernel
theorem d_MachineBuilder_homeOf_13 : decode c_MachineBuilder_homeOf 13 = .ok (.istore_n 3, 1) := by decide +kernel
theorem d_MachineBuilder_homeOf_14 : decode c_MachineBuilder_homeOf 14 = .ok (.iload_n 3, 1) := by decide +kernel
theorem d_MachineBuilder_homeOf_15 : decode c_MachineBuilder_homeOf 15 = .ok (.sipush 512, 3) := by decide +kernel
theorem d_MachineBuilder_homeOf_18 : decode c_MachineBuilder_homeOf 18 = .ok (.if_icmp .ge 37, 3) := by decide +kernel
theorem d_MachineBuilder_homeOf_21 : decode c_MachineBuilder_homeOf 21 = .ok (.iload_n 2, 1) := by decide +kernel
theorem d_MachineBuilder_homeOf_22 : decode c_MachineBuilder_homeOf 22 = .ok (.iconst (-1), 1) := by decide +kernel
theorem d_MachineBuilder_homeOf_23 : decode c_MachineBuilder_homeOf 23 = .ok (.if_icmp .eq 32, 3) := by decide +kernel
theorem d_MachineBuilder_homeOf_26 : decode c_MachineBuilder_homeOf 26 = .ok (.aload_n 0, 1) := by decide +kernel
theorem d_MachineBuilder_homeOf_27 : decode c_MachineBuilder_homeOf 27 = .ok (.iload_n 1, 1) := by decide +kernel
theorem d_MachineBuilder_homeOf_28 : decode c_MachineBuilder_homeOf 28 = .ok (.aload_n 0, 1) := by decide +kernel
theorem d_MachineBuilder_homeOf_29 : decode c_MachineBuilder_homeOf 29 = .ok (.getfield 37, 3) := by decide +kernel
theorem d_MachineBuilder_homeOf_32 : decode c_MachineBuilder_homeOf 32 = .ok (.iload_n 2, 1) := by decide +kernel
theorem d_MachineBuilder_homeOf_33 : decode c_MachineBuilder_homeOf 33 = .ok (.iaload, 1) := by decide +kernel
theorem d_MachineBuilder_homeOf_34 : decode c_MachineBuilder_homeOf 34 = .ok (.invokevirtual 76, 3) := by decide +kernel
theorem d_MachineBuilder_homeOf_37 : decode c_MachineBuilder_homeOf 37 = .ok (.ifCond .eq 5, 3) := by decide +kernel
theorem d_MachineBuilder_homeOf_40 : decode c_MachineBuilder_homeOf 40 = .ok (.iload_n 2, 1) := by decide +kernel
theorem d_MachineBuilder_homeOf_41 : decode c_MachineBuilder_homeOf 41 = .ok (.ireturn, 1) := by decide +kernel
theorem d_MachineBuilder_homeOf_42 : decode c_MachineBuilder_homeOf 42 = .ok (.aload_n 0, 1) := by decide +kernel
theorem d_MachineBuilder_homeOf_43 : decode c_MachineBuilder_homeOf 43 = .ok (.getfield 34, 3) := by decide +kernel
theorem d_MachineBuilder_homeOf_46 : decode c_MachineBuilder_homeOf 46 = .ok (.iload_n 2, 1) := by decide +kernel
theorem d_MachineBuilder_homeOf_47 : decode c_MachineBuilder_homeOf 47 = .ok (.iaload, 1) := by decide +kernel
theorem d_MachineBuilder_homeOf_48 : decode c_MachineBuilder_homeOf 48 = .ok (.istore_n 2, 1) := by decide +kernel
theorem d_MachineBuilder_homeOf_49 : decode c_MachineBuilder_homeOf 49 = .ok (.iinc 3 1, 3) := by decide +kernel
theorem d_MachineBuilder_homeOf_52 : decode c_MachineBuilder_homeOf 52 = .ok (.goto (-38), 3) := by decide +kernel
theorem d_MachineBuilder_homeOf_55 : decode c_MachineBuilder_homeOf 55 = .ok (.iconst (-1), 1) := by decide +kernel
theorem d_MachineBuilder_homeOf_56 : decode c_MachineBuilder_homeOf 56 = .ok (.ireturn, 1) := by decide +kernel
theorem d_MachineBuilder_refine_0 : decode c_MachineBuilder_refine 0 = .ok (.aload_n 0, 1) := by decide +kernel
theorem d_MachineBuilder_refine_1 : decode c_MachineBuilder_refine 1 = .ok (.getfield 31, 3) := by decide +kernel
theorem d_MachineBuilder_refine_4 : decode c_MachineBuilder_refine 4 = .ok (.iconst (-1), 1) := by decide +kernel
theorem d_MachineBuilder_refine_5 : decode c_MachineBuilder_refine 5 = .ok (.invokestatic 57, 3) := by decide +kernel
theorem d_MachineBuilder_refine_8 : decode c_MachineBuilder_refine 8 = .ok (.iconst 0, 1) := by decide +kernel
theorem d_MachineBuilder_refine_9 : decode c_MachineBuilder_refine 9 = .ok (.istore_n 1, 1) := by decide +kernel
theorem d_MachineBuilder_refine_10 : decode c_MachineBuilder_refine 10 = .ok (.iconst 0, 1) := by decide +kernel
theorem d_MachineBuilder_refine_11 : decode c_MachineBuilder_refine 11 = .ok (.istore_n 2, 1) := by decide +kernel
theorem d_MachineBuilder_refine_12 : decode c_MachineBuilder_refine 12 = .ok (.iload_n 2, 1) := by decide +kernel
theorem d_MachineBuilder_refine_13 : decode c_MachineBuilder_refine 13 = .ok (.aload_n 0, 1) := by decide +kernel
theorem d_MachineBuilder_refine_14 : decode c_MachineBuilder_refine 14 = .ok (.getfield 18, 3) := by decide +kernel
theorem d_MachineBuilder_refine_17 : decode c_MachineBuilder_refine 17 = .ok (.if_icmp .ge 82, 3) := by decide +kernel
theorem d_MachineBuilder_refine_20 : decode c_MachineBuilder_refine 20 = .ok (.aload_n 0, 1) := by decide +kernel
theorem d_MachineBuilder_refine_21 : decode c_MachineBuilder_refine 21 = .ok (.getfield 15, 3) := by decide +kernel
theorem d_MachineBuilder_refine_24 : decode c_MachineBuilder_refine 24 = .ok (.iload_n 2, 1) := by decide +kernel
theorem d_MachineBuilder_refine_25 : decode c_MachineBuilder_refine 25 = .ok (.iaload, 1) := by decide +kernel
theorem d_MachineBuilder_refine_26 : decode c_MachineBuilder_refine 26 = .ok (.istore_n 3, 1) := by decide +kernel
theorem d_MachineBuilder_refine_27 : decode c_MachineBuilder_refine 27 = .ok (.aload_n 0, 1) := by decide +kernel
theorem d_MachineBuilder_refine_28 : decode c_MachineBuilder_refine 28 = .ok (.iload_n 3, 1) := by decide +kernel
theorem d_MachineBuilder_refine_29 : decode c_MachineBuilder_refine 29 = .ok (.invokevirtual 73, 3) := by decide +kernel
theorem d_MachineBuilder_refine_32 : decode c_MachineBuilder_refine 32 = .ok (.istore 4, 2) := by decide +kernel
theorem d_MachineBuilder_refine_34 : decode c_MachineBuilder_refine 34 = .ok (.iload 4, 2) := by decide +kernel
theorem d_MachineBuilder_refine_36 : decode c_MachineBuilder_refine 36 = .ok (.iconst (-1), 1) := by decide +kernel
theorem d_MachineBuilder_refine_37 : decode c_MachineBuilder_refine 37 = .ok (.if_icmp .ne 48, 3) := by decide +kernel
theorem d_MachineBuilder_refine_40 : decode c_MachineBuilder_refine 40 = .ok (.iload_n 1, 1) := by decide +kernel
theorem d_MachineBuilder_refine_41 : decode c_MachineBuilder_refine 41 = .ok (.istore 4, 2) := by decide +kernel
theorem d_MachineBuilder_refine_43 : decode c_MachineBuilder_refine 43 = .ok (.iinc 1 1, 3) := by decide +kernel
theorem d_MachineBuilder_refine_46 : decode c_MachineBuilder_refine 46 = .ok (.aload_n 0, 1) := by decide +kernel
theorem d_MachineBuilder_refine_47 : decode c_MachineBuilder_refine 47 = .ok (.getfield 37, 3) := by decide +kernel
theorem d_MachineBuilder_refine_50 : decode c_MachineBuilder_refine 50 = .ok (.iload 4, 2) := by decide +kernel
theorem d_MachineBuilder_refine_52 : decode c_MachineBuilder_refine 52 = .ok (.iload_n 3, 1) := by decide +kernel
theorem d_MachineBuilder_refine_53 : decode c_MachineBuilder_refine 53 = .ok (.iastore, 1) := by decide +kernel
theorem d_MachineBuilder_refine_54 : decode c_MachineBuilder_refine 54 = .ok (.aload_n 0, 1) := by decide +kernel
theorem d_MachineBuilder_refine_55 : decode c_MachineBuilder_refine 55 = .ok (.getfield 34, 3) := by decide +kernel
theorem d_MachineBuilder_refine_58 : decode c_MachineBuilder_refine 58 = .ok (.iload 4, 2) := by decide +kernel
theorem d_MachineBuilder_refine_60 : decode c_MachineBuilder_refine 60 = .ok (.aload_n 0, 1) := by decide +kernel
theorem d_MachineBuilder_refine_61 : decode c_MachineBuilder_refine 61 = .ok (.getfield 31, 3) := by decide +kernel
theorem d_MachineBuilder_refine_64 : decode c_MachineBuilder_refine 64 = .ok (.aload_n 0, 1) := by decide +kernel
theorem d_MachineBuilder_refine_65 : decode c_MachineBuilder_refine 65 = .ok (.getfield 25, 3) := by decide +kernel
theorem d_MachineBuilder_refine_68 : decode c_MachineBuilder_refine 68 = .ok (.iload_n 3, 1) := by decide +kernel
theorem d_MachineBuilder_refine_69 : decode c_MachineBuilder_refine 69 = .ok (.iaload, 1) := by decide +kernel
theorem d_MachineBuilder_refine_70 : decode c_MachineBuilder_refine 70 = .ok (.iaload, 1) := by decide +kernel
theorem d_MachineBuilder_refine_71 : decode c_MachineBuilder_refine 71 = .ok (.iastore, 1) := by decide +kernel
theorem d_MachineBuilder_refine_72 : decode c_MachineBuilder_refine 72 = .ok (.aload_n 0, 1) := by decide +kernel
theorem d_MachineBuilder_refine_73 : decode c_MachineBuilder_refine 73 = .ok (.getfield 31, 3) := by decide +kernel
theorem d_MachineBuilder_refine_76 : decode c_MachineBuilder_refine 76 = .ok (.aload_n 0, 1) := by decide +kernel
theorem d_MachineBuilder_refine_77 : decode c_MachineBuilder_refine 77 = .ok (.getfield 25, 3) := by decide +kernel
theorem d_MachineBuilder_refine_80 : decode c_MachineBuilder_refine 80 = .ok (.iload_n 3, 1) := by decide +kernel
theorem d_MachineBuilder_refine_81 : decode c_MachineBuilder_refine 81 = .ok (.iaload, 1) := by decide +kernel
theorem d_MachineBuilder_refine_82 : decode c_MachineBuilder_refine 82 = .ok (.iload 4, 2) := by decide +kernel
theorem d_MachineBuilder_refine_84 : decode c_MachineBuilder_refine 84 = .ok (.iastore, 1) := by decide +kernel
theorem d_MachineBuilder_refine_85 : decode c_MachineBuilder_refine 85 = .ok (.aload_n 0, 1) := by decide +kernel
theorem d_MachineBuilder_refine_86 : decode c_MachineBuilder_refine 86 = .ok (.getfield 28, 3) := by decide +kernel
theorem d_MachineBuilder_refine_89 : decode c_MachineBuilder_refine 89 = .ok (.iload_n 3, 1) := by decide +kernel
theorem d_MachineBuilder_refine_90 : decode c_MachineBuilder_refine 90 = .ok (.iload 4, 2) := by decide +kernel
theorem d_MachineBuilder_refine_92 : decode c_MachineBuilder_refine 92 = .ok (.iastore, 1) := by decide +kernel
theorem d_MachineBuilder_refine_93 : decode c_MachineBuilder_refine 93 = .ok (.iinc 2 1, 3) := by decide +kernel
theorem d_MachineBuilder_refine_96 : decode c_MachineBuilder_refine 96 = .ok (.goto (-84), 3) := by decide +kernel
theorem d_MachineBuilder_refine_99 : decode c_MachineBuilder_refine 99 = .ok (.iconst 0, 1) := by decide +kernel
theorem d_MachineBuilder_refine_100 : decode c_MachineBuilder_refine 100 = .ok (.istore_n 2, 1) := by decide +kernel
theorem d_MachineBuilder_refine_101 : decode c_MachineBuilder_refine 101 = .ok (.iload_n 2, 1) := by decide +kernel
theorem d_MachineBuilder_refine_102 : decode c_MachineBuilder_refine 102 = .ok (.aload_n 0, 1) := by decide +kernel
theorem d_MachineBuilder_refine_103 : decode c_MachineBuilder_refine 103 = .ok (.getfield 18, 3) := by decide +kernel
theorem d_MachineBuilder_refine_106 : decode c_MachineBuilder_refine 106 = .ok (.if_icmp .ge 31, 3) := by decide +kernel
theorem d_MachineBuilder_refine_109 : decode c_MachineBuilder_refine 109 = .ok (.aload_n 0, 1) := by decide +kernel
theorem d_MachineBuilder_refine_110 : decode c_MachineBuilder_refine 110 = .ok (.getfield 25, 3) := by decide +kernel
theorem d_MachineBuilder_refine_113 : decode c_MachineBuilder_refine 113 = .ok (.aload_n 0, 1) := by decide +kernel
theorem d_MachineBuilder_refine_114 : decode c_MachineBuilder_refine 114 = .ok (.getfield 15, 3) := by decide +kernel
theorem d_MachineBuilder_refine_117 : decode c_MachineBuilder_refine 117 = .ok (.iload_n 2, 1) := by decide +kernel
theorem d_MachineBuilder_refine_118 : decode c_MachineBuilder_refine 118 = .ok (.iaload, 1) := by decide +kernel
theorem d_MachineBuilder_refine_119 : decode c_MachineBuilder_refine 119 = .ok (.aload_n 0, 1) := by decide +kernel
theorem d_MachineBuilder_refine_120 : decode c_MachineBuilder_refine 120 = .ok (.getfield 28, 3) := by decide +kernel
theorem d_MachineBuilder_refine_123 : decode c_MachineBuilder_refine 123 = .ok (.aload_n 0, 1) := by decide +kernel
theorem d_MachineBuilder_refine_124 : decode c_MachineBuilder_refine 124 = .ok (.getfield 15, 3) := by decide +kernel
theorem d_MachineBuilder_refine_127 : decode c_MachineBuilder_refine 127 = .ok (.iload_n 2, 1) := by decide +kernel
theorem d_MachineBuilder_refine_128 : decode c_MachineBuilder_refine 128 = .ok (.iaload, 1) := by decide +kernel
theorem d_MachineBuilder_refine_129 : decode c_MachineBuilder_refine 129 = .ok (.iaload, 1) := by decide +kernel
theorem d_MachineBuilder_refine_130 : decode c_MachineBuilder_refine 130 = .ok (.iastore, 1) := by decide +kernel
theorem d_MachineBuilder_refine_131 : decode c_MachineBuilder_refine 131 = .ok (.iinc 2 1, 3) := by decide +kernel
theorem d_MachineBuilder_refine_134 : decode c_MachineBuilder_refine 134 = .ok (.goto (-33), 3) := by decide +kernel
theorem d_MachineBuilder_refine_137 : decode c_MachineBuilder_refine 137 = .ok (.iload_n 1, 1) := by decide +kernel
theorem d_MachineBuilder_refine_138 : decode c_MachineBuilder_refine 138 = .ok (.ireturn, 1) := by decide +kernel
theorem d_MachineBuilder_machineOf_0 : decode c_MachineBuilder_machineOf 0 = .ok (.iload_n 2, 1) := by decide +kernel
theorem d_MachineBuilder_machineOf_1 : decode c_MachineBuilder_machineOf 1 = .ok (.bipush 6, 2) := by decide +kernel
theorem d_MachineBuilder_machineOf_3 : decode c_MachineBuilder_machineOf 3 = .ok (.imul, 1) := by decide +kernel
theorem d_MachineBuilder_machineOf_4 : decode c_MachineBuilder_machineOf 4 = .ok (.newarray .int, 2) := by decide +kernel
theorem d_MachineBuilder_machineOf_6 : decode c_MachineBuilder_machineOf 6 = .ok (.astore_n 3, 1) := by decide +kernel
theorem d_MachineBuilder_machineOf_7 : decode c_MachineBuilder_machineOf 7 = .ok (.iload_n 2, 1) := by decide +kernel
theorem d_MachineBuilder_machineOf_8 : decode c_MachineBuilder_machineOf 8 = .ok (.newarray .int, 2) := by decide +kernel
theorem d_MachineBuilder_machineOf_10 : decode c_MachineBuilder_machineOf 10 = .ok (.astore 4, 2) := by decide +kernel
theorem d_MachineBuilder_machineOf_12 : decode c_MachineBuilder_machineOf 12 = .ok (.iconst 0, 1) := by decide +kernel
theorem d_MachineBuilder_machineOf_13 : decode c_MachineBuilder_machineOf 13 = .ok (.istore 5, 2) := by decide +kernel
theorem d_MachineBuilder_machineOf_15 : decode c_MachineBuilder_machineOf 15 = .ok (.iload 5, 2) := by decide +kernel
theorem d_MachineBuilder_machineOf_17 : decode c_MachineBuilder_machineOf 17 = .ok (.iload_n 2, 1) := by decide +kernel
theorem d_MachineBuilder_machineOf_18 : decode c_MachineBuilder_machineOf 18 = .ok (.if_icmp .ge 64, 3) := by decide +kernel
theorem d_MachineBuilder_machineOf_21 : decode c_MachineBuilder_machineOf 21 = .ok (.aload 4, 2) := by decide +kernel
theorem d_MachineBuilder_machineOf_23 : decode c_MachineBuilder_machineOf 23 = .ok (.iload 5, 2) := by decide +kernel
theorem d_MachineBuilder_machineOf_25 : decode c_MachineBuilder_machineOf 25 = .ok (.aload_n 1, 1) := by decide +kernel
theorem d_MachineBuilder_machineOf_26 : decode c_MachineBuilder_machineOf 26 = .ok (.aload_n 0, 1) := by decide +kernel
theorem d_MachineBuilder_machineOf_27 : decode c_MachineBuilder_machineOf 27 = .ok (.getfield 37, 3) := by decide +kernel
theorem d_MachineBuilder_machineOf_30 : decode c_MachineBuilder_machineOf 30 = .ok (.iload 5, 2) := by decide +kernel
theorem d_MachineBuilder_machineOf_32 : decode c_MachineBuilder_machineOf 32 = .ok (.iaload, 1) := by decide +kernel
theorem d_MachineBuilder_machineOf_33 : decode c_MachineBuilder_machineOf 33 = .ok (.invokevirtual 70, 3) := by decide +kernel
theorem d_MachineBuilder_machineOf_36 : decode c_MachineBuilder_machineOf 36 = .ok (.iastore, 1) := by decide +kernel
theorem d_MachineBuilder_machineOf_37 : decode c_MachineBuilder_machineOf 37 = .ok (.iconst 0, 1) := by decide +kernel
theorem d_MachineBuilder_machineOf_38 : decode c_MachineBuilder_machineOf 38 = .ok (.istore 6, 2) := by decide +kernel
theorem d_MachineBuilder_machineOf_40 : decode c_MachineBuilder_machineOf 40 = .ok (.iload 6, 2) := by decide +kernel
theorem d_MachineBuilder_machineOf_42 : decode c_MachineBuilder_machineOf 42 = .ok (.bipush 6, 2) := by decide +kernel
theorem d_MachineBuilder_machineOf_44 : decode c_MachineBuilder_machineOf 44 = .ok (.if_icmp .ge 32, 3) := by decide +kernel
theorem d_MachineBuilder_machineOf_47 : decode c_MachineBuilder_machineOf 47 = .ok (.aload_n 3, 1) := by decide +kernel
theorem d_MachineBuilder_machineOf_48 : decode c_MachineBuilder_machineOf 48 = .ok (.iload 5, 2) := by decide +kernel
theorem d_MachineBuilder_machineOf_50 : decode c_MachineBuilder_machineOf 50 = .ok (.bipush 6, 2) := by decide +kernel
theorem d_MachineBuilder_machineOf_52 : decode c_MachineBuilder_machineOf 52 = .ok (.imul, 1) := by decide +kernel
theorem d_MachineBuilder_machineOf_53 : decode c_MachineBuilder_machineOf 53 = .ok (.iload 6, 2) := by decide +kernel
theorem d_MachineBuilder_machineOf_55 : decode c_MachineBuilder_machineOf 55 = .ok (.iadd, 1) := by decide +kernel
theorem d_MachineBuilder_machineOf_56 : decode c_MachineBuilder_machineOf 56 = .ok (.aload_n 0, 1) := by decide +kernel
theorem d_MachineBuilder_machineOf_57 : decode c_MachineBuilder_machineOf 57 = .ok (.aload_n 0, 1) := by decide +kernel
theorem d_MachineBuilder_machineOf_58 : decode c_MachineBuilder_machineOf 58 = .ok (.getfield 37, 3) := by decide +kernel
theorem d_MachineBuilder_machineOf_61 : decode c_MachineBuilder_machineOf 61 = .ok (.iload 5, 2) := by decide +kernel
theorem d_MachineBuilder_machineOf_63 : decode c_MachineBuilder_machineOf 63 = .ok (.iaload, 1) := by decide +kernel
theorem d_MachineBuilder_machineOf_64 : decode c_MachineBuilder_machineOf 64 = .ok (.iload 6, 2) := by decide +kernel
theorem d_MachineBuilder_machineOf_66 : decode c_MachineBuilder_machineOf 66 = .ok (.invokevirtual 80, 3) := by decide +kernel
theorem d_MachineBuilder_machineOf_69 : decode c_MachineBuilder_machineOf 69 = .ok (.iastore, 1) := by decide +kernel
theorem d_MachineBuilder_machineOf_70 : decode c_MachineBuilder_machineOf 70 = .ok (.iinc 6 1, 3) := by decide +kernel
theorem d_MachineBuilder_machineOf_73 : decode c_MachineBuilder_machineOf 73 = .ok (.goto (-33), 3) := by decide +kernel
theorem d_MachineBuilder_machineOf_76 : decode c_MachineBuilder_machineOf 76 = .ok (.iinc 5 1, 3) := by decide +kernel
theorem d_MachineBuilder_machineOf_79 : decode c_MachineBuilder_machineOf 79 = .ok (.goto (-64), 3) := by decide +kernel
theorem d_MachineBuilder_machineOf_82 : decode c_MachineBuilder_machineOf 82 = .ok (.new 84, 3) := by decide +kernel
theorem d_MachineBuilder_machineOf_85 : decode c_MachineBuilder_machineOf 85 = .ok (.dup, 1) := by decide +kernel
theorem d_MachineBuilder_machineOf_86 : decode c_MachineBuilder_machineOf 86 = .ok (.aload_n 3, 1) := by decide +kernel
theorem d_MachineBuilder_machineOf_87 : decode c_MachineBuilder_machineOf 87 = .ok (.aload 4, 2) := by decide +kernel
theorem d_MachineBuilder_machineOf_89 : decode c_MachineBuilder_machineOf 89 = .ok (.invokespecial 86, 3) := by decide +kernel
theorem d_MachineBuilder_machineOf_92 : decode c_MachineBuilder_machineOf 92 = .ok (.areturn, 1) := by decide +kernel
theorem d_MachineBuilder_build_0 : decode c_MachineBuilder_build 0 = .ok (.aload_n 0, 1) := by decide +kernel
theorem d_MachineBuilder_build_1 : decode c_MachineBuilder_build 1 = .ok (.aload_n 1, 1) := by decide +kernel
theorem d_MachineBuilder_build_2 : decode c_MachineBuilder_build 2 = .ok (.invokevirtual 40, 3) := by decide +kernel
theorem d_MachineBuilder_build_5 : decode c_MachineBuilder_build 5 = .ok (.iconst 0, 1) := by decide +kernel
theorem d_MachineBuilder_build_6 : decode c_MachineBuilder_build 6 = .ok (.istore_n 2, 1) := by decide +kernel
theorem d_MachineBuilder_build_7 : decode c_MachineBuilder_build 7 = .ok (.iconst 0, 1) := by decide +kernel
theorem d_MachineBuilder_build_8 : decode c_MachineBuilder_build 8 = .ok (.istore_n 3, 1) := by decide +kernel
theorem d_MachineBuilder_build_9 : decode c_MachineBuilder_build 9 = .ok (.iload_n 3, 1) := by decide +kernel
theorem d_MachineBuilder_build_10 : decode c_MachineBuilder_build 10 = .ok (.sipush 512, 3) := by decide +kernel
theorem d_MachineBuilder_build_13 : decode c_MachineBuilder_build 13 = .ok (.if_icmp .gt 27, 3) := by decide +kernel
theorem d_MachineBuilder_build_16 : decode c_MachineBuilder_build 16 = .ok (.aload_n 0, 1) := by decide +kernel
theorem d_MachineBuilder_build_17 : decode c_MachineBuilder_build 17 = .ok (.invokevirtual 44, 3) := by decide +kernel
theorem d_MachineBuilder_build_20 : decode c_MachineBuilder_build 20 = .ok (.istore 4, 2) := by decide +kernel
theorem d_MachineBuilder_build_22 : decode c_MachineBuilder_build 22 = .ok (.iload 4, 2) := by decide +kernel
theorem d_MachineBuilder_build_24 : decode c_MachineBuilder_build 24 = .ok (.iload_n 2, 1) := by decide +kernel
theorem d_MachineBuilder_build_25 : decode c_MachineBuilder_build 25 = .ok (.if_icmp .ne 6, 3) := by decide +kernel
theorem d_MachineBuilder_build_28 : decode c_MachineBuilder_build 28 = .ok (.goto 12, 3) := by decide +kernel
theorem d_MachineBuilder_build_31 : decode c_MachineBuilder_build 31 = .ok (.iload 4, 2) := by decide +kernel
theorem d_MachineBuilder_build_33 : decode c_MachineBuilder_build 33 = .ok (.istore_n 2, 1) := by decide +kernel
theorem d_MachineBuilder_build_34 : decode c_MachineBuilder_build 34 = .ok (.iinc 3 1, 3) := by decide +kernel
theorem d_MachineBuilder_build_37 : decode c_MachineBuilder_build 37 = .ok (.goto (-28), 3) := by decide +kernel
theorem d_MachineBuilder_build_40 : decode c_MachineBuilder_build 40 = .ok (.aload_n 0, 1) := by decide +kernel
theorem d_MachineBuilder_build_41 : decode c_MachineBuilder_build 41 = .ok (.aload_n 1, 1) := by decide +kernel
theorem d_MachineBuilder_build_42 : decode c_MachineBuilder_build 42 = .ok (.iload_n 2, 1) := by decide +kernel
theorem d_MachineBuilder_build_43 : decode c_MachineBuilder_build 43 = .ok (.invokevirtual 48, 3) := by decide +kernel
theorem d_MachineBuilder_build_46 : decode c_MachineBuilder_build 46 = .ok (.areturn, 1) := by decide +kernel
def p_MachineBuilder_init  (post : Int32 → (Nat → Int32) → (Nat → Int32) → (Nat → Int32) → (Nat → Int32) → (Nat → Int32) → (Nat → Int32) → (Nat → Int32) → (Nat → Int32) → Prop) : Prop := (post 0 (fun _ => 0) (fun _ => 0) (fun _ => 0) (fun _ => 0) (fun _ => 0) (fun _ => 0) (fun _ => 0) (fun _ => 0))
set_option maxHeartbeats 4000000 in
set_option maxRecDepth 100000 in
theorem k_MachineBuilder_init (l : Launch) (G : va_G) (K : Nat → ClassId) (a0 : Nat) (sz : Nat)  (post : Int32 → (Nat → Int32) → (Nat → Int32) → (Nat → Int32) → (Nat → Int32) → (Nat → Int32) → (Nat → Int32) → (Nat → Int32) → (Nat → Int32) → Prop) (h : p_MachineBuilder_init  post) : MWv l y_MachineBuilder_init (.code y_MachineBuilder_init c_MachineBuilder_init 1 none) { frames := 1, cells := 8, slots := 3590, locals := 20 } G K [(a0, .inr (5, [.null, .null, .int 0, .null, .null, .null, .null, .null, .null]))] [] [.ref a0] sz (fun (u : Int32 × (Nat → Int32) × (Nat → Int32) × (Nat → Int32) × (Nat → Int32) × (Nat → Int32) × (Nat → Int32) × (Nat → Int32) × (Nat → Int32) × Nat × Nat × Nat × Nat × Nat × Nat × Nat × Nat) => post u.1 u.2.1 u.2.2.1 u.2.2.2.1 u.2.2.2.2.1 u.2.2.2.2.2.1 u.2.2.2.2.2.2.1 u.2.2.2.2.2.2.2.1 u.2.2.2.2.2.2.2.2.1) (fun u => [(a0, .inr (5, [.ref u.2.2.2.2.2.2.2.2.2.1, .ref u.2.2.2.2.2.2.2.2.2.2.1, .int u.1, .ref u.2.2.2.2.2.2.2.2.2.2.2.1, .ref u.2.2.2.2.2.2.2.2.2.2.2.2.1, .ref u.2.2.2.2.2.2.2.2.2.2.2.2.2.1, .ref u.2.2.2.2.2.2.2.2.2.2.2.2.2.2.1, .ref u.2.2.2.2.2.2.2.2.2.2.2.2.2.2.2.1, .ref u.2.2.2.2.2.2.2.2.2.2.2.2.2.2.2.2])), (u.2.2.2.2.2.2.2.2.2.1, .inl (K 0, 6, .inl u.2.1)), (u.2.2.2.2.2.2.2.2.2.2.1, .inl (K 0, 512, .inl u.2.2.1)), (u.2.2.2.2.2.2.2.2.2.2.2.1, .inl (K 0, 512, .inl u.2.2.2.1)), (u.2.2.2.2.2.2.2.2.2.2.2.2.1, .inl (K 0, 512, .inl u.2.2.2.2.1)), (u.2.2.2.2.2.2.2.2.2.2.2.2.2.1, .inl (K 0, 512, .inl u.2.2.2.2.2.1)), (u.2.2.2.2.2.2.2.2.2.2.2.2.2.2.1, .inl (K 0, 512, .inl u.2.2.2.2.2.2.1)), (u.2.2.2.2.2.2.2.2.2.2.2.2.2.2.2.1, .inl (K 0, 512, .inl u.2.2.2.2.2.2.2.1)), (u.2.2.2.2.2.2.2.2.2.2.2.2.2.2.2.2, .inl (K 0, 512, .inl u.2.2.2.2.2.2.2.2.1))]) 8 3590 := by
  refine g_metWv (cc := c_MachineBuilder_init) (maxL := 1) (ret := none) (by decide) rfl rfl (Nat.le_of_ble_eq_true rfl) ?_
  intro p e s m below meth c A Q hx hb hml hown hname htg hK hN hP hD hA hS hR rN hret ls hl
  have hl : lv_has ls 1 [(0, .ref a0)] := hl
  refine lv_aload_n hx hb d_MachineBuilder_init_0 rfl (lv_at hl 0 rfl) ?_
  refine W.objInit hx hb hown (htg _ m_73) (htg _ m_23) (htg _ m_24) rfl (by rw [hml]; exact hl.1) rfl d_MachineBuilder_init_1 (Nat.le_of_ble_eq_true rfl) (Nat.le_of_ble_eq_true rfl) ?_
  refine W.eq (g2 := F0 m 4 ls []) rfl ?_
  refine lv_aload_n hx hb d_MachineBuilder_init_4 rfl (lv_at hl 0 rfl) ?_
  refine lv_bipush (v := 6) hx hb d_MachineBuilder_init_5 (by decide) ?_
  refine g_newi (N := 6) hx hb (htg _ m_39) hK hP hD hS hA (by decide) (by decide) (by decide) (Nat.le_of_ble_eq_true rfl) (Nat.le_of_ble_eq_true rfl) d_MachineBuilder_init_7 (fun q1 H hP hD hS => ?_)
  have hP : va_P G vwCl [(a0, .inr (5, [.null, .null, .int 0, .null, .null, .null, .null, .null, .null])), (q1, .inl (K 0, 6, .inl (fun _ => 0)))] H := hP
  have hD : va_D A [(a0, .inr (5, [.null, .null, .int 0, .null, .null, .null, .null, .null, .null])), (q1, .inl (K 0, 6, .inl (fun _ => 0)))] := hD
  refine va_putF (ci := 5) (v := .ref q1) (ty := (.array .int)) hx hb htg in_MachineBuilder t_MachineBuilder tok_MachineBuilder nm_MachineBuilder hown hK hP hD hS 0 rfl rfl 0 (by decide) (htg _ m_74) (fun _ h9 => h9) rfl hname rfl (by decide +kernel) rfl rfl (Nat.le_of_ble_eq_true rfl) d_MachineBuilder_init_9 (fun H locs hP hD hS => ?_)
  have hP : va_P G vwCl [(a0, .inr (5, [.ref q1, .null, .int 0, .null, .null, .null, .null, .null, .null])), (q1, .inl (K 0, 6, .inl (fun _ => 0)))] H := hP
  have hD : va_D A [(a0, .inr (5, [.ref q1, .null, .int 0, .null, .null, .null, .null, .null, .null])), (q1, .inl (K 0, 6, .inl (fun _ => 0)))] := hD
  refine lv_aload_n hx hb d_MachineBuilder_init_12 rfl (lv_at hl 0 rfl) ?_
  refine lv_sipush (v := 512) hx hb d_MachineBuilder_init_13 (by decide) ?_
  refine g_newi (N := 512) hx hb (htg _ m_39) hK hP hD hS hA (by decide) (by decide) (by decide) (Nat.le_of_ble_eq_true rfl) (Nat.le_of_ble_eq_true rfl) d_MachineBuilder_init_16 (fun q2 H hP hD hS => ?_)
  have hP : va_P G vwCl [(a0, .inr (5, [.ref q1, .null, .int 0, .null, .null, .null, .null, .null, .null])), (q1, .inl (K 0, 6, .inl (fun _ => 0))), (q2, .inl (K 0, 512, .inl (fun _ => 0)))] H := hP
  have hD : va_D A [(a0, .inr (5, [.ref q1, .null, .int 0, .null, .null, .null, .null, .null, .null])), (q1, .inl (K 0, 6, .inl (fun _ => 0))), (q2, .inl (K 0, 512, .inl (fun _ => 0)))] := hD
  refine va_putF (ci := 5) (v := .ref q2) (ty := (.array .int)) hx hb htg in_MachineBuilder t_MachineBuilder tok_MachineBuilder nm_MachineBuilder hown hK hP hD hS 0 rfl rfl 1 (by decide) (htg _ m_75) (fun _ h9 => h9) rfl hname rfl (by decide +kernel) rfl rfl (Nat.le_of_ble_eq_true rfl) d_MachineBuilder_init_18 (fun H locs hP hD hS => ?_)
  have hP : va_P G vwCl [(a0, .inr (5, [.ref q1, .ref q2, .int 0, .null, .null, .null, .null, .null, .null])), (q1, .inl (K 0, 6, .inl (fun _ => 0))), (q2, .inl (K 0, 512, .inl (fun _ => 0)))] H := hP
  have hD : va_D A [(a0, .inr (5, [.ref q1, .ref q2, .int 0, .null, .null, .null, .null, .null, .null])), (q1, .inl (K 0, 6, .inl (fun _ => 0))), (q2, .inl (K 0, 512, .inl (fun _ => 0)))] := hD
  refine lv_aload_n hx hb d_MachineBuilder_init_21 rfl (lv_at hl 0 rfl) ?_
  refine lv_iconst (v := 0) hx hb d_MachineBuilder_init_22 (by decide) ?_
  refine va_put (ci := 5) (v := .int 0) (ty := .int) hx hb htg in_MachineBuilder t_MachineBuilder tok_MachineBuilder nm_MachineBuilder hown hK hP hD hS 0 rfl rfl 2 (by decide) (htg _ m_76) (fun _ h9 => h9) rfl (by decide +kernel) rfl rfl (Nat.le_of_ble_eq_true rfl) d_MachineBuilder_init_23 (fun H locs hP hD hS => ?_)
  have hP : va_P G vwCl [(a0, .inr (5, [.ref q1, .ref q2, .int 0, .null, .null, .null, .null, .null, .null])), (q1, .inl (K 0, 6, .inl (fun _ => 0))), (q2, .inl (K 0, 512, .inl (fun _ => 0)))] H := hP
  have hD : va_D A [(a0, .inr (5, [.ref q1, .ref q2, .int 0, .null, .null, .null, .null, .null, .null])), (q1, .inl (K 0, 6, .inl (fun _ => 0))), (q2, .inl (K 0, 512, .inl (fun _ => 0)))] := hD
  refine lv_aload_n hx hb d_MachineBuilder_init_26 rfl (lv_at hl 0 rfl) ?_
  refine lv_sipush (v := 512) hx hb d_MachineBuilder_init_27 (by decide) ?_
  refine g_newi (N := 512) hx hb (htg _ m_39) hK hP hD hS hA (by decide) (by decide) (by decide) (Nat.le_of_ble_eq_true rfl) (Nat.le_of_ble_eq_true rfl) d_MachineBuilder_init_30 (fun q3 H hP hD hS => ?_)
  have hP : va_P G vwCl [(a0, .inr (5, [.ref q1, .ref q2, .int 0, .null, .null, .null, .null, .null, .null])), (q1, .inl (K 0, 6, .inl (fun _ => 0))), (q2, .inl (K 0, 512, .inl (fun _ => 0))), (q3, .inl (K 0, 512, .inl (fun _ => 0)))] H := hP
  have hD : va_D A [(a0, .inr (5, [.ref q1, .ref q2, .int 0, .null, .null, .null, .null, .null, .null])), (q1, .inl (K 0, 6, .inl (fun _ => 0))), (q2, .inl (K 0, 512, .inl (fun _ => 0))), (q3, .inl (K 0, 512, .inl (fun _ => 0)))] := hD
  refine va_putF (ci := 5) (v := .ref q3) (ty := (.array .int)) hx hb htg in_MachineBuilder t_MachineBuilder tok_MachineBuilder nm_MachineBuilder hown hK hP hD hS 0 rfl rfl 3 (by decide) (htg _ m_77) (fun _ h9 => h9) rfl hname rfl (by decide +kernel) rfl rfl (Nat.le_of_ble_eq_true rfl) d_MachineBuilder_init_32 (fun H locs hP hD hS => ?_)
  have hP : va_P G vwCl [(a0, .inr (5, [.ref q1, .ref q2, .int 0, .ref q3, .null, .null, .null, .null, .null])), (q1, .inl (K 0, 6, .inl (fun _ => 0))), (q2, .inl (K 0, 512, .inl (fun _ => 0))), (q3, .inl (K 0, 512, .inl (fun _ => 0)))] H := hP
  have hD : va_D A [(a0, .inr (5, [.ref q1, .ref q2, .int 0, .ref q3, .null, .null, .null, .null, .null])), (q1, .inl (K 0, 6, .inl (fun _ => 0))), (q2, .inl (K 0, 512, .inl (fun _ => 0))), (q3, .inl (K 0, 512, .inl (fun _ => 0)))] := hD
  refine lv_aload_n hx hb d_MachineBuilder_init_35 rfl (lv_at hl 0 rfl) ?_
  refine lv_sipush (v := 512) hx hb d_MachineBuilder_init_36 (by decide) ?_
  refine g_newi (N := 512) hx hb (htg _ m_39) hK hP hD hS hA (by decide) (by decide) (by decide) (Nat.le_of_ble_eq_true rfl) (Nat.le_of_ble_eq_true rfl) d_MachineBuilder_init_39 (fun q4 H hP hD hS => ?_)
  have hP : va_P G vwCl [(a0, .inr (5, [.ref q1, .ref q2, .int 0, .ref q3, .null, .null, .null, .null, .null])), (q1, .inl (K 0, 6, .inl (fun _ => 0))), (q2, .inl (K 0, 512, .inl (fun _ => 0))), (q3, .inl (K 0, 512, .inl (fun _ => 0))), (q4, .inl (K 0, 512, .inl (fun _ => 0)))] H := hP
  have hD : va_D A [(a0, .inr (5, [.ref q1, .ref q2, .int 0, .ref q3, .null, .null, .null, .null, .null])), (q1, .inl (K 0, 6, .inl (fun _ => 0))), (q2, .inl (K 0, 512, .inl (fun _ => 0))), (q3, .inl (K 0, 512, .inl (fun _ => 0))), (q4, .inl (K 0, 512, .inl (fun _ => 0)))] := hD
  refine va_putF (ci := 5) (v := .ref q4) (ty := (.array .int)) hx hb htg in_MachineBuilder t_MachineBuilder tok_MachineBuilder nm_MachineBuilder hown hK hP hD hS 0 rfl rfl 4 (by decide) (htg _ m_78) (fun _ h9 => h9) rfl hname rfl (by decide +kernel) rfl rfl (Nat.le_of_ble_eq_true rfl) d_MachineBuilder_init_41 (fun H locs hP hD hS => ?_)
  have hP : va_P G vwCl [(a0, .inr (5, [.ref q1, .ref q2, .int 0, .ref q3, .ref q4, .null, .null, .null, .null])), (q1, .inl (K 0, 6, .inl (fun _ => 0))), (q2, .inl (K 0, 512, .inl (fun _ => 0))), (q3, .inl (K 0, 512, .inl (fun _ => 0))), (q4, .inl (K 0, 512, .inl (fun _ => 0)))] H := hP
  have hD : va_D A [(a0, .inr (5, [.ref q1, .ref q2, .int 0, .ref q3, .ref q4, .null, .null, .null, .null])), (q1, .inl (K 0, 6, .inl (fun _ => 0))), (q2, .inl (K 0, 512, .inl (fun _ => 0))), (q3, .inl (K 0, 512, .inl (fun _ => 0))), (q4, .inl (K 0, 512, .inl (fun _ => 0)))] := hD
  refine lv_aload_n hx hb d_MachineBuilder_init_44 rfl (lv_at hl 0 rfl) ?_
  refine lv_sipush (v := 512) hx hb d_MachineBuilder_init_45 (by decide) ?_
  refine g_newi (N := 512) hx hb (htg _ m_39) hK hP hD hS hA (by decide) (by decide) (by decide) (Nat.le_of_ble_eq_true rfl) (Nat.le_of_ble_eq_true rfl) d_MachineBuilder_init_48 (fun q5 H hP hD hS => ?_)
  have hP : va_P G vwCl [(a0, .inr (5, [.ref q1, .ref q2, .int 0, .ref q3, .ref q4, .null, .null, .null, .null])), (q1, .inl (K 0, 6, .inl (fun _ => 0))), (q2, .inl (K 0, 512, .inl (fun _ => 0))), (q3, .inl (K 0, 512, .inl (fun _ => 0))), (q4, .inl (K 0, 512, .inl (fun _ => 0))), (q5, .inl (K 0, 512, .inl (fun _ => 0)))] H := hP
  have hD : va_D A [(a0, .inr (5, [.ref q1, .ref q2, .int 0, .ref q3, .ref q4, .null, .null, .null, .null])), (q1, .inl (K 0, 6, .inl (fun _ => 0))), (q2, .inl (K 0, 512, .inl (fun _ => 0))), (q3, .inl (K 0, 512, .inl (fun _ => 0))), (q4, .inl (K 0, 512, .inl (fun _ => 0))), (q5, .inl (K 0, 512, .inl (fun _ => 0)))] := hD
  refine va_putF (ci := 5) (v := .ref q5) (ty := (.array .int)) hx hb htg in_MachineBuilder t_MachineBuilder tok_MachineBuilder nm_MachineBuilder hown hK hP hD hS 0 rfl rfl 5 (by decide) (htg _ m_79) (fun _ h9 => h9) rfl hname rfl (by decide +kernel) rfl rfl (Nat.le_of_ble_eq_true rfl) d_MachineBuilder_init_50 (fun H locs hP hD hS => ?_)
  have hP : va_P G vwCl [(a0, .inr (5, [.ref q1, .ref q2, .int 0, .ref q3, .ref q4, .ref q5, .null, .null, .null])), (q1, .inl (K 0, 6, .inl (fun _ => 0))), (q2, .inl (K 0, 512, .inl (fun _ => 0))), (q3, .inl (K 0, 512, .inl (fun _ => 0))), (q4, .inl (K 0, 512, .inl (fun _ => 0))), (q5, .inl (K 0, 512, .inl (fun _ => 0)))] H := hP
  have hD : va_D A [(a0, .inr (5, [.ref q1, .ref q2, .int 0, .ref q3, .ref q4, .ref q5, .null, .null, .null])), (q1, .inl (K 0, 6, .inl (fun _ => 0))), (q2, .inl (K 0, 512, .inl (fun _ => 0))), (q3, .inl (K 0, 512, .inl (fun _ => 0))), (q4, .inl (K 0, 512, .inl (fun _ => 0))), (q5, .inl (K 0, 512, .inl (fun _ => 0)))] := hD
  refine lv_aload_n hx hb d_MachineBuilder_init_53 rfl (lv_at hl 0 rfl) ?_
  refine lv_sipush (v := 512) hx hb d_MachineBuilder_init_54 (by decide) ?_
  refine g_newi (N := 512) hx hb (htg _ m_39) hK hP hD hS hA (by decide) (by decide) (by decide) (Nat.le_of_ble_eq_true rfl) (Nat.le_of_ble_eq_true rfl) d_MachineBuilder_init_57 (fun q6 H hP hD hS => ?_)
  have hP : va_P G vwCl [(a0, .inr (5, [.ref q1, .ref q2, .int 0, .ref q3, .ref q4, .ref q5, .null, .null, .null])), (q1, .inl (K 0, 6, .inl (fun _ => 0))), (q2, .inl (K 0, 512, .inl (fun _ => 0))), (q3, .inl (K 0, 512, .inl (fun _ => 0))), (q4, .inl (K 0, 512, .inl (fun _ => 0))), (q5, .inl (K 0, 512, .inl (fun _ => 0))), (q6, .inl (K 0, 512, .inl (fun _ => 0)))] H := hP
  have hD : va_D A [(a0, .inr (5, [.ref q1, .ref q2, .int 0, .ref q3, .ref q4, .ref q5, .null, .null, .null])), (q1, .inl (K 0, 6, .inl (fun _ => 0))), (q2, .inl (K 0, 512, .inl (fun _ => 0))), (q3, .inl (K 0, 512, .inl (fun _ => 0))), (q4, .inl (K 0, 512, .inl (fun _ => 0))), (q5, .inl (K 0, 512, .inl (fun _ => 0))), (q6, .inl (K 0, 512, .inl (fun _ => 0)))] := hD
  refine va_putF (ci := 5) (v := .ref q6) (ty := (.array .int)) hx hb htg in_MachineBuilder t_MachineBuilder tok_MachineBuilder nm_MachineBuilder hown hK hP hD hS 0 rfl rfl 6 (by decide) (htg _ m_80) (fun _ h9 => h9) rfl hname rfl (by decide +kernel) rfl rfl (Nat.le_of_ble_eq_true rfl) d_MachineBuilder_init_59 (fun H locs hP hD hS => ?_)
  have hP : va_P G vwCl [(a0, .inr (5, [.ref q1, .ref q2, .int 0, .ref q3, .ref q4, .ref q5, .ref q6, .null, .null])), (q1, .inl (K 0, 6, .inl (fun _ => 0))), (q2, .inl (K 0, 512, .inl (fun _ => 0))), (q3, .inl (K 0, 512, .inl (fun _ => 0))), (q4, .inl (K 0, 512, .inl (fun _ => 0))), (q5, .inl (K 0, 512, .inl (fun _ => 0))), (q6, .inl (K 0, 512, .inl (fun _ => 0)))] H := hP
  have hD : va_D A [(a0, .inr (5, [.ref q1, .ref q2, .int 0, .ref q3, .ref q4, .ref q5, .ref q6, .null, .null])), (q1, .inl (K 0, 6, .inl (fun _ => 0))), (q2, .inl (K 0, 512, .inl (fun _ => 0))), (q3, .inl (K 0, 512, .inl (fun _ => 0))), (q4, .inl (K 0, 512, .inl (fun _ => 0))), (q5, .inl (K 0, 512, .inl (fun _ => 0))), (q6, .inl (K 0, 512, .inl (fun _ => 0)))] := hD
  refine lv_aload_n hx hb d_MachineBuilder_init_62 rfl (lv_at hl 0 rfl) ?_
  refine lv_sipush (v := 512) hx hb d_MachineBuilder_init_63 (by decide) ?_
  refine g_newi (N := 512) hx hb (htg _ m_39) hK hP hD hS hA (by decide) (by decide) (by decide) (Nat.le_of_ble_eq_true rfl) (Nat.le_of_ble_eq_true rfl) d_MachineBuilder_init_66 (fun q7 H hP hD hS => ?_)
  have hP : va_P G vwCl [(a0, .inr (5, [.ref q1, .ref q2, .int 0, .ref q3, .ref q4, .ref q5, .ref q6, .null, .null])), (q1, .inl (K 0, 6, .inl (fun _ => 0))), (q2, .inl (K 0, 512, .inl (fun _ => 0))), (q3, .inl (K 0, 512, .inl (fun _ => 0))), (q4, .inl (K 0, 512, .inl (fun _ => 0))), (q5, .inl (K 0, 512, .inl (fun _ => 0))), (q6, .inl (K 0, 512, .inl (fun _ => 0))), (q7, .inl (K 0, 512, .inl (fun _ => 0)))] H := hP
  have hD : va_D A [(a0, .inr (5, [.ref q1, .ref q2, .int 0, .ref q3, .ref q4, .ref q5, .ref q6, .null, .null])), (q1, .inl (K 0, 6, .inl (fun _ => 0))), (q2, .inl (K 0, 512, .inl (fun _ => 0))), (q3, .inl (K 0, 512, .inl (fun _ => 0))), (q4, .inl (K 0, 512, .inl (fun _ => 0))), (q5, .inl (K 0, 512, .inl (fun _ => 0))), (q6, .inl (K 0, 512, .inl (fun _ => 0))), (q7, .inl (K 0, 512, .inl (fun _ => 0)))] := hD
  refine va_putF (ci := 5) (v := .ref q7) (ty := (.array .int)) hx hb htg in_MachineBuilder t_MachineBuilder tok_MachineBuilder nm_MachineBuilder hown hK hP hD hS 0 rfl rfl 7 (by decide) (htg _ m_81) (fun _ h9 => h9) rfl hname rfl (by decide +kernel) rfl rfl (Nat.le_of_ble_eq_true rfl) d_MachineBuilder_init_68 (fun H locs hP hD hS => ?_)
  have hP : va_P G vwCl [(a0, .inr (5, [.ref q1, .ref q2, .int 0, .ref q3, .ref q4, .ref q5, .ref q6, .ref q7, .null])), (q1, .inl (K 0, 6, .inl (fun _ => 0))), (q2, .inl (K 0, 512, .inl (fun _ => 0))), (q3, .inl (K 0, 512, .inl (fun _ => 0))), (q4, .inl (K 0, 512, .inl (fun _ => 0))), (q5, .inl (K 0, 512, .inl (fun _ => 0))), (q6, .inl (K 0, 512, .inl (fun _ => 0))), (q7, .inl (K 0, 512, .inl (fun _ => 0)))] H := hP
  have hD : va_D A [(a0, .inr (5, [.ref q1, .ref q2, .int 0, .ref q3, .ref q4, .ref q5, .ref q6, .ref q7, .null])), (q1, .inl (K 0, 6, .inl (fun _ => 0))), (q2, .inl (K 0, 512, .inl (fun _ => 0))), (q3, .inl (K 0, 512, .inl (fun _ => 0))), (q4, .inl (K 0, 512, .inl (fun _ => 0))), (q5, .inl (K 0, 512, .inl (fun _ => 0))), (q6, .inl (K 0, 512, .inl (fun _ => 0))), (q7, .inl (K 0, 512, .inl (fun _ => 0)))] := hD
  refine lv_aload_n hx hb d_MachineBuilder_init_71 rfl (lv_at hl 0 rfl) ?_
  refine lv_sipush (v := 512) hx hb d_MachineBuilder_init_72 (by decide) ?_
  refine g_newi (N := 512) hx hb (htg _ m_39) hK hP hD hS hA (by decide) (by decide) (by decide) (Nat.le_of_ble_eq_true rfl) (Nat.le_of_ble_eq_true rfl) d_MachineBuilder_init_75 (fun q8 H hP hD hS => ?_)
  have hP : va_P G vwCl [(a0, .inr (5, [.ref q1, .ref q2, .int 0, .ref q3, .ref q4, .ref q5, .ref q6, .ref q7, .null])), (q1, .inl (K 0, 6, .inl (fun _ => 0))), (q2, .inl (K 0, 512, .inl (fun _ => 0))), (q3, .inl (K 0, 512, .inl (fun _ => 0))), (q4, .inl (K 0, 512, .inl (fun _ => 0))), (q5, .inl (K 0, 512, .inl (fun _ => 0))), (q6, .inl (K 0, 512, .inl (fun _ => 0))), (q7, .inl (K 0, 512, .inl (fun _ => 0))), (q8, .inl (K 0, 512, .inl (fun _ => 0)))] H := hP
  have hD : va_D A [(a0, .inr (5, [.ref q1, .ref q2, .int 0, .ref q3, .ref q4, .ref q5, .ref q6, .ref q7, .null])), (q1, .inl (K 0, 6, .inl (fun _ => 0))), (q2, .inl (K 0, 512, .inl (fun _ => 0))), (q3, .inl (K 0, 512, .inl (fun _ => 0))), (q4, .inl (K 0, 512, .inl (fun _ => 0))), (q5, .inl (K 0, 512, .inl (fun _ => 0))), (q6, .inl (K 0, 512, .inl (fun _ => 0))), (q7, .inl (K 0, 512, .inl (fun _ => 0))), (q8, .inl (K 0, 512, .inl (fun _ => 0)))] := hD
  refine va_putF (ci := 5) (v := .ref q8) (ty := (.array .int)) hx hb htg in_MachineBuilder t_MachineBuilder tok_MachineBuilder nm_MachineBuilder hown hK hP hD hS 0 rfl rfl 8 (by decide) (htg _ m_82) (fun _ h9 => h9) rfl hname rfl (by decide +kernel) rfl rfl (Nat.le_of_ble_eq_true rfl) d_MachineBuilder_init_77 (fun H locs hP hD hS => ?_)
  have hP : va_P G vwCl [(a0, .inr (5, [.ref q1, .ref q2, .int 0, .ref q3, .ref q4, .ref q5, .ref q6, .ref q7, .ref q8])), (q1, .inl (K 0, 6, .inl (fun _ => 0))), (q2, .inl (K 0, 512, .inl (fun _ => 0))), (q3, .inl (K 0, 512, .inl (fun _ => 0))), (q4, .inl (K 0, 512, .inl (fun _ => 0))), (q5, .inl (K 0, 512, .inl (fun _ => 0))), (q6, .inl (K 0, 512, .inl (fun _ => 0))), (q7, .inl (K 0, 512, .inl (fun _ => 0))), (q8, .inl (K 0, 512, .inl (fun _ => 0)))] H := hP
  have hD : va_D A [(a0, .inr (5, [.ref q1, .ref q2, .int 0, .ref q3, .ref q4, .ref q5, .ref q6, .ref q7, .ref q8])), (q1, .inl (K 0, 6, .inl (fun _ => 0))), (q2, .inl (K 0, 512, .inl (fun _ => 0))), (q3, .inl (K 0, 512, .inl (fun _ => 0))), (q4, .inl (K 0, 512, .inl (fun _ => 0))), (q5, .inl (K 0, 512, .inl (fun _ => 0))), (q6, .inl (K 0, 512, .inl (fun _ => 0))), (q7, .inl (K 0, 512, .inl (fun _ => 0))), (q8, .inl (K 0, 512, .inl (fun _ => 0)))] := hD
  exact hret (0, (fun _ => 0), (fun _ => 0), (fun _ => 0), (fun _ => 0), (fun _ => 0), (fun _ => 0), (fun _ => 0), (fun _ => 0), q1, q2, q3, q4, q5, q6, q7, q8) _ _ _ _ h (hP.sub [0, 1, 2, 3, 4, 5, 6, 7, 8] rfl) (hD.sub [0, 1, 2, 3, 4, 5, 6, 7, 8] (by decide) rfl) hS d_MachineBuilder_init_80
def p_MachineBuilder_meet (v_o_foundCount : Int32) (f_o_found : (Nat → Int32)) (v_p2_places : Int32) (v_p2_first : Int32) (v_p2_last : Int32) (f_p2_followers : (Nat → Int32)) (f_o_behind : (Nat → Int32)) (f_p2_rules : (Nat → Int32)) (f_o_groups : (Nat → Int32)) (x1 : Int32) (post : Int32 → (Nat → Int32) → (Nat → Int32) → (Nat → Int32) → Prop) : Prop := (vp_in v_o_foundCount 512 ∧ (p_Mode_placesBehind v_p2_places v_p2_first f_p2_followers x1 (fun r1 => (vp_in x1 512 ∧ (p_Mode_winnerOf v_p2_places v_p2_last f_p2_rules x1 (fun r2 => (vp_in x1 512 ∧ (post (v_o_foundCount + 1) (upd f_o_found v_o_foundCount.toNatClampNeg x1) (upd f_o_behind x1.toNatClampNeg r1) (upd f_o_groups x1.toNatClampNeg (r2 + 1))))))))))
set_option maxHeartbeats 4000000 in
set_option maxRecDepth 100000 in
theorem k_MachineBuilder_meet (l : Launch) (G : va_G) (K : Nat → ClassId) (a0 a0_found a2 a2_followers a0_behind a2_rules a0_groups a0_placesOf a0_finerGroups a0_newest a0_older a0_sample a2_letters : Nat) (sz : Nat) (v_o_foundCount : Int32) (f_o_found : (Nat → Int32)) (v_p2_places : Int32) (v_p2_first : Int32) (v_p2_last : Int32) (f_p2_followers : (Nat → Int32)) (f_o_behind : (Nat → Int32)) (f_p2_rules : (Nat → Int32)) (f_o_groups : (Nat → Int32)) (x1 : Int32) (post : Int32 → (Nat → Int32) → (Nat → Int32) → (Nat → Int32) → Prop) (h : p_MachineBuilder_meet v_o_foundCount f_o_found v_p2_places v_p2_first v_p2_last f_p2_followers f_o_behind f_p2_rules f_o_groups x1 post) : MWv l y_MachineBuilder_meet (.code y_MachineBuilder_meet c_MachineBuilder_meet 3 none) { frames := 2, cells := 0, slots := 0, locals := 44 } G K [(a0, .inr (5, [.ref a0_placesOf, .ref a0_found, .int v_o_foundCount, .ref a0_behind, .ref a0_groups, .ref a0_finerGroups, .ref a0_newest, .ref a0_older, .ref a0_sample])), (a0_found, .inl (K 0, 512, .inl f_o_found)), (a0_behind, .inl (K 0, 512, .inl f_o_behind)), (a0_groups, .inl (K 0, 512, .inl f_o_groups))] [(a2, .inr (6, [.ref a2_letters, .ref a2_followers, .ref a2_rules, .int v_p2_places, .int v_p2_first, .int v_p2_last])), (a2_followers, .inl (K 0, 9, .inl f_p2_followers)), (a2_rules, .inl (K 0, 9, .inl f_p2_rules))] [.ref a0, .int x1, .ref a2] sz (fun (u : Int32 × (Nat → Int32) × (Nat → Int32) × (Nat → Int32)) => post u.1 u.2.1 u.2.2.1 u.2.2.2) (fun u => [(a0, .inr (5, [.ref a0_placesOf, .ref a0_found, .int u.1, .ref a0_behind, .ref a0_groups, .ref a0_finerGroups, .ref a0_newest, .ref a0_older, .ref a0_sample])), (a0_found, .inl (K 0, 512, .inl u.2.1)), (a0_behind, .inl (K 0, 512, .inl u.2.2.1)), (a0_groups, .inl (K 0, 512, .inl u.2.2.2))]) 0 0 := by
  refine g_metWv (cc := c_MachineBuilder_meet) (maxL := 3) (ret := none) (by decide) rfl rfl (Nat.le_of_ble_eq_true rfl) ?_
  intro p e s m below meth c A Q hx hb hml hown hname htg hK hN hP hD hA hS hR rN hret ls hl
  have hl : lv_has ls 3 [(0, .ref a0), (1, .int x1), (2, .ref a2)] := hl
  refine lv_aload_n hx hb d_MachineBuilder_meet_0 rfl (lv_at hl 0 rfl) ?_
  refine va_get (ci := 5) (v := .ref a0_found) hx hb htg in_MachineBuilder hown hK hP 0 rfl rfl 1 (by decide) (htg _ m_75) (fun _ h9 => h9) rfl d_MachineBuilder_meet_1 ?_
  refine lv_aload_n hx hb d_MachineBuilder_meet_4 rfl (lv_at hl 0 rfl) ?_
  refine va_get (ci := 5) (v := .int v_o_foundCount) hx hb htg in_MachineBuilder hown hK hP 0 rfl rfl 2 (by decide) (htg _ m_76) (fun _ h9 => h9) rfl d_MachineBuilder_meet_5 ?_
  refine lv_iload_n hx hb d_MachineBuilder_meet_8 rfl (lv_at hl 1 rfl) ?_
  obtain ⟨hin, h⟩ := h
  refine va_iast hx hb hK hP hD hS 1 0 rfl rfl hin d_MachineBuilder_meet_9 (fun H locs hP hD hS => ?_)
  have hP : va_P G vwCl [(a0, .inr (5, [.ref a0_placesOf, .ref a0_found, .int v_o_foundCount, .ref a0_behind, .ref a0_groups, .ref a0_finerGroups, .ref a0_newest, .ref a0_older, .ref a0_sample])), (a0_found, .inl (K 0, 512, .inl (upd f_o_found v_o_foundCount.toNatClampNeg x1))), (a0_behind, .inl (K 0, 512, .inl f_o_behind)), (a0_groups, .inl (K 0, 512, .inl f_o_groups))] H := hP
  have hD : va_D A [(a0, .inr (5, [.ref a0_placesOf, .ref a0_found, .int v_o_foundCount, .ref a0_behind, .ref a0_groups, .ref a0_finerGroups, .ref a0_newest, .ref a0_older, .ref a0_sample])), (a0_found, .inl (K 0, 512, .inl (upd f_o_found v_o_foundCount.toNatClampNeg x1))), (a0_behind, .inl (K 0, 512, .inl f_o_behind)), (a0_groups, .inl (K 0, 512, .inl f_o_groups))] := hD
  refine lv_aload_n hx hb d_MachineBuilder_meet_10 rfl (lv_at hl 0 rfl) ?_
  refine lv_dup hx hb d_MachineBuilder_meet_11 rfl ?_
  refine va_get (ci := 5) (v := .int v_o_foundCount) hx hb htg in_MachineBuilder hown hK hP 0 rfl rfl 2 (by decide) (htg _ m_76) (fun _ h9 => h9) rfl d_MachineBuilder_meet_12 ?_
  refine lv_iconst (v := 1) hx hb d_MachineBuilder_meet_15 (by decide) ?_
  refine lv_iadd hx hb d_MachineBuilder_meet_16 ?_
  refine va_put (ci := 5) (v := .int (v_o_foundCount + 1)) (ty := .int) hx hb htg in_MachineBuilder t_MachineBuilder tok_MachineBuilder nm_MachineBuilder hown hK hP hD hS 0 rfl rfl 2 (by decide) (htg _ m_76) (fun _ h9 => h9) rfl (by decide +kernel) rfl rfl (Nat.le_of_ble_eq_true rfl) d_MachineBuilder_meet_17 (fun H locs hP hD hS => ?_)
  have hP : va_P G vwCl [(a0, .inr (5, [.ref a0_placesOf, .ref a0_found, .int (v_o_foundCount + 1), .ref a0_behind, .ref a0_groups, .ref a0_finerGroups, .ref a0_newest, .ref a0_older, .ref a0_sample])), (a0_found, .inl (K 0, 512, .inl (upd f_o_found v_o_foundCount.toNatClampNeg x1))), (a0_behind, .inl (K 0, 512, .inl f_o_behind)), (a0_groups, .inl (K 0, 512, .inl f_o_groups))] H := hP
  have hD : va_D A [(a0, .inr (5, [.ref a0_placesOf, .ref a0_found, .int (v_o_foundCount + 1), .ref a0_behind, .ref a0_groups, .ref a0_finerGroups, .ref a0_newest, .ref a0_older, .ref a0_sample])), (a0_found, .inl (K 0, 512, .inl (upd f_o_found v_o_foundCount.toNatClampNeg x1))), (a0_behind, .inl (K 0, 512, .inl f_o_behind)), (a0_groups, .inl (K 0, 512, .inl f_o_groups))] := hD
  refine lv_aload_n hx hb d_MachineBuilder_meet_20 rfl (lv_at hl 0 rfl) ?_
  refine va_get (ci := 5) (v := .ref a0_behind) hx hb htg in_MachineBuilder hown hK hP 0 rfl rfl 3 (by decide) (htg _ m_77) (fun _ h9 => h9) rfl d_MachineBuilder_meet_21 ?_
  refine lv_iload_n hx hb d_MachineBuilder_meet_24 rfl (lv_at hl 1 rfl) ?_
  refine lv_aload_n hx hb d_MachineBuilder_meet_25 rfl (lv_at hl 2 rfl) ?_
  refine lv_iload_n hx hb d_MachineBuilder_meet_26 rfl (lv_at hl 1 rfl) ?_
  have hPc : va_P G vwCl [(a2, .inr (6, [.ref a2_letters, .ref a2_followers, .ref a2_rules, .int v_p2_places, .int v_p2_first, .int v_p2_last])), (a2_followers, .inl (K 0, 9, .inl f_p2_followers))] _ := (gR hR rN hS).sub [0, 1] rfl
  refine vp_callSi (va_Run.run (va_runV (As := [.int x1]) (rest := [.int x1, .ref a0_behind]) ⟨hx, hb, hml, hown, htg⟩ (k_Mode_placesBehind l G K a2 a2_followers a2_letters a2_rules v_p2_places v_p2_first v_p2_last f_p2_followers x1 _ h) (cwV 1 htg (gGoodV m_112 m_113 m_114 m_7 m_115) rfl rfl rfl (by decide +kernel) ⟨(Nat.le_of_ble_eq_true rfl), (Nat.le_of_ble_eq_true rfl)⟩) (gS_preV (ci := 6) (q0 := 0) hK hN hPc rfl rfl) rfl rfl hl.1 rfl (lv_room (Nat.le_of_ble_eq_true rfl)) d_MachineBuilder_meet_27 ⟨(Nat.le_of_ble_eq_true rfl), (Nat.le_of_ble_eq_true rfl)⟩)) (fun r1 h => ?_)
  obtain ⟨hin, h⟩ := h
  refine va_iast hx hb hK hP hD hS 2 0 rfl rfl hin d_MachineBuilder_meet_30 (fun H locs hP hD hS => ?_)
  have hP : va_P G vwCl [(a0, .inr (5, [.ref a0_placesOf, .ref a0_found, .int (v_o_foundCount + 1), .ref a0_behind, .ref a0_groups, .ref a0_finerGroups, .ref a0_newest, .ref a0_older, .ref a0_sample])), (a0_found, .inl (K 0, 512, .inl (upd f_o_found v_o_foundCount.toNatClampNeg x1))), (a0_behind, .inl (K 0, 512, .inl (upd f_o_behind x1.toNatClampNeg r1))), (a0_groups, .inl (K 0, 512, .inl f_o_groups))] H := hP
  have hD : va_D A [(a0, .inr (5, [.ref a0_placesOf, .ref a0_found, .int (v_o_foundCount + 1), .ref a0_behind, .ref a0_groups, .ref a0_finerGroups, .ref a0_newest, .ref a0_older, .ref a0_sample])), (a0_found, .inl (K 0, 512, .inl (upd f_o_found v_o_foundCount.toNatClampNeg x1))), (a0_behind, .inl (K 0, 512, .inl (upd f_o_behind x1.toNatClampNeg r1))), (a0_groups, .inl (K 0, 512, .inl f_o_groups))] := hD
  refine lv_aload_n hx hb d_MachineBuilder_meet_31 rfl (lv_at hl 0 rfl) ?_
  refine va_get (ci := 5) (v := .ref a0_groups) hx hb htg in_MachineBuilder hown hK hP 0 rfl rfl 4 (by decide) (htg _ m_78) (fun _ h9 => h9) rfl d_MachineBuilder_meet_32 ?_
  refine lv_iload_n hx hb d_MachineBuilder_meet_35 rfl (lv_at hl 1 rfl) ?_
  refine lv_aload_n hx hb d_MachineBuilder_meet_36 rfl (lv_at hl 2 rfl) ?_
  refine lv_iload_n hx hb d_MachineBuilder_meet_37 rfl (lv_at hl 1 rfl) ?_
  have hPc : va_P G vwCl [(a2, .inr (6, [.ref a2_letters, .ref a2_followers, .ref a2_rules, .int v_p2_places, .int v_p2_first, .int v_p2_last])), (a2_rules, .inl (K 0, 9, .inl f_p2_rules))] _ := (gR hR rN hS).sub [0, 2] rfl
  refine vp_callSi (va_Run.run (va_runV (As := [.int x1]) (rest := [.int x1, .ref a0_groups]) ⟨hx, hb, hml, hown, htg⟩ (k_Mode_winnerOf l G K a2 a2_rules a2_letters a2_followers v_p2_places v_p2_first v_p2_last f_p2_rules x1 _ h) (cwV 1 htg (gGoodV m_116 m_117 m_118 m_7 m_119) rfl rfl rfl (by decide +kernel) ⟨(Nat.le_of_ble_eq_true rfl), (Nat.le_of_ble_eq_true rfl)⟩) (gS_preV (ci := 6) (q0 := 0) hK hN hPc rfl rfl) rfl rfl hl.1 rfl (lv_room (Nat.le_of_ble_eq_true rfl)) d_MachineBuilder_meet_38 ⟨(Nat.le_of_ble_eq_true rfl), (Nat.le_of_ble_eq_true rfl)⟩)) (fun r2 h => ?_)
  refine lv_iconst (v := 1) hx hb d_MachineBuilder_meet_41 (by decide) ?_
  refine lv_iadd hx hb d_MachineBuilder_meet_42 ?_
  obtain ⟨hin, h⟩ := h
  refine va_iast hx hb hK hP hD hS 3 0 rfl rfl hin d_MachineBuilder_meet_43 (fun H locs hP hD hS => ?_)
  have hP : va_P G vwCl [(a0, .inr (5, [.ref a0_placesOf, .ref a0_found, .int (v_o_foundCount + 1), .ref a0_behind, .ref a0_groups, .ref a0_finerGroups, .ref a0_newest, .ref a0_older, .ref a0_sample])), (a0_found, .inl (K 0, 512, .inl (upd f_o_found v_o_foundCount.toNatClampNeg x1))), (a0_behind, .inl (K 0, 512, .inl (upd f_o_behind x1.toNatClampNeg r1))), (a0_groups, .inl (K 0, 512, .inl (upd f_o_groups x1.toNatClampNeg (r2 + 1))))] H := hP
  have hD : va_D A [(a0, .inr (5, [.ref a0_placesOf, .ref a0_found, .int (v_o_foundCount + 1), .ref a0_behind, .ref a0_groups, .ref a0_finerGroups, .ref a0_newest, .ref a0_older, .ref a0_sample])), (a0_found, .inl (K 0, 512, .inl (upd f_o_found v_o_foundCount.toNatClampNeg x1))), (a0_behind, .inl (K 0, 512, .inl (upd f_o_behind x1.toNatClampNeg r1))), (a0_groups, .inl (K 0, 512, .inl (upd f_o_groups x1.toNatClampNeg (r2 + 1))))] := hD
  exact hret ((v_o_foundCount + 1), (upd f_o_found v_o_foundCount.toNatClampNeg x1), (upd f_o_behind x1.toNatClampNeg r1), (upd f_o_groups x1.toNatClampNeg (r2 + 1))) _ _ _ _ h (hP.sub [0, 1, 2, 3] rfl) (hD.sub [0, 1, 2, 3] (by decide) rfl) hS d_MachineBuilder_meet_44
def p_MachineBuilder_findSets_118  (post : Int32 → (Nat → Int32) → (Nat → Int32) → (Nat → Int32) → (Nat → Int32) → Prop) (K_46 : Int32 → Int32 → (Nat → Int32) → (Nat → Int32) → (Nat → Int32) → (Nat → Int32) → Prop) (l2 : Int32) (v_o_foundCount : Int32) (f_o_placesOf : (Nat → Int32)) (f_o_groups : (Nat → Int32)) (f_o_found : (Nat → Int32)) (f_o_behind : (Nat → Int32)) : Prop := (K_46 (l2 + 1) v_o_foundCount f_o_placesOf f_o_groups f_o_found f_o_behind)
def p_MachineBuilder_findSets_63 (v_p1_places : Int32) (v_p1_first : Int32) (v_p1_last : Int32) (f_p1_followers : (Nat → Int32)) (f_p1_rules : (Nat → Int32)) (post : Int32 → (Nat → Int32) → (Nat → Int32) → (Nat → Int32) → (Nat → Int32) → Prop) (K_46 : Int32 → Int32 → (Nat → Int32) → (Nat → Int32) → (Nat → Int32) → (Nat → Int32) → Prop) : Nat → Int32 → Int32 → Int32 → (Nat → Int32) → (Nat → Int32) → (Nat → Int32) → (Nat → Int32) → Prop
  | 0, _, _, _, _, _, _, _ => False
  | n + 1, l2, l3, v_o_foundCount, f_o_placesOf, f_o_groups, f_o_found, f_o_behind => ((6 ≤ l3 → (p_MachineBuilder_findSets_118 post K_46 l2 v_o_foundCount f_o_placesOf f_o_groups f_o_found f_o_behind)) ∧ (¬ 6 ≤ l3 → (vp_in l2 512 ∧ (vp_in (f_o_found l2.toNatClampNeg) 512 ∧ (vp_in l3 6 ∧ ((((f_o_behind (f_o_found l2.toNatClampNeg).toNatClampNeg) &&& (f_o_placesOf l3.toNatClampNeg)) = 0 → (p_MachineBuilder_findSets_63 v_p1_places v_p1_first v_p1_last f_p1_followers f_p1_rules post K_46 n l2 (l3 + 1) v_o_foundCount f_o_placesOf f_o_groups f_o_found f_o_behind)) ∧ (¬ ((f_o_behind (f_o_found l2.toNatClampNeg).toNatClampNeg) &&& (f_o_placesOf l3.toNatClampNeg)) = 0 → (vp_in ((f_o_behind (f_o_found l2.toNatClampNeg).toNatClampNeg) &&& (f_o_placesOf l3.toNatClampNeg)) 512 ∧ ((¬ (f_o_groups ((f_o_behind (f_o_found l2.toNatClampNeg).toNatClampNeg) &&& (f_o_placesOf l3.toNatClampNeg)).toNatClampNeg) = (-1) → (p_MachineBuilder_findSets_63 v_p1_places v_p1_first v_p1_last f_p1_followers f_p1_rules post K_46 n l2 (l3 + 1) v_o_foundCount f_o_placesOf f_o_groups f_o_found f_o_behind)) ∧ ((f_o_groups ((f_o_behind (f_o_found l2.toNatClampNeg).toNatClampNeg) &&& (f_o_placesOf l3.toNatClampNeg)).toNatClampNeg) = (-1) → (p_MachineBuilder_meet v_o_foundCount f_o_found v_p1_places v_p1_first v_p1_last f_p1_followers f_o_behind f_p1_rules f_o_groups ((f_o_behind (f_o_found l2.toNatClampNeg).toNatClampNeg) &&& (f_o_placesOf l3.toNatClampNeg)) (fun u7301 u7302 u7303 u7304 => (p_MachineBuilder_findSets_63 v_p1_places v_p1_first v_p1_last f_p1_followers f_p1_rules post K_46 n l2 (l3 + 1) u7301 f_o_placesOf u7304 u7302 u7303)))))))))))))
def p_MachineBuilder_findSets_46 (v_p1_places : Int32) (v_p1_first : Int32) (v_p1_last : Int32) (f_p1_followers : (Nat → Int32)) (f_p1_rules : (Nat → Int32)) (post : Int32 → (Nat → Int32) → (Nat → Int32) → (Nat → Int32) → (Nat → Int32) → Prop) : Nat → Int32 → Int32 → (Nat → Int32) → (Nat → Int32) → (Nat → Int32) → (Nat → Int32) → Prop
  | 0, _, _, _, _, _, _ => False
  | n + 1, l2, v_o_foundCount, f_o_placesOf, f_o_groups, f_o_found, f_o_behind => ((v_o_foundCount ≤ l2 → (post v_o_foundCount f_o_placesOf f_o_groups f_o_found f_o_behind)) ∧ (¬ v_o_foundCount ≤ l2 → ((512 ≤ l2 → (post v_o_foundCount f_o_placesOf f_o_groups f_o_found f_o_behind)) ∧ (¬ 512 ≤ l2 → (∃ k, p_MachineBuilder_findSets_63 v_p1_places v_p1_first v_p1_last f_p1_followers f_p1_rules post (p_MachineBuilder_findSets_46 v_p1_places v_p1_first v_p1_last f_p1_followers f_p1_rules post n) k l2 0 v_o_foundCount f_o_placesOf f_o_groups f_o_found f_o_behind)))))
def p_MachineBuilder_findSets_25 (v_p1_places : Int32) (v_p1_first : Int32) (v_p1_last : Int32) (f_p1_followers : (Nat → Int32)) (f_p1_rules : (Nat → Int32)) (post : Int32 → (Nat → Int32) → (Nat → Int32) → (Nat → Int32) → (Nat → Int32) → Prop) (v_o_foundCount : Int32) (f_o_placesOf : (Nat → Int32)) (f_o_groups : (Nat → Int32)) (f_o_found : (Nat → Int32)) (f_o_behind : (Nat → Int32)) : Prop := (p_Arrays_fill 512 f_o_groups (-1) (fun u3501 => (p_MachineBuilder_meet 0 f_o_found v_p1_places v_p1_first v_p1_last f_p1_followers f_o_behind f_p1_rules u3501 0 (fun u3503 u3504 u3505 u3506 => (∃ k, p_MachineBuilder_findSets_46 v_p1_places v_p1_first v_p1_last f_p1_followers f_p1_rules post k 0 u3503 f_o_placesOf u3506 u3504 u3505)))))
def p_MachineBuilder_findSets_2 (v_p1_places : Int32) (v_p1_first : Int32) (v_p1_last : Int32) (f_p1_letters : (Nat → Int32)) (f_p1_followers : (Nat → Int32)) (f_p1_rules : (Nat → Int32)) (post : Int32 → (Nat → Int32) → (Nat → Int32) → (Nat → Int32) → (Nat → Int32) → Prop) : Nat → Int32 → Int32 → (Nat → Int32) → (Nat → Int32) → (Nat → Int32) → (Nat → Int32) → Prop
  | 0, _, _, _, _, _, _ => False
  | n + 1, l2, v_o_foundCount, f_o_placesOf, f_o_groups, f_o_found, f_o_behind => ((6 ≤ l2 → (p_MachineBuilder_findSets_25 v_p1_places v_p1_first v_p1_last f_p1_followers f_p1_rules post v_o_foundCount f_o_placesOf f_o_groups f_o_found f_o_behind)) ∧ (¬ 6 ≤ l2 → (p_Mode_placesOf v_p1_places f_p1_letters l2 (fun r1201 => (vp_in l2 6 ∧ (p_MachineBuilder_findSets_2 v_p1_places v_p1_first v_p1_last f_p1_letters f_p1_followers f_p1_rules post n (l2 + 1) v_o_foundCount (upd f_o_placesOf l2.toNatClampNeg r1201) f_o_groups f_o_found f_o_behind))))))
def p_MachineBuilder_findSets (v_o_foundCount : Int32) (v_p1_places : Int32) (v_p1_first : Int32) (v_p1_last : Int32) (f_p1_letters : (Nat → Int32)) (f_o_placesOf : (Nat → Int32)) (f_o_groups : (Nat → Int32)) (f_o_found : (Nat → Int32)) (f_p1_followers : (Nat → Int32)) (f_o_behind : (Nat → Int32)) (f_p1_rules : (Nat → Int32)) (post : Int32 → (Nat → Int32) → (Nat → Int32) → (Nat → Int32) → (Nat → Int32) → Prop) : Prop := (∃ k, p_MachineBuilder_findSets_2 v_p1_places v_p1_first v_p1_last f_p1_letters f_p1_followers f_p1_rules post k 0 v_o_foundCount f_o_placesOf f_o_groups f_o_found f_o_behind)
set_option maxHeartbeats 4000000 in
set_option maxRecDepth 100000 in
theorem k_MachineBuilder_findSets (l : Launch) (G : va_G) (K : Nat → ClassId) (a0 a1 a1_letters a0_placesOf a0_groups a0_found a1_followers a0_behind a1_rules a0_finerGroups a0_newest a0_older a0_sample : Nat) (sz : Nat) (v_o_foundCount : Int32) (v_p1_places : Int32) (v_p1_first : Int32) (v_p1_last : Int32) (f_p1_letters : (Nat → Int32)) (f_o_placesOf : (Nat → Int32)) (f_o_groups : (Nat → Int32)) (f_o_found : (Nat → Int32)) (f_p1_followers : (Nat → Int32)) (f_o_behind : (Nat → Int32)) (f_p1_rules : (Nat → Int32)) (post : Int32 → (Nat → Int32) → (Nat → Int32) → (Nat → Int32) → (Nat → Int32) → Prop) (h : p_MachineBuilder_findSets v_o_foundCount v_p1_places v_p1_first v_p1_last f_p1_letters f_o_placesOf f_o_groups f_o_found f_p1_followers f_o_behind f_p1_rules post) : MWv l y_MachineBuilder_findSets (.code y_MachineBuilder_findSets c_MachineBuilder_findSets 5 none) { frames := 3, cells := 0, slots := 0, locals := 66 } G K [(a0, .inr (5, [.ref a0_placesOf, .ref a0_found, .int v_o_foundCount, .ref a0_behind, .ref a0_groups, .ref a0_finerGroups, .ref a0_newest, .ref a0_older, .ref a0_sample])), (a0_placesOf, .inl (K 0, 6, .inl f_o_placesOf)), (a0_groups, .inl (K 0, 512, .inl f_o_groups)), (a0_found, .inl (K 0, 512, .inl f_o_found)), (a0_behind, .inl (K 0, 512, .inl f_o_behind))] [(a1, .inr (6, [.ref a1_letters, .ref a1_followers, .ref a1_rules, .int v_p1_places, .int v_p1_first, .int v_p1_last])), (a1_letters, .inl (K 0, 9, .inl f_p1_letters)), (a1_followers, .inl (K 0, 9, .inl f_p1_followers)), (a1_rules, .inl (K 0, 9, .inl f_p1_rules))] [.ref a0, .ref a1] sz (fun (u : Int32 × (Nat → Int32) × (Nat → Int32) × (Nat → Int32) × (Nat → Int32)) => post u.1 u.2.1 u.2.2.1 u.2.2.2.1 u.2.2.2.2) (fun u => [(a0, .inr (5, [.ref a0_placesOf, .ref a0_found, .int u.1, .ref a0_behind, .ref a0_groups, .ref a0_finerGroups, .ref a0_newest, .ref a0_older, .ref a0_sample])), (a0_placesOf, .inl (K 0, 6, .inl u.2.1)), (a0_groups, .inl (K 0, 512, .inl u.2.2.1)), (a0_found, .inl (K 0, 512, .inl u.2.2.2.1)), (a0_behind, .inl (K 0, 512, .inl u.2.2.2.2))]) 0 0 := by
  refine g_metWv (cc := c_MachineBuilder_findSets) (maxL := 5) (ret := none) (by decide) rfl rfl (Nat.le_of_ble_eq_true rfl) ?_
  intro p e s m below meth c A Q hx hb hml hown hname htg hK hN hP hD hA hS hR rN hret ls hl
  have hl : lv_has ls 5 [(0, .ref a0), (1, .ref a1)] := hl
  have C_118 : ∀ (K_46 : Int32 → Int32 → (Nat → Int32) → (Nat → Int32) → (Nat → Int32) → (Nat → Int32) → Prop) (hK_46 : ∀ (l2 : Int32) (v_o_foundCount : Int32) (f_o_placesOf : (Nat → Int32)) (f_o_groups : (Nat → Int32)) (f_o_found : (Nat → Int32)) (f_o_behind : (Nat → Int32)) (H : Heap) (locs : List Loc), va_P G vwCl [(a0, .inr (5, [.ref a0_placesOf, .ref a0_found, .int v_o_foundCount, .ref a0_behind, .ref a0_groups, .ref a0_finerGroups, .ref a0_newest, .ref a0_older, .ref a0_sample])), (a0_placesOf, .inl (K 0, 6, .inl f_o_placesOf)), (a0_groups, .inl (K 0, 512, .inl f_o_groups)), (a0_found, .inl (K 0, 512, .inl f_o_found)), (a0_behind, .inl (K 0, 512, .inl f_o_behind))] H → va_D A [(a0, .inr (5, [.ref a0_placesOf, .ref a0_found, .int v_o_foundCount, .ref a0_behind, .ref a0_groups, .ref a0_finerGroups, .ref a0_newest, .ref a0_older, .ref a0_sample])), (a0_placesOf, .inl (K 0, 6, .inl f_o_placesOf)), (a0_groups, .inl (K 0, 512, .inl f_o_groups)), (a0_found, .inl (K 0, 512, .inl f_o_found)), (a0_behind, .inl (K 0, 512, .inl f_o_behind))] → va_S A s.heap H locs → ∀ (ls : Array Slot), lv_has ls 5 [(0, .ref a0), (1, .ref a1), (2, .int l2)] → K_46 l2 v_o_foundCount f_o_placesOf f_o_groups f_o_found f_o_behind → W p l e { frames := 3, cells := 0, slots := 0, locals := 66 } s m ([.ref a0, .ref a1] : List Value).toArray below meth c H locs 0 0 Q (F0 m 46 ls [])) (l2 : Int32) (v_o_foundCount : Int32) (f_o_placesOf : (Nat → Int32)) (f_o_groups : (Nat → Int32)) (f_o_found : (Nat → Int32)) (f_o_behind : (Nat → Int32)) (H : Heap) (locs : List Loc), va_P G vwCl [(a0, .inr (5, [.ref a0_placesOf, .ref a0_found, .int v_o_foundCount, .ref a0_behind, .ref a0_groups, .ref a0_finerGroups, .ref a0_newest, .ref a0_older, .ref a0_sample])), (a0_placesOf, .inl (K 0, 6, .inl f_o_placesOf)), (a0_groups, .inl (K 0, 512, .inl f_o_groups)), (a0_found, .inl (K 0, 512, .inl f_o_found)), (a0_behind, .inl (K 0, 512, .inl f_o_behind))] H → va_D A [(a0, .inr (5, [.ref a0_placesOf, .ref a0_found, .int v_o_foundCount, .ref a0_behind, .ref a0_groups, .ref a0_finerGroups, .ref a0_newest, .ref a0_older, .ref a0_sample])), (a0_placesOf, .inl (K 0, 6, .inl f_o_placesOf)), (a0_groups, .inl (K 0, 512, .inl f_o_groups)), (a0_found, .inl (K 0, 512, .inl f_o_found)), (a0_behind, .inl (K 0, 512, .inl f_o_behind))] → va_S A s.heap H locs → ∀ (ls : Array Slot), lv_has ls 5 [(0, .ref a0), (1, .ref a1), (2, .int l2)] → p_MachineBuilder_findSets_118 post K_46 l2 v_o_foundCount f_o_placesOf f_o_groups f_o_found f_o_behind → W p l e { frames := 3, cells := 0, slots := 0, locals := 66 } s m ([.ref a0, .ref a1] : List Value).toArray below meth c H locs 0 0 Q (F0 m 118 ls []) := by
    intro K_46 hK_46 l2 v_o_foundCount f_o_placesOf f_o_groups f_o_found f_o_behind  H locs hP hD hS ls hl h
    refine lv_iinc (v := (l2 + 1)) (lv' := [(2, .int (l2 + 1)), (0, .ref a0), (1, .ref a1)]) hx hb d_MachineBuilder_findSets_118 hl (k := 2) rfl (by first | rfl | decide) (by decide) rfl (fun ls hl => ?_)
    refine lv_goto (tgt := 46) hx hb d_MachineBuilder_findSets_121 (by decide) ?_
    exact hK_46 (l2 + 1) v_o_foundCount f_o_placesOf f_o_groups f_o_found f_o_behind  _ _ (hP.sub [0, 1, 2, 3, 4] rfl) (hD.sub [0, 1, 2, 3, 4] (by decide) rfl) hS _ (lv_sub hl [1, 2, 0] rfl) h
  have C_63 : ∀ (K_46 : Int32 → Int32 → (Nat → Int32) → (Nat → Int32) → (Nat → Int32) → (Nat → Int32) → Prop) (hK_46 : ∀ (l2 : Int32) (v_o_foundCount : Int32) (f_o_placesOf : (Nat → Int32)) (f_o_groups : (Nat → Int32)) (f_o_found : (Nat → Int32)) (f_o_behind : (Nat → Int32)) (H : Heap) (locs : List Loc), va_P G vwCl [(a0, .inr (5, [.ref a0_placesOf, .ref a0_found, .int v_o_foundCount, .ref a0_behind, .ref a0_groups, .ref a0_finerGroups, .ref a0_newest, .ref a0_older, .ref a0_sample])), (a0_placesOf, .inl (K 0, 6, .inl f_o_placesOf)), (a0_groups, .inl (K 0, 512, .inl f_o_groups)), (a0_found, .inl (K 0, 512, .inl f_o_found)), (a0_behind, .inl (K 0, 512, .inl f_o_behind))] H → va_D A [(a0, .inr (5, [.ref a0_placesOf, .ref a0_found, .int v_o_foundCount, .ref a0_behind, .ref a0_groups, .ref a0_finerGroups, .ref a0_newest, .ref a0_older, .ref a0_sample])), (a0_placesOf, .inl (K 0, 6, .inl f_o_placesOf)), (a0_groups, .inl (K 0, 512, .inl f_o_groups)), (a0_found, .inl (K 0, 512, .inl f_o_found)), (a0_behind, .inl (K 0, 512, .inl f_o_behind))] → va_S A s.heap H locs → ∀ (ls : Array Slot), lv_has ls 5 [(0, .ref a0), (1, .ref a1), (2, .int l2)] → K_46 l2 v_o_foundCount f_o_placesOf f_o_groups f_o_found f_o_behind → W p l e { frames := 3, cells := 0, slots := 0, locals := 66 } s m ([.ref a0, .ref a1] : List Value).toArray below meth c H locs 0 0 Q (F0 m 46 ls [])) (n : Nat) (l2 : Int32) (l3 : Int32) (v_o_foundCount : Int32) (f_o_placesOf : (Nat → Int32)) (f_o_groups : (Nat → Int32)) (f_o_found : (Nat → Int32)) (f_o_behind : (Nat → Int32)) (H : Heap) (locs : List Loc), va_P G vwCl [(a0, .inr (5, [.ref a0_placesOf, .ref a0_found, .int v_o_foundCount, .ref a0_behind, .ref a0_groups, .ref a0_finerGroups, .ref a0_newest, .ref a0_older, .ref a0_sample])), (a0_placesOf, .inl (K 0, 6, .inl f_o_placesOf)), (a0_groups, .inl (K 0, 512, .inl f_o_groups)), (a0_found, .inl (K 0, 512, .inl f_o_found)), (a0_behind, .inl (K 0, 512, .inl f_o_behind))] H → va_D A [(a0, .inr (5, [.ref a0_placesOf, .ref a0_found, .int v_o_foundCount, .ref a0_behind, .ref a0_groups, .ref a0_finerGroups, .ref a0_newest, .ref a0_older, .ref a0_sample])), (a0_placesOf, .inl (K 0, 6, .inl f_o_placesOf)), (a0_groups, .inl (K 0, 512, .inl f_o_groups)), (a0_found, .inl (K 0, 512, .inl f_o_found)), (a0_behind, .inl (K 0, 512, .inl f_o_behind))] → va_S A s.heap H locs → ∀ (ls : Array Slot), lv_has ls 5 [(0, .ref a0), (1, .ref a1), (2, .int l2), (3, .int l3)] → p_MachineBuilder_findSets_63 v_p1_places v_p1_first v_p1_last f_p1_followers f_p1_rules post K_46 n l2 l3 v_o_foundCount f_o_placesOf f_o_groups f_o_found f_o_behind → W p l e { frames := 3, cells := 0, slots := 0, locals := 66 } s m ([.ref a0, .ref a1] : List Value).toArray below meth c H locs 0 0 Q (F0 m 63 ls []) := by
    intro K_46 hK_46
    intro n
    induction n with
    | zero =>
      intro l2 l3 v_o_foundCount f_o_placesOf f_o_groups f_o_found f_o_behind  H locs hP hD hS ls hl h
      exact False.elim h
    | succ n ih =>
      intro l2 l3 v_o_foundCount f_o_placesOf f_o_groups f_o_found f_o_behind  H locs hP hD hS ls hl h
      refine lv_iload_n hx hb d_MachineBuilder_findSets_63 rfl (lv_at hl 3 rfl) ?_
      refine lv_bipush (v := 6) hx hb d_MachineBuilder_findSets_64 (by decide) ?_
      refine lv_icmp_ge (tgt := 118) hx hb d_MachineBuilder_findSets_66 (by decide) (fun hc => ?_) (fun hc => ?_)
      · replace h := h.1 hc
        exact C_118 _ hK_46 l2 v_o_foundCount f_o_placesOf f_o_groups f_o_found f_o_behind  _ _ (hP.sub [0, 1, 2, 3, 4] rfl) (hD.sub [0, 1, 2, 3, 4] (by decide) rfl) hS _ (lv_sub hl [0, 1, 2] rfl) h
      · replace h := h.2 hc
        refine lv_aload_n hx hb d_MachineBuilder_findSets_69 rfl (lv_at hl 0 rfl) ?_
        refine va_get (ci := 5) (v := .ref a0_behind) hx hb htg in_MachineBuilder hown hK hP 0 rfl rfl 3 (by decide) (htg _ m_77) (fun _ h9 => h9) rfl d_MachineBuilder_findSets_70 ?_
        refine lv_aload_n hx hb d_MachineBuilder_findSets_73 rfl (lv_at hl 0 rfl) ?_
        refine va_get (ci := 5) (v := .ref a0_found) hx hb htg in_MachineBuilder hown hK hP 0 rfl rfl 1 (by decide) (htg _ m_75) (fun _ h9 => h9) rfl d_MachineBuilder_findSets_74 ?_
        refine lv_iload_n hx hb d_MachineBuilder_findSets_77 rfl (lv_at hl 2 rfl) ?_
        obtain ⟨hin, h⟩ := h
        refine va_iald hx hb hK hP 3 0 rfl rfl hin d_MachineBuilder_findSets_78 ?_
        obtain ⟨hin, h⟩ := h
        refine va_iald hx hb hK hP 4 0 rfl rfl hin d_MachineBuilder_findSets_79 ?_
        refine lv_aload_n hx hb d_MachineBuilder_findSets_80 rfl (lv_at hl 0 rfl) ?_
        refine va_get (ci := 5) (v := .ref a0_placesOf) hx hb htg in_MachineBuilder hown hK hP 0 rfl rfl 0 (by decide) (htg _ m_74) (fun _ h9 => h9) rfl d_MachineBuilder_findSets_81 ?_
        refine lv_iload_n hx hb d_MachineBuilder_findSets_84 rfl (lv_at hl 3 rfl) ?_
        obtain ⟨hin, h⟩ := h
        refine va_iald hx hb hK hP 1 0 rfl rfl hin d_MachineBuilder_findSets_85 ?_
        refine lv_iand hx hb d_MachineBuilder_findSets_86 ?_
        refine lv_istore (lv' := [(4, .int ((f_o_behind (f_o_found l2.toNatClampNeg).toNatClampNeg) &&& (f_o_placesOf l3.toNatClampNeg))), (0, .ref a0), (1, .ref a1), (2, .int l2), (3, .int l3)]) hx hb d_MachineBuilder_findSets_87 hl (by decide) rfl (fun ls hl => ?_)
        refine lv_iload hx hb d_MachineBuilder_findSets_89 (lv_at hl 0 rfl) ?_
        refine lv_if_eq (tgt := 112) hx hb d_MachineBuilder_findSets_91 (by decide) (fun hc => ?_) (fun hc => ?_)
        · replace h := h.1 hc
          refine lv_iinc (v := (l3 + 1)) (lv' := [(3, .int (l3 + 1)), (4, .int ((f_o_behind (f_o_found l2.toNatClampNeg).toNatClampNeg) &&& (f_o_placesOf l3.toNatClampNeg))), (0, .ref a0), (1, .ref a1), (2, .int l2)]) hx hb d_MachineBuilder_findSets_112 hl (k := 4) rfl (by first | rfl | decide) (by decide) rfl (fun ls hl => ?_)
          refine lv_goto (tgt := 63) hx hb d_MachineBuilder_findSets_115 (by decide) ?_
          exact ih l2 (l3 + 1) v_o_foundCount f_o_placesOf f_o_groups f_o_found f_o_behind  _ _ (hP.sub [0, 1, 2, 3, 4] rfl) (hD.sub [0, 1, 2, 3, 4] (by decide) rfl) hS _ (lv_sub hl [2, 3, 4, 0] rfl) h
        · replace h := h.2 hc
          refine lv_aload_n hx hb d_MachineBuilder_findSets_94 rfl (lv_at hl 1 rfl) ?_
          refine va_get (ci := 5) (v := .ref a0_groups) hx hb htg in_MachineBuilder hown hK hP 0 rfl rfl 4 (by decide) (htg _ m_78) (fun _ h9 => h9) rfl d_MachineBuilder_findSets_95 ?_
          refine lv_iload hx hb d_MachineBuilder_findSets_98 (lv_at hl 0 rfl) ?_
          obtain ⟨hin, h⟩ := h
          refine va_iald hx hb hK hP 2 0 rfl rfl hin d_MachineBuilder_findSets_100 ?_
          refine lv_iconst (v := (-1)) hx hb d_MachineBuilder_findSets_101 (by decide) ?_
          refine lv_icmp_ne (tgt := 112) hx hb d_MachineBuilder_findSets_102 (by decide) (fun hc => ?_) (fun hc => ?_)
          · replace h := h.1 hc
            refine lv_iinc (v := (l3 + 1)) (lv' := [(3, .int (l3 + 1)), (4, .int ((f_o_behind (f_o_found l2.toNatClampNeg).toNatClampNeg) &&& (f_o_placesOf l3.toNatClampNeg))), (0, .ref a0), (1, .ref a1), (2, .int l2)]) hx hb d_MachineBuilder_findSets_112 hl (k := 4) rfl (by first | rfl | decide) (by decide) rfl (fun ls hl => ?_)
            refine lv_goto (tgt := 63) hx hb d_MachineBuilder_findSets_115 (by decide) ?_
            exact ih l2 (l3 + 1) v_o_foundCount f_o_placesOf f_o_groups f_o_found f_o_behind  _ _ (hP.sub [0, 1, 2, 3, 4] rfl) (hD.sub [0, 1, 2, 3, 4] (by decide) rfl) hS _ (lv_sub hl [2, 3, 4, 0] rfl) h
          · replace h := h.2 hc
            refine lv_aload_n hx hb d_MachineBuilder_findSets_105 rfl (lv_at hl 1 rfl) ?_
            refine lv_iload hx hb d_MachineBuilder_findSets_106 (lv_at hl 0 rfl) ?_
            refine lv_aload_n hx hb d_MachineBuilder_findSets_108 rfl (lv_at hl 2 rfl) ?_
            have hPc : va_P G vwCl [(a0, .inr (5, [.ref a0_placesOf, .ref a0_found, .int v_o_foundCount, .ref a0_behind, .ref a0_groups, .ref a0_finerGroups, .ref a0_newest, .ref a0_older, .ref a0_sample])), (a0_found, .inl (K 0, 512, .inl f_o_found)), (a0_behind, .inl (K 0, 512, .inl f_o_behind)), (a0_groups, .inl (K 0, 512, .inl f_o_groups))] _ := hP.sub [0, 3, 4, 2] rfl
            have hDc : va_D A [(a0, .inr (5, [.ref a0_placesOf, .ref a0_found, .int v_o_foundCount, .ref a0_behind, .ref a0_groups, .ref a0_finerGroups, .ref a0_newest, .ref a0_older, .ref a0_sample])), (a0_found, .inl (K 0, 512, .inl f_o_found)), (a0_behind, .inl (K 0, 512, .inl f_o_behind)), (a0_groups, .inl (K 0, 512, .inl f_o_groups))] := hD.sub [0, 3, 4, 2] (by decide) rfl
            have hRc : va_P G vwCl [(a1, .inr (6, [.ref a1_letters, .ref a1_followers, .ref a1_rules, .int v_p1_places, .int v_p1_first, .int v_p1_last])), (a1_followers, .inl (K 0, 9, .inl f_p1_followers)), (a1_rules, .inl (K 0, 9, .inl f_p1_rules))] _ := (gR hR rN hS).sub [0, 2, 3] rfl
            have hJc : gJ [(a0, .inr (5, [.ref a0_placesOf, .ref a0_found, .int v_o_foundCount, .ref a0_behind, .ref a0_groups, .ref a0_finerGroups, .ref a0_newest, .ref a0_older, .ref a0_sample])), (a0_found, .inl (K 0, 512, .inl f_o_found)), (a0_behind, .inl (K 0, 512, .inl f_o_behind)), (a0_groups, .inl (K 0, 512, .inl f_o_groups))] [(a1, .inr (6, [.ref a1_letters, .ref a1_followers, .ref a1_rules, .int v_p1_places, .int v_p1_first, .int v_p1_last])), (a1_followers, .inl (K 0, 9, .inl f_p1_followers)), (a1_rules, .inl (K 0, 9, .inl f_p1_rules))] := gJ_A hDc (gN_sub rN [0, 2, 3] rfl)
            refine g_callv (wr := [(a0_placesOf, .inl (K 0, 6, .inl f_o_placesOf))]) (va_runV (As := [.int ((f_o_behind (f_o_found l2.toNatClampNeg).toNatClampNeg) &&& (f_o_placesOf l3.toNatClampNeg)), .ref a1]) (rest := []) ⟨hx, hb, hml, hown, htg⟩ (k_MachineBuilder_meet l G K a0 a0_found a1 a1_followers a0_behind a1_rules a0_groups a0_placesOf a0_finerGroups a0_newest a0_older a0_sample a1_letters _ v_o_foundCount f_o_found v_p1_places v_p1_first v_p1_last f_p1_followers f_o_behind f_p1_rules f_o_groups ((f_o_behind (f_o_found l2.toNatClampNeg).toNatClampNeg) &&& (f_o_placesOf l3.toNatClampNeg)) _ h) (cwV 2 htg (gGoodV m_109 m_110 m_855 m_6 m_111) rfl rfl rfl (by decide +kernel) ⟨(Nat.le_of_ble_eq_true rfl), (Nat.le_of_ble_eq_true rfl)⟩) (gW_preV (ci := 5) (q0 := 0) hK hN hPc hDc hRc hJc hPc rfl rfl) rfl rfl hl.1 rfl (lv_room (Nat.le_of_ble_eq_true rfl)) d_MachineBuilder_findSets_109 ⟨(Nat.le_of_ble_eq_true rfl), (Nat.le_of_ble_eq_true rfl)⟩) hP hD hS hA [0, 3, 4, 2] [1] rfl rfl (by decide) (by decide) (fun u H locs h hP hD hS => ?_)
            obtain ⟨u7301, u7302, u7303, u7304⟩ := u
            try dsimp only at h
            have hP : va_P G vwCl [(a0_placesOf, .inl (K 0, 6, .inl f_o_placesOf)), (a0, .inr (5, [.ref a0_placesOf, .ref a0_found, .int u7301, .ref a0_behind, .ref a0_groups, .ref a0_finerGroups, .ref a0_newest, .ref a0_older, .ref a0_sample])), (a0_found, .inl (K 0, 512, .inl u7302)), (a0_behind, .inl (K 0, 512, .inl u7303)), (a0_groups, .inl (K 0, 512, .inl u7304))] H := hP
            have hD : va_D A [(a0_placesOf, .inl (K 0, 6, .inl f_o_placesOf)), (a0, .inr (5, [.ref a0_placesOf, .ref a0_found, .int u7301, .ref a0_behind, .ref a0_groups, .ref a0_finerGroups, .ref a0_newest, .ref a0_older, .ref a0_sample])), (a0_found, .inl (K 0, 512, .inl u7302)), (a0_behind, .inl (K 0, 512, .inl u7303)), (a0_groups, .inl (K 0, 512, .inl u7304))] := hD
            refine lv_iinc (v := (l3 + 1)) (lv' := [(3, .int (l3 + 1)), (4, .int ((f_o_behind (f_o_found l2.toNatClampNeg).toNatClampNeg) &&& (f_o_placesOf l3.toNatClampNeg))), (0, .ref a0), (1, .ref a1), (2, .int l2)]) hx hb d_MachineBuilder_findSets_112 hl (k := 4) rfl (by first | rfl | decide) (by decide) rfl (fun ls hl => ?_)
            refine lv_goto (tgt := 63) hx hb d_MachineBuilder_findSets_115 (by decide) ?_
            exact ih l2 (l3 + 1) u7301 f_o_placesOf u7304 u7302 u7303  _ _ (hP.sub [1, 0, 4, 2, 3] rfl) (hD.sub [1, 0, 4, 2, 3] (by decide) rfl) hS _ (lv_sub hl [2, 3, 4, 0] rfl) h
  have C_46 : ∀ (n : Nat) (l2 : Int32) (v_o_foundCount : Int32) (f_o_placesOf : (Nat → Int32)) (f_o_groups : (Nat → Int32)) (f_o_found : (Nat → Int32)) (f_o_behind : (Nat → Int32)) (H : Heap) (locs : List Loc), va_P G vwCl [(a0, .inr (5, [.ref a0_placesOf, .ref a0_found, .int v_o_foundCount, .ref a0_behind, .ref a0_groups, .ref a0_finerGroups, .ref a0_newest, .ref a0_older, .ref a0_sample])), (a0_placesOf, .inl (K 0, 6, .inl f_o_placesOf)), (a0_groups, .inl (K 0, 512, .inl f_o_groups)), (a0_found, .inl (K 0, 512, .inl f_o_found)), (a0_behind, .inl (K 0, 512, .inl f_o_behind))] H → va_D A [(a0, .inr (5, [.ref a0_placesOf, .ref a0_found, .int v_o_foundCount, .ref a0_behind, .ref a0_groups, .ref a0_finerGroups, .ref a0_newest, .ref a0_older, .ref a0_sample])), (a0_placesOf, .inl (K 0, 6, .inl f_o_placesOf)), (a0_groups, .inl (K 0, 512, .inl f_o_groups)), (a0_found, .inl (K 0, 512, .inl f_o_found)), (a0_behind, .inl (K 0, 512, .inl f_o_behind))] → va_S A s.heap H locs → ∀ (ls : Array Slot), lv_has ls 5 [(0, .ref a0), (1, .ref a1), (2, .int l2)] → p_MachineBuilder_findSets_46 v_p1_places v_p1_first v_p1_last f_p1_followers f_p1_rules post n l2 v_o_foundCount f_o_placesOf f_o_groups f_o_found f_o_behind → W p l e { frames := 3, cells := 0, slots := 0, locals := 66 } s m ([.ref a0, .ref a1] : List Value).toArray below meth c H locs 0 0 Q (F0 m 46 ls []) := by
    intro n
    induction n with
    | zero =>
      intro l2 v_o_foundCount f_o_placesOf f_o_groups f_o_found f_o_behind  H locs hP hD hS ls hl h
      exact False.elim h
    | succ n ih =>
      intro l2 v_o_foundCount f_o_placesOf f_o_groups f_o_found f_o_behind  H locs hP hD hS ls hl h
      refine lv_iload_n hx hb d_MachineBuilder_findSets_46 rfl (lv_at hl 2 rfl) ?_
      refine lv_aload_n hx hb d_MachineBuilder_findSets_47 rfl (lv_at hl 0 rfl) ?_
      refine va_get (ci := 5) (v := .int v_o_foundCount) hx hb htg in_MachineBuilder hown hK hP 0 rfl rfl 2 (by decide) (htg _ m_76) (fun _ h9 => h9) rfl d_MachineBuilder_findSets_48 ?_
      refine lv_icmp_ge (tgt := 124) hx hb d_MachineBuilder_findSets_51 (by decide) (fun hc => ?_) (fun hc => ?_)
      · replace h := h.1 hc
        exact hret (v_o_foundCount, f_o_placesOf, f_o_groups, f_o_found, f_o_behind) _ _ _ _ h (hP.sub [0, 1, 2, 3, 4] rfl) (hD.sub [0, 1, 2, 3, 4] (by decide) rfl) hS d_MachineBuilder_findSets_124
      · replace h := h.2 hc
        refine lv_iload_n hx hb d_MachineBuilder_findSets_54 rfl (lv_at hl 2 rfl) ?_
        refine lv_sipush (v := 512) hx hb d_MachineBuilder_findSets_55 (by decide) ?_
        refine lv_icmp_ge (tgt := 124) hx hb d_MachineBuilder_findSets_58 (by decide) (fun hc => ?_) (fun hc => ?_)
        · replace h := h.1 hc
          exact hret (v_o_foundCount, f_o_placesOf, f_o_groups, f_o_found, f_o_behind) _ _ _ _ h (hP.sub [0, 1, 2, 3, 4] rfl) (hD.sub [0, 1, 2, 3, 4] (by decide) rfl) hS d_MachineBuilder_findSets_124
        · replace h := h.2 hc
          refine lv_iconst (v := 0) hx hb d_MachineBuilder_findSets_61 (by decide) ?_
          refine lv_istore_n (lv' := [(3, .int 0), (0, .ref a0), (1, .ref a1), (2, .int l2)]) hx hb d_MachineBuilder_findSets_62 rfl hl (by decide) rfl (fun ls hl => ?_)
          obtain ⟨k, h⟩ := h
          exact C_63 _ ih k l2 0 v_o_foundCount f_o_placesOf f_o_groups f_o_found f_o_behind  _ _ (hP.sub [0, 1, 2, 3, 4] rfl) (hD.sub [0, 1, 2, 3, 4] (by decide) rfl) hS _ (lv_sub hl [1, 2, 3, 0] rfl) h
  have C_25 : ∀ (v_o_foundCount : Int32) (f_o_placesOf : (Nat → Int32)) (f_o_groups : (Nat → Int32)) (f_o_found : (Nat → Int32)) (f_o_behind : (Nat → Int32)) (H : Heap) (locs : List Loc), va_P G vwCl [(a0, .inr (5, [.ref a0_placesOf, .ref a0_found, .int v_o_foundCount, .ref a0_behind, .ref a0_groups, .ref a0_finerGroups, .ref a0_newest, .ref a0_older, .ref a0_sample])), (a0_placesOf, .inl (K 0, 6, .inl f_o_placesOf)), (a0_groups, .inl (K 0, 512, .inl f_o_groups)), (a0_found, .inl (K 0, 512, .inl f_o_found)), (a0_behind, .inl (K 0, 512, .inl f_o_behind))] H → va_D A [(a0, .inr (5, [.ref a0_placesOf, .ref a0_found, .int v_o_foundCount, .ref a0_behind, .ref a0_groups, .ref a0_finerGroups, .ref a0_newest, .ref a0_older, .ref a0_sample])), (a0_placesOf, .inl (K 0, 6, .inl f_o_placesOf)), (a0_groups, .inl (K 0, 512, .inl f_o_groups)), (a0_found, .inl (K 0, 512, .inl f_o_found)), (a0_behind, .inl (K 0, 512, .inl f_o_behind))] → va_S A s.heap H locs → ∀ (ls : Array Slot), lv_has ls 5 [(0, .ref a0), (1, .ref a1)] → p_MachineBuilder_findSets_25 v_p1_places v_p1_first v_p1_last f_p1_followers f_p1_rules post v_o_foundCount f_o_placesOf f_o_groups f_o_found f_o_behind → W p l e { frames := 3, cells := 0, slots := 0, locals := 66 } s m ([.ref a0, .ref a1] : List Value).toArray below meth c H locs 0 0 Q (F0 m 25 ls []) := by
    intro  v_o_foundCount f_o_placesOf f_o_groups f_o_found f_o_behind  H locs hP hD hS ls hl h
    refine lv_aload_n hx hb d_MachineBuilder_findSets_25 rfl (lv_at hl 0 rfl) ?_
    refine va_get (ci := 5) (v := .ref a0_groups) hx hb htg in_MachineBuilder hown hK hP 0 rfl rfl 4 (by decide) (htg _ m_78) (fun _ h9 => h9) rfl d_MachineBuilder_findSets_26 ?_
    refine lv_iconst (v := (-1)) hx hb d_MachineBuilder_findSets_29 (by decide) ?_
    have hPc : va_P G vwCl [(a0_groups, .inl (K 0, 512, .inl f_o_groups))] _ := hP.sub [2] rfl
    have hDc : va_D A [(a0_groups, .inl (K 0, 512, .inl f_o_groups))] := hD.sub [2] (by decide) rfl
    have hRc : va_P G vwCl [] _ := hP.sub [] rfl
    have hJc : gJ [(a0_groups, .inl (K 0, 512, .inl f_o_groups))] [] := gJ_nil
    refine g_callv (wr := [(a0, .inr (5, [.ref a0_placesOf, .ref a0_found, .int v_o_foundCount, .ref a0_behind, .ref a0_groups, .ref a0_finerGroups, .ref a0_newest, .ref a0_older, .ref a0_sample])), (a0_placesOf, .inl (K 0, 6, .inl f_o_placesOf)), (a0_found, .inl (K 0, 512, .inl f_o_found)), (a0_behind, .inl (K 0, 512, .inl f_o_behind))]) (va_runS (As := [.ref a0_groups, .int (-1)]) (rest := []) ⟨hx, hb, hml, hown, htg⟩ (k_Arrays_fill l G K a0_groups _ 512 f_o_groups (-1) _ h) (va_cwS 2 htg (gGoodS m_106 m_107 m_8 m_108) rfl rfl rfl (by decide +kernel) ⟨(Nat.le_of_ble_eq_true rfl), (Nat.le_of_ble_eq_true rfl)⟩) (gW_pre hK hN hPc hDc hRc hJc) rfl rfl hl.1 rfl (lv_room (Nat.le_of_ble_eq_true rfl)) d_MachineBuilder_findSets_30 ⟨(Nat.le_of_ble_eq_true rfl), (Nat.le_of_ble_eq_true rfl)⟩) hP hD hS hA [2] [0, 1, 3, 4] rfl rfl (by decide) (by decide) (fun u H locs h hP hD hS => ?_)
    obtain ⟨u3501, rfl⟩ : ∃ z, z = u := ⟨_, rfl⟩
    try dsimp only at h
    have hP : va_P G vwCl [(a0, .inr (5, [.ref a0_placesOf, .ref a0_found, .int v_o_foundCount, .ref a0_behind, .ref a0_groups, .ref a0_finerGroups, .ref a0_newest, .ref a0_older, .ref a0_sample])), (a0_placesOf, .inl (K 0, 6, .inl f_o_placesOf)), (a0_found, .inl (K 0, 512, .inl f_o_found)), (a0_behind, .inl (K 0, 512, .inl f_o_behind)), (a0_groups, .inl (K 0, 512, .inl u3501))] H := hP
    have hD : va_D A [(a0, .inr (5, [.ref a0_placesOf, .ref a0_found, .int v_o_foundCount, .ref a0_behind, .ref a0_groups, .ref a0_finerGroups, .ref a0_newest, .ref a0_older, .ref a0_sample])), (a0_placesOf, .inl (K 0, 6, .inl f_o_placesOf)), (a0_found, .inl (K 0, 512, .inl f_o_found)), (a0_behind, .inl (K 0, 512, .inl f_o_behind)), (a0_groups, .inl (K 0, 512, .inl u3501))] := hD
    refine lv_aload_n hx hb d_MachineBuilder_findSets_33 rfl (lv_at hl 0 rfl) ?_
    refine lv_iconst (v := 0) hx hb d_MachineBuilder_findSets_34 (by decide) ?_
    refine va_put (ci := 5) (v := .int 0) (ty := .int) hx hb htg in_MachineBuilder t_MachineBuilder tok_MachineBuilder nm_MachineBuilder hown hK hP hD hS 0 rfl rfl 2 (by decide) (htg _ m_76) (fun _ h9 => h9) rfl (by decide +kernel) rfl rfl (Nat.le_of_ble_eq_true rfl) d_MachineBuilder_findSets_35 (fun H locs hP hD hS => ?_)
    have hP : va_P G vwCl [(a0, .inr (5, [.ref a0_placesOf, .ref a0_found, .int 0, .ref a0_behind, .ref a0_groups, .ref a0_finerGroups, .ref a0_newest, .ref a0_older, .ref a0_sample])), (a0_placesOf, .inl (K 0, 6, .inl f_o_placesOf)), (a0_found, .inl (K 0, 512, .inl f_o_found)), (a0_behind, .inl (K 0, 512, .inl f_o_behind)), (a0_groups, .inl (K 0, 512, .inl u3501))] H := hP
    have hD : va_D A [(a0, .inr (5, [.ref a0_placesOf, .ref a0_found, .int 0, .ref a0_behind, .ref a0_groups, .ref a0_finerGroups, .ref a0_newest, .ref a0_older, .ref a0_sample])), (a0_placesOf, .inl (K 0, 6, .inl f_o_placesOf)), (a0_found, .inl (K 0, 512, .inl f_o_found)), (a0_behind, .inl (K 0, 512, .inl f_o_behind)), (a0_groups, .inl (K 0, 512, .inl u3501))] := hD
    refine lv_aload_n hx hb d_MachineBuilder_findSets_38 rfl (lv_at hl 0 rfl) ?_
    refine lv_iconst (v := 0) hx hb d_MachineBuilder_findSets_39 (by decide) ?_
    refine lv_aload_n hx hb d_MachineBuilder_findSets_40 rfl (lv_at hl 1 rfl) ?_
    have hPc : va_P G vwCl [(a0, .inr (5, [.ref a0_placesOf, .ref a0_found, .int 0, .ref a0_behind, .ref a0_groups, .ref a0_finerGroups, .ref a0_newest, .ref a0_older, .ref a0_sample])), (a0_found, .inl (K 0, 512, .inl f_o_found)), (a0_behind, .inl (K 0, 512, .inl f_o_behind)), (a0_groups, .inl (K 0, 512, .inl u3501))] _ := hP.sub [0, 2, 3, 4] rfl
    have hDc : va_D A [(a0, .inr (5, [.ref a0_placesOf, .ref a0_found, .int 0, .ref a0_behind, .ref a0_groups, .ref a0_finerGroups, .ref a0_newest, .ref a0_older, .ref a0_sample])), (a0_found, .inl (K 0, 512, .inl f_o_found)), (a0_behind, .inl (K 0, 512, .inl f_o_behind)), (a0_groups, .inl (K 0, 512, .inl u3501))] := hD.sub [0, 2, 3, 4] (by decide) rfl
    have hRc : va_P G vwCl [(a1, .inr (6, [.ref a1_letters, .ref a1_followers, .ref a1_rules, .int v_p1_places, .int v_p1_first, .int v_p1_last])), (a1_followers, .inl (K 0, 9, .inl f_p1_followers)), (a1_rules, .inl (K 0, 9, .inl f_p1_rules))] _ := (gR hR rN hS).sub [0, 2, 3] rfl
    have hJc : gJ [(a0, .inr (5, [.ref a0_placesOf, .ref a0_found, .int 0, .ref a0_behind, .ref a0_groups, .ref a0_finerGroups, .ref a0_newest, .ref a0_older, .ref a0_sample])), (a0_found, .inl (K 0, 512, .inl f_o_found)), (a0_behind, .inl (K 0, 512, .inl f_o_behind)), (a0_groups, .inl (K 0, 512, .inl u3501))] [(a1, .inr (6, [.ref a1_letters, .ref a1_followers, .ref a1_rules, .int v_p1_places, .int v_p1_first, .int v_p1_last])), (a1_followers, .inl (K 0, 9, .inl f_p1_followers)), (a1_rules, .inl (K 0, 9, .inl f_p1_rules))] := gJ_A hDc (gN_sub rN [0, 2, 3] rfl)
    refine g_callv (wr := [(a0_placesOf, .inl (K 0, 6, .inl f_o_placesOf))]) (va_runV (As := [.int 0, .ref a1]) (rest := []) ⟨hx, hb, hml, hown, htg⟩ (k_MachineBuilder_meet l G K a0 a0_found a1 a1_followers a0_behind a1_rules a0_groups a0_placesOf a0_finerGroups a0_newest a0_older a0_sample a1_letters _ 0 f_o_found v_p1_places v_p1_first v_p1_last f_p1_followers f_o_behind f_p1_rules u3501 0 _ h) (cwV 2 htg (gGoodV m_109 m_110 m_855 m_6 m_111) rfl rfl rfl (by decide +kernel) ⟨(Nat.le_of_ble_eq_true rfl), (Nat.le_of_ble_eq_true rfl)⟩) (gW_preV (ci := 5) (q0 := 0) hK hN hPc hDc hRc hJc hPc rfl rfl) rfl rfl hl.1 rfl (lv_room (Nat.le_of_ble_eq_true rfl)) d_MachineBuilder_findSets_41 ⟨(Nat.le_of_ble_eq_true rfl), (Nat.le_of_ble_eq_true rfl)⟩) hP hD hS hA [0, 2, 3, 4] [1] rfl rfl (by decide) (by decide) (fun u H locs h hP hD hS => ?_)
    obtain ⟨u3503, u3504, u3505, u3506⟩ := u
    try dsimp only at h
    have hP : va_P G vwCl [(a0_placesOf, .inl (K 0, 6, .inl f_o_placesOf)), (a0, .inr (5, [.ref a0_placesOf, .ref a0_found, .int u3503, .ref a0_behind, .ref a0_groups, .ref a0_finerGroups, .ref a0_newest, .ref a0_older, .ref a0_sample])), (a0_found, .inl (K 0, 512, .inl u3504)), (a0_behind, .inl (K 0, 512, .inl u3505)), (a0_groups, .inl (K 0, 512, .inl u3506))] H := hP
    have hD : va_D A [(a0_placesOf, .inl (K 0, 6, .inl f_o_placesOf)), (a0, .inr (5, [.ref a0_placesOf, .ref a0_found, .int u3503, .ref a0_behind, .ref a0_groups, .ref a0_finerGroups, .ref a0_newest, .ref a0_older, .ref a0_sample])), (a0_found, .inl (K 0, 512, .inl u3504)), (a0_behind, .inl (K 0, 512, .inl u3505)), (a0_groups, .inl (K 0, 512, .inl u3506))] := hD
    refine lv_iconst (v := 0) hx hb d_MachineBuilder_findSets_44 (by decide) ?_
    refine lv_istore_n (lv' := [(2, .int 0), (0, .ref a0), (1, .ref a1)]) hx hb d_MachineBuilder_findSets_45 rfl hl (by decide) rfl (fun ls hl => ?_)
    obtain ⟨k, h⟩ := h
    exact C_46 k 0 u3503 f_o_placesOf u3506 u3504 u3505  _ _ (hP.sub [1, 0, 4, 2, 3] rfl) (hD.sub [1, 0, 4, 2, 3] (by decide) rfl) hS _ (lv_sub hl [1, 2, 0] rfl) h
  have C_2 : ∀ (n : Nat) (l2 : Int32) (v_o_foundCount : Int32) (f_o_placesOf : (Nat → Int32)) (f_o_groups : (Nat → Int32)) (f_o_found : (Nat → Int32)) (f_o_behind : (Nat → Int32)) (H : Heap) (locs : List Loc), va_P G vwCl [(a0, .inr (5, [.ref a0_placesOf, .ref a0_found, .int v_o_foundCount, .ref a0_behind, .ref a0_groups, .ref a0_finerGroups, .ref a0_newest, .ref a0_older, .ref a0_sample])), (a0_placesOf, .inl (K 0, 6, .inl f_o_placesOf)), (a0_groups, .inl (K 0, 512, .inl f_o_groups)), (a0_found, .inl (K 0, 512, .inl f_o_found)), (a0_behind, .inl (K 0, 512, .inl f_o_behind))] H → va_D A [(a0, .inr (5, [.ref a0_placesOf, .ref a0_found, .int v_o_foundCount, .ref a0_behind, .ref a0_groups, .ref a0_finerGroups, .ref a0_newest, .ref a0_older, .ref a0_sample])), (a0_placesOf, .inl (K 0, 6, .inl f_o_placesOf)), (a0_groups, .inl (K 0, 512, .inl f_o_groups)), (a0_found, .inl (K 0, 512, .inl f_o_found)), (a0_behind, .inl (K 0, 512, .inl f_o_behind))] → va_S A s.heap H locs → ∀ (ls : Array Slot), lv_has ls 5 [(0, .ref a0), (1, .ref a1), (2, .int l2)] → p_MachineBuilder_findSets_2 v_p1_places v_p1_first v_p1_last f_p1_letters f_p1_followers f_p1_rules post n l2 v_o_foundCount f_o_placesOf f_o_groups f_o_found f_o_behind → W p l e { frames := 3, cells := 0, slots := 0, locals := 66 } s m ([.ref a0, .ref a1] : List Value).toArray below meth c H locs 0 0 Q (F0 m 2 ls []) := by
    intro n
    induction n with
    | zero =>
      intro l2 v_o_foundCount f_o_placesOf f_o_groups f_o_found f_o_behind  H locs hP hD hS ls hl h
      exact False.elim h
    | succ n ih =>
      intro l2 v_o_foundCount f_o_placesOf f_o_groups f_o_found f_o_behind  H locs hP hD hS ls hl h
      refine lv_iload_n hx hb d_MachineBuilder_findSets_2 rfl (lv_at hl 2 rfl) ?_
      refine lv_bipush (v := 6) hx hb d_MachineBuilder_findSets_3 (by decide) ?_
      refine lv_icmp_ge (tgt := 25) hx hb d_MachineBuilder_findSets_5 (by decide) (fun hc => ?_) (fun hc => ?_)
      · replace h := h.1 hc
        exact C_25 v_o_foundCount f_o_placesOf f_o_groups f_o_found f_o_behind  _ _ (hP.sub [0, 1, 2, 3, 4] rfl) (hD.sub [0, 1, 2, 3, 4] (by decide) rfl) hS _ (lv_sub hl [0, 1] rfl) h
      · replace h := h.2 hc
        refine lv_aload_n hx hb d_MachineBuilder_findSets_8 rfl (lv_at hl 0 rfl) ?_
        refine va_get (ci := 5) (v := .ref a0_placesOf) hx hb htg in_MachineBuilder hown hK hP 0 rfl rfl 0 (by decide) (htg _ m_74) (fun _ h9 => h9) rfl d_MachineBuilder_findSets_9 ?_
        refine lv_iload_n hx hb d_MachineBuilder_findSets_12 rfl (lv_at hl 2 rfl) ?_
        refine lv_aload_n hx hb d_MachineBuilder_findSets_13 rfl (lv_at hl 1 rfl) ?_
        refine lv_iload_n hx hb d_MachineBuilder_findSets_14 rfl (lv_at hl 2 rfl) ?_
        have hPc : va_P G vwCl [(a1, .inr (6, [.ref a1_letters, .ref a1_followers, .ref a1_rules, .int v_p1_places, .int v_p1_first, .int v_p1_last])), (a1_letters, .inl (K 0, 9, .inl f_p1_letters))] _ := (gR hR rN hS).sub [0, 1] rfl
        refine vp_callSi (va_Run.run (va_runV (As := [.int l2]) (rest := [.int l2, .ref a0_placesOf]) ⟨hx, hb, hml, hown, htg⟩ (k_Mode_placesOf l G K a1 a1_letters a1_followers a1_rules v_p1_places v_p1_first v_p1_last f_p1_letters l2 _ h) (cwV 1 htg (gGoodV m_100 m_101 m_102 m_7 m_103) rfl rfl rfl (by decide +kernel) ⟨(Nat.le_of_ble_eq_true rfl), (Nat.le_of_ble_eq_true rfl)⟩) (gS_preV (ci := 6) (q0 := 0) hK hN hPc rfl rfl) rfl rfl hl.1 rfl (lv_room (Nat.le_of_ble_eq_true rfl)) d_MachineBuilder_findSets_15 ⟨(Nat.le_of_ble_eq_true rfl), (Nat.le_of_ble_eq_true rfl)⟩)) (fun r1201 h => ?_)
        obtain ⟨hin, h⟩ := h
        refine va_iast hx hb hK hP hD hS 1 0 rfl rfl hin d_MachineBuilder_findSets_18 (fun H locs hP hD hS => ?_)
        have hP : va_P G vwCl [(a0, .inr (5, [.ref a0_placesOf, .ref a0_found, .int v_o_foundCount, .ref a0_behind, .ref a0_groups, .ref a0_finerGroups, .ref a0_newest, .ref a0_older, .ref a0_sample])), (a0_placesOf, .inl (K 0, 6, .inl (upd f_o_placesOf l2.toNatClampNeg r1201))), (a0_groups, .inl (K 0, 512, .inl f_o_groups)), (a0_found, .inl (K 0, 512, .inl f_o_found)), (a0_behind, .inl (K 0, 512, .inl f_o_behind))] H := hP
        have hD : va_D A [(a0, .inr (5, [.ref a0_placesOf, .ref a0_found, .int v_o_foundCount, .ref a0_behind, .ref a0_groups, .ref a0_finerGroups, .ref a0_newest, .ref a0_older, .ref a0_sample])), (a0_placesOf, .inl (K 0, 6, .inl (upd f_o_placesOf l2.toNatClampNeg r1201))), (a0_groups, .inl (K 0, 512, .inl f_o_groups)), (a0_found, .inl (K 0, 512, .inl f_o_found)), (a0_behind, .inl (K 0, 512, .inl f_o_behind))] := hD
        refine lv_iinc (v := (l2 + 1)) (lv' := [(2, .int (l2 + 1)), (0, .ref a0), (1, .ref a1)]) hx hb d_MachineBuilder_findSets_19 hl (k := 2) rfl (by first | rfl | decide) (by decide) rfl (fun ls hl => ?_)
        refine lv_goto (tgt := 2) hx hb d_MachineBuilder_findSets_22 (by decide) ?_
        exact ih (l2 + 1) v_o_foundCount (upd f_o_placesOf l2.toNatClampNeg r1201) f_o_groups f_o_found f_o_behind  _ _ (hP.sub [0, 1, 2, 3, 4] rfl) (hD.sub [0, 1, 2, 3, 4] (by decide) rfl) hS _ (lv_sub hl [1, 2, 0] rfl) h
  refine lv_iconst (v := 0) hx hb d_MachineBuilder_findSets_0 (by decide) ?_
  refine lv_istore_n (lv' := [(2, .int 0), (0, .ref a0), (1, .ref a1)]) hx hb d_MachineBuilder_findSets_1 rfl hl (by decide) rfl (fun ls hl => ?_)
  obtain ⟨k, h⟩ := h
  exact C_2 k 0 v_o_foundCount f_o_placesOf f_o_groups f_o_found f_o_behind  _ _ (hP.sub [0, 1, 2, 3, 4] rfl) (hD.sub [0, 1, 2, 3, 4] (by decide) rfl) hS _ (lv_sub hl [1, 2, 0] rfl) h
def p_MachineBuilder_groupAfter (f_o_behind : (Nat → Int32)) (f_o_placesOf : (Nat → Int32)) (f_o_groups : (Nat → Int32)) (x1 : Int32) (x2 : Int32) (post : Int32 → Prop) : Prop := (vp_in x1 512 ∧ (vp_in x2 6 ∧ ((¬ ((f_o_behind x1.toNatClampNeg) &&& (f_o_placesOf x2.toNatClampNeg)) = 0 → (vp_in ((f_o_behind x1.toNatClampNeg) &&& (f_o_placesOf x2.toNatClampNeg)) 512 ∧ (post (f_o_groups ((f_o_behind x1.toNatClampNeg) &&& (f_o_placesOf x2.toNatClampNeg)).toNatClampNeg)))) ∧ (((f_o_behind x1.toNatClampNeg) &&& (f_o_placesOf x2.toNatClampNeg)) = 0 → (post (-1))))))
set_option maxHeartbeats 4000000 in
set_option maxRecDepth 100000 in
theorem k_MachineBuilder_groupAfter (l : Launch) (G : va_G) (K : Nat → ClassId) (a0 a0_behind a0_placesOf a0_groups a0_found a0_finerGroups a0_newest a0_older a0_sample : Nat) (v_o_foundCount : Int32) (f_o_behind : (Nat → Int32)) (f_o_placesOf : (Nat → Int32)) (f_o_groups : (Nat → Int32)) (x1 : Int32) (x2 : Int32) (post : Int32 → Prop) (h : p_MachineBuilder_groupAfter f_o_behind f_o_placesOf f_o_groups x1 x2 post) : MSi l y_MachineBuilder_groupAfter (.code y_MachineBuilder_groupAfter c_MachineBuilder_groupAfter 4 (some .int)) { frames := 0, cells := 0, slots := 0, locals := 0 } G K [(a0, .inr (5, [.ref a0_placesOf, .ref a0_found, .int v_o_foundCount, .ref a0_behind, .ref a0_groups, .ref a0_finerGroups, .ref a0_newest, .ref a0_older, .ref a0_sample])), (a0_behind, .inl (K 0, 512, .inl f_o_behind)), (a0_placesOf, .inl (K 0, 6, .inl f_o_placesOf)), (a0_groups, .inl (K 0, 512, .inl f_o_groups))] [.ref a0, .int x1, .int x2] post := by
  refine g_metSi (cc := c_MachineBuilder_groupAfter) (maxL := 4) (ret := some .int) (rt := .int) (by decide) rfl rfl (Nat.le_of_ble_eq_true rfl) ?_
  intro p e s m below meth c Q hx hb hml hown htg hK hN hP hret ls hl
  have hl : lv_has ls 4 [(0, .ref a0), (1, .int x1), (2, .int x2)] := hl
  refine lv_aload_n hx hb d_MachineBuilder_groupAfter_0 rfl (lv_at hl 0 rfl) ?_
  refine va_get (ci := 5) (v := .ref a0_behind) hx hb htg in_MachineBuilder hown hK hP 0 rfl rfl 3 (by decide) (htg _ m_77) (fun _ h9 => h9) rfl d_MachineBuilder_groupAfter_1 ?_
  refine lv_iload_n hx hb d_MachineBuilder_groupAfter_4 rfl (lv_at hl 1 rfl) ?_
  obtain ⟨hin, h⟩ := h
  refine va_iald hx hb hK hP 1 0 rfl rfl hin d_MachineBuilder_groupAfter_5 ?_
  refine lv_aload_n hx hb d_MachineBuilder_groupAfter_6 rfl (lv_at hl 0 rfl) ?_
  refine va_get (ci := 5) (v := .ref a0_placesOf) hx hb htg in_MachineBuilder hown hK hP 0 rfl rfl 0 (by decide) (htg _ m_74) (fun _ h9 => h9) rfl d_MachineBuilder_groupAfter_7 ?_
  refine lv_iload_n hx hb d_MachineBuilder_groupAfter_10 rfl (lv_at hl 2 rfl) ?_
  obtain ⟨hin, h⟩ := h
  refine va_iald hx hb hK hP 2 0 rfl rfl hin d_MachineBuilder_groupAfter_11 ?_
  refine lv_iand hx hb d_MachineBuilder_groupAfter_12 ?_
  refine lv_istore_n (lv' := [(3, .int ((f_o_behind x1.toNatClampNeg) &&& (f_o_placesOf x2.toNatClampNeg))), (0, .ref a0), (1, .int x1), (2, .int x2)]) hx hb d_MachineBuilder_groupAfter_13 rfl hl (by decide) rfl (fun ls hl => ?_)
  refine lv_iload_n hx hb d_MachineBuilder_groupAfter_14 rfl (lv_at hl 0 rfl) ?_
  refine lv_if_ne (tgt := 22) hx hb d_MachineBuilder_groupAfter_15 (by decide) (fun hc => ?_) (fun hc => ?_)
  · replace h := h.1 hc
    refine lv_aload_n hx hb d_MachineBuilder_groupAfter_22 rfl (lv_at hl 1 rfl) ?_
    refine va_get (ci := 5) (v := .ref a0_groups) hx hb htg in_MachineBuilder hown hK hP 0 rfl rfl 4 (by decide) (htg _ m_78) (fun _ h9 => h9) rfl d_MachineBuilder_groupAfter_23 ?_
    refine lv_iload_n hx hb d_MachineBuilder_groupAfter_26 rfl (lv_at hl 0 rfl) ?_
    obtain ⟨hin, h⟩ := h
    refine va_iald hx hb hK hP 3 0 rfl rfl hin d_MachineBuilder_groupAfter_27 ?_
    exact hret _ _ _ h (vp_nar_int _) d_MachineBuilder_groupAfter_28
  · replace h := h.2 hc
    refine lv_iconst (v := (-1)) hx hb d_MachineBuilder_groupAfter_18 (by decide) ?_
    refine lv_goto (tgt := 28) hx hb d_MachineBuilder_groupAfter_19 (by decide) ?_
    exact hret _ _ _ h (vp_nar_int _) d_MachineBuilder_groupAfter_28
def p_MachineBuilder_goOnAlike_2 (f_o_behind : (Nat → Int32)) (f_o_placesOf : (Nat → Int32)) (f_o_groups : (Nat → Int32)) (x1 : Int32) (x2 : Int32) (post : Int32 → Prop) : Nat → Int32 → Prop
  | 0, _ => False
  | n + 1, l3 => ((6 ≤ l3 → (post 1)) ∧ (¬ 6 ≤ l3 → (p_MachineBuilder_groupAfter f_o_behind f_o_placesOf f_o_groups x1 l3 (fun r1201 => (p_MachineBuilder_groupAfter f_o_behind f_o_placesOf f_o_groups x2 l3 (fun r1202 => ((r1201 = r1202 → (p_MachineBuilder_goOnAlike_2 f_o_behind f_o_placesOf f_o_groups x1 x2 post n (l3 + 1))) ∧ (¬ r1201 = r1202 → (post 0)))))))))
def p_MachineBuilder_goOnAlike (f_o_behind : (Nat → Int32)) (f_o_placesOf : (Nat → Int32)) (f_o_groups : (Nat → Int32)) (x1 : Int32) (x2 : Int32) (post : Int32 → Prop) : Prop := (∃ k, p_MachineBuilder_goOnAlike_2 f_o_behind f_o_placesOf f_o_groups x1 x2 post k 0)
set_option maxHeartbeats 4000000 in
set_option maxRecDepth 100000 in
theorem k_MachineBuilder_goOnAlike (l : Launch) (G : va_G) (K : Nat → ClassId) (a0 a0_behind a0_placesOf a0_groups a0_found a0_finerGroups a0_newest a0_older a0_sample : Nat) (v_o_foundCount : Int32) (f_o_behind : (Nat → Int32)) (f_o_placesOf : (Nat → Int32)) (f_o_groups : (Nat → Int32)) (x1 : Int32) (x2 : Int32) (post : Int32 → Prop) (h : p_MachineBuilder_goOnAlike f_o_behind f_o_placesOf f_o_groups x1 x2 post) : MSi l y_MachineBuilder_goOnAlike (.code y_MachineBuilder_goOnAlike c_MachineBuilder_goOnAlike 4 (some .boolean)) { frames := 1, cells := 0, slots := 0, locals := 23 } G K [(a0, .inr (5, [.ref a0_placesOf, .ref a0_found, .int v_o_foundCount, .ref a0_behind, .ref a0_groups, .ref a0_finerGroups, .ref a0_newest, .ref a0_older, .ref a0_sample])), (a0_behind, .inl (K 0, 512, .inl f_o_behind)), (a0_placesOf, .inl (K 0, 6, .inl f_o_placesOf)), (a0_groups, .inl (K 0, 512, .inl f_o_groups))] [.ref a0, .int x1, .int x2] post := by
  refine g_metSi (cc := c_MachineBuilder_goOnAlike) (maxL := 4) (ret := some .boolean) (rt := .boolean) (by decide) rfl rfl (Nat.le_of_ble_eq_true rfl) ?_
  intro p e s m below meth c Q hx hb hml hown htg hK hN hP hret ls hl
  have hl : lv_has ls 4 [(0, .ref a0), (1, .int x1), (2, .int x2)] := hl
  have C_2 : ∀ (n : Nat) (l3 : Int32) (ls : Array Slot), lv_has ls 4 [(0, .ref a0), (1, .int x1), (2, .int x2), (3, .int l3)] → p_MachineBuilder_goOnAlike_2 f_o_behind f_o_placesOf f_o_groups x1 x2 post n l3 → W p l e { frames := 1, cells := 0, slots := 0, locals := 23 } s m ([.ref a0, .int x1, .int x2] : List Value).toArray below meth c s.heap [] 0 0 Q (F0 m 2 ls []) := by
    intro n
    induction n with
    | zero =>
      intro l3 ls hl h
      exact False.elim h
    | succ n ih =>
      intro l3 ls hl h
      refine lv_iload_n hx hb d_MachineBuilder_goOnAlike_2 rfl (lv_at hl 3 rfl) ?_
      refine lv_bipush (v := 6) hx hb d_MachineBuilder_goOnAlike_3 (by decide) ?_
      refine lv_icmp_ge (tgt := 31) hx hb d_MachineBuilder_goOnAlike_5 (by decide) (fun hc => ?_) (fun hc => ?_)
      · replace h := h.1 hc
        refine lv_iconst (v := 1) hx hb d_MachineBuilder_goOnAlike_31 (by decide) ?_
        exact hret _ _ _ h (by decide +kernel) d_MachineBuilder_goOnAlike_32
      · replace h := h.2 hc
        refine lv_aload_n hx hb d_MachineBuilder_goOnAlike_8 rfl (lv_at hl 0 rfl) ?_
        refine lv_iload_n hx hb d_MachineBuilder_goOnAlike_9 rfl (lv_at hl 1 rfl) ?_
        refine lv_iload_n hx hb d_MachineBuilder_goOnAlike_10 rfl (lv_at hl 3 rfl) ?_
        have hPc : va_P G vwCl [(a0, .inr (5, [.ref a0_placesOf, .ref a0_found, .int v_o_foundCount, .ref a0_behind, .ref a0_groups, .ref a0_finerGroups, .ref a0_newest, .ref a0_older, .ref a0_sample])), (a0_behind, .inl (K 0, 512, .inl f_o_behind)), (a0_placesOf, .inl (K 0, 6, .inl f_o_placesOf)), (a0_groups, .inl (K 0, 512, .inl f_o_groups))] _ := hP.sub [0, 1, 2, 3] rfl
        refine vp_callSi (va_Run.run (va_runV (As := [.int x1, .int l3]) (rest := []) ⟨hx, hb, hml, hown, htg⟩ (k_MachineBuilder_groupAfter l G K a0 a0_behind a0_placesOf a0_groups a0_found a0_finerGroups a0_newest a0_older a0_sample v_o_foundCount f_o_behind f_o_placesOf f_o_groups x1 l3 _ h) (cwV 2 htg (gGoodV m_129 m_130 m_852 m_6 m_131) rfl rfl rfl (by decide +kernel) ⟨(Nat.le_of_ble_eq_true rfl), (Nat.le_of_ble_eq_true rfl)⟩) (gS_preV (ci := 5) (q0 := 0) hK hN hPc rfl rfl) rfl rfl hl.1 rfl (lv_room (Nat.le_of_ble_eq_true rfl)) d_MachineBuilder_goOnAlike_11 ⟨(Nat.le_of_ble_eq_true rfl), (Nat.le_of_ble_eq_true rfl)⟩)) (fun r1201 h => ?_)
        refine lv_aload_n hx hb d_MachineBuilder_goOnAlike_14 rfl (lv_at hl 0 rfl) ?_
        refine lv_iload_n hx hb d_MachineBuilder_goOnAlike_15 rfl (lv_at hl 2 rfl) ?_
        refine lv_iload_n hx hb d_MachineBuilder_goOnAlike_16 rfl (lv_at hl 3 rfl) ?_
        have hPc : va_P G vwCl [(a0, .inr (5, [.ref a0_placesOf, .ref a0_found, .int v_o_foundCount, .ref a0_behind, .ref a0_groups, .ref a0_finerGroups, .ref a0_newest, .ref a0_older, .ref a0_sample])), (a0_behind, .inl (K 0, 512, .inl f_o_behind)), (a0_placesOf, .inl (K 0, 6, .inl f_o_placesOf)), (a0_groups, .inl (K 0, 512, .inl f_o_groups))] _ := hP.sub [0, 1, 2, 3] rfl
        refine vp_callSi (va_Run.run (va_runV (As := [.int x2, .int l3]) (rest := [.int r1201]) ⟨hx, hb, hml, hown, htg⟩ (k_MachineBuilder_groupAfter l G K a0 a0_behind a0_placesOf a0_groups a0_found a0_finerGroups a0_newest a0_older a0_sample v_o_foundCount f_o_behind f_o_placesOf f_o_groups x2 l3 _ h) (cwV 2 htg (gGoodV m_129 m_130 m_852 m_6 m_131) rfl rfl rfl (by decide +kernel) ⟨(Nat.le_of_ble_eq_true rfl), (Nat.le_of_ble_eq_true rfl)⟩) (gS_preV (ci := 5) (q0 := 0) hK hN hPc rfl rfl) rfl rfl hl.1 rfl (lv_room (Nat.le_of_ble_eq_true rfl)) d_MachineBuilder_goOnAlike_17 ⟨(Nat.le_of_ble_eq_true rfl), (Nat.le_of_ble_eq_true rfl)⟩)) (fun r1202 h => ?_)
        refine lv_icmp_eq (tgt := 25) hx hb d_MachineBuilder_goOnAlike_20 (by decide) (fun hc => ?_) (fun hc => ?_)
        · replace h := h.1 hc
          refine lv_iinc (v := (l3 + 1)) (lv' := [(3, .int (l3 + 1)), (0, .ref a0), (1, .int x1), (2, .int x2)]) hx hb d_MachineBuilder_goOnAlike_25 hl (k := 3) rfl (by first | rfl | decide) (by decide) rfl (fun ls hl => ?_)
          refine lv_goto (tgt := 2) hx hb d_MachineBuilder_goOnAlike_28 (by decide) ?_
          exact ih (l3 + 1) _ (lv_sub hl [1, 2, 3, 0] rfl) h
        · replace h := h.2 hc
          refine lv_iconst (v := 0) hx hb d_MachineBuilder_goOnAlike_23 (by decide) ?_
          exact hret _ _ _ h (by decide +kernel) d_MachineBuilder_goOnAlike_24
  refine lv_iconst (v := 0) hx hb d_MachineBuilder_goOnAlike_0 (by decide) ?_
  refine lv_istore_n (lv' := [(3, .int 0), (0, .ref a0), (1, .int x1), (2, .int x2)]) hx hb d_MachineBuilder_goOnAlike_1 rfl hl (by decide) rfl (fun ls hl => ?_)
  obtain ⟨k, h⟩ := h
  exact C_2 k 0 _ (lv_sub hl [1, 2, 3, 0] rfl) h
def p_MachineBuilder_homeOf_14 (f_o_groups : (Nat → Int32)) (f_o_sample : (Nat → Int32)) (f_o_behind : (Nat → Int32)) (f_o_placesOf : (Nat → Int32)) (f_o_older : (Nat → Int32)) (x1 : Int32) (post : Int32 → Prop) : Nat → Int32 → Int32 → Prop
  | 0, _, _ => False
  | n + 1, l2, l3 => ((512 ≤ l3 → (post (-1))) ∧ (¬ 512 ≤ l3 → ((l2 = (-1) → (post (-1))) ∧ (¬ l2 = (-1) → (vp_in l2 512 ∧ (p_MachineBuilder_goOnAlike f_o_behind f_o_placesOf f_o_groups x1 (f_o_sample l2.toNatClampNeg) (fun r2401 => ((r2401 = 0 → (vp_in l2 512 ∧ (p_MachineBuilder_homeOf_14 f_o_groups f_o_sample f_o_behind f_o_placesOf f_o_older x1 post n (f_o_older l2.toNatClampNeg) (l3 + 1)))) ∧ (¬ r2401 = 0 → (post l2))))))))))
def p_MachineBuilder_homeOf (f_o_groups : (Nat → Int32)) (f_o_newest : (Nat → Int32)) (f_o_sample : (Nat → Int32)) (f_o_behind : (Nat → Int32)) (f_o_placesOf : (Nat → Int32)) (f_o_older : (Nat → Int32)) (x1 : Int32) (post : Int32 → Prop) : Prop := (vp_in x1 512 ∧ (vp_in (f_o_groups x1.toNatClampNeg) 512 ∧ (∃ k, p_MachineBuilder_homeOf_14 f_o_groups f_o_sample f_o_behind f_o_placesOf f_o_older x1 post k (f_o_newest (f_o_groups x1.toNatClampNeg).toNatClampNeg) 0)))
set_option maxHeartbeats 4000000 in
set_option maxRecDepth 100000 in
theorem k_MachineBuilder_homeOf (l : Launch) (G : va_G) (K : Nat → ClassId) (a0 a0_groups a0_newest a0_sample a0_behind a0_placesOf a0_older a0_found a0_finerGroups : Nat) (v_o_foundCount : Int32) (f_o_groups : (Nat → Int32)) (f_o_newest : (Nat → Int32)) (f_o_sample : (Nat → Int32)) (f_o_behind : (Nat → Int32)) (f_o_placesOf : (Nat → Int32)) (f_o_older : (Nat → Int32)) (x1 : Int32) (post : Int32 → Prop) (h : p_MachineBuilder_homeOf f_o_groups f_o_newest f_o_sample f_o_behind f_o_placesOf f_o_older x1 post) : MSi l y_MachineBuilder_homeOf (.code y_MachineBuilder_homeOf c_MachineBuilder_homeOf 4 (some .int)) { frames := 2, cells := 0, slots := 0, locals := 46 } G K [(a0, .inr (5, [.ref a0_placesOf, .ref a0_found, .int v_o_foundCount, .ref a0_behind, .ref a0_groups, .ref a0_finerGroups, .ref a0_newest, .ref a0_older, .ref a0_sample])), (a0_groups, .inl (K 0, 512, .inl f_o_groups)), (a0_newest, .inl (K 0, 512, .inl f_o_newest)), (a0_sample, .inl (K 0, 512, .inl f_o_sample)), (a0_behind, .inl (K 0, 512, .inl f_o_behind)), (a0_placesOf, .inl (K 0, 6, .inl f_o_placesOf)), (a0_older, .inl (K 0, 512, .inl f_o_older))] [.ref a0, .int x1] post := by
  refine g_metSi (cc := c_MachineBuilder_homeOf) (maxL := 4) (ret := some .int) (rt := .int) (by decide) rfl rfl (Nat.le_of_ble_eq_true rfl) ?_
  intro p e s m below meth c Q hx hb hml hown htg hK hN hP hret ls hl
  have hl : lv_has ls 4 [(0, .ref a0), (1, .int x1)] := hl
  have C_14 : ∀ (n : Nat) (l2 : Int32) (l3 : Int32) (ls : Array Slot), lv_has ls 4 [(0, .ref a0), (1, .int x1), (2, .int l2), (3, .int l3)] → p_MachineBuilder_homeOf_14 f_o_groups f_o_sample f_o_behind f_o_placesOf f_o_older x1 post n l2 l3 → W p l e { frames := 2, cells := 0, slots := 0, locals := 46 } s m ([.ref a0, .int x1] : List Value).toArray below meth c s.heap [] 0 0 Q (F0 m 14 ls []) := by
    intro n
    induction n with
    | zero =>
      intro l2 l3 ls hl h
      exact False.elim h
    | succ n ih =>
      intro l2 l3 ls hl h
      refine lv_iload_n hx hb d_MachineBuilder_homeOf_14 rfl (lv_at hl 3 rfl) ?_
      refine lv_sipush (v := 512) hx hb d_MachineBuilder_homeOf_15 (by decide) ?_
      refine lv_icmp_ge (tgt := 55) hx hb d_MachineBuilder_homeOf_18 (by decide) (fun hc => ?_) (fun hc => ?_)
      · replace h := h.1 hc
        refine lv_iconst (v := (-1)) hx hb d_MachineBuilder_homeOf_55 (by decide) ?_
        exact hret _ _ _ h (vp_nar_int _) d_MachineBuilder_homeOf_56
      · replace h := h.2 hc
        refine lv_iload_n hx hb d_MachineBuilder_homeOf_21 rfl (lv_at hl 2 rfl) ?_
        refine lv_iconst (v := (-1)) hx hb d_MachineBuilder_homeOf_22 (by decide) ?_
        refine lv_icmp_eq (tgt := 55) hx hb d_MachineBuilder_homeOf_23 (by decide) (fun hc => ?_) (fun hc => ?_)
        · replace h := h.1 hc
          refine lv_iconst (v := (-1)) hx hb d_MachineBuilder_homeOf_55 (by decide) ?_
          exact hret _ _ _ h (vp_nar_int _) d_MachineBuilder_homeOf_56
        · replace h := h.2 hc
          refine lv_aload_n hx hb d_MachineBuilder_homeOf_26 rfl (lv_at hl 0 rfl) ?_
          refine lv_iload_n hx hb d_MachineBuilder_homeOf_27 rfl (lv_at hl 1 rfl) ?_
          refine lv_aload_n hx hb d_MachineBuilder_homeOf_28 rfl (lv_at hl 0 rfl) ?_
          refine va_get (ci := 5) (v := .ref a0_sample) hx hb htg in_MachineBuilder hown hK hP 0 rfl rfl 8 (by decide) (htg _ m_82) (fun _ h9 => h9) rfl d_MachineBuilder_homeOf_29 ?_
          refine lv_iload_n hx hb d_MachineBuilder_homeOf_32 rfl (lv_at hl 2 rfl) ?_
          obtain ⟨hin, h⟩ := h
          refine va_iald hx hb hK hP 3 0 rfl rfl hin d_MachineBuilder_homeOf_33 ?_
          have hPc : va_P G vwCl [(a0, .inr (5, [.ref a0_placesOf, .ref a0_found, .int v_o_foundCount, .ref a0_behind, .ref a0_groups, .ref a0_finerGroups, .ref a0_newest, .ref a0_older, .ref a0_sample])), (a0_behind, .inl (K 0, 512, .inl f_o_behind)), (a0_placesOf, .inl (K 0, 6, .inl f_o_placesOf)), (a0_groups, .inl (K 0, 512, .inl f_o_groups))] _ := hP.sub [0, 4, 5, 1] rfl
          refine vp_callSi (va_Run.run (va_runV (As := [.int x1, .int (f_o_sample l2.toNatClampNeg)]) (rest := []) ⟨hx, hb, hml, hown, htg⟩ (k_MachineBuilder_goOnAlike l G K a0 a0_behind a0_placesOf a0_groups a0_found a0_finerGroups a0_newest a0_older a0_sample v_o_foundCount f_o_behind f_o_placesOf f_o_groups x1 (f_o_sample l2.toNatClampNeg) _ h) (cwV 2 htg (gGoodV m_126 m_127 m_851 m_6 m_128) rfl rfl rfl (by decide +kernel) ⟨(Nat.le_of_ble_eq_true rfl), (Nat.le_of_ble_eq_true rfl)⟩) (gS_preV (ci := 5) (q0 := 0) hK hN hPc rfl rfl) rfl rfl hl.1 rfl (lv_room (Nat.le_of_ble_eq_true rfl)) d_MachineBuilder_homeOf_34 ⟨(Nat.le_of_ble_eq_true rfl), (Nat.le_of_ble_eq_true rfl)⟩)) (fun r2401 h => ?_)
          refine lv_if_eq (tgt := 42) hx hb d_MachineBuilder_homeOf_37 (by decide) (fun hc => ?_) (fun hc => ?_)
          · replace h := h.1 hc
            refine lv_aload_n hx hb d_MachineBuilder_homeOf_42 rfl (lv_at hl 0 rfl) ?_
            refine va_get (ci := 5) (v := .ref a0_older) hx hb htg in_MachineBuilder hown hK hP 0 rfl rfl 7 (by decide) (htg _ m_81) (fun _ h9 => h9) rfl d_MachineBuilder_homeOf_43 ?_
            refine lv_iload_n hx hb d_MachineBuilder_homeOf_46 rfl (lv_at hl 2 rfl) ?_
            obtain ⟨hin, h⟩ := h
            refine va_iald hx hb hK hP 6 0 rfl rfl hin d_MachineBuilder_homeOf_47 ?_
            refine lv_istore_n (lv' := [(2, .int (f_o_older l2.toNatClampNeg)), (0, .ref a0), (1, .int x1), (3, .int l3)]) hx hb d_MachineBuilder_homeOf_48 rfl hl (by decide) rfl (fun ls hl => ?_)
            refine lv_iinc (v := (l3 + 1)) (lv' := [(3, .int (l3 + 1)), (2, .int (f_o_older l2.toNatClampNeg)), (0, .ref a0), (1, .int x1)]) hx hb d_MachineBuilder_homeOf_49 hl (k := 3) rfl (by first | rfl | decide) (by decide) rfl (fun ls hl => ?_)
            refine lv_goto (tgt := 14) hx hb d_MachineBuilder_homeOf_52 (by decide) ?_
            exact ih (f_o_older l2.toNatClampNeg) (l3 + 1) _ (lv_sub hl [2, 3, 1, 0] rfl) h
          · replace h := h.2 hc
            refine lv_iload_n hx hb d_MachineBuilder_homeOf_40 rfl (lv_at hl 2 rfl) ?_
            exact hret _ _ _ h (vp_nar_int _) d_MachineBuilder_homeOf_41
  refine lv_aload_n hx hb d_MachineBuilder_homeOf_0 rfl (lv_at hl 0 rfl) ?_
  refine va_get (ci := 5) (v := .ref a0_newest) hx hb htg in_MachineBuilder hown hK hP 0 rfl rfl 6 (by decide) (htg _ m_80) (fun _ h9 => h9) rfl d_MachineBuilder_homeOf_1 ?_
  refine lv_aload_n hx hb d_MachineBuilder_homeOf_4 rfl (lv_at hl 0 rfl) ?_
  refine va_get (ci := 5) (v := .ref a0_groups) hx hb htg in_MachineBuilder hown hK hP 0 rfl rfl 4 (by decide) (htg _ m_78) (fun _ h9 => h9) rfl d_MachineBuilder_homeOf_5 ?_
  refine lv_iload_n hx hb d_MachineBuilder_homeOf_8 rfl (lv_at hl 1 rfl) ?_
  obtain ⟨hin, h⟩ := h
  refine va_iald hx hb hK hP 1 0 rfl rfl hin d_MachineBuilder_homeOf_9 ?_
  obtain ⟨hin, h⟩ := h
  refine va_iald hx hb hK hP 2 0 rfl rfl hin d_MachineBuilder_homeOf_10 ?_
  refine lv_istore_n (lv' := [(2, .int (f_o_newest (f_o_groups x1.toNatClampNeg).toNatClampNeg)), (0, .ref a0), (1, .int x1)]) hx hb d_MachineBuilder_homeOf_11 rfl hl (by decide) rfl (fun ls hl => ?_)
  refine lv_iconst (v := 0) hx hb d_MachineBuilder_homeOf_12 (by decide) ?_
  refine lv_istore_n (lv' := [(3, .int 0), (2, .int (f_o_newest (f_o_groups x1.toNatClampNeg).toNatClampNeg)), (0, .ref a0), (1, .int x1)]) hx hb d_MachineBuilder_homeOf_13 rfl hl (by decide) rfl (fun ls hl => ?_)
  obtain ⟨k, h⟩ := h
  exact C_14 k (f_o_newest (f_o_groups x1.toNatClampNeg).toNatClampNeg) 0 _ (lv_sub hl [2, 3, 1, 0] rfl) h
def p_MachineBuilder_refine_101 (v_o_foundCount : Int32) (f_o_found : (Nat → Int32)) (post : Int32 → (Nat → Int32) → (Nat → Int32) → (Nat → Int32) → (Nat → Int32) → (Nat → Int32) → Prop) : Nat → Int32 → Int32 → (Nat → Int32) → (Nat → Int32) → (Nat → Int32) → (Nat → Int32) → (Nat → Int32) → Prop
  | 0, _, _, _, _, _, _, _ => False
  | n + 1, l1, l2, f_o_newest, f_o_groups, f_o_sample, f_o_older, f_o_finerGroups => ((v_o_foundCount ≤ l2 → (post l1 f_o_newest f_o_groups f_o_sample f_o_older f_o_finerGroups)) ∧ (¬ v_o_foundCount ≤ l2 → (vp_in l2 512 ∧ (vp_in l2 512 ∧ (vp_in (f_o_found l2.toNatClampNeg) 512 ∧ (vp_in (f_o_found l2.toNatClampNeg) 512 ∧ (p_MachineBuilder_refine_101 v_o_foundCount f_o_found post n l1 (l2 + 1) f_o_newest (upd f_o_groups (f_o_found l2.toNatClampNeg).toNatClampNeg (f_o_finerGroups (f_o_found l2.toNatClampNeg).toNatClampNeg)) f_o_sample f_o_older f_o_finerGroups)))))))
def p_MachineBuilder_refine_99 (v_o_foundCount : Int32) (f_o_found : (Nat → Int32)) (post : Int32 → (Nat → Int32) → (Nat → Int32) → (Nat → Int32) → (Nat → Int32) → (Nat → Int32) → Prop) (l1 : Int32) (f_o_newest : (Nat → Int32)) (f_o_groups : (Nat → Int32)) (f_o_sample : (Nat → Int32)) (f_o_older : (Nat → Int32)) (f_o_finerGroups : (Nat → Int32)) : Prop := (∃ k, p_MachineBuilder_refine_101 v_o_foundCount f_o_found post k l1 0 f_o_newest f_o_groups f_o_sample f_o_older f_o_finerGroups)
def p_MachineBuilder_refine_12 (v_o_foundCount : Int32) (f_o_found : (Nat → Int32)) (f_o_behind : (Nat → Int32)) (f_o_placesOf : (Nat → Int32)) (post : Int32 → (Nat → Int32) → (Nat → Int32) → (Nat → Int32) → (Nat → Int32) → (Nat → Int32) → Prop) : Nat → Int32 → Int32 → (Nat → Int32) → (Nat → Int32) → (Nat → Int32) → (Nat → Int32) → (Nat → Int32) → Prop
  | 0, _, _, _, _, _, _, _ => False
  | n + 1, l1, l2, f_o_newest, f_o_groups, f_o_sample, f_o_older, f_o_finerGroups => ((v_o_foundCount ≤ l2 → (p_MachineBuilder_refine_99 v_o_foundCount f_o_found post l1 f_o_newest f_o_groups f_o_sample f_o_older f_o_finerGroups)) ∧ (¬ v_o_foundCount ≤ l2 → (vp_in l2 512 ∧ (p_MachineBuilder_homeOf f_o_groups f_o_newest f_o_sample f_o_behind f_o_placesOf f_o_older (f_o_found l2.toNatClampNeg) (fun r2201 => ((¬ r2201 = (-1) → (vp_in (f_o_found l2.toNatClampNeg) 512 ∧ (p_MachineBuilder_refine_12 v_o_foundCount f_o_found f_o_behind f_o_placesOf post n l1 (l2 + 1) f_o_newest f_o_groups f_o_sample f_o_older (upd f_o_finerGroups (f_o_found l2.toNatClampNeg).toNatClampNeg r2201)))) ∧ (r2201 = (-1) → (vp_in l1 512 ∧ (vp_in (f_o_found l2.toNatClampNeg) 512 ∧ (vp_in (f_o_groups (f_o_found l2.toNatClampNeg).toNatClampNeg) 512 ∧ (vp_in l1 512 ∧ (vp_in (f_o_found l2.toNatClampNeg) 512 ∧ (vp_in (f_o_groups (f_o_found l2.toNatClampNeg).toNatClampNeg) 512 ∧ (vp_in (f_o_found l2.toNatClampNeg) 512 ∧ (p_MachineBuilder_refine_12 v_o_foundCount f_o_found f_o_behind f_o_placesOf post n (l1 + 1) (l2 + 1) (upd f_o_newest (f_o_groups (f_o_found l2.toNatClampNeg).toNatClampNeg).toNatClampNeg l1) f_o_groups (upd f_o_sample l1.toNatClampNeg (f_o_found l2.toNatClampNeg)) (upd f_o_older l1.toNatClampNeg (f_o_newest (f_o_groups (f_o_found l2.toNatClampNeg).toNatClampNeg).toNatClampNeg)) (upd f_o_finerGroups (f_o_found l2.toNatClampNeg).toNatClampNeg l1))))))))))))))))
def p_MachineBuilder_refine (v_o_foundCount : Int32) (f_o_newest : (Nat → Int32)) (f_o_found : (Nat → Int32)) (f_o_groups : (Nat → Int32)) (f_o_sample : (Nat → Int32)) (f_o_behind : (Nat → Int32)) (f_o_placesOf : (Nat → Int32)) (f_o_older : (Nat → Int32)) (f_o_finerGroups : (Nat → Int32)) (post : Int32 → (Nat → Int32) → (Nat → Int32) → (Nat → Int32) → (Nat → Int32) → (Nat → Int32) → Prop) : Prop := (p_Arrays_fill 512 f_o_newest (-1) (fun u1 => (∃ k, p_MachineBuilder_refine_12 v_o_foundCount f_o_found f_o_behind f_o_placesOf post k 0 0 u1 f_o_groups f_o_sample f_o_older f_o_finerGroups)))
set_option maxHeartbeats 4000000 in
set_option maxRecDepth 100000 in
theorem k_MachineBuilder_refine (l : Launch) (G : va_G) (K : Nat → ClassId) (a0 a0_newest a0_found a0_groups a0_sample a0_behind a0_placesOf a0_older a0_finerGroups : Nat) (sz : Nat) (v_o_foundCount : Int32) (f_o_newest : (Nat → Int32)) (f_o_found : (Nat → Int32)) (f_o_groups : (Nat → Int32)) (f_o_sample : (Nat → Int32)) (f_o_behind : (Nat → Int32)) (f_o_placesOf : (Nat → Int32)) (f_o_older : (Nat → Int32)) (f_o_finerGroups : (Nat → Int32)) (post : Int32 → (Nat → Int32) → (Nat → Int32) → (Nat → Int32) → (Nat → Int32) → (Nat → Int32) → Prop) (h : p_MachineBuilder_refine v_o_foundCount f_o_newest f_o_found f_o_groups f_o_sample f_o_behind f_o_placesOf f_o_older f_o_finerGroups post) : MWi l y_MachineBuilder_refine (.code y_MachineBuilder_refine c_MachineBuilder_refine 5 (some .int)) { frames := 3, cells := 0, slots := 0, locals := 69 } G K [(a0_newest, .inl (K 0, 512, .inl f_o_newest)), (a0_groups, .inl (K 0, 512, .inl f_o_groups)), (a0_sample, .inl (K 0, 512, .inl f_o_sample)), (a0_older, .inl (K 0, 512, .inl f_o_older)), (a0_finerGroups, .inl (K 0, 512, .inl f_o_finerGroups))] [(a0, .inr (5, [.ref a0_placesOf, .ref a0_found, .int v_o_foundCount, .ref a0_behind, .ref a0_groups, .ref a0_finerGroups, .ref a0_newest, .ref a0_older, .ref a0_sample])), (a0_found, .inl (K 0, 512, .inl f_o_found)), (a0_behind, .inl (K 0, 512, .inl f_o_behind)), (a0_placesOf, .inl (K 0, 6, .inl f_o_placesOf))] [.ref a0] sz (fun r (u : (Nat → Int32) × (Nat → Int32) × (Nat → Int32) × (Nat → Int32) × (Nat → Int32)) => post r u.1 u.2.1 u.2.2.1 u.2.2.2.1 u.2.2.2.2) (fun u => [(a0_newest, .inl (K 0, 512, .inl u.1)), (a0_groups, .inl (K 0, 512, .inl u.2.1)), (a0_sample, .inl (K 0, 512, .inl u.2.2.1)), (a0_older, .inl (K 0, 512, .inl u.2.2.2.1)), (a0_finerGroups, .inl (K 0, 512, .inl u.2.2.2.2))]) 0 0 := by
  refine g_metWi (cc := c_MachineBuilder_refine) (maxL := 5) (ret := some .int) (rt := .int) (by decide) rfl rfl (Nat.le_of_ble_eq_true rfl) ?_
  intro p e s m below meth c A Q hx hb hml hown hname htg hK hN hP hD hA hS hR rN hret ls hl
  have hl : lv_has ls 5 [(0, .ref a0)] := hl
  have C_101 : ∀ (n : Nat) (l1 : Int32) (l2 : Int32) (f_o_newest : (Nat → Int32)) (f_o_groups : (Nat → Int32)) (f_o_sample : (Nat → Int32)) (f_o_older : (Nat → Int32)) (f_o_finerGroups : (Nat → Int32)) (H : Heap) (locs : List Loc), va_P G vwCl [(a0_newest, .inl (K 0, 512, .inl f_o_newest)), (a0_groups, .inl (K 0, 512, .inl f_o_groups)), (a0_sample, .inl (K 0, 512, .inl f_o_sample)), (a0_older, .inl (K 0, 512, .inl f_o_older)), (a0_finerGroups, .inl (K 0, 512, .inl f_o_finerGroups))] H → va_D A [(a0_newest, .inl (K 0, 512, .inl f_o_newest)), (a0_groups, .inl (K 0, 512, .inl f_o_groups)), (a0_sample, .inl (K 0, 512, .inl f_o_sample)), (a0_older, .inl (K 0, 512, .inl f_o_older)), (a0_finerGroups, .inl (K 0, 512, .inl f_o_finerGroups))] → va_S A s.heap H locs → ∀ (ls : Array Slot), lv_has ls 5 [(0, .ref a0), (1, .int l1), (2, .int l2)] → p_MachineBuilder_refine_101 v_o_foundCount f_o_found post n l1 l2 f_o_newest f_o_groups f_o_sample f_o_older f_o_finerGroups → W p l e { frames := 3, cells := 0, slots := 0, locals := 69 } s m ([.ref a0] : List Value).toArray below meth c H locs 0 0 Q (F0 m 101 ls []) := by
    intro n
    induction n with
    | zero =>
      intro l1 l2 f_o_newest f_o_groups f_o_sample f_o_older f_o_finerGroups  H locs hP hD hS ls hl h
      exact False.elim h
    | succ n ih =>
      intro l1 l2 f_o_newest f_o_groups f_o_sample f_o_older f_o_finerGroups  H locs hP hD hS ls hl h
      refine lv_iload_n hx hb d_MachineBuilder_refine_101 rfl (lv_at hl 2 rfl) ?_
      refine lv_aload_n hx hb d_MachineBuilder_refine_102 rfl (lv_at hl 0 rfl) ?_
      refine va_get (ci := 5) (v := .int v_o_foundCount) hx hb htg in_MachineBuilder hown hK (gR hR rN hS) 0 rfl rfl 2 (by decide) (htg _ m_76) (fun _ h9 => h9) rfl d_MachineBuilder_refine_103 ?_
      refine lv_icmp_ge (tgt := 137) hx hb d_MachineBuilder_refine_106 (by decide) (fun hc => ?_) (fun hc => ?_)
      · replace h := h.1 hc
        refine lv_iload_n hx hb d_MachineBuilder_refine_137 rfl (lv_at hl 1 rfl) ?_
        exact hret _ (f_o_newest, f_o_groups, f_o_sample, f_o_older, f_o_finerGroups) _ _ _ _ h (vp_nar_int _) (hP.sub [0, 1, 2, 3, 4] rfl) (hD.sub [0, 1, 2, 3, 4] (by decide) rfl) hS d_MachineBuilder_refine_138
      · replace h := h.2 hc
        refine lv_aload_n hx hb d_MachineBuilder_refine_109 rfl (lv_at hl 0 rfl) ?_
        refine va_get (ci := 5) (v := .ref a0_groups) hx hb htg in_MachineBuilder hown hK (gR hR rN hS) 0 rfl rfl 4 (by decide) (htg _ m_78) (fun _ h9 => h9) rfl d_MachineBuilder_refine_110 ?_
        refine lv_aload_n hx hb d_MachineBuilder_refine_113 rfl (lv_at hl 0 rfl) ?_
        refine va_get (ci := 5) (v := .ref a0_found) hx hb htg in_MachineBuilder hown hK (gR hR rN hS) 0 rfl rfl 1 (by decide) (htg _ m_75) (fun _ h9 => h9) rfl d_MachineBuilder_refine_114 ?_
        refine lv_iload_n hx hb d_MachineBuilder_refine_117 rfl (lv_at hl 2 rfl) ?_
        obtain ⟨hin, h⟩ := h
        refine va_iald hx hb hK (gR hR rN hS) 1 0 rfl rfl hin d_MachineBuilder_refine_118 ?_
        refine lv_aload_n hx hb d_MachineBuilder_refine_119 rfl (lv_at hl 0 rfl) ?_
        refine va_get (ci := 5) (v := .ref a0_finerGroups) hx hb htg in_MachineBuilder hown hK (gR hR rN hS) 0 rfl rfl 5 (by decide) (htg _ m_79) (fun _ h9 => h9) rfl d_MachineBuilder_refine_120 ?_
        refine lv_aload_n hx hb d_MachineBuilder_refine_123 rfl (lv_at hl 0 rfl) ?_
        refine va_get (ci := 5) (v := .ref a0_found) hx hb htg in_MachineBuilder hown hK (gR hR rN hS) 0 rfl rfl 1 (by decide) (htg _ m_75) (fun _ h9 => h9) rfl d_MachineBuilder_refine_124 ?_
        refine lv_iload_n hx hb d_MachineBuilder_refine_127 rfl (lv_at hl 2 rfl) ?_
        obtain ⟨hin, h⟩ := h
        refine va_iald hx hb hK (gR hR rN hS) 1 0 rfl rfl hin d_MachineBuilder_refine_128 ?_
        obtain ⟨hin, h⟩ := h
        refine va_iald hx hb hK hP 4 0 rfl rfl hin d_MachineBuilder_refine_129 ?_
        obtain ⟨hin, h⟩ := h
        refine va_iast hx hb hK hP hD hS 1 0 rfl rfl hin d_MachineBuilder_refine_130 (fun H locs hP hD hS => ?_)
        have hP : va_P G vwCl [(a0_newest, .inl (K 0, 512, .inl f_o_newest)), (a0_groups, .inl (K 0, 512, .inl (upd f_o_groups (f_o_found l2.toNatClampNeg).toNatClampNeg (f_o_finerGroups (f_o_found l2.toNatClampNeg).toNatClampNeg)))), (a0_sample, .inl (K 0, 512, .inl f_o_sample)), (a0_older, .inl (K 0, 512, .inl f_o_older)), (a0_finerGroups, .inl (K 0, 512, .inl f_o_finerGroups))] H := hP
        have hD : va_D A [(a0_newest, .inl (K 0, 512, .inl f_o_newest)), (a0_groups, .inl (K 0, 512, .inl (upd f_o_groups (f_o_found l2.toNatClampNeg).toNatClampNeg (f_o_finerGroups (f_o_found l2.toNatClampNeg).toNatClampNeg)))), (a0_sample, .inl (K 0, 512, .inl f_o_sample)), (a0_older, .inl (K 0, 512, .inl f_o_older)), (a0_finerGroups, .inl (K 0, 512, .inl f_o_finerGroups))] := hD
        refine lv_iinc (v := (l2 + 1)) (lv' := [(2, .int (l2 + 1)), (0, .ref a0), (1, .int l1)]) hx hb d_MachineBuilder_refine_131 hl (k := 2) rfl (by first | rfl | decide) (by decide) rfl (fun ls hl => ?_)
        refine lv_goto (tgt := 101) hx hb d_MachineBuilder_refine_134 (by decide) ?_
        exact ih l1 (l2 + 1) f_o_newest (upd f_o_groups (f_o_found l2.toNatClampNeg).toNatClampNeg (f_o_finerGroups (f_o_found l2.toNatClampNeg).toNatClampNeg)) f_o_sample f_o_older f_o_finerGroups  _ _ (hP.sub [0, 1, 2, 3, 4] rfl) (hD.sub [0, 1, 2, 3, 4] (by decide) rfl) hS _ (lv_sub hl [1, 2, 0] rfl) h
  have C_99 : ∀ (l1 : Int32) (f_o_newest : (Nat → Int32)) (f_o_groups : (Nat → Int32)) (f_o_sample : (Nat → Int32)) (f_o_older : (Nat → Int32)) (f_o_finerGroups : (Nat → Int32)) (H : Heap) (locs : List Loc), va_P G vwCl [(a0_newest, .inl (K 0, 512, .inl f_o_newest)), (a0_groups, .inl (K 0, 512, .inl f_o_groups)), (a0_sample, .inl (K 0, 512, .inl f_o_sample)), (a0_older, .inl (K 0, 512, .inl f_o_older)), (a0_finerGroups, .inl (K 0, 512, .inl f_o_finerGroups))] H → va_D A [(a0_newest, .inl (K 0, 512, .inl f_o_newest)), (a0_groups, .inl (K 0, 512, .inl f_o_groups)), (a0_sample, .inl (K 0, 512, .inl f_o_sample)), (a0_older, .inl (K 0, 512, .inl f_o_older)), (a0_finerGroups, .inl (K 0, 512, .inl f_o_finerGroups))] → va_S A s.heap H locs → ∀ (ls : Array Slot), lv_has ls 5 [(0, .ref a0), (1, .int l1)] → p_MachineBuilder_refine_99 v_o_foundCount f_o_found post l1 f_o_newest f_o_groups f_o_sample f_o_older f_o_finerGroups → W p l e { frames := 3, cells := 0, slots := 0, locals := 69 } s m ([.ref a0] : List Value).toArray below meth c H locs 0 0 Q (F0 m 99 ls []) := by
    intro  l1 f_o_newest f_o_groups f_o_sample f_o_older f_o_finerGroups  H locs hP hD hS ls hl h
    refine lv_iconst (v := 0) hx hb d_MachineBuilder_refine_99 (by decide) ?_
    refine lv_istore_n (lv' := [(2, .int 0), (0, .ref a0), (1, .int l1)]) hx hb d_MachineBuilder_refine_100 rfl hl (by decide) rfl (fun ls hl => ?_)
    obtain ⟨k, h⟩ := h
    exact C_101 k l1 0 f_o_newest f_o_groups f_o_sample f_o_older f_o_finerGroups  _ _ (hP.sub [0, 1, 2, 3, 4] rfl) (hD.sub [0, 1, 2, 3, 4] (by decide) rfl) hS _ (lv_sub hl [1, 2, 0] rfl) h
  have C_12 : ∀ (n : Nat) (l1 : Int32) (l2 : Int32) (f_o_newest : (Nat → Int32)) (f_o_groups : (Nat → Int32)) (f_o_sample : (Nat → Int32)) (f_o_older : (Nat → Int32)) (f_o_finerGroups : (Nat → Int32)) (H : Heap) (locs : List Loc), va_P G vwCl [(a0_newest, .inl (K 0, 512, .inl f_o_newest)), (a0_groups, .inl (K 0, 512, .inl f_o_groups)), (a0_sample, .inl (K 0, 512, .inl f_o_sample)), (a0_older, .inl (K 0, 512, .inl f_o_older)), (a0_finerGroups, .inl (K 0, 512, .inl f_o_finerGroups))] H → va_D A [(a0_newest, .inl (K 0, 512, .inl f_o_newest)), (a0_groups, .inl (K 0, 512, .inl f_o_groups)), (a0_sample, .inl (K 0, 512, .inl f_o_sample)), (a0_older, .inl (K 0, 512, .inl f_o_older)), (a0_finerGroups, .inl (K 0, 512, .inl f_o_finerGroups))] → va_S A s.heap H locs → ∀ (ls : Array Slot), lv_has ls 5 [(0, .ref a0), (1, .int l1), (2, .int l2)] → p_MachineBuilder_refine_12 v_o_foundCount f_o_found f_o_behind f_o_placesOf post n l1 l2 f_o_newest f_o_groups f_o_sample f_o_older f_o_finerGroups → W p l e { frames := 3, cells := 0, slots := 0, locals := 69 } s m ([.ref a0] : List Value).toArray below meth c H locs 0 0 Q (F0 m 12 ls []) := by
    intro n
    induction n with
    | zero =>
      intro l1 l2 f_o_newest f_o_groups f_o_sample f_o_older f_o_finerGroups  H locs hP hD hS ls hl h
      exact False.elim h
    | succ n ih =>
      intro l1 l2 f_o_newest f_o_groups f_o_sample f_o_older f_o_finerGroups  H locs hP hD hS ls hl h
      refine lv_iload_n hx hb d_MachineBuilder_refine_12 rfl (lv_at hl 2 rfl) ?_
      refine lv_aload_n hx hb d_MachineBuilder_refine_13 rfl (lv_at hl 0 rfl) ?_
      refine va_get (ci := 5) (v := .int v_o_foundCount) hx hb htg in_MachineBuilder hown hK (gR hR rN hS) 0 rfl rfl 2 (by decide) (htg _ m_76) (fun _ h9 => h9) rfl d_MachineBuilder_refine_14 ?_
      refine lv_icmp_ge (tgt := 99) hx hb d_MachineBuilder_refine_17 (by decide) (fun hc => ?_) (fun hc => ?_)
      · replace h := h.1 hc
        exact C_99 l1 f_o_newest f_o_groups f_o_sample f_o_older f_o_finerGroups  _ _ (hP.sub [0, 1, 2, 3, 4] rfl) (hD.sub [0, 1, 2, 3, 4] (by decide) rfl) hS _ (lv_sub hl [0, 1] rfl) h
      · replace h := h.2 hc
        refine lv_aload_n hx hb d_MachineBuilder_refine_20 rfl (lv_at hl 0 rfl) ?_
        refine va_get (ci := 5) (v := .ref a0_found) hx hb htg in_MachineBuilder hown hK (gR hR rN hS) 0 rfl rfl 1 (by decide) (htg _ m_75) (fun _ h9 => h9) rfl d_MachineBuilder_refine_21 ?_
        refine lv_iload_n hx hb d_MachineBuilder_refine_24 rfl (lv_at hl 2 rfl) ?_
        obtain ⟨hin, h⟩ := h
        refine va_iald hx hb hK (gR hR rN hS) 1 0 rfl rfl hin d_MachineBuilder_refine_25 ?_
        refine lv_istore_n (lv' := [(3, .int (f_o_found l2.toNatClampNeg)), (0, .ref a0), (1, .int l1), (2, .int l2)]) hx hb d_MachineBuilder_refine_26 rfl hl (by decide) rfl (fun ls hl => ?_)
        refine lv_aload_n hx hb d_MachineBuilder_refine_27 rfl (lv_at hl 1 rfl) ?_
        refine lv_iload_n hx hb d_MachineBuilder_refine_28 rfl (lv_at hl 0 rfl) ?_
        have hPc : va_P G vwCl [(a0, .inr (5, [.ref a0_placesOf, .ref a0_found, .int v_o_foundCount, .ref a0_behind, .ref a0_groups, .ref a0_finerGroups, .ref a0_newest, .ref a0_older, .ref a0_sample])), (a0_groups, .inl (K 0, 512, .inl f_o_groups)), (a0_newest, .inl (K 0, 512, .inl f_o_newest)), (a0_sample, .inl (K 0, 512, .inl f_o_sample)), (a0_behind, .inl (K 0, 512, .inl f_o_behind)), (a0_placesOf, .inl (K 0, 6, .inl f_o_placesOf)), (a0_older, .inl (K 0, 512, .inl f_o_older))] _ := (hP.app (gR hR rN hS)).sub [5, 1, 0, 2, 7, 8, 3] rfl
        refine vp_callSi (va_Run.run (va_runV (As := [.int (f_o_found l2.toNatClampNeg)]) (rest := []) ⟨hx, hb, hml, hown, htg⟩ (k_MachineBuilder_homeOf l G K a0 a0_groups a0_newest a0_sample a0_behind a0_placesOf a0_older a0_found a0_finerGroups v_o_foundCount f_o_groups f_o_newest f_o_sample f_o_behind f_o_placesOf f_o_older (f_o_found l2.toNatClampNeg) _ h) (cwV 1 htg (gGoodV m_123 m_124 m_853 m_6 m_125) rfl rfl rfl (by decide +kernel) ⟨(Nat.le_of_ble_eq_true rfl), (Nat.le_of_ble_eq_true rfl)⟩) (gS_preV (ci := 5) (q0 := 0) hK hN hPc rfl rfl) rfl rfl hl.1 rfl (lv_room (Nat.le_of_ble_eq_true rfl)) d_MachineBuilder_refine_29 ⟨(Nat.le_of_ble_eq_true rfl), (Nat.le_of_ble_eq_true rfl)⟩)) (fun r2201 h => ?_)
        refine lv_istore (lv' := [(4, .int r2201), (3, .int (f_o_found l2.toNatClampNeg)), (0, .ref a0), (1, .int l1), (2, .int l2)]) hx hb d_MachineBuilder_refine_32 hl (by decide) rfl (fun ls hl => ?_)
        refine lv_iload hx hb d_MachineBuilder_refine_34 (lv_at hl 0 rfl) ?_
        refine lv_iconst (v := (-1)) hx hb d_MachineBuilder_refine_36 (by decide) ?_
        refine lv_icmp_ne (tgt := 85) hx hb d_MachineBuilder_refine_37 (by decide) (fun hc => ?_) (fun hc => ?_)
        · replace h := h.1 hc
          refine lv_aload_n hx hb d_MachineBuilder_refine_85 rfl (lv_at hl 2 rfl) ?_
          refine va_get (ci := 5) (v := .ref a0_finerGroups) hx hb htg in_MachineBuilder hown hK (gR hR rN hS) 0 rfl rfl 5 (by decide) (htg _ m_79) (fun _ h9 => h9) rfl d_MachineBuilder_refine_86 ?_
          refine lv_iload_n hx hb d_MachineBuilder_refine_89 rfl (lv_at hl 1 rfl) ?_
          refine lv_iload hx hb d_MachineBuilder_refine_90 (lv_at hl 0 rfl) ?_
          obtain ⟨hin, h⟩ := h
          refine va_iast hx hb hK hP hD hS 4 0 rfl rfl hin d_MachineBuilder_refine_92 (fun H locs hP hD hS => ?_)
          have hP : va_P G vwCl [(a0_newest, .inl (K 0, 512, .inl f_o_newest)), (a0_groups, .inl (K 0, 512, .inl f_o_groups)), (a0_sample, .inl (K 0, 512, .inl f_o_sample)), (a0_older, .inl (K 0, 512, .inl f_o_older)), (a0_finerGroups, .inl (K 0, 512, .inl (upd f_o_finerGroups (f_o_found l2.toNatClampNeg).toNatClampNeg r2201)))] H := hP
          have hD : va_D A [(a0_newest, .inl (K 0, 512, .inl f_o_newest)), (a0_groups, .inl (K 0, 512, .inl f_o_groups)), (a0_sample, .inl (K 0, 512, .inl f_o_sample)), (a0_older, .inl (K 0, 512, .inl f_o_older)), (a0_finerGroups, .inl (K 0, 512, .inl (upd f_o_finerGroups (f_o_found l2.toNatClampNeg).toNatClampNeg r2201)))] := hD
          refine lv_iinc (v := (l2 + 1)) (lv' := [(2, .int (l2 + 1)), (4, .int r2201), (3, .int (f_o_found l2.toNatClampNeg)), (0, .ref a0), (1, .int l1)]) hx hb d_MachineBuilder_refine_93 hl (k := 4) rfl (by first | rfl | decide) (by decide) rfl (fun ls hl => ?_)
          refine lv_goto (tgt := 12) hx hb d_MachineBuilder_refine_96 (by decide) ?_
          exact ih l1 (l2 + 1) f_o_newest f_o_groups f_o_sample f_o_older (upd f_o_finerGroups (f_o_found l2.toNatClampNeg).toNatClampNeg r2201)  _ _ (hP.sub [0, 1, 2, 3, 4] rfl) (hD.sub [0, 1, 2, 3, 4] (by decide) rfl) hS _ (lv_sub hl [3, 4, 0] rfl) h
        · replace h := h.2 hc
          refine lv_iload_n hx hb d_MachineBuilder_refine_40 rfl (lv_at hl 3 rfl) ?_
          refine lv_istore (lv' := [(4, .int l1), (3, .int (f_o_found l2.toNatClampNeg)), (0, .ref a0), (1, .int l1), (2, .int l2)]) hx hb d_MachineBuilder_refine_41 hl (by decide) rfl (fun ls hl => ?_)
          refine lv_iinc (v := (l1 + 1)) (lv' := [(1, .int (l1 + 1)), (4, .int l1), (3, .int (f_o_found l2.toNatClampNeg)), (0, .ref a0), (2, .int l2)]) hx hb d_MachineBuilder_refine_43 hl (k := 3) rfl (by first | rfl | decide) (by decide) rfl (fun ls hl => ?_)
          refine lv_aload_n hx hb d_MachineBuilder_refine_46 rfl (lv_at hl 3 rfl) ?_
          refine va_get (ci := 5) (v := .ref a0_sample) hx hb htg in_MachineBuilder hown hK (gR hR rN hS) 0 rfl rfl 8 (by decide) (htg _ m_82) (fun _ h9 => h9) rfl d_MachineBuilder_refine_47 ?_
          refine lv_iload hx hb d_MachineBuilder_refine_50 (lv_at hl 1 rfl) ?_
          refine lv_iload_n hx hb d_MachineBuilder_refine_52 rfl (lv_at hl 2 rfl) ?_
          obtain ⟨hin, h⟩ := h
          refine va_iast hx hb hK hP hD hS 2 0 rfl rfl hin d_MachineBuilder_refine_53 (fun H locs hP hD hS => ?_)
          have hP : va_P G vwCl [(a0_newest, .inl (K 0, 512, .inl f_o_newest)), (a0_groups, .inl (K 0, 512, .inl f_o_groups)), (a0_sample, .inl (K 0, 512, .inl (upd f_o_sample l1.toNatClampNeg (f_o_found l2.toNatClampNeg)))), (a0_older, .inl (K 0, 512, .inl f_o_older)), (a0_finerGroups, .inl (K 0, 512, .inl f_o_finerGroups))] H := hP
          have hD : va_D A [(a0_newest, .inl (K 0, 512, .inl f_o_newest)), (a0_groups, .inl (K 0, 512, .inl f_o_groups)), (a0_sample, .inl (K 0, 512, .inl (upd f_o_sample l1.toNatClampNeg (f_o_found l2.toNatClampNeg)))), (a0_older, .inl (K 0, 512, .inl f_o_older)), (a0_finerGroups, .inl (K 0, 512, .inl f_o_finerGroups))] := hD
          refine lv_aload_n hx hb d_MachineBuilder_refine_54 rfl (lv_at hl 3 rfl) ?_
          refine va_get (ci := 5) (v := .ref a0_older) hx hb htg in_MachineBuilder hown hK (gR hR rN hS) 0 rfl rfl 7 (by decide) (htg _ m_81) (fun _ h9 => h9) rfl d_MachineBuilder_refine_55 ?_
          refine lv_iload hx hb d_MachineBuilder_refine_58 (lv_at hl 1 rfl) ?_
          refine lv_aload_n hx hb d_MachineBuilder_refine_60 rfl (lv_at hl 3 rfl) ?_
          refine va_get (ci := 5) (v := .ref a0_newest) hx hb htg in_MachineBuilder hown hK (gR hR rN hS) 0 rfl rfl 6 (by decide) (htg _ m_80) (fun _ h9 => h9) rfl d_MachineBuilder_refine_61 ?_
          refine lv_aload_n hx hb d_MachineBuilder_refine_64 rfl (lv_at hl 3 rfl) ?_
          refine va_get (ci := 5) (v := .ref a0_groups) hx hb htg in_MachineBuilder hown hK (gR hR rN hS) 0 rfl rfl 4 (by decide) (htg _ m_78) (fun _ h9 => h9) rfl d_MachineBuilder_refine_65 ?_
          refine lv_iload_n hx hb d_MachineBuilder_refine_68 rfl (lv_at hl 2 rfl) ?_
          obtain ⟨hin, h⟩ := h
          refine va_iald hx hb hK hP 1 0 rfl rfl hin d_MachineBuilder_refine_69 ?_
          obtain ⟨hin, h⟩ := h
          refine va_iald hx hb hK hP 0 0 rfl rfl hin d_MachineBuilder_refine_70 ?_
          obtain ⟨hin, h⟩ := h
          refine va_iast hx hb hK hP hD hS 3 0 rfl rfl hin d_MachineBuilder_refine_71 (fun H locs hP hD hS => ?_)
          have hP : va_P G vwCl [(a0_newest, .inl (K 0, 512, .inl f_o_newest)), (a0_groups, .inl (K 0, 512, .inl f_o_groups)), (a0_sample, .inl (K 0, 512, .inl (upd f_o_sample l1.toNatClampNeg (f_o_found l2.toNatClampNeg)))), (a0_older, .inl (K 0, 512, .inl (upd f_o_older l1.toNatClampNeg (f_o_newest (f_o_groups (f_o_found l2.toNatClampNeg).toNatClampNeg).toNatClampNeg)))), (a0_finerGroups, .inl (K 0, 512, .inl f_o_finerGroups))] H := hP
          have hD : va_D A [(a0_newest, .inl (K 0, 512, .inl f_o_newest)), (a0_groups, .inl (K 0, 512, .inl f_o_groups)), (a0_sample, .inl (K 0, 512, .inl (upd f_o_sample l1.toNatClampNeg (f_o_found l2.toNatClampNeg)))), (a0_older, .inl (K 0, 512, .inl (upd f_o_older l1.toNatClampNeg (f_o_newest (f_o_groups (f_o_found l2.toNatClampNeg).toNatClampNeg).toNatClampNeg)))), (a0_finerGroups, .inl (K 0, 512, .inl f_o_finerGroups))] := hD
          refine lv_aload_n hx hb d_MachineBuilder_refine_72 rfl (lv_at hl 3 rfl) ?_
          refine va_get (ci := 5) (v := .ref a0_newest) hx hb htg in_MachineBuilder hown hK (gR hR rN hS) 0 rfl rfl 6 (by decide) (htg _ m_80) (fun _ h9 => h9) rfl d_MachineBuilder_refine_73 ?_
          refine lv_aload_n hx hb d_MachineBuilder_refine_76 rfl (lv_at hl 3 rfl) ?_
          refine va_get (ci := 5) (v := .ref a0_groups) hx hb htg in_MachineBuilder hown hK (gR hR rN hS) 0 rfl rfl 4 (by decide) (htg _ m_78) (fun _ h9 => h9) rfl d_MachineBuilder_refine_77 ?_
          refine lv_iload_n hx hb d_MachineBuilder_refine_80 rfl (lv_at hl 2 rfl) ?_
          obtain ⟨hin, h⟩ := h
          refine va_iald hx hb hK hP 1 0 rfl rfl hin d_MachineBuilder_refine_81 ?_
          refine lv_iload hx hb d_MachineBuilder_refine_82 (lv_at hl 1 rfl) ?_
          obtain ⟨hin, h⟩ := h
          refine va_iast hx hb hK hP hD hS 0 0 rfl rfl hin d_MachineBuilder_refine_84 (fun H locs hP hD hS => ?_)
          have hP : va_P G vwCl [(a0_newest, .inl (K 0, 512, .inl (upd f_o_newest (f_o_groups (f_o_found l2.toNatClampNeg).toNatClampNeg).toNatClampNeg l1))), (a0_groups, .inl (K 0, 512, .inl f_o_groups)), (a0_sample, .inl (K 0, 512, .inl (upd f_o_sample l1.toNatClampNeg (f_o_found l2.toNatClampNeg)))), (a0_older, .inl (K 0, 512, .inl (upd f_o_older l1.toNatClampNeg (f_o_newest (f_o_groups (f_o_found l2.toNatClampNeg).toNatClampNeg).toNatClampNeg)))), (a0_finerGroups, .inl (K 0, 512, .inl f_o_finerGroups))] H := hP
          have hD : va_D A [(a0_newest, .inl (K 0, 512, .inl (upd f_o_newest (f_o_groups (f_o_found l2.toNatClampNeg).toNatClampNeg).toNatClampNeg l1))), (a0_groups, .inl (K 0, 512, .inl f_o_groups)), (a0_sample, .inl (K 0, 512, .inl (upd f_o_sample l1.toNatClampNeg (f_o_found l2.toNatClampNeg)))), (a0_older, .inl (K 0, 512, .inl (upd f_o_older l1.toNatClampNeg (f_o_newest (f_o_groups (f_o_found l2.toNatClampNeg).toNatClampNeg).toNatClampNeg)))), (a0_finerGroups, .inl (K 0, 512, .inl f_o_finerGroups))] := hD
          refine lv_aload_n hx hb d_MachineBuilder_refine_85 rfl (lv_at hl 3 rfl) ?_
          refine va_get (ci := 5) (v := .ref a0_finerGroups) hx hb htg in_MachineBuilder hown hK (gR hR rN hS) 0 rfl rfl 5 (by decide) (htg _ m_79) (fun _ h9 => h9) rfl d_MachineBuilder_refine_86 ?_
          refine lv_iload_n hx hb d_MachineBuilder_refine_89 rfl (lv_at hl 2 rfl) ?_
          refine lv_iload hx hb d_MachineBuilder_refine_90 (lv_at hl 1 rfl) ?_
          obtain ⟨hin, h⟩ := h
          refine va_iast hx hb hK hP hD hS 4 0 rfl rfl hin d_MachineBuilder_refine_92 (fun H locs hP hD hS => ?_)
          have hP : va_P G vwCl [(a0_newest, .inl (K 0, 512, .inl (upd f_o_newest (f_o_groups (f_o_found l2.toNatClampNeg).toNatClampNeg).toNatClampNeg l1))), (a0_groups, .inl (K 0, 512, .inl f_o_groups)), (a0_sample, .inl (K 0, 512, .inl (upd f_o_sample l1.toNatClampNeg (f_o_found l2.toNatClampNeg)))), (a0_older, .inl (K 0, 512, .inl (upd f_o_older l1.toNatClampNeg (f_o_newest (f_o_groups (f_o_found l2.toNatClampNeg).toNatClampNeg).toNatClampNeg)))), (a0_finerGroups, .inl (K 0, 512, .inl (upd f_o_finerGroups (f_o_found l2.toNatClampNeg).toNatClampNeg l1)))] H := hP
          have hD : va_D A [(a0_newest, .inl (K 0, 512, .inl (upd f_o_newest (f_o_groups (f_o_found l2.toNatClampNeg).toNatClampNeg).toNatClampNeg l1))), (a0_groups, .inl (K 0, 512, .inl f_o_groups)), (a0_sample, .inl (K 0, 512, .inl (upd f_o_sample l1.toNatClampNeg (f_o_found l2.toNatClampNeg)))), (a0_older, .inl (K 0, 512, .inl (upd f_o_older l1.toNatClampNeg (f_o_newest (f_o_groups (f_o_found l2.toNatClampNeg).toNatClampNeg).toNatClampNeg)))), (a0_finerGroups, .inl (K 0, 512, .inl (upd f_o_finerGroups (f_o_found l2.toNatClampNeg).toNatClampNeg l1)))] := hD
          refine lv_iinc (v := (l2 + 1)) (lv' := [(2, .int (l2 + 1)), (1, .int (l1 + 1)), (4, .int l1), (3, .int (f_o_found l2.toNatClampNeg)), (0, .ref a0)]) hx hb d_MachineBuilder_refine_93 hl (k := 4) rfl (by first | rfl | decide) (by decide) rfl (fun ls hl => ?_)
          refine lv_goto (tgt := 12) hx hb d_MachineBuilder_refine_96 (by decide) ?_
          exact ih (l1 + 1) (l2 + 1) (upd f_o_newest (f_o_groups (f_o_found l2.toNatClampNeg).toNatClampNeg).toNatClampNeg l1) f_o_groups (upd f_o_sample l1.toNatClampNeg (f_o_found l2.toNatClampNeg)) (upd f_o_older l1.toNatClampNeg (f_o_newest (f_o_groups (f_o_found l2.toNatClampNeg).toNatClampNeg).toNatClampNeg)) (upd f_o_finerGroups (f_o_found l2.toNatClampNeg).toNatClampNeg l1)  _ _ (hP.sub [0, 1, 2, 3, 4] rfl) (hD.sub [0, 1, 2, 3, 4] (by decide) rfl) hS _ (lv_sub hl [4, 1, 0] rfl) h
  refine lv_aload_n hx hb d_MachineBuilder_refine_0 rfl (lv_at hl 0 rfl) ?_
  refine va_get (ci := 5) (v := .ref a0_newest) hx hb htg in_MachineBuilder hown hK (gR hR rN hS) 0 rfl rfl 6 (by decide) (htg _ m_80) (fun _ h9 => h9) rfl d_MachineBuilder_refine_1 ?_
  refine lv_iconst (v := (-1)) hx hb d_MachineBuilder_refine_4 (by decide) ?_
  have hPc : va_P G vwCl [(a0_newest, .inl (K 0, 512, .inl f_o_newest))] _ := hP.sub [0] rfl
  have hDc : va_D A [(a0_newest, .inl (K 0, 512, .inl f_o_newest))] := hD.sub [0] (by decide) rfl
  have hRc : va_P G vwCl [] _ := hP.sub [] rfl
  have hJc : gJ [(a0_newest, .inl (K 0, 512, .inl f_o_newest))] [] := gJ_nil
  refine g_callv (wr := [(a0_groups, .inl (K 0, 512, .inl f_o_groups)), (a0_sample, .inl (K 0, 512, .inl f_o_sample)), (a0_older, .inl (K 0, 512, .inl f_o_older)), (a0_finerGroups, .inl (K 0, 512, .inl f_o_finerGroups))]) (va_runS (As := [.ref a0_newest, .int (-1)]) (rest := []) ⟨hx, hb, hml, hown, htg⟩ (k_Arrays_fill l G K a0_newest _ 512 f_o_newest (-1) _ h) (va_cwS 2 htg (gGoodS m_106 m_107 m_8 m_108) rfl rfl rfl (by decide +kernel) ⟨(Nat.le_of_ble_eq_true rfl), (Nat.le_of_ble_eq_true rfl)⟩) (gW_pre hK hN hPc hDc hRc hJc) rfl rfl hl.1 rfl (lv_room (Nat.le_of_ble_eq_true rfl)) d_MachineBuilder_refine_5 ⟨(Nat.le_of_ble_eq_true rfl), (Nat.le_of_ble_eq_true rfl)⟩) hP hD hS hA [0] [1, 2, 3, 4] rfl rfl (by decide) (by decide) (fun u H locs h hP hD hS => ?_)
  obtain ⟨u1, rfl⟩ : ∃ z, z = u := ⟨_, rfl⟩
  try dsimp only at h
  have hP : va_P G vwCl [(a0_groups, .inl (K 0, 512, .inl f_o_groups)), (a0_sample, .inl (K 0, 512, .inl f_o_sample)), (a0_older, .inl (K 0, 512, .inl f_o_older)), (a0_finerGroups, .inl (K 0, 512, .inl f_o_finerGroups)), (a0_newest, .inl (K 0, 512, .inl u1))] H := hP
  have hD : va_D A [(a0_groups, .inl (K 0, 512, .inl f_o_groups)), (a0_sample, .inl (K 0, 512, .inl f_o_sample)), (a0_older, .inl (K 0, 512, .inl f_o_older)), (a0_finerGroups, .inl (K 0, 512, .inl f_o_finerGroups)), (a0_newest, .inl (K 0, 512, .inl u1))] := hD
  refine lv_iconst (v := 0) hx hb d_MachineBuilder_refine_8 (by decide) ?_
  refine lv_istore_n (lv' := [(1, .int 0), (0, .ref a0)]) hx hb d_MachineBuilder_refine_9 rfl hl (by decide) rfl (fun ls hl => ?_)
  refine lv_iconst (v := 0) hx hb d_MachineBuilder_refine_10 (by decide) ?_
  refine lv_istore_n (lv' := [(2, .int 0), (1, .int 0), (0, .ref a0)]) hx hb d_MachineBuilder_refine_11 rfl hl (by decide) rfl (fun ls hl => ?_)
  obtain ⟨k, h⟩ := h
  exact C_12 k 0 0 u1 f_o_groups f_o_sample f_o_older f_o_finerGroups  _ _ (hP.sub [4, 0, 1, 2, 3] rfl) (hD.sub [4, 0, 1, 2, 3] (by decide) rfl) hS _ (lv_sub hl [2, 1, 0] rfl) h
def p_MachineBuilder_machineOf_82 (x2 : Int32) (post : Nat → (Nat → Int32) → Nat → (Nat → Int32) → Int32 → Int32 → Prop) (f_q1 : (Nat → Int32)) (f_q2 : (Nat → Int32)) : Prop := (p_Machine_init  (fun u9202 u9203 => (post ((x2 * 6).toNatClampNeg) f_q1 x2.toNatClampNeg f_q2 u9202 u9203)))
def p_MachineBuilder_machineOf_76  (post : Nat → (Nat → Int32) → Nat → (Nat → Int32) → Int32 → Int32 → Prop) (K_15 : Int32 → (Nat → Int32) → (Nat → Int32) → Prop) (l5 : Int32) (f_q1 : (Nat → Int32)) (f_q2 : (Nat → Int32)) : Prop := (K_15 (l5 + 1) f_q1 f_q2)
def p_MachineBuilder_machineOf_40 (f_o_sample : (Nat → Int32)) (f_o_behind : (Nat → Int32)) (f_o_placesOf : (Nat → Int32)) (f_o_groups : (Nat → Int32)) (x2 : Int32) (post : Nat → (Nat → Int32) → Nat → (Nat → Int32) → Int32 → Int32 → Prop) (K_15 : Int32 → (Nat → Int32) → (Nat → Int32) → Prop) : Nat → Int32 → Int32 → (Nat → Int32) → (Nat → Int32) → Prop
  | 0, _, _, _, _ => False
  | n + 1, l5, l6, f_q1, f_q2 => ((6 ≤ l6 → (p_MachineBuilder_machineOf_76 post K_15 l5 f_q1 f_q2)) ∧ (¬ 6 ≤ l6 → (vp_in l5 512 ∧ (p_MachineBuilder_groupAfter f_o_behind f_o_placesOf f_o_groups (f_o_sample l5.toNatClampNeg) l6 (fun r5001 => (vp_in ((l5 * 6) + l6) (x2 * 6).toNatClampNeg ∧ (p_MachineBuilder_machineOf_40 f_o_sample f_o_behind f_o_placesOf f_o_groups x2 post K_15 n l5 (l6 + 1) (upd f_q1 ((l5 * 6) + l6).toNatClampNeg r5001) f_q2)))))))
def p_MachineBuilder_machineOf_15 (f_o_sample : (Nat → Int32)) (v_p1_places : Int32) (v_p1_last : Int32) (f_p1_rules : (Nat → Int32)) (f_o_behind : (Nat → Int32)) (f_o_placesOf : (Nat → Int32)) (f_o_groups : (Nat → Int32)) (x2 : Int32) (post : Nat → (Nat → Int32) → Nat → (Nat → Int32) → Int32 → Int32 → Prop) : Nat → Int32 → (Nat → Int32) → (Nat → Int32) → Prop
  | 0, _, _, _ => False
  | n + 1, l5, f_q1, f_q2 => ((x2 ≤ l5 → (p_MachineBuilder_machineOf_82 x2 post f_q1 f_q2)) ∧ (¬ x2 ≤ l5 → (vp_in l5 512 ∧ (p_Mode_winnerOf v_p1_places v_p1_last f_p1_rules (f_o_sample l5.toNatClampNeg) (fun r2501 => (vp_in l5 x2.toNatClampNeg ∧ (∃ k, p_MachineBuilder_machineOf_40 f_o_sample f_o_behind f_o_placesOf f_o_groups x2 post (p_MachineBuilder_machineOf_15 f_o_sample v_p1_places v_p1_last f_p1_rules f_o_behind f_o_placesOf f_o_groups x2 post n) k l5 0 f_q1 (upd f_q2 l5.toNatClampNeg r2501))))))))
def p_MachineBuilder_machineOf (f_o_sample : (Nat → Int32)) (v_p1_places : Int32) (v_p1_last : Int32) (f_p1_rules : (Nat → Int32)) (f_o_behind : (Nat → Int32)) (f_o_placesOf : (Nat → Int32)) (f_o_groups : (Nat → Int32)) (x2 : Int32) (post : Nat → (Nat → Int32) → Nat → (Nat → Int32) → Int32 → Int32 → Prop) : Prop := (¬ (x2 * 6) < 0 ∧ (x2 * 6).toNatClampNeg ≤ 3072 ∧ (¬ x2 < 0 ∧ x2.toNatClampNeg ≤ 512 ∧ (∃ k, p_MachineBuilder_machineOf_15 f_o_sample v_p1_places v_p1_last f_p1_rules f_o_behind f_o_placesOf f_o_groups x2 post k 0 (fun _ => 0) (fun _ => 0))))
set_option maxHeartbeats 4000000 in
set_option maxRecDepth 100000 in
theorem k_MachineBuilder_machineOf (l : Launch) (G : va_G) (K : Nat → ClassId) (a0 a0_sample a1 a1_rules a0_behind a0_placesOf a0_groups a0_found a0_finerGroups a0_newest a0_older a1_letters a1_followers : Nat) (sz : Nat) (v_o_foundCount : Int32) (f_o_sample : (Nat → Int32)) (v_p1_places : Int32) (v_p1_first : Int32) (v_p1_last : Int32) (f_p1_rules : (Nat → Int32)) (f_o_behind : (Nat → Int32)) (f_o_placesOf : (Nat → Int32)) (f_o_groups : (Nat → Int32)) (x2 : Int32) (post : Nat → (Nat → Int32) → Nat → (Nat → Int32) → Int32 → Int32 → Prop) (h : p_MachineBuilder_machineOf f_o_sample v_p1_places v_p1_last f_p1_rules f_o_behind f_o_placesOf f_o_groups x2 post) : MWr l y_MachineBuilder_machineOf (.code y_MachineBuilder_machineOf c_MachineBuilder_machineOf 7 (some (.object "TokenBench$Machine"))) { frames := 2, cells := 3, slots := 3588, locals := 43 } G K [] [(a0, .inr (5, [.ref a0_placesOf, .ref a0_found, .int v_o_foundCount, .ref a0_behind, .ref a0_groups, .ref a0_finerGroups, .ref a0_newest, .ref a0_older, .ref a0_sample])), (a0_sample, .inl (K 0, 512, .inl f_o_sample)), (a1, .inr (6, [.ref a1_letters, .ref a1_followers, .ref a1_rules, .int v_p1_places, .int v_p1_first, .int v_p1_last])), (a1_rules, .inl (K 0, 9, .inl f_p1_rules)), (a0_behind, .inl (K 0, 512, .inl f_o_behind)), (a0_placesOf, .inl (K 0, 6, .inl f_o_placesOf)), (a0_groups, .inl (K 0, 512, .inl f_o_groups))] [.ref a0, .ref a1, .int x2] sz (fun (u : Nat × (Nat → Int32) × Nat × (Nat → Int32) × Int32 × Int32 × Nat × Nat) => post u.1 u.2.1 u.2.2.1 u.2.2.2.1 u.2.2.2.2.1 u.2.2.2.2.2.1) (fun u ra => [(u.2.2.2.2.2.2.1, .inl (K 0, u.1, .inl u.2.1)), (u.2.2.2.2.2.2.2, .inl (K 0, u.2.2.1, .inl u.2.2.2.1)), (ra, .inr (4, [.ref u.2.2.2.2.2.2.1, .ref u.2.2.2.2.2.2.2, .int u.2.2.2.2.1, .int u.2.2.2.2.2.1]))]) 3 3588 := by
  refine g_metWr (cc := c_MachineBuilder_machineOf) (maxL := 7) (ret := some (.object "TokenBench$Machine")) (by decide) rfl rfl (Nat.le_of_ble_eq_true rfl) ?_
  intro p e s m below meth c A Q hx hb hml hown hname htg hK hN hP hD hA hS hR rN hret ls hl
  have hl : lv_has ls 7 [(0, .ref a0), (1, .ref a1), (2, .int x2)] := hl
  have C_82 : ∀ (f_q1 : (Nat → Int32)) (f_q2 : (Nat → Int32)) (q1 q2 : Nat) (H : Heap) (locs : List Loc), va_P G vwCl [(q1, .inl (K 0, (x2 * 6).toNatClampNeg, .inl f_q1)), (q2, .inl (K 0, x2.toNatClampNeg, .inl f_q2))] H → va_D A [(q1, .inl (K 0, (x2 * 6).toNatClampNeg, .inl f_q1)), (q2, .inl (K 0, x2.toNatClampNeg, .inl f_q2))] → va_S A s.heap H locs → ∀ (ls : Array Slot), lv_has ls 7 [(3, .ref q1), (4, .ref q2)] → p_MachineBuilder_machineOf_82 x2 post f_q1 f_q2 → W p l e { frames := 2, cells := 3, slots := 3588, locals := 43 } s m ([.ref a0, .ref a1, .int x2] : List Value).toArray below meth c H locs 2 3584 Q (F0 m 82 ls []) := by
    intro  f_q1 f_q2 q1 q2 H locs hP hD hS ls hl h
    refine va_new (ci := 4) (fs := [.null, .null, .int 0, .int 0]) hx hb htg in_Machine t_Machine tok_Machine hown (htg _ m_135) (htg _ m_136) (htg _ m_9) hK hP hD hS hA rfl (fun j hj => by rcases (show j = 0 ∨ j = 1 ∨ j = 2 ∨ j = 3 by omega) with rfl | rfl | rfl | rfl <;> rfl) (Nat.le_of_ble_eq_true rfl) (Nat.le_of_ble_eq_true rfl) d_MachineBuilder_machineOf_82 (fun q9201 H hP hD hS => ?_)
    have hP : va_P G vwCl [(q1, .inl (K 0, (x2 * 6).toNatClampNeg, .inl f_q1)), (q2, .inl (K 0, x2.toNatClampNeg, .inl f_q2)), (q9201, .inr (4, [.null, .null, .int 0, .int 0]))] H := hP
    have hD : va_D A [(q1, .inl (K 0, (x2 * 6).toNatClampNeg, .inl f_q1)), (q2, .inl (K 0, x2.toNatClampNeg, .inl f_q2)), (q9201, .inr (4, [.null, .null, .int 0, .int 0]))] := hD
    refine lv_dup hx hb d_MachineBuilder_machineOf_85 rfl ?_
    refine lv_aload_n hx hb d_MachineBuilder_machineOf_86 rfl (lv_at hl 0 rfl) ?_
    refine lv_aload hx hb d_MachineBuilder_machineOf_87 (lv_at hl 1 rfl) ?_
    have hPc : va_P G vwCl [(q9201, .inr (4, [.null, .null, .int 0, .int 0]))] _ := hP.sub [2] rfl
    have hDc : va_D A [(q9201, .inr (4, [.null, .null, .int 0, .int 0]))] := hD.sub [2] (by decide) rfl
    have hRc : va_P G vwCl [] _ := hP.sub [] rfl
    have hJc : gJ [(q9201, .inr (4, [.null, .null, .int 0, .int 0]))] [] := gJ_nil
    refine g_callv (wr := [(q1, .inl (K 0, (x2 * 6).toNatClampNeg, .inl f_q1)), (q2, .inl (K 0, x2.toNatClampNeg, .inl f_q2))]) (va_runI (As := [.ref q1, .ref q2]) (rest := [.ref q9201]) ⟨hx, hb, hml, hown, htg⟩ (k_Machine_init l G K q9201 q1 q2 _  _ h) (cwI 2 htg (gGood m_139) rfl rfl rfl (htg _ m_9) (htg _ m_137) (htg _ m_138) rfl (by decide +kernel) ⟨(Nat.le_of_ble_eq_true rfl), (Nat.le_of_ble_eq_true rfl)⟩) (gW_pre hK hN hPc hDc hRc hJc) rfl rfl hl.1 rfl (lv_room (Nat.le_of_ble_eq_true rfl)) d_MachineBuilder_machineOf_89 ⟨(Nat.le_of_ble_eq_true rfl), (Nat.le_of_ble_eq_true rfl)⟩) hP hD hS hA [2] [0, 1] rfl rfl (by decide) (by decide) (fun u H locs h hP hD hS => ?_)
    obtain ⟨u9202, u9203⟩ := u
    try dsimp only at h
    have hP : va_P G vwCl [(q1, .inl (K 0, (x2 * 6).toNatClampNeg, .inl f_q1)), (q2, .inl (K 0, x2.toNatClampNeg, .inl f_q2)), (q9201, .inr (4, [.ref q1, .ref q2, .int u9202, .int u9203]))] H := hP
    have hD : va_D A [(q1, .inl (K 0, (x2 * 6).toNatClampNeg, .inl f_q1)), (q2, .inl (K 0, x2.toNatClampNeg, .inl f_q2)), (q9201, .inr (4, [.ref q1, .ref q2, .int u9202, .int u9203]))] := hD
    exact hret ((x2 * 6).toNatClampNeg, f_q1, x2.toNatClampNeg, f_q2, u9202, u9203, q1, q2) _ _ _ _ _ h (hP.sub [0, 1, 2] rfl) (hD.sub [0, 1, 2] (by decide) rfl) hS d_MachineBuilder_machineOf_92
  have C_76 : ∀ (K_15 : Int32 → (Nat → Int32) → (Nat → Int32) → Prop) (hK_15 : ∀ (l5 : Int32) (f_q1 : (Nat → Int32)) (f_q2 : (Nat → Int32)) (q1 q2 : Nat) (H : Heap) (locs : List Loc), va_P G vwCl [(q1, .inl (K 0, (x2 * 6).toNatClampNeg, .inl f_q1)), (q2, .inl (K 0, x2.toNatClampNeg, .inl f_q2))] H → va_D A [(q1, .inl (K 0, (x2 * 6).toNatClampNeg, .inl f_q1)), (q2, .inl (K 0, x2.toNatClampNeg, .inl f_q2))] → va_S A s.heap H locs → ∀ (ls : Array Slot), lv_has ls 7 [(0, .ref a0), (1, .ref a1), (2, .int x2), (3, .ref q1), (4, .ref q2), (5, .int l5)] → K_15 l5 f_q1 f_q2 → W p l e { frames := 2, cells := 3, slots := 3588, locals := 43 } s m ([.ref a0, .ref a1, .int x2] : List Value).toArray below meth c H locs 2 3584 Q (F0 m 15 ls [])) (l5 : Int32) (f_q1 : (Nat → Int32)) (f_q2 : (Nat → Int32)) (q1 q2 : Nat) (H : Heap) (locs : List Loc), va_P G vwCl [(q1, .inl (K 0, (x2 * 6).toNatClampNeg, .inl f_q1)), (q2, .inl (K 0, x2.toNatClampNeg, .inl f_q2))] H → va_D A [(q1, .inl (K 0, (x2 * 6).toNatClampNeg, .inl f_q1)), (q2, .inl (K 0, x2.toNatClampNeg, .inl f_q2))] → va_S A s.heap H locs → ∀ (ls : Array Slot), lv_has ls 7 [(0, .ref a0), (1, .ref a1), (2, .int x2), (3, .ref q1), (4, .ref q2), (5, .int l5)] → p_MachineBuilder_machineOf_76 post K_15 l5 f_q1 f_q2 → W p l e { frames := 2, cells := 3, slots := 3588, locals := 43 } s m ([.ref a0, .ref a1, .int x2] : List Value).toArray below meth c H locs 2 3584 Q (F0 m 76 ls []) := by
    intro K_15 hK_15 l5 f_q1 f_q2 q1 q2 H locs hP hD hS ls hl h
    refine lv_iinc (v := (l5 + 1)) (lv' := [(5, .int (l5 + 1)), (0, .ref a0), (1, .ref a1), (2, .int x2), (3, .ref q1), (4, .ref q2)]) hx hb d_MachineBuilder_machineOf_76 hl (k := 5) rfl (by first | rfl | decide) (by decide) rfl (fun ls hl => ?_)
    refine lv_goto (tgt := 15) hx hb d_MachineBuilder_machineOf_79 (by decide) ?_
    exact hK_15 (l5 + 1) f_q1 f_q2 q1 q2 _ _ (hP.sub [0, 1] rfl) (hD.sub [0, 1] (by decide) rfl) hS _ (lv_sub hl [1, 2, 3, 4, 5, 0] rfl) h
  have C_40 : ∀ (K_15 : Int32 → (Nat → Int32) → (Nat → Int32) → Prop) (hK_15 : ∀ (l5 : Int32) (f_q1 : (Nat → Int32)) (f_q2 : (Nat → Int32)) (q1 q2 : Nat) (H : Heap) (locs : List Loc), va_P G vwCl [(q1, .inl (K 0, (x2 * 6).toNatClampNeg, .inl f_q1)), (q2, .inl (K 0, x2.toNatClampNeg, .inl f_q2))] H → va_D A [(q1, .inl (K 0, (x2 * 6).toNatClampNeg, .inl f_q1)), (q2, .inl (K 0, x2.toNatClampNeg, .inl f_q2))] → va_S A s.heap H locs → ∀ (ls : Array Slot), lv_has ls 7 [(0, .ref a0), (1, .ref a1), (2, .int x2), (3, .ref q1), (4, .ref q2), (5, .int l5)] → K_15 l5 f_q1 f_q2 → W p l e { frames := 2, cells := 3, slots := 3588, locals := 43 } s m ([.ref a0, .ref a1, .int x2] : List Value).toArray below meth c H locs 2 3584 Q (F0 m 15 ls [])) (n : Nat) (l5 : Int32) (l6 : Int32) (f_q1 : (Nat → Int32)) (f_q2 : (Nat → Int32)) (q1 q2 : Nat) (H : Heap) (locs : List Loc), va_P G vwCl [(q1, .inl (K 0, (x2 * 6).toNatClampNeg, .inl f_q1)), (q2, .inl (K 0, x2.toNatClampNeg, .inl f_q2))] H → va_D A [(q1, .inl (K 0, (x2 * 6).toNatClampNeg, .inl f_q1)), (q2, .inl (K 0, x2.toNatClampNeg, .inl f_q2))] → va_S A s.heap H locs → ∀ (ls : Array Slot), lv_has ls 7 [(0, .ref a0), (1, .ref a1), (2, .int x2), (3, .ref q1), (4, .ref q2), (5, .int l5), (6, .int l6)] → p_MachineBuilder_machineOf_40 f_o_sample f_o_behind f_o_placesOf f_o_groups x2 post K_15 n l5 l6 f_q1 f_q2 → W p l e { frames := 2, cells := 3, slots := 3588, locals := 43 } s m ([.ref a0, .ref a1, .int x2] : List Value).toArray below meth c H locs 2 3584 Q (F0 m 40 ls []) := by
    intro K_15 hK_15
    intro n
    induction n with
    | zero =>
      intro l5 l6 f_q1 f_q2 q1 q2 H locs hP hD hS ls hl h
      exact False.elim h
    | succ n ih =>
      intro l5 l6 f_q1 f_q2 q1 q2 H locs hP hD hS ls hl h
      refine lv_iload hx hb d_MachineBuilder_machineOf_40 (lv_at hl 6 rfl) ?_
      refine lv_bipush (v := 6) hx hb d_MachineBuilder_machineOf_42 (by decide) ?_
      refine lv_icmp_ge (tgt := 76) hx hb d_MachineBuilder_machineOf_44 (by decide) (fun hc => ?_) (fun hc => ?_)
      · replace h := h.1 hc
        exact C_76 _ hK_15 l5 f_q1 f_q2 q1 q2 _ _ (hP.sub [0, 1] rfl) (hD.sub [0, 1] (by decide) rfl) hS _ (lv_sub hl [0, 1, 2, 3, 4, 5] rfl) h
      · replace h := h.2 hc
        refine lv_aload_n hx hb d_MachineBuilder_machineOf_47 rfl (lv_at hl 3 rfl) ?_
        refine lv_iload hx hb d_MachineBuilder_machineOf_48 (lv_at hl 5 rfl) ?_
        refine lv_bipush (v := 6) hx hb d_MachineBuilder_machineOf_50 (by decide) ?_
        refine lv_imul hx hb d_MachineBuilder_machineOf_52 ?_
        refine lv_iload hx hb d_MachineBuilder_machineOf_53 (lv_at hl 6 rfl) ?_
        refine lv_iadd hx hb d_MachineBuilder_machineOf_55 ?_
        refine lv_aload_n hx hb d_MachineBuilder_machineOf_56 rfl (lv_at hl 0 rfl) ?_
        refine lv_aload_n hx hb d_MachineBuilder_machineOf_57 rfl (lv_at hl 0 rfl) ?_
        refine va_get (ci := 5) (v := .ref a0_sample) hx hb htg in_MachineBuilder hown hK (gR hR rN hS) 0 rfl rfl 8 (by decide) (htg _ m_82) (fun _ h9 => h9) rfl d_MachineBuilder_machineOf_58 ?_
        refine lv_iload hx hb d_MachineBuilder_machineOf_61 (lv_at hl 5 rfl) ?_
        obtain ⟨hin, h⟩ := h
        refine va_iald hx hb hK (gR hR rN hS) 1 0 rfl rfl hin d_MachineBuilder_machineOf_63 ?_
        refine lv_iload hx hb d_MachineBuilder_machineOf_64 (lv_at hl 6 rfl) ?_
        have hPc : va_P G vwCl [(a0, .inr (5, [.ref a0_placesOf, .ref a0_found, .int v_o_foundCount, .ref a0_behind, .ref a0_groups, .ref a0_finerGroups, .ref a0_newest, .ref a0_older, .ref a0_sample])), (a0_behind, .inl (K 0, 512, .inl f_o_behind)), (a0_placesOf, .inl (K 0, 6, .inl f_o_placesOf)), (a0_groups, .inl (K 0, 512, .inl f_o_groups))] _ := (gR hR rN hS).sub [0, 4, 5, 6] rfl
        refine vp_callSi (va_Run.run (va_runV (As := [.int (f_o_sample l5.toNatClampNeg), .int l6]) (rest := [.int ((l5 * 6) + l6), .ref q1]) ⟨hx, hb, hml, hown, htg⟩ (k_MachineBuilder_groupAfter l G K a0 a0_behind a0_placesOf a0_groups a0_found a0_finerGroups a0_newest a0_older a0_sample v_o_foundCount f_o_behind f_o_placesOf f_o_groups (f_o_sample l5.toNatClampNeg) l6 _ h) (cwV 2 htg (gGoodV m_129 m_130 m_852 m_6 m_131) rfl rfl rfl (by decide +kernel) ⟨(Nat.le_of_ble_eq_true rfl), (Nat.le_of_ble_eq_true rfl)⟩) (gS_preV (ci := 5) (q0 := 0) hK hN hPc rfl rfl) rfl rfl hl.1 rfl (lv_room (Nat.le_of_ble_eq_true rfl)) d_MachineBuilder_machineOf_66 ⟨(Nat.le_of_ble_eq_true rfl), (Nat.le_of_ble_eq_true rfl)⟩)) (fun r5001 h => ?_)
        obtain ⟨hin, h⟩ := h
        refine va_iast hx hb hK hP hD hS 0 0 rfl rfl hin d_MachineBuilder_machineOf_69 (fun H locs hP hD hS => ?_)
        have hP : va_P G vwCl [(q1, .inl (K 0, (x2 * 6).toNatClampNeg, .inl (upd f_q1 ((l5 * 6) + l6).toNatClampNeg r5001))), (q2, .inl (K 0, x2.toNatClampNeg, .inl f_q2))] H := hP
        have hD : va_D A [(q1, .inl (K 0, (x2 * 6).toNatClampNeg, .inl (upd f_q1 ((l5 * 6) + l6).toNatClampNeg r5001))), (q2, .inl (K 0, x2.toNatClampNeg, .inl f_q2))] := hD
        refine lv_iinc (v := (l6 + 1)) (lv' := [(6, .int (l6 + 1)), (0, .ref a0), (1, .ref a1), (2, .int x2), (3, .ref q1), (4, .ref q2), (5, .int l5)]) hx hb d_MachineBuilder_machineOf_70 hl (k := 6) rfl (by first | rfl | decide) (by decide) rfl (fun ls hl => ?_)
        refine lv_goto (tgt := 40) hx hb d_MachineBuilder_machineOf_73 (by decide) ?_
        exact ih l5 (l6 + 1) (upd f_q1 ((l5 * 6) + l6).toNatClampNeg r5001) f_q2 q1 q2 _ _ (hP.sub [0, 1] rfl) (hD.sub [0, 1] (by decide) rfl) hS _ (lv_sub hl [1, 2, 3, 4, 5, 6, 0] rfl) h
  have C_15 : ∀ (n : Nat) (l5 : Int32) (f_q1 : (Nat → Int32)) (f_q2 : (Nat → Int32)) (q1 q2 : Nat) (H : Heap) (locs : List Loc), va_P G vwCl [(q1, .inl (K 0, (x2 * 6).toNatClampNeg, .inl f_q1)), (q2, .inl (K 0, x2.toNatClampNeg, .inl f_q2))] H → va_D A [(q1, .inl (K 0, (x2 * 6).toNatClampNeg, .inl f_q1)), (q2, .inl (K 0, x2.toNatClampNeg, .inl f_q2))] → va_S A s.heap H locs → ∀ (ls : Array Slot), lv_has ls 7 [(0, .ref a0), (1, .ref a1), (2, .int x2), (3, .ref q1), (4, .ref q2), (5, .int l5)] → p_MachineBuilder_machineOf_15 f_o_sample v_p1_places v_p1_last f_p1_rules f_o_behind f_o_placesOf f_o_groups x2 post n l5 f_q1 f_q2 → W p l e { frames := 2, cells := 3, slots := 3588, locals := 43 } s m ([.ref a0, .ref a1, .int x2] : List Value).toArray below meth c H locs 2 3584 Q (F0 m 15 ls []) := by
    intro n
    induction n with
    | zero =>
      intro l5 f_q1 f_q2 q1 q2 H locs hP hD hS ls hl h
      exact False.elim h
    | succ n ih =>
      intro l5 f_q1 f_q2 q1 q2 H locs hP hD hS ls hl h
      refine lv_iload hx hb d_MachineBuilder_machineOf_15 (lv_at hl 5 rfl) ?_
      refine lv_iload_n hx hb d_MachineBuilder_machineOf_17 rfl (lv_at hl 2 rfl) ?_
      refine lv_icmp_ge (tgt := 82) hx hb d_MachineBuilder_machineOf_18 (by decide) (fun hc => ?_) (fun hc => ?_)
      · replace h := h.1 hc
        exact C_82 f_q1 f_q2 q1 q2 _ _ (hP.sub [0, 1] rfl) (hD.sub [0, 1] (by decide) rfl) hS _ (lv_sub hl [3, 4] rfl) h
      · replace h := h.2 hc
        refine lv_aload hx hb d_MachineBuilder_machineOf_21 (lv_at hl 4 rfl) ?_
        refine lv_iload hx hb d_MachineBuilder_machineOf_23 (lv_at hl 5 rfl) ?_
        refine lv_aload_n hx hb d_MachineBuilder_machineOf_25 rfl (lv_at hl 1 rfl) ?_
        refine lv_aload_n hx hb d_MachineBuilder_machineOf_26 rfl (lv_at hl 0 rfl) ?_
        refine va_get (ci := 5) (v := .ref a0_sample) hx hb htg in_MachineBuilder hown hK (gR hR rN hS) 0 rfl rfl 8 (by decide) (htg _ m_82) (fun _ h9 => h9) rfl d_MachineBuilder_machineOf_27 ?_
        refine lv_iload hx hb d_MachineBuilder_machineOf_30 (lv_at hl 5 rfl) ?_
        obtain ⟨hin, h⟩ := h
        refine va_iald hx hb hK (gR hR rN hS) 1 0 rfl rfl hin d_MachineBuilder_machineOf_32 ?_
        have hPc : va_P G vwCl [(a1, .inr (6, [.ref a1_letters, .ref a1_followers, .ref a1_rules, .int v_p1_places, .int v_p1_first, .int v_p1_last])), (a1_rules, .inl (K 0, 9, .inl f_p1_rules))] _ := (gR hR rN hS).sub [2, 3] rfl
        refine vp_callSi (va_Run.run (va_runV (As := [.int (f_o_sample l5.toNatClampNeg)]) (rest := [.int l5, .ref q2]) ⟨hx, hb, hml, hown, htg⟩ (k_Mode_winnerOf l G K a1 a1_rules a1_letters a1_followers v_p1_places v_p1_first v_p1_last f_p1_rules (f_o_sample l5.toNatClampNeg) _ h) (cwV 1 htg (gGoodV m_116 m_117 m_118 m_7 m_119) rfl rfl rfl (by decide +kernel) ⟨(Nat.le_of_ble_eq_true rfl), (Nat.le_of_ble_eq_true rfl)⟩) (gS_preV (ci := 6) (q0 := 0) hK hN hPc rfl rfl) rfl rfl hl.1 rfl (lv_room (Nat.le_of_ble_eq_true rfl)) d_MachineBuilder_machineOf_33 ⟨(Nat.le_of_ble_eq_true rfl), (Nat.le_of_ble_eq_true rfl)⟩)) (fun r2501 h => ?_)
        obtain ⟨hin, h⟩ := h
        refine va_iast hx hb hK hP hD hS 1 0 rfl rfl hin d_MachineBuilder_machineOf_36 (fun H locs hP hD hS => ?_)
        have hP : va_P G vwCl [(q1, .inl (K 0, (x2 * 6).toNatClampNeg, .inl f_q1)), (q2, .inl (K 0, x2.toNatClampNeg, .inl (upd f_q2 l5.toNatClampNeg r2501)))] H := hP
        have hD : va_D A [(q1, .inl (K 0, (x2 * 6).toNatClampNeg, .inl f_q1)), (q2, .inl (K 0, x2.toNatClampNeg, .inl (upd f_q2 l5.toNatClampNeg r2501)))] := hD
        refine lv_iconst (v := 0) hx hb d_MachineBuilder_machineOf_37 (by decide) ?_
        refine lv_istore (lv' := [(6, .int 0), (0, .ref a0), (1, .ref a1), (2, .int x2), (3, .ref q1), (4, .ref q2), (5, .int l5)]) hx hb d_MachineBuilder_machineOf_38 hl (by decide) rfl (fun ls hl => ?_)
        obtain ⟨k, h⟩ := h
        exact C_40 _ ih k l5 0 f_q1 (upd f_q2 l5.toNatClampNeg r2501) q1 q2 _ _ (hP.sub [0, 1] rfl) (hD.sub [0, 1] (by decide) rfl) hS _ (lv_sub hl [1, 2, 3, 4, 5, 6, 0] rfl) h
  refine lv_iload_n hx hb d_MachineBuilder_machineOf_0 rfl (lv_at hl 2 rfl) ?_
  refine lv_bipush (v := 6) hx hb d_MachineBuilder_machineOf_1 (by decide) ?_
  refine lv_imul hx hb d_MachineBuilder_machineOf_3 ?_
  obtain ⟨hn0, hnB, h⟩ := h
  refine g_newiB (B := 3072) hx hb (htg _ m_39) hK hP hD hS hA hn0 hnB (by decide) (Nat.le_of_ble_eq_true rfl) (Nat.le_of_ble_eq_true rfl) d_MachineBuilder_machineOf_4 (fun q1 H hP hD hS => ?_)
  have hP : va_P G vwCl [(q1, .inl (K 0, (x2 * 6).toNatClampNeg, .inl (fun _ => 0)))] H := hP
  have hD : va_D A [(q1, .inl (K 0, (x2 * 6).toNatClampNeg, .inl (fun _ => 0)))] := hD
  refine lv_astore_n (lv' := [(3, .ref q1), (0, .ref a0), (1, .ref a1), (2, .int x2)]) hx hb d_MachineBuilder_machineOf_6 rfl hl (by decide) rfl (fun ls hl => ?_)
  refine lv_iload_n hx hb d_MachineBuilder_machineOf_7 rfl (lv_at hl 3 rfl) ?_
  obtain ⟨hn0, hnB, h⟩ := h
  refine g_newiB (B := 512) hx hb (htg _ m_39) hK hP hD hS hA hn0 hnB (by decide) (Nat.le_of_ble_eq_true rfl) (Nat.le_of_ble_eq_true rfl) d_MachineBuilder_machineOf_8 (fun q2 H hP hD hS => ?_)
  have hP : va_P G vwCl [(q1, .inl (K 0, (x2 * 6).toNatClampNeg, .inl (fun _ => 0))), (q2, .inl (K 0, x2.toNatClampNeg, .inl (fun _ => 0)))] H := hP
  have hD : va_D A [(q1, .inl (K 0, (x2 * 6).toNatClampNeg, .inl (fun _ => 0))), (q2, .inl (K 0, x2.toNatClampNeg, .inl (fun _ => 0)))] := hD
  refine lv_astore (lv' := [(4, .ref q2), (3, .ref q1), (0, .ref a0), (1, .ref a1), (2, .int x2)]) hx hb d_MachineBuilder_machineOf_10 hl (by decide) rfl (fun ls hl => ?_)
  refine lv_iconst (v := 0) hx hb d_MachineBuilder_machineOf_12 (by decide) ?_
  refine lv_istore (lv' := [(5, .int 0), (4, .ref q2), (3, .ref q1), (0, .ref a0), (1, .ref a1), (2, .int x2)]) hx hb d_MachineBuilder_machineOf_13 hl (by decide) rfl (fun ls hl => ?_)
  obtain ⟨k, h⟩ := h
  exact C_15 k 0 (fun _ => 0) (fun _ => 0) q1 q2 _ _ (hP.sub [0, 1] rfl) (hD.sub [0, 1] (by decide) rfl) hS _ (lv_sub hl [3, 4, 5, 2, 1, 0] rfl) h
def p_MachineBuilder_build_40 (v_p1_places : Int32) (v_p1_last : Int32) (f_p1_rules : (Nat → Int32)) (post : Int32 → (Nat → Int32) → (Nat → Int32) → (Nat → Int32) → (Nat → Int32) → (Nat → Int32) → (Nat → Int32) → (Nat → Int32) → (Nat → Int32) → Nat → (Nat → Int32) → Nat → (Nat → Int32) → Int32 → Int32 → Prop) (l2 : Int32) (v_o_foundCount : Int32) (f_o_placesOf : (Nat → Int32)) (f_o_groups : (Nat → Int32)) (f_o_found : (Nat → Int32)) (f_o_behind : (Nat → Int32)) (f_o_newest : (Nat → Int32)) (f_o_sample : (Nat → Int32)) (f_o_older : (Nat → Int32)) (f_o_finerGroups : (Nat → Int32)) : Prop := (p_MachineBuilder_machineOf f_o_sample v_p1_places v_p1_last f_p1_rules f_o_behind f_o_placesOf f_o_groups l2 (fun n5004 u5005 n5006 u5007 u5008 u5009 => (post v_o_foundCount f_o_placesOf f_o_groups f_o_found f_o_behind f_o_newest f_o_sample f_o_older f_o_finerGroups n5004 u5005 n5006 u5007 u5008 u5009)))
def p_MachineBuilder_build_28 (v_p1_places : Int32) (v_p1_last : Int32) (f_p1_rules : (Nat → Int32)) (post : Int32 → (Nat → Int32) → (Nat → Int32) → (Nat → Int32) → (Nat → Int32) → (Nat → Int32) → (Nat → Int32) → (Nat → Int32) → (Nat → Int32) → Nat → (Nat → Int32) → Nat → (Nat → Int32) → Int32 → Int32 → Prop) (l2 : Int32) (v_o_foundCount : Int32) (f_o_placesOf : (Nat → Int32)) (f_o_groups : (Nat → Int32)) (f_o_found : (Nat → Int32)) (f_o_behind : (Nat → Int32)) (f_o_newest : (Nat → Int32)) (f_o_sample : (Nat → Int32)) (f_o_older : (Nat → Int32)) (f_o_finerGroups : (Nat → Int32)) : Prop := (p_MachineBuilder_build_40 v_p1_places v_p1_last f_p1_rules post l2 v_o_foundCount f_o_placesOf f_o_groups f_o_found f_o_behind f_o_newest f_o_sample f_o_older f_o_finerGroups)
def p_MachineBuilder_build_9 (v_p1_places : Int32) (v_p1_last : Int32) (f_p1_rules : (Nat → Int32)) (post : Int32 → (Nat → Int32) → (Nat → Int32) → (Nat → Int32) → (Nat → Int32) → (Nat → Int32) → (Nat → Int32) → (Nat → Int32) → (Nat → Int32) → Nat → (Nat → Int32) → Nat → (Nat → Int32) → Int32 → Int32 → Prop) : Nat → Int32 → Int32 → Int32 → (Nat → Int32) → (Nat → Int32) → (Nat → Int32) → (Nat → Int32) → (Nat → Int32) → (Nat → Int32) → (Nat → Int32) → (Nat → Int32) → Prop
  | 0, _, _, _, _, _, _, _, _, _, _, _ => False
  | n + 1, l2, l3, v_o_foundCount, f_o_placesOf, f_o_groups, f_o_found, f_o_behind, f_o_newest, f_o_sample, f_o_older, f_o_finerGroups => ((512 < l3 → (p_MachineBuilder_build_40 v_p1_places v_p1_last f_p1_rules post l2 v_o_foundCount f_o_placesOf f_o_groups f_o_found f_o_behind f_o_newest f_o_sample f_o_older f_o_finerGroups)) ∧ (¬ 512 < l3 → (p_MachineBuilder_refine v_o_foundCount f_o_newest f_o_found f_o_groups f_o_sample f_o_behind f_o_placesOf f_o_older f_o_finerGroups (fun r1906 u1901 u1902 u1903 u1904 u1905 => ((¬ r1906 = l2 → (p_MachineBuilder_build_9 v_p1_places v_p1_last f_p1_rules post n r1906 (l3 + 1) v_o_foundCount f_o_placesOf u1902 f_o_found f_o_behind u1901 u1903 u1904 u1905)) ∧ (r1906 = l2 → (p_MachineBuilder_build_28 v_p1_places v_p1_last f_p1_rules post l2 v_o_foundCount f_o_placesOf u1902 f_o_found f_o_behind u1901 u1903 u1904 u1905)))))))
def p_MachineBuilder_build (v_o_foundCount : Int32) (v_p1_places : Int32) (v_p1_first : Int32) (v_p1_last : Int32) (f_p1_letters : (Nat → Int32)) (f_o_placesOf : (Nat → Int32)) (f_o_groups : (Nat → Int32)) (f_o_found : (Nat → Int32)) (f_p1_followers : (Nat → Int32)) (f_o_behind : (Nat → Int32)) (f_p1_rules : (Nat → Int32)) (f_o_newest : (Nat → Int32)) (f_o_sample : (Nat → Int32)) (f_o_older : (Nat → Int32)) (f_o_finerGroups : (Nat → Int32)) (post : Int32 → (Nat → Int32) → (Nat → Int32) → (Nat → Int32) → (Nat → Int32) → (Nat → Int32) → (Nat → Int32) → (Nat → Int32) → (Nat → Int32) → Nat → (Nat → Int32) → Nat → (Nat → Int32) → Int32 → Int32 → Prop) : Prop := (p_MachineBuilder_findSets v_o_foundCount v_p1_places v_p1_first v_p1_last f_p1_letters f_o_placesOf f_o_groups f_o_found f_p1_followers f_o_behind f_p1_rules (fun u1 u2 u3 u4 u5 => (∃ k, p_MachineBuilder_build_9 v_p1_places v_p1_last f_p1_rules post k 0 0 u1 u2 u3 u4 u5 f_o_newest f_o_sample f_o_older f_o_finerGroups)))
set_option maxHeartbeats 4000000 in
set_option maxRecDepth 100000 in
theorem k_MachineBuilder_build (l : Launch) (G : va_G) (K : Nat → ClassId) (a0 a1 a1_letters a0_placesOf a0_groups a0_found a1_followers a0_behind a1_rules a0_newest a0_sample a0_older a0_finerGroups : Nat) (sz : Nat) (v_o_foundCount : Int32) (v_p1_places : Int32) (v_p1_first : Int32) (v_p1_last : Int32) (f_p1_letters : (Nat → Int32)) (f_o_placesOf : (Nat → Int32)) (f_o_groups : (Nat → Int32)) (f_o_found : (Nat → Int32)) (f_p1_followers : (Nat → Int32)) (f_o_behind : (Nat → Int32)) (f_p1_rules : (Nat → Int32)) (f_o_newest : (Nat → Int32)) (f_o_sample : (Nat → Int32)) (f_o_older : (Nat → Int32)) (f_o_finerGroups : (Nat → Int32)) (post : Int32 → (Nat → Int32) → (Nat → Int32) → (Nat → Int32) → (Nat → Int32) → (Nat → Int32) → (Nat → Int32) → (Nat → Int32) → (Nat → Int32) → Nat → (Nat → Int32) → Nat → (Nat → Int32) → Int32 → Int32 → Prop) (h : p_MachineBuilder_build v_o_foundCount v_p1_places v_p1_first v_p1_last f_p1_letters f_o_placesOf f_o_groups f_o_found f_p1_followers f_o_behind f_p1_rules f_o_newest f_o_sample f_o_older f_o_finerGroups post) : MWr l y_MachineBuilder_build (.code y_MachineBuilder_build c_MachineBuilder_build 5 (some (.object "TokenBench$Machine"))) { frames := 4, cells := 3, slots := 3588, locals := 93 } G K [(a0, .inr (5, [.ref a0_placesOf, .ref a0_found, .int v_o_foundCount, .ref a0_behind, .ref a0_groups, .ref a0_finerGroups, .ref a0_newest, .ref a0_older, .ref a0_sample])), (a0_placesOf, .inl (K 0, 6, .inl f_o_placesOf)), (a0_groups, .inl (K 0, 512, .inl f_o_groups)), (a0_found, .inl (K 0, 512, .inl f_o_found)), (a0_behind, .inl (K 0, 512, .inl f_o_behind)), (a0_newest, .inl (K 0, 512, .inl f_o_newest)), (a0_sample, .inl (K 0, 512, .inl f_o_sample)), (a0_older, .inl (K 0, 512, .inl f_o_older)), (a0_finerGroups, .inl (K 0, 512, .inl f_o_finerGroups))] [(a1, .inr (6, [.ref a1_letters, .ref a1_followers, .ref a1_rules, .int v_p1_places, .int v_p1_first, .int v_p1_last])), (a1_letters, .inl (K 0, 9, .inl f_p1_letters)), (a1_followers, .inl (K 0, 9, .inl f_p1_followers)), (a1_rules, .inl (K 0, 9, .inl f_p1_rules))] [.ref a0, .ref a1] sz (fun (u : Int32 × (Nat → Int32) × (Nat → Int32) × (Nat → Int32) × (Nat → Int32) × (Nat → Int32) × (Nat → Int32) × (Nat → Int32) × (Nat → Int32) × Nat × (Nat → Int32) × Nat × (Nat → Int32) × Int32 × Int32 × Nat × Nat) => post u.1 u.2.1 u.2.2.1 u.2.2.2.1 u.2.2.2.2.1 u.2.2.2.2.2.1 u.2.2.2.2.2.2.1 u.2.2.2.2.2.2.2.1 u.2.2.2.2.2.2.2.2.1 u.2.2.2.2.2.2.2.2.2.1 u.2.2.2.2.2.2.2.2.2.2.1 u.2.2.2.2.2.2.2.2.2.2.2.1 u.2.2.2.2.2.2.2.2.2.2.2.2.1 u.2.2.2.2.2.2.2.2.2.2.2.2.2.1 u.2.2.2.2.2.2.2.2.2.2.2.2.2.2.1) (fun u ra => [(a0, .inr (5, [.ref a0_placesOf, .ref a0_found, .int u.1, .ref a0_behind, .ref a0_groups, .ref a0_finerGroups, .ref a0_newest, .ref a0_older, .ref a0_sample])), (a0_placesOf, .inl (K 0, 6, .inl u.2.1)), (a0_groups, .inl (K 0, 512, .inl u.2.2.1)), (a0_found, .inl (K 0, 512, .inl u.2.2.2.1)), (a0_behind, .inl (K 0, 512, .inl u.2.2.2.2.1)), (a0_newest, .inl (K 0, 512, .inl u.2.2.2.2.2.1)), (a0_sample, .inl (K 0, 512, .inl u.2.2.2.2.2.2.1)), (a0_older, .inl (K 0, 512, .inl u.2.2.2.2.2.2.2.1)), (a0_finerGroups, .inl (K 0, 512, .inl u.2.2.2.2.2.2.2.2.1)), (u.2.2.2.2.2.2.2.2.2.2.2.2.2.2.2.1, .inl (K 0, u.2.2.2.2.2.2.2.2.2.1, .inl u.2.2.2.2.2.2.2.2.2.2.1)), (u.2.2.2.2.2.2.2.2.2.2.2.2.2.2.2.2, .inl (K 0, u.2.2.2.2.2.2.2.2.2.2.2.1, .inl u.2.2.2.2.2.2.2.2.2.2.2.2.1)), (ra, .inr (4, [.ref u.2.2.2.2.2.2.2.2.2.2.2.2.2.2.2.1, .ref u.2.2.2.2.2.2.2.2.2.2.2.2.2.2.2.2, .int u.2.2.2.2.2.2.2.2.2.2.2.2.2.1, .int u.2.2.2.2.2.2.2.2.2.2.2.2.2.2.1]))]) 3 3588 := by
  refine g_metWr (cc := c_MachineBuilder_build) (maxL := 5) (ret := some (.object "TokenBench$Machine")) (by decide) rfl rfl (Nat.le_of_ble_eq_true rfl) ?_
  intro p e s m below meth c A Q hx hb hml hown hname htg hK hN hP hD hA hS hR rN hret ls hl
  have hl : lv_has ls 5 [(0, .ref a0), (1, .ref a1)] := hl
  have C_40 : ∀ (l2 : Int32) (v_o_foundCount : Int32) (f_o_placesOf : (Nat → Int32)) (f_o_groups : (Nat → Int32)) (f_o_found : (Nat → Int32)) (f_o_behind : (Nat → Int32)) (f_o_newest : (Nat → Int32)) (f_o_sample : (Nat → Int32)) (f_o_older : (Nat → Int32)) (f_o_finerGroups : (Nat → Int32)) (H : Heap) (locs : List Loc), va_P G vwCl [(a0, .inr (5, [.ref a0_placesOf, .ref a0_found, .int v_o_foundCount, .ref a0_behind, .ref a0_groups, .ref a0_finerGroups, .ref a0_newest, .ref a0_older, .ref a0_sample])), (a0_placesOf, .inl (K 0, 6, .inl f_o_placesOf)), (a0_groups, .inl (K 0, 512, .inl f_o_groups)), (a0_found, .inl (K 0, 512, .inl f_o_found)), (a0_behind, .inl (K 0, 512, .inl f_o_behind)), (a0_newest, .inl (K 0, 512, .inl f_o_newest)), (a0_sample, .inl (K 0, 512, .inl f_o_sample)), (a0_older, .inl (K 0, 512, .inl f_o_older)), (a0_finerGroups, .inl (K 0, 512, .inl f_o_finerGroups))] H → va_D A [(a0, .inr (5, [.ref a0_placesOf, .ref a0_found, .int v_o_foundCount, .ref a0_behind, .ref a0_groups, .ref a0_finerGroups, .ref a0_newest, .ref a0_older, .ref a0_sample])), (a0_placesOf, .inl (K 0, 6, .inl f_o_placesOf)), (a0_groups, .inl (K 0, 512, .inl f_o_groups)), (a0_found, .inl (K 0, 512, .inl f_o_found)), (a0_behind, .inl (K 0, 512, .inl f_o_behind)), (a0_newest, .inl (K 0, 512, .inl f_o_newest)), (a0_sample, .inl (K 0, 512, .inl f_o_sample)), (a0_older, .inl (K 0, 512, .inl f_o_older)), (a0_finerGroups, .inl (K 0, 512, .inl f_o_finerGroups))] → va_S A s.heap H locs → ∀ (ls : Array Slot), lv_has ls 5 [(0, .ref a0), (1, .ref a1), (2, .int l2)] → p_MachineBuilder_build_40 v_p1_places v_p1_last f_p1_rules post l2 v_o_foundCount f_o_placesOf f_o_groups f_o_found f_o_behind f_o_newest f_o_sample f_o_older f_o_finerGroups → W p l e { frames := 4, cells := 3, slots := 3588, locals := 93 } s m ([.ref a0, .ref a1] : List Value).toArray below meth c H locs 0 0 Q (F0 m 40 ls []) := by
    intro  l2 v_o_foundCount f_o_placesOf f_o_groups f_o_found f_o_behind f_o_newest f_o_sample f_o_older f_o_finerGroups  H locs hP hD hS ls hl h
    refine lv_aload_n hx hb d_MachineBuilder_build_40 rfl (lv_at hl 0 rfl) ?_
    refine lv_aload_n hx hb d_MachineBuilder_build_41 rfl (lv_at hl 1 rfl) ?_
    refine lv_iload_n hx hb d_MachineBuilder_build_42 rfl (lv_at hl 2 rfl) ?_
    have hPc : va_P G vwCl [] _ := hP.sub [] rfl
    have hDc : va_D A [] := hD.sub [] (by decide) rfl
    have hRc : va_P G vwCl [(a0, .inr (5, [.ref a0_placesOf, .ref a0_found, .int v_o_foundCount, .ref a0_behind, .ref a0_groups, .ref a0_finerGroups, .ref a0_newest, .ref a0_older, .ref a0_sample])), (a0_sample, .inl (K 0, 512, .inl f_o_sample)), (a1, .inr (6, [.ref a1_letters, .ref a1_followers, .ref a1_rules, .int v_p1_places, .int v_p1_first, .int v_p1_last])), (a1_rules, .inl (K 0, 9, .inl f_p1_rules)), (a0_behind, .inl (K 0, 512, .inl f_o_behind)), (a0_placesOf, .inl (K 0, 6, .inl f_o_placesOf)), (a0_groups, .inl (K 0, 512, .inl f_o_groups))] _ := (hP.app (gR hR rN hS)).sub [0, 6, 9, 12, 4, 1, 2] rfl
    have hJc : gJ [] [(a0, .inr (5, [.ref a0_placesOf, .ref a0_found, .int v_o_foundCount, .ref a0_behind, .ref a0_groups, .ref a0_finerGroups, .ref a0_newest, .ref a0_older, .ref a0_sample])), (a0_sample, .inl (K 0, 512, .inl f_o_sample)), (a1, .inr (6, [.ref a1_letters, .ref a1_followers, .ref a1_rules, .int v_p1_places, .int v_p1_first, .int v_p1_last])), (a1_rules, .inl (K 0, 9, .inl f_p1_rules)), (a0_behind, .inl (K 0, 512, .inl f_o_behind)), (a0_placesOf, .inl (K 0, 6, .inl f_o_placesOf)), (a0_groups, .inl (K 0, 512, .inl f_o_groups))] := gJ_sub hD rN [] [0, 6, 9, 12, 4, 1, 2] rfl rfl (by decide)
    refine g_callr (wr := [(a0, .inr (5, [.ref a0_placesOf, .ref a0_found, .int v_o_foundCount, .ref a0_behind, .ref a0_groups, .ref a0_finerGroups, .ref a0_newest, .ref a0_older, .ref a0_sample])), (a0_placesOf, .inl (K 0, 6, .inl f_o_placesOf)), (a0_groups, .inl (K 0, 512, .inl f_o_groups)), (a0_found, .inl (K 0, 512, .inl f_o_found)), (a0_behind, .inl (K 0, 512, .inl f_o_behind)), (a0_newest, .inl (K 0, 512, .inl f_o_newest)), (a0_sample, .inl (K 0, 512, .inl f_o_sample)), (a0_older, .inl (K 0, 512, .inl f_o_older)), (a0_finerGroups, .inl (K 0, 512, .inl f_o_finerGroups))]) (va_runV (As := [.ref a1, .int l2]) (rest := []) ⟨hx, hb, hml, hown, htg⟩ (k_MachineBuilder_machineOf l G K a0 a0_sample a1 a1_rules a0_behind a0_placesOf a0_groups a0_found a0_finerGroups a0_newest a0_older a1_letters a1_followers _ v_o_foundCount f_o_sample v_p1_places v_p1_first v_p1_last f_p1_rules f_o_behind f_o_placesOf f_o_groups l2 _ h) (cwV 2 htg (gGoodV m_132 m_133 m_854 m_6 m_134) rfl rfl rfl (by decide +kernel) ⟨(Nat.le_of_ble_eq_true rfl), (Nat.le_of_ble_eq_true rfl)⟩) (gW_preV (ci := 5) (q0 := 0) hK hN hPc hDc hRc hJc hRc rfl rfl) rfl rfl hl.1 rfl (lv_room (Nat.le_of_ble_eq_true rfl)) d_MachineBuilder_build_43 ⟨(Nat.le_of_ble_eq_true rfl), (Nat.le_of_ble_eq_true rfl)⟩) hP hD hS hA [] [0, 1, 2, 3, 4, 5, 6, 7, 8] rfl rfl (by decide) (by decide) (fun u q5003 H locs h hP hD hS => ?_)
    obtain ⟨n5004, u5005, n5006, u5007, u5008, u5009, q5001, q5002⟩ := u
    try dsimp only at h
    have hP : va_P G vwCl [(a0, .inr (5, [.ref a0_placesOf, .ref a0_found, .int v_o_foundCount, .ref a0_behind, .ref a0_groups, .ref a0_finerGroups, .ref a0_newest, .ref a0_older, .ref a0_sample])), (a0_placesOf, .inl (K 0, 6, .inl f_o_placesOf)), (a0_groups, .inl (K 0, 512, .inl f_o_groups)), (a0_found, .inl (K 0, 512, .inl f_o_found)), (a0_behind, .inl (K 0, 512, .inl f_o_behind)), (a0_newest, .inl (K 0, 512, .inl f_o_newest)), (a0_sample, .inl (K 0, 512, .inl f_o_sample)), (a0_older, .inl (K 0, 512, .inl f_o_older)), (a0_finerGroups, .inl (K 0, 512, .inl f_o_finerGroups)), (q5001, .inl (K 0, n5004, .inl u5005)), (q5002, .inl (K 0, n5006, .inl u5007)), (q5003, .inr (4, [.ref q5001, .ref q5002, .int u5008, .int u5009]))] H := hP
    have hD : va_D A [(a0, .inr (5, [.ref a0_placesOf, .ref a0_found, .int v_o_foundCount, .ref a0_behind, .ref a0_groups, .ref a0_finerGroups, .ref a0_newest, .ref a0_older, .ref a0_sample])), (a0_placesOf, .inl (K 0, 6, .inl f_o_placesOf)), (a0_groups, .inl (K 0, 512, .inl f_o_groups)), (a0_found, .inl (K 0, 512, .inl f_o_found)), (a0_behind, .inl (K 0, 512, .inl f_o_behind)), (a0_newest, .inl (K 0, 512, .inl f_o_newest)), (a0_sample, .inl (K 0, 512, .inl f_o_sample)), (a0_older, .inl (K 0, 512, .inl f_o_older)), (a0_finerGroups, .inl (K 0, 512, .inl f_o_finerGroups)), (q5001, .inl (K 0, n5004, .inl u5005)), (q5002, .inl (K 0, n5006, .inl u5007)), (q5003, .inr (4, [.ref q5001, .ref q5002, .int u5008, .int u5009]))] := hD
    exact hret (v_o_foundCount, f_o_placesOf, f_o_groups, f_o_found, f_o_behind, f_o_newest, f_o_sample, f_o_older, f_o_finerGroups, n5004, u5005, n5006, u5007, u5008, u5009, q5001, q5002) _ _ _ _ _ h (hP.sub [0, 1, 2, 3, 4, 5, 6, 7, 8, 9, 10, 11] rfl) (hD.sub [0, 1, 2, 3, 4, 5, 6, 7, 8, 9, 10, 11] (by decide) rfl) hS d_MachineBuilder_build_46
  have C_28 : ∀ (l2 : Int32) (v_o_foundCount : Int32) (f_o_placesOf : (Nat → Int32)) (f_o_groups : (Nat → Int32)) (f_o_found : (Nat → Int32)) (f_o_behind : (Nat → Int32)) (f_o_newest : (Nat → Int32)) (f_o_sample : (Nat → Int32)) (f_o_older : (Nat → Int32)) (f_o_finerGroups : (Nat → Int32)) (H : Heap) (locs : List Loc), va_P G vwCl [(a0, .inr (5, [.ref a0_placesOf, .ref a0_found, .int v_o_foundCount, .ref a0_behind, .ref a0_groups, .ref a0_finerGroups, .ref a0_newest, .ref a0_older, .ref a0_sample])), (a0_placesOf, .inl (K 0, 6, .inl f_o_placesOf)), (a0_groups, .inl (K 0, 512, .inl f_o_groups)), (a0_found, .inl (K 0, 512, .inl f_o_found)), (a0_behind, .inl (K 0, 512, .inl f_o_behind)), (a0_newest, .inl (K 0, 512, .inl f_o_newest)), (a0_sample, .inl (K 0, 512, .inl f_o_sample)), (a0_older, .inl (K 0, 512, .inl f_o_older)), (a0_finerGroups, .inl (K 0, 512, .inl f_o_finerGroups))] H → va_D A [(a0, .inr (5, [.ref a0_placesOf, .ref a0_found, .int v_o_foundCount, .ref a0_behind, .ref a0_groups, .ref a0_finerGroups, .ref a0_newest, .ref a0_older, .ref a0_sample])), (a0_placesOf, .inl (K 0, 6, .inl f_o_placesOf)), (a0_groups, .inl (K 0, 512, .inl f_o_groups)), (a0_found, .inl (K 0, 512, .inl f_o_found)), (a0_behind, .inl (K 0, 512, .inl f_o_behind)), (a0_newest, .inl (K 0, 512, .inl f_o_newest)), (a0_sample, .inl (K 0, 512, .inl f_o_sample)), (a0_older, .inl (K 0, 512, .inl f_o_older)), (a0_finerGroups, .inl (K 0, 512, .inl f_o_finerGroups))] → va_S A s.heap H locs → ∀ (ls : Array Slot), lv_has ls 5 [(0, .ref a0), (1, .ref a1), (2, .int l2)] → p_MachineBuilder_build_28 v_p1_places v_p1_last f_p1_rules post l2 v_o_foundCount f_o_placesOf f_o_groups f_o_found f_o_behind f_o_newest f_o_sample f_o_older f_o_finerGroups → W p l e { frames := 4, cells := 3, slots := 3588, locals := 93 } s m ([.ref a0, .ref a1] : List Value).toArray below meth c H locs 0 0 Q (F0 m 28 ls []) := by
    intro  l2 v_o_foundCount f_o_placesOf f_o_groups f_o_found f_o_behind f_o_newest f_o_sample f_o_older f_o_finerGroups  H locs hP hD hS ls hl h
    refine lv_goto (tgt := 40) hx hb d_MachineBuilder_build_28 (by decide) ?_
    exact C_40 l2 v_o_foundCount f_o_placesOf f_o_groups f_o_found f_o_behind f_o_newest f_o_sample f_o_older f_o_finerGroups  _ _ (hP.sub [0, 1, 2, 3, 4, 5, 6, 7, 8] rfl) (hD.sub [0, 1, 2, 3, 4, 5, 6, 7, 8] (by decide) rfl) hS _ (lv_sub hl [0, 1, 2] rfl) h
  have C_9 : ∀ (n : Nat) (l2 : Int32) (l3 : Int32) (v_o_foundCount : Int32) (f_o_placesOf : (Nat → Int32)) (f_o_groups : (Nat → Int32)) (f_o_found : (Nat → Int32)) (f_o_behind : (Nat → Int32)) (f_o_newest : (Nat → Int32)) (f_o_sample : (Nat → Int32)) (f_o_older : (Nat → Int32)) (f_o_finerGroups : (Nat → Int32)) (H : Heap) (locs : List Loc), va_P G vwCl [(a0, .inr (5, [.ref a0_placesOf, .ref a0_found, .int v_o_foundCount, .ref a0_behind, .ref a0_groups, .ref a0_finerGroups, .ref a0_newest, .ref a0_older, .ref a0_sample])), (a0_placesOf, .inl (K 0, 6, .inl f_o_placesOf)), (a0_groups, .inl (K 0, 512, .inl f_o_groups)), (a0_found, .inl (K 0, 512, .inl f_o_found)), (a0_behind, .inl (K 0, 512, .inl f_o_behind)), (a0_newest, .inl (K 0, 512, .inl f_o_newest)), (a0_sample, .inl (K 0, 512, .inl f_o_sample)), (a0_older, .inl (K 0, 512, .inl f_o_older)), (a0_finerGroups, .inl (K 0, 512, .inl f_o_finerGroups))] H → va_D A [(a0, .inr (5, [.ref a0_placesOf, .ref a0_found, .int v_o_foundCount, .ref a0_behind, .ref a0_groups, .ref a0_finerGroups, .ref a0_newest, .ref a0_older, .ref a0_sample])), (a0_placesOf, .inl (K 0, 6, .inl f_o_placesOf)), (a0_groups, .inl (K 0, 512, .inl f_o_groups)), (a0_found, .inl (K 0, 512, .inl f_o_found)), (a0_behind, .inl (K 0, 512, .inl f_o_behind)), (a0_newest, .inl (K 0, 512, .inl f_o_newest)), (a0_sample, .inl (K 0, 512, .inl f_o_sample)), (a0_older, .inl (K 0, 512, .inl f_o_older)), (a0_finerGroups, .inl (K 0, 512, .inl f_o_finerGroups))] → va_S A s.heap H locs → ∀ (ls : Array Slot), lv_has ls 5 [(0, .ref a0), (1, .ref a1), (2, .int l2), (3, .int l3)] → p_MachineBuilder_build_9 v_p1_places v_p1_last f_p1_rules post n l2 l3 v_o_foundCount f_o_placesOf f_o_groups f_o_found f_o_behind f_o_newest f_o_sample f_o_older f_o_finerGroups → W p l e { frames := 4, cells := 3, slots := 3588, locals := 93 } s m ([.ref a0, .ref a1] : List Value).toArray below meth c H locs 0 0 Q (F0 m 9 ls []) := by
    intro n
    induction n with
    | zero =>
      intro l2 l3 v_o_foundCount f_o_placesOf f_o_groups f_o_found f_o_behind f_o_newest f_o_sample f_o_older f_o_finerGroups  H locs hP hD hS ls hl h
      exact False.elim h
    | succ n ih =>
      intro l2 l3 v_o_foundCount f_o_placesOf f_o_groups f_o_found f_o_behind f_o_newest f_o_sample f_o_older f_o_finerGroups  H locs hP hD hS ls hl h
      refine lv_iload_n hx hb d_MachineBuilder_build_9 rfl (lv_at hl 3 rfl) ?_
      refine lv_sipush (v := 512) hx hb d_MachineBuilder_build_10 (by decide) ?_
      refine lv_icmp_gt (tgt := 40) hx hb d_MachineBuilder_build_13 (by decide) (fun hc => ?_) (fun hc => ?_)
      · replace h := h.1 hc
        exact C_40 l2 v_o_foundCount f_o_placesOf f_o_groups f_o_found f_o_behind f_o_newest f_o_sample f_o_older f_o_finerGroups  _ _ (hP.sub [0, 1, 2, 3, 4, 5, 6, 7, 8] rfl) (hD.sub [0, 1, 2, 3, 4, 5, 6, 7, 8] (by decide) rfl) hS _ (lv_sub hl [0, 1, 2] rfl) h
      · replace h := h.2 hc
        refine lv_aload_n hx hb d_MachineBuilder_build_16 rfl (lv_at hl 0 rfl) ?_
        have hPc : va_P G vwCl [(a0_newest, .inl (K 0, 512, .inl f_o_newest)), (a0_groups, .inl (K 0, 512, .inl f_o_groups)), (a0_sample, .inl (K 0, 512, .inl f_o_sample)), (a0_older, .inl (K 0, 512, .inl f_o_older)), (a0_finerGroups, .inl (K 0, 512, .inl f_o_finerGroups))] _ := hP.sub [5, 2, 6, 7, 8] rfl
        have hDc : va_D A [(a0_newest, .inl (K 0, 512, .inl f_o_newest)), (a0_groups, .inl (K 0, 512, .inl f_o_groups)), (a0_sample, .inl (K 0, 512, .inl f_o_sample)), (a0_older, .inl (K 0, 512, .inl f_o_older)), (a0_finerGroups, .inl (K 0, 512, .inl f_o_finerGroups))] := hD.sub [5, 2, 6, 7, 8] (by decide) rfl
        have hRc : va_P G vwCl [(a0, .inr (5, [.ref a0_placesOf, .ref a0_found, .int v_o_foundCount, .ref a0_behind, .ref a0_groups, .ref a0_finerGroups, .ref a0_newest, .ref a0_older, .ref a0_sample])), (a0_found, .inl (K 0, 512, .inl f_o_found)), (a0_behind, .inl (K 0, 512, .inl f_o_behind)), (a0_placesOf, .inl (K 0, 6, .inl f_o_placesOf))] _ := hP.sub [0, 3, 4, 1] rfl
        have hJc : gJ [(a0_newest, .inl (K 0, 512, .inl f_o_newest)), (a0_groups, .inl (K 0, 512, .inl f_o_groups)), (a0_sample, .inl (K 0, 512, .inl f_o_sample)), (a0_older, .inl (K 0, 512, .inl f_o_older)), (a0_finerGroups, .inl (K 0, 512, .inl f_o_finerGroups))] [(a0, .inr (5, [.ref a0_placesOf, .ref a0_found, .int v_o_foundCount, .ref a0_behind, .ref a0_groups, .ref a0_finerGroups, .ref a0_newest, .ref a0_older, .ref a0_sample])), (a0_found, .inl (K 0, 512, .inl f_o_found)), (a0_behind, .inl (K 0, 512, .inl f_o_behind)), (a0_placesOf, .inl (K 0, 6, .inl f_o_placesOf))] := gJ_sub hD rN [5, 2, 6, 7, 8] [0, 3, 4, 1] rfl rfl (by decide)
        refine g_calli (wr := [(a0, .inr (5, [.ref a0_placesOf, .ref a0_found, .int v_o_foundCount, .ref a0_behind, .ref a0_groups, .ref a0_finerGroups, .ref a0_newest, .ref a0_older, .ref a0_sample])), (a0_placesOf, .inl (K 0, 6, .inl f_o_placesOf)), (a0_found, .inl (K 0, 512, .inl f_o_found)), (a0_behind, .inl (K 0, 512, .inl f_o_behind))]) (va_runV (As := []) (rest := []) ⟨hx, hb, hml, hown, htg⟩ (k_MachineBuilder_refine l G K a0 a0_newest a0_found a0_groups a0_sample a0_behind a0_placesOf a0_older a0_finerGroups _ v_o_foundCount f_o_newest f_o_found f_o_groups f_o_sample f_o_behind f_o_placesOf f_o_older f_o_finerGroups _ h) (cwV 0 htg (gGoodV m_120 m_121 m_856 m_6 m_122) rfl rfl rfl (by decide +kernel) ⟨(Nat.le_of_ble_eq_true rfl), (Nat.le_of_ble_eq_true rfl)⟩) (gW_preV (ci := 5) (q0 := 0) hK hN hPc hDc hRc hJc hRc rfl rfl) rfl rfl hl.1 rfl (lv_room (Nat.le_of_ble_eq_true rfl)) d_MachineBuilder_build_17 ⟨(Nat.le_of_ble_eq_true rfl), (Nat.le_of_ble_eq_true rfl)⟩) hP hD hS hA [5, 2, 6, 7, 8] [0, 1, 3, 4] rfl rfl (by decide) (by decide) (fun r1906 u H locs h hP hD hS => ?_)
        obtain ⟨u1901, u1902, u1903, u1904, u1905⟩ := u
        try dsimp only at h
        have hP : va_P G vwCl [(a0, .inr (5, [.ref a0_placesOf, .ref a0_found, .int v_o_foundCount, .ref a0_behind, .ref a0_groups, .ref a0_finerGroups, .ref a0_newest, .ref a0_older, .ref a0_sample])), (a0_placesOf, .inl (K 0, 6, .inl f_o_placesOf)), (a0_found, .inl (K 0, 512, .inl f_o_found)), (a0_behind, .inl (K 0, 512, .inl f_o_behind)), (a0_newest, .inl (K 0, 512, .inl u1901)), (a0_groups, .inl (K 0, 512, .inl u1902)), (a0_sample, .inl (K 0, 512, .inl u1903)), (a0_older, .inl (K 0, 512, .inl u1904)), (a0_finerGroups, .inl (K 0, 512, .inl u1905))] H := hP
        have hD : va_D A [(a0, .inr (5, [.ref a0_placesOf, .ref a0_found, .int v_o_foundCount, .ref a0_behind, .ref a0_groups, .ref a0_finerGroups, .ref a0_newest, .ref a0_older, .ref a0_sample])), (a0_placesOf, .inl (K 0, 6, .inl f_o_placesOf)), (a0_found, .inl (K 0, 512, .inl f_o_found)), (a0_behind, .inl (K 0, 512, .inl f_o_behind)), (a0_newest, .inl (K 0, 512, .inl u1901)), (a0_groups, .inl (K 0, 512, .inl u1902)), (a0_sample, .inl (K 0, 512, .inl u1903)), (a0_older, .inl (K 0, 512, .inl u1904)), (a0_finerGroups, .inl (K 0, 512, .inl u1905))] := hD
        refine lv_istore (lv' := [(4, .int r1906), (0, .ref a0), (1, .ref a1), (2, .int l2), (3, .int l3)]) hx hb d_MachineBuilder_build_20 hl (by decide) rfl (fun ls hl => ?_)
        refine lv_iload hx hb d_MachineBuilder_build_22 (lv_at hl 0 rfl) ?_
        refine lv_iload_n hx hb d_MachineBuilder_build_24 rfl (lv_at hl 3 rfl) ?_
        refine lv_icmp_ne (tgt := 31) hx hb d_MachineBuilder_build_25 (by decide) (fun hc => ?_) (fun hc => ?_)
        · replace h := h.1 hc
          refine lv_iload hx hb d_MachineBuilder_build_31 (lv_at hl 0 rfl) ?_
          refine lv_istore_n (lv' := [(2, .int r1906), (4, .int r1906), (0, .ref a0), (1, .ref a1), (3, .int l3)]) hx hb d_MachineBuilder_build_33 rfl hl (by decide) rfl (fun ls hl => ?_)
          refine lv_iinc (v := (l3 + 1)) (lv' := [(3, .int (l3 + 1)), (2, .int r1906), (4, .int r1906), (0, .ref a0), (1, .ref a1)]) hx hb d_MachineBuilder_build_34 hl (k := 4) rfl (by first | rfl | decide) (by decide) rfl (fun ls hl => ?_)
          refine lv_goto (tgt := 9) hx hb d_MachineBuilder_build_37 (by decide) ?_
          exact ih r1906 (l3 + 1) v_o_foundCount f_o_placesOf u1902 f_o_found f_o_behind u1901 u1903 u1904 u1905  _ _ (hP.sub [0, 1, 5, 2, 3, 4, 6, 7, 8] rfl) (hD.sub [0, 1, 5, 2, 3, 4, 6, 7, 8] (by decide) rfl) hS _ (lv_sub hl [3, 4, 1, 0] rfl) h
        · replace h := h.2 hc
          exact C_28 l2 v_o_foundCount f_o_placesOf u1902 f_o_found f_o_behind u1901 u1903 u1904 u1905  _ _ (hP.sub [0, 1, 5, 2, 3, 4, 6, 7, 8] rfl) (hD.sub [0, 1, 5, 2, 3, 4, 6, 7, 8] (by decide) rfl) hS _ (lv_sub hl [1, 2, 3] rfl) h
  refine lv_aload_n hx hb d_MachineBuilder_build_0 rfl (lv_at hl 0 rfl) ?_
  refine lv_aload_n hx hb d_MachineBuilder_build_1 rfl (lv_at hl 1 rfl) ?_
  have hPc : va_P G vwCl [(a0, .inr (5, [.ref a0_placesOf, .ref a0_found, .int v_o_foundCount, .ref a0_behind, .ref a0_groups, .ref a0_finerGroups, .ref a0_newest, .ref a0_older, .ref a0_sample])), (a0_placesOf, .inl (K 0, 6, .inl f_o_placesOf)), (a0_groups, .inl (K 0, 512, .inl f_o_groups)), (a0_found, .inl (K 0, 512, .inl f_o_found)), (a0_behind, .inl (K 0, 512, .inl f_o_behind))] _ := hP.sub [0, 1, 2, 3, 4] rfl
  have hDc : va_D A [(a0, .inr (5, [.ref a0_placesOf, .ref a0_found, .int v_o_foundCount, .ref a0_behind, .ref a0_groups, .ref a0_finerGroups, .ref a0_newest, .ref a0_older, .ref a0_sample])), (a0_placesOf, .inl (K 0, 6, .inl f_o_placesOf)), (a0_groups, .inl (K 0, 512, .inl f_o_groups)), (a0_found, .inl (K 0, 512, .inl f_o_found)), (a0_behind, .inl (K 0, 512, .inl f_o_behind))] := hD.sub [0, 1, 2, 3, 4] (by decide) rfl
  have hRc : va_P G vwCl [(a1, .inr (6, [.ref a1_letters, .ref a1_followers, .ref a1_rules, .int v_p1_places, .int v_p1_first, .int v_p1_last])), (a1_letters, .inl (K 0, 9, .inl f_p1_letters)), (a1_followers, .inl (K 0, 9, .inl f_p1_followers)), (a1_rules, .inl (K 0, 9, .inl f_p1_rules))] _ := (gR hR rN hS).sub [0, 1, 2, 3] rfl
  have hJc : gJ [(a0, .inr (5, [.ref a0_placesOf, .ref a0_found, .int v_o_foundCount, .ref a0_behind, .ref a0_groups, .ref a0_finerGroups, .ref a0_newest, .ref a0_older, .ref a0_sample])), (a0_placesOf, .inl (K 0, 6, .inl f_o_placesOf)), (a0_groups, .inl (K 0, 512, .inl f_o_groups)), (a0_found, .inl (K 0, 512, .inl f_o_found)), (a0_behind, .inl (K 0, 512, .inl f_o_behind))] [(a1, .inr (6, [.ref a1_letters, .ref a1_followers, .ref a1_rules, .int v_p1_places, .int v_p1_first, .int v_p1_last])), (a1_letters, .inl (K 0, 9, .inl f_p1_letters)), (a1_followers, .inl (K 0, 9, .inl f_p1_followers)), (a1_rules, .inl (K 0, 9, .inl f_p1_rules))] := gJ_A hDc (gN_sub rN [0, 1, 2, 3] rfl)
  refine g_callv (wr := [(a0_newest, .inl (K 0, 512, .inl f_o_newest)), (a0_sample, .inl (K 0, 512, .inl f_o_sample)), (a0_older, .inl (K 0, 512, .inl f_o_older)), (a0_finerGroups, .inl (K 0, 512, .inl f_o_finerGroups))]) (va_runV (As := [.ref a1]) (rest := []) ⟨hx, hb, hml, hown, htg⟩ (k_MachineBuilder_findSets l G K a0 a1 a1_letters a0_placesOf a0_groups a0_found a1_followers a0_behind a1_rules a0_finerGroups a0_newest a0_older a0_sample _ v_o_foundCount v_p1_places v_p1_first v_p1_last f_p1_letters f_o_placesOf f_o_groups f_o_found f_p1_followers f_o_behind f_p1_rules _ h) (cwV 1 htg (gGoodV m_97 m_98 m_850 m_6 m_99) rfl rfl rfl (by decide +kernel) ⟨(Nat.le_of_ble_eq_true rfl), (Nat.le_of_ble_eq_true rfl)⟩) (gW_preV (ci := 5) (q0 := 0) hK hN hPc hDc hRc hJc hPc rfl rfl) rfl rfl hl.1 rfl (lv_room (Nat.le_of_ble_eq_true rfl)) d_MachineBuilder_build_2 ⟨(Nat.le_of_ble_eq_true rfl), (Nat.le_of_ble_eq_true rfl)⟩) hP hD hS hA [0, 1, 2, 3, 4] [5, 6, 7, 8] rfl rfl (by decide) (by decide) (fun u H locs h hP hD hS => ?_)
  obtain ⟨u1, u2, u3, u4, u5⟩ := u
  try dsimp only at h
  have hP : va_P G vwCl [(a0_newest, .inl (K 0, 512, .inl f_o_newest)), (a0_sample, .inl (K 0, 512, .inl f_o_sample)), (a0_older, .inl (K 0, 512, .inl f_o_older)), (a0_finerGroups, .inl (K 0, 512, .inl f_o_finerGroups)), (a0, .inr (5, [.ref a0_placesOf, .ref a0_found, .int u1, .ref a0_behind, .ref a0_groups, .ref a0_finerGroups, .ref a0_newest, .ref a0_older, .ref a0_sample])), (a0_placesOf, .inl (K 0, 6, .inl u2)), (a0_groups, .inl (K 0, 512, .inl u3)), (a0_found, .inl (K 0, 512, .inl u4)), (a0_behind, .inl (K 0, 512, .inl u5))] H := hP
  have hD : va_D A [(a0_newest, .inl (K 0, 512, .inl f_o_newest)), (a0_sample, .inl (K 0, 512, .inl f_o_sample)), (a0_older, .inl (K 0, 512, .inl f_o_older)), (a0_finerGroups, .inl (K 0, 512, .inl f_o_finerGroups)), (a0, .inr (5, [.ref a0_placesOf, .ref a0_found, .int u1, .ref a0_behind, .ref a0_groups, .ref a0_finerGroups, .ref a0_newest, .ref a0_older, .ref a0_sample])), (a0_placesOf, .inl (K 0, 6, .inl u2)), (a0_groups, .inl (K 0, 512, .inl u3)), (a0_found, .inl (K 0, 512, .inl u4)), (a0_behind, .inl (K 0, 512, .inl u5))] := hD
  refine lv_iconst (v := 0) hx hb d_MachineBuilder_build_5 (by decide) ?_
  refine lv_istore_n (lv' := [(2, .int 0), (0, .ref a0), (1, .ref a1)]) hx hb d_MachineBuilder_build_6 rfl hl (by decide) rfl (fun ls hl => ?_)
  refine lv_iconst (v := 0) hx hb d_MachineBuilder_build_7 (by decide) ?_
  refine lv_istore_n (lv' := [(3, .int 0), (2, .int 0), (0, .ref a0), (1, .ref a1)]) hx hb d_MachineBuilder_build_8 rfl hl (by decide) rfl (fun ls hl => ?_)
  obtain ⟨k, h⟩ := h
  exact C_9 k 0 0 u1 u2 u3 u4 u5 f_o_newest f_o_sample f_o_older f_o_finerGroups  _ _ (hP.sub [4, 5, 6, 7, 8, 0, 1, 2, 3] rfl) (hD.sub [4, 5, 6, 7, 8, 0, 1, 2, 3] (by decide) rfl) hS _ (lv_sub hl [2, 3, 1, 0] rfl) h
