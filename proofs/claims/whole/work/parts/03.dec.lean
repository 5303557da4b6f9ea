theorem dX0_init_0 : decode cX0_init 0 = .ok (.aload_n 0, 1) := by decide +kernel
theorem dX0_init_1 : decode cX0_init 1 = .ok (.invokespecial 3, 3) := by decide +kernel
theorem dX0_init_4 : decode cX0_init 4 = .ok (.aload_n 0, 1) := by decide +kernel
theorem dX0_init_5 : decode cX0_init 5 = .ok (.bipush 8, 2) := by decide +kernel
theorem dX0_init_7 : decode cX0_init 7 = .ok (.newarray .int, 2) := by decide +kernel
theorem dX0_init_9 : decode cX0_init 9 = .ok (.putfield 9, 3) := by decide +kernel
theorem dX0_init_12 : decode cX0_init 12 = .ok (.aload_n 0, 1) := by decide +kernel
theorem dX0_init_13 : decode cX0_init 13 = .ok (.aload_n 1, 1) := by decide +kernel
theorem dX0_init_14 : decode cX0_init 14 = .ok (.putfield 15, 3) := by decide +kernel
theorem dX0_init_17 : decode cX0_init 17 = .ok (.aload_n 0, 1) := by decide +kernel
theorem dX0_init_18 : decode cX0_init 18 = .ok (.aload_n 2, 1) := by decide +kernel
theorem dX0_init_19 : decode cX0_init 19 = .ok (.putfield 19, 3) := by decide +kernel
theorem dX0_init_22 : decode cX0_init 22 = .ok (.return_, 1) := by decide +kernel
theorem dX0_add_0 : decode cX0_add 0 = .ok (.aload_n 0, 1) := by decide +kernel
theorem dX0_add_1 : decode cX0_add 1 = .ok (.getfield 9, 3) := by decide +kernel
theorem dX0_add_4 : decode cX0_add 4 = .ok (.aload_n 0, 1) := by decide +kernel
theorem dX0_add_5 : decode cX0_add 5 = .ok (.getfield 23, 3) := by decide +kernel
theorem dX0_add_8 : decode cX0_add 8 = .ok (.iload_n 1, 1) := by decide +kernel
theorem dX0_add_9 : decode cX0_add 9 = .ok (.iastore, 1) := by decide +kernel
theorem dX0_add_10 : decode cX0_add 10 = .ok (.aload_n 0, 1) := by decide +kernel
theorem dX0_add_11 : decode cX0_add 11 = .ok (.dup, 1) := by decide +kernel
theorem dX0_add_12 : decode cX0_add 12 = .ok (.getfield 23, 3) := by decide +kernel
theorem dX0_add_15 : decode cX0_add 15 = .ok (.iconst 1, 1) := by decide +kernel
theorem dX0_add_16 : decode cX0_add 16 = .ok (.iadd, 1) := by decide +kernel
theorem dX0_add_17 : decode cX0_add 17 = .ok (.putfield 23, 3) := by decide +kernel
theorem dX0_add_20 : decode cX0_add 20 = .ok (.return_, 1) := by decide +kernel
theorem dX0_firstAbove_0 : decode cX0_firstAbove 0 = .ok (.aload_n 0, 1) := by decide +kernel
theorem dX0_firstAbove_1 : decode cX0_firstAbove 1 = .ok (.getfield 15, 3) := by decide +kernel
theorem dX0_firstAbove_4 : decode cX0_firstAbove 4 = .ok (.getfield 27, 3) := by decide +kernel
theorem dX0_firstAbove_7 : decode cX0_firstAbove 7 = .ok (.iload_n 1, 1) := by decide +kernel
theorem dX0_firstAbove_8 : decode cX0_firstAbove 8 = .ok (.iaload, 1) := by decide +kernel
theorem dX0_firstAbove_9 : decode cX0_firstAbove 9 = .ok (.istore_n 3, 1) := by decide +kernel
theorem dX0_firstAbove_10 : decode cX0_firstAbove 10 = .ok (.iconst 0, 1) := by decide +kernel
theorem dX0_firstAbove_11 : decode cX0_firstAbove 11 = .ok (.istore 4, 2) := by decide +kernel
theorem dX0_firstAbove_13 : decode cX0_firstAbove 13 = .ok (.iload 4, 2) := by decide +kernel
theorem dX0_firstAbove_15 : decode cX0_firstAbove 15 = .ok (.aload_n 0, 1) := by decide +kernel
theorem dX0_firstAbove_16 : decode cX0_firstAbove 16 = .ok (.getfield 23, 3) := by decide +kernel
theorem dX0_firstAbove_19 : decode cX0_firstAbove 19 = .ok (.if_icmp .ge 59, 3) := by decide +kernel
theorem dX0_firstAbove_22 : decode cX0_firstAbove 22 = .ok (.iload 4, 2) := by decide +kernel
theorem dX0_firstAbove_24 : decode cX0_firstAbove 24 = .ok (.iload_n 3, 1) := by decide +kernel
theorem dX0_firstAbove_25 : decode cX0_firstAbove 25 = .ok (.if_icmp .ge 53, 3) := by decide +kernel
theorem dX0_firstAbove_28 : decode cX0_firstAbove 28 = .ok (.aload_n 0, 1) := by decide +kernel
theorem dX0_firstAbove_29 : decode cX0_firstAbove 29 = .ok (.getfield 9, 3) := by decide +kernel
theorem dX0_firstAbove_32 : decode cX0_firstAbove 32 = .ok (.iload 4, 2) := by decide +kernel
theorem dX0_firstAbove_34 : decode cX0_firstAbove 34 = .ok (.iaload, 1) := by decide +kernel
theorem dX0_firstAbove_35 : decode cX0_firstAbove 35 = .ok (.aload_n 0, 1) := by decide +kernel
theorem dX0_firstAbove_36 : decode cX0_firstAbove 36 = .ok (.getfield 19, 3) := by decide +kernel
theorem dX0_firstAbove_39 : decode cX0_firstAbove 39 = .ok (.aload_n 0, 1) := by decide +kernel
theorem dX0_firstAbove_40 : decode cX0_firstAbove 40 = .ok (.getfield 15, 3) := by decide +kernel
theorem dX0_firstAbove_43 : decode cX0_firstAbove 43 = .ok (.getfield 32, 3) := by decide +kernel
theorem dX0_firstAbove_46 : decode cX0_firstAbove 46 = .ok (.iload_n 1, 1) := by decide +kernel
theorem dX0_firstAbove_47 : decode cX0_firstAbove 47 = .ok (.aaload, 1) := by decide +kernel
theorem dX0_firstAbove_48 : decode cX0_firstAbove 48 = .ok (.iload 4, 2) := by decide +kernel
theorem dX0_firstAbove_50 : decode cX0_firstAbove 50 = .ok (.iaload, 1) := by decide +kernel
theorem dX0_firstAbove_51 : decode cX0_firstAbove 51 = .ok (.aload_n 0, 1) := by decide +kernel
theorem dX0_firstAbove_52 : decode cX0_firstAbove 52 = .ok (.getfield 15, 3) := by decide +kernel
theorem dX0_firstAbove_55 : decode cX0_firstAbove 55 = .ok (.iload_n 1, 1) := by decide +kernel
theorem dX0_firstAbove_56 : decode cX0_firstAbove 56 = .ok (.iload 4, 2) := by decide +kernel
theorem dX0_firstAbove_58 : decode cX0_firstAbove 58 = .ok (.invokevirtual 36, 3) := by decide +kernel
theorem dX0_firstAbove_61 : decode cX0_firstAbove 61 = .ok (.invokevirtual 40, 3) := by decide +kernel
theorem dX0_firstAbove_64 : decode cX0_firstAbove 64 = .ok (.iload_n 2, 1) := by decide +kernel
theorem dX0_firstAbove_65 : decode cX0_firstAbove 65 = .ok (.iadd, 1) := by decide +kernel
theorem dX0_firstAbove_66 : decode cX0_firstAbove 66 = .ok (.if_icmp .le 6, 3) := by decide +kernel
theorem dX0_firstAbove_69 : decode cX0_firstAbove 69 = .ok (.iload 4, 2) := by decide +kernel
theorem dX0_firstAbove_71 : decode cX0_firstAbove 71 = .ok (.ireturn, 1) := by decide +kernel
theorem dX0_firstAbove_72 : decode cX0_firstAbove 72 = .ok (.iinc 4 1, 3) := by decide +kernel
theorem dX0_firstAbove_75 : decode cX0_firstAbove 75 = .ok (.goto (-62), 3) := by decide +kernel
theorem dX0_firstAbove_78 : decode cX0_firstAbove 78 = .ok (.aload_n 0, 1) := by decide +kernel
theorem dX0_firstAbove_79 : decode cX0_firstAbove 79 = .ok (.getfield 23, 3) := by decide +kernel
theorem dX0_firstAbove_82 : decode cX0_firstAbove 82 = .ok (.iload_n 3, 1) := by decide +kernel
theorem dX0_firstAbove_83 : decode cX0_firstAbove 83 = .ok (.if_icmp .ge 8, 3) := by decide +kernel
theorem dX0_firstAbove_86 : decode cX0_firstAbove 86 = .ok (.aload_n 0, 1) := by decide +kernel
theorem dX0_firstAbove_87 : decode cX0_firstAbove 87 = .ok (.getfield 23, 3) := by decide +kernel
theorem dX0_firstAbove_90 : decode cX0_firstAbove 90 = .ok (.ireturn, 1) := by decide +kernel
theorem dX0_firstAbove_91 : decode cX0_firstAbove 91 = .ok (.aload_n 0, 1) := by decide +kernel
theorem dX0_firstAbove_92 : decode cX0_firstAbove 92 = .ok (.getfield 23, 3) := by decide +kernel
theorem dX0_firstAbove_95 : decode cX0_firstAbove 95 = .ok (.iload_n 3, 1) := by decide +kernel
theorem dX0_firstAbove_96 : decode cX0_firstAbove 96 = .ok (.if_icmp .le 8, 3) := by decide +kernel
theorem dX0_firstAbove_99 : decode cX0_firstAbove 99 = .ok (.bipush 99, 2) := by decide +kernel
theorem dX0_firstAbove_101 : decode cX0_firstAbove 101 = .ok (.goto 5, 3) := by decide +kernel
theorem dX0_firstAbove_104 : decode cX0_firstAbove 104 = .ok (.bipush (-9), 2) := by decide +kernel
theorem dX0_firstAbove_106 : decode cX0_firstAbove 106 = .ok (.ireturn, 1) := by decide +kernel
theorem dX0_allAbove_0 : decode cX0_allAbove 0 = .ok (.iconst 0, 1) := by decide +kernel
theorem dX0_allAbove_1 : decode cX0_allAbove 1 = .ok (.istore_n 2, 1) := by decide +kernel
theorem dX0_allAbove_2 : decode cX0_allAbove 2 = .ok (.iconst 0, 1) := by decide +kernel
theorem dX0_allAbove_3 : decode cX0_allAbove 3 = .ok (.istore_n 3, 1) := by decide +kernel
theorem dX0_allAbove_4 : decode cX0_allAbove 4 = .ok (.iload_n 3, 1) := by decide +kernel
theorem dX0_allAbove_5 : decode cX0_allAbove 5 = .ok (.aload_n 0, 1) := by decide +kernel
theorem dX0_allAbove_6 : decode cX0_allAbove 6 = .ok (.getfield 23, 3) := by decide +kernel
theorem dX0_allAbove_9 : decode cX0_allAbove 9 = .ok (.if_icmp .ge 70, 3) := by decide +kernel
theorem dX0_allAbove_12 : decode cX0_allAbove 12 = .ok (.aload_n 0, 1) := by decide +kernel
theorem dX0_allAbove_13 : decode cX0_allAbove 13 = .ok (.getfield 15, 3) := by decide +kernel
theorem dX0_allAbove_16 : decode cX0_allAbove 16 = .ok (.iload_n 1, 1) := by decide +kernel
theorem dX0_allAbove_17 : decode cX0_allAbove 17 = .ok (.iload_n 3, 1) := by decide +kernel
theorem dX0_allAbove_18 : decode cX0_allAbove 18 = .ok (.invokevirtual 45, 3) := by decide +kernel
theorem dX0_allAbove_21 : decode cX0_allAbove 21 = .ok (.ifCond .eq 33, 3) := by decide +kernel
theorem dX0_allAbove_24 : decode cX0_allAbove 24 = .ok (.aload_n 0, 1) := by decide +kernel
theorem dX0_allAbove_25 : decode cX0_allAbove 25 = .ok (.getfield 19, 3) := by decide +kernel
theorem dX0_allAbove_28 : decode cX0_allAbove 28 = .ok (.aload_n 0, 1) := by decide +kernel
theorem dX0_allAbove_29 : decode cX0_allAbove 29 = .ok (.getfield 15, 3) := by decide +kernel
theorem dX0_allAbove_32 : decode cX0_allAbove 32 = .ok (.getfield 32, 3) := by decide +kernel
theorem dX0_allAbove_35 : decode cX0_allAbove 35 = .ok (.iload_n 1, 1) := by decide +kernel
theorem dX0_allAbove_36 : decode cX0_allAbove 36 = .ok (.aaload, 1) := by decide +kernel
theorem dX0_allAbove_37 : decode cX0_allAbove 37 = .ok (.iload_n 3, 1) := by decide +kernel
theorem dX0_allAbove_38 : decode cX0_allAbove 38 = .ok (.iaload, 1) := by decide +kernel
theorem dX0_allAbove_39 : decode cX0_allAbove 39 = .ok (.aload_n 0, 1) := by decide +kernel
theorem dX0_allAbove_40 : decode cX0_allAbove 40 = .ok (.getfield 15, 3) := by decide +kernel
theorem dX0_allAbove_43 : decode cX0_allAbove 43 = .ok (.iload_n 1, 1) := by decide +kernel
theorem dX0_allAbove_44 : decode cX0_allAbove 44 = .ok (.iload_n 3, 1) := by decide +kernel
theorem dX0_allAbove_45 : decode cX0_allAbove 45 = .ok (.invokevirtual 36, 3) := by decide +kernel
theorem dX0_allAbove_48 : decode cX0_allAbove 48 = .ok (.invokevirtual 40, 3) := by decide +kernel
theorem dX0_allAbove_51 : decode cX0_allAbove 51 = .ok (.goto 4, 3) := by decide +kernel
theorem dX0_allAbove_54 : decode cX0_allAbove 54 = .ok (.iconst 0, 1) := by decide +kernel
theorem dX0_allAbove_55 : decode cX0_allAbove 55 = .ok (.istore 4, 2) := by decide +kernel
theorem dX0_allAbove_57 : decode cX0_allAbove 57 = .ok (.iload_n 2, 1) := by decide +kernel
theorem dX0_allAbove_58 : decode cX0_allAbove 58 = .ok (.iconst 0, 1) := by decide +kernel
theorem dX0_allAbove_59 : decode cX0_allAbove 59 = .ok (.aload_n 0, 1) := by decide +kernel
theorem dX0_allAbove_60 : decode cX0_allAbove 60 = .ok (.getfield 9, 3) := by decide +kernel
theorem dX0_allAbove_63 : decode cX0_allAbove 63 = .ok (.iload_n 3, 1) := by decide +kernel
theorem dX0_allAbove_64 : decode cX0_allAbove 64 = .ok (.iaload, 1) := by decide +kernel
theorem dX0_allAbove_65 : decode cX0_allAbove 65 = .ok (.iload 4, 2) := by decide +kernel
theorem dX0_allAbove_67 : decode cX0_allAbove 67 = .ok (.isub, 1) := by decide +kernel
theorem dX0_allAbove_68 : decode cX0_allAbove 68 = .ok (.invokestatic 49, 3) := by decide +kernel
theorem dX0_allAbove_71 : decode cX0_allAbove 71 = .ok (.iadd, 1) := by decide +kernel
theorem dX0_allAbove_72 : decode cX0_allAbove 72 = .ok (.istore_n 2, 1) := by decide +kernel
theorem dX0_allAbove_73 : decode cX0_allAbove 73 = .ok (.iinc 3 1, 3) := by decide +kernel
theorem dX0_allAbove_76 : decode cX0_allAbove 76 = .ok (.goto (-72), 3) := by decide +kernel
theorem dX0_allAbove_79 : decode cX0_allAbove 79 = .ok (.iload_n 2, 1) := by decide +kernel
theorem dX0_allAbove_80 : decode cX0_allAbove 80 = .ok (.ireturn, 1) := by decide +kernel
theorem dX1_init_0 : decode cX1_init 0 = .ok (.aload_n 0, 1) := by decide +kernel
theorem dX1_init_1 : decode cX1_init 1 = .ok (.invokespecial 3, 3) := by decide +kernel
theorem dX1_init_4 : decode cX1_init 4 = .ok (.aload_n 0, 1) := by decide +kernel
theorem dX1_init_5 : decode cX1_init 5 = .ok (.iconst 5, 1) := by decide +kernel
theorem dX1_init_6 : decode cX1_init 6 = .ok (.newarray .int, 2) := by decide +kernel
theorem dX1_init_8 : decode cX1_init 8 = .ok (.putfield 9, 3) := by decide +kernel
theorem dX1_init_11 : decode cX1_init 11 = .ok (.aload_n 0, 1) := by decide +kernel
theorem dX1_init_12 : decode cX1_init 12 = .ok (.iconst 5, 1) := by decide +kernel
theorem dX1_init_13 : decode cX1_init 13 = .ok (.newarray .int, 2) := by decide +kernel
theorem dX1_init_15 : decode cX1_init 15 = .ok (.putfield 15, 3) := by decide +kernel
theorem dX1_init_18 : decode cX1_init 18 = .ok (.aload_n 0, 1) := by decide +kernel
theorem dX1_init_19 : decode cX1_init 19 = .ok (.iconst 5, 1) := by decide +kernel
theorem dX1_init_20 : decode cX1_init 20 = .ok (.newarray .int, 2) := by decide +kernel
theorem dX1_init_22 : decode cX1_init 22 = .ok (.putfield 18, 3) := by decide +kernel
theorem dX1_init_25 : decode cX1_init 25 = .ok (.aload_n 0, 1) := by decide +kernel
theorem dX1_init_26 : decode cX1_init 26 = .ok (.aload_n 1, 1) := by decide +kernel
theorem dX1_init_27 : decode cX1_init 27 = .ok (.putfield 21, 3) := by decide +kernel
theorem dX1_init_30 : decode cX1_init 30 = .ok (.aload_n 0, 1) := by decide +kernel
theorem dX1_init_31 : decode cX1_init 31 = .ok (.aload_n 2, 1) := by decide +kernel
theorem dX1_init_32 : decode cX1_init 32 = .ok (.putfield 25, 3) := by decide +kernel
theorem dX1_init_35 : decode cX1_init 35 = .ok (.return_, 1) := by decide +kernel
theorem dX1_leastTime_0 : decode cX1_leastTime 0 = .ok (.aload_n 0, 1) := by decide +kernel
theorem dX1_leastTime_1 : decode cX1_leastTime 1 = .ok (.iload_n 2, 1) := by decide +kernel
theorem dX1_leastTime_2 : decode cX1_leastTime 2 = .ok (.iconst 5, 1) := by decide +kernel
theorem dX1_leastTime_3 : decode cX1_leastTime 3 = .ok (.invokestatic 29, 3) := by decide +kernel
theorem dX1_leastTime_6 : decode cX1_leastTime 6 = .ok (.putfield 35, 3) := by decide +kernel
theorem dX1_leastTime_9 : decode cX1_leastTime 9 = .ok (.aload_n 0, 1) := by decide +kernel
theorem dX1_leastTime_10 : decode cX1_leastTime 10 = .ok (.iconst 0, 1) := by decide +kernel
theorem dX1_leastTime_11 : decode cX1_leastTime 11 = .ok (.putfield 39, 3) := by decide +kernel
theorem dX1_leastTime_14 : decode cX1_leastTime 14 = .ok (.aload_n 0, 1) := by decide +kernel
theorem dX1_leastTime_15 : decode cX1_leastTime 15 = .ok (.sipush 1486, 3) := by decide +kernel
theorem dX1_leastTime_18 : decode cX1_leastTime 18 = .ok (.putfield 42, 3) := by decide +kernel
theorem dX1_leastTime_21 : decode cX1_leastTime 21 = .ok (.aload_n 0, 1) := by decide +kernel
theorem dX1_leastTime_22 : decode cX1_leastTime 22 = .ok (.iconst 0, 1) := by decide +kernel
theorem dX1_leastTime_23 : decode cX1_leastTime 23 = .ok (.iload_n 1, 1) := by decide +kernel
theorem dX1_leastTime_24 : decode cX1_leastTime 24 = .ok (.iconst 0, 1) := by decide +kernel
theorem dX1_leastTime_25 : decode cX1_leastTime 25 = .ok (.invokestatic 45, 3) := by decide +kernel
theorem dX1_leastTime_28 : decode cX1_leastTime 28 = .ok (.aload_n 0, 1) := by decide +kernel
theorem dX1_leastTime_29 : decode cX1_leastTime 29 = .ok (.getfield 39, 3) := by decide +kernel
theorem dX1_leastTime_32 : decode cX1_leastTime 32 = .ok (.ifCond .ne 6, 3) := by decide +kernel
theorem dX1_leastTime_35 : decode cX1_leastTime 35 = .ok (.bipush (-9), 2) := by decide +kernel
theorem dX1_leastTime_37 : decode cX1_leastTime 37 = .ok (.ireturn, 1) := by decide +kernel
theorem dX1_leastTime_38 : decode cX1_leastTime 38 = .ok (.aload_n 0, 1) := by decide +kernel
theorem dX1_leastTime_39 : decode cX1_leastTime 39 = .ok (.aload_n 0, 1) := by decide +kernel
theorem dX1_leastTime_40 : decode cX1_leastTime 40 = .ok (.getfield 39, 3) := by decide +kernel
theorem dX1_leastTime_43 : decode cX1_leastTime 43 = .ok (.putfield 49, 3) := by decide +kernel
theorem dX1_leastTime_46 : decode cX1_leastTime 46 = .ok (.aload_n 0, 1) := by decide +kernel
theorem dX1_leastTime_47 : decode cX1_leastTime 47 = .ok (.getfield 18, 3) := by decide +kernel
theorem dX1_leastTime_50 : decode cX1_leastTime 50 = .ok (.iconst 0, 1) := by decide +kernel
theorem dX1_leastTime_51 : decode cX1_leastTime 51 = .ok (.aload_n 0, 1) := by decide +kernel
theorem dX1_leastTime_52 : decode cX1_leastTime 52 = .ok (.getfield 9, 3) := by decide +kernel
theorem dX1_leastTime_55 : decode cX1_leastTime 55 = .ok (.iconst 0, 1) := by decide +kernel
theorem dX1_leastTime_56 : decode cX1_leastTime 56 = .ok (.aload_n 0, 1) := by decide +kernel
theorem dX1_leastTime_57 : decode cX1_leastTime 57 = .ok (.getfield 39, 3) := by decide +kernel
theorem dX1_leastTime_60 : decode cX1_leastTime 60 = .ok (.invokestatic 52, 3) := by decide +kernel
theorem dX1_leastTime_63 : decode cX1_leastTime 63 = .ok (.aload_n 0, 1) := by decide +kernel
theorem dX1_leastTime_64 : decode cX1_leastTime 64 = .ok (.getfield 42, 3) := by decide +kernel
theorem dX1_leastTime_67 : decode cX1_leastTime 67 = .ok (.ireturn, 1) := by decide +kernel
theorem dX1_search_0 : decode cX1_search 0 = .ok (.iload_n 1, 1) := by decide +kernel
theorem dX1_search_1 : decode cX1_search 1 = .ok (.ifCond .le 13, 3) := by decide +kernel
theorem dX1_search_4 : decode cX1_search 4 = .ok (.iload_n 2, 1) := by decide +kernel
theorem dX1_search_5 : decode cX1_search 5 = .ok (.ifCond .ne 9, 3) := by decide +kernel
theorem dX1_search_8 : decode cX1_search 8 = .ok (.aload_n 0, 1) := by decide +kernel
theorem dX1_search_9 : decode cX1_search 9 = .ok (.iload_n 1, 1) := by decide +kernel
theorem dX1_search_10 : decode cX1_search 10 = .ok (.iload_n 3, 1) := by decide +kernel
theorem dX1_search_11 : decode cX1_search 11 = .ok (.invokevirtual 58, 3) := by decide +kernel
theorem dX1_search_14 : decode cX1_search 14 = .ok (.iload_n 1, 1) := by decide +kernel
theorem dX1_search_15 : decode cX1_search 15 = .ok (.aload_n 0, 1) := by decide +kernel
theorem dX1_search_16 : decode cX1_search 16 = .ok (.getfield 35, 3) := by decide +kernel
theorem dX1_search_19 : decode cX1_search 19 = .ok (.if_icmp .ge 11, 3) := by decide +kernel
theorem dX1_search_22 : decode cX1_search 22 = .ok (.iload_n 3, 1) := by decide +kernel
theorem dX1_search_23 : decode cX1_search 23 = .ok (.aload_n 0, 1) := by decide +kernel
theorem dX1_search_24 : decode cX1_search 24 = .ok (.getfield 42, 3) := by decide +kernel
theorem dX1_search_27 : decode cX1_search 27 = .ok (.if_icmp .lt 4, 3) := by decide +kernel
theorem dX1_search_30 : decode cX1_search 30 = .ok (.return_, 1) := by decide +kernel
theorem dX1_search_31 : decode cX1_search 31 = .ok (.iconst 0, 1) := by decide +kernel
theorem dX1_search_32 : decode cX1_search 32 = .ok (.istore 4, 2) := by decide +kernel
theorem dX1_search_34 : decode cX1_search 34 = .ok (.iload 4, 2) := by decide +kernel
theorem dX1_search_36 : decode cX1_search 36 = .ok (.iconst 2, 1) := by decide +kernel
theorem dX1_search_37 : decode cX1_search 37 = .ok (.aload_n 0, 1) := by decide +kernel
theorem dX1_search_38 : decode cX1_search 38 = .ok (.getfield 21, 3) := by decide +kernel
theorem dX1_search_41 : decode cX1_search 41 = .ok (.getfield 62, 3) := by decide +kernel
theorem dX1_search_44 : decode cX1_search 44 = .ok (.imul, 1) := by decide +kernel
theorem dX1_search_45 : decode cX1_search 45 = .ok (.if_icmp .ge 91, 3) := by decide +kernel
theorem dX1_search_48 : decode cX1_search 48 = .ok (.aload_n 0, 1) := by decide +kernel
theorem dX1_search_49 : decode cX1_search 49 = .ok (.getfield 21, 3) := by decide +kernel
theorem dX1_search_52 : decode cX1_search 52 = .ok (.getfield 67, 3) := by decide +kernel
theorem dX1_search_55 : decode cX1_search 55 = .ok (.iload 4, 2) := by decide +kernel
theorem dX1_search_57 : decode cX1_search 57 = .ok (.aaload, 1) := by decide +kernel
theorem dX1_search_58 : decode cX1_search 58 = .ok (.iload_n 2, 1) := by decide +kernel
theorem dX1_search_59 : decode cX1_search 59 = .ok (.iaload, 1) := by decide +kernel
theorem dX1_search_60 : decode cX1_search 60 = .ok (.istore 5, 2) := by decide +kernel
theorem dX1_search_62 : decode cX1_search 62 = .ok (.aload_n 0, 1) := by decide +kernel
theorem dX1_search_63 : decode cX1_search 63 = .ok (.getfield 21, 3) := by decide +kernel
theorem dX1_search_66 : decode cX1_search 66 = .ok (.getfield 71, 3) := by decide +kernel
theorem dX1_search_69 : decode cX1_search 69 = .ok (.iload 5, 2) := by decide +kernel
theorem dX1_search_71 : decode cX1_search 71 = .ok (.iaload, 1) := by decide +kernel
theorem dX1_search_72 : decode cX1_search 72 = .ok (.aload_n 0, 1) := by decide +kernel
theorem dX1_search_73 : decode cX1_search 73 = .ok (.getfield 35, 3) := by decide +kernel
theorem dX1_search_76 : decode cX1_search 76 = .ok (.iload_n 1, 1) := by decide +kernel
theorem dX1_search_77 : decode cX1_search 77 = .ok (.isub, 1) := by decide +kernel
theorem dX1_search_78 : decode cX1_search 78 = .ok (.if_icmp .ge 52, 3) := by decide +kernel
theorem dX1_search_81 : decode cX1_search 81 = .ok (.aload_n 0, 1) := by decide +kernel
theorem dX1_search_82 : decode cX1_search 82 = .ok (.getfield 15, 3) := by decide +kernel
theorem dX1_search_85 : decode cX1_search 85 = .ok (.iload_n 1, 1) := by decide +kernel
theorem dX1_search_86 : decode cX1_search 86 = .ok (.iload 4, 2) := by decide +kernel
theorem dX1_search_88 : decode cX1_search 88 = .ok (.iastore, 1) := by decide +kernel
theorem dX1_search_89 : decode cX1_search 89 = .ok (.iload_n 1, 1) := by decide +kernel
theorem dX1_search_90 : decode cX1_search 90 = .ok (.ifCond .le 14, 3) := by decide +kernel
theorem dX1_search_93 : decode cX1_search 93 = .ok (.aload_n 0, 1) := by decide +kernel
theorem dX1_search_94 : decode cX1_search 94 = .ok (.getfield 15, 3) := by decide +kernel
theorem dX1_search_97 : decode cX1_search 97 = .ok (.iload_n 1, 1) := by decide +kernel
theorem dX1_search_98 : decode cX1_search 98 = .ok (.iconst 1, 1) := by decide +kernel
theorem dX1_search_99 : decode cX1_search 99 = .ok (.isub, 1) := by decide +kernel
theorem dX1_search_100 : decode cX1_search 100 = .ok (.iaload, 1) := by decide +kernel
theorem dX1_search_101 : decode cX1_search 101 = .ok (.goto 5, 3) := by decide +kernel
theorem dX1_search_104 : decode cX1_search 104 = .ok (.bipush (-9), 2) := by decide +kernel
theorem dX1_search_106 : decode cX1_search 106 = .ok (.istore 6, 2) := by decide +kernel
theorem dX1_search_108 : decode cX1_search 108 = .ok (.aload_n 0, 1) := by decide +kernel
theorem dX1_search_109 : decode cX1_search 109 = .ok (.iload_n 1, 1) := by decide +kernel
theorem dX1_search_110 : decode cX1_search 110 = .ok (.iconst 1, 1) := by decide +kernel
theorem dX1_search_111 : decode cX1_search 111 = .ok (.iadd, 1) := by decide +kernel
theorem dX1_search_112 : decode cX1_search 112 = .ok (.iload 5, 2) := by decide +kernel
theorem dX1_search_114 : decode cX1_search 114 = .ok (.iload_n 3, 1) := by decide +kernel
theorem dX1_search_115 : decode cX1_search 115 = .ok (.aload_n 0, 1) := by decide +kernel
theorem dX1_search_116 : decode cX1_search 116 = .ok (.getfield 25, 3) := by decide +kernel
theorem dX1_search_119 : decode cX1_search 119 = .ok (.iload 4, 2) := by decide +kernel
theorem dX1_search_121 : decode cX1_search 121 = .ok (.iload 6, 2) := by decide +kernel
theorem dX1_search_123 : decode cX1_search 123 = .ok (.invokevirtual 74, 3) := by decide +kernel
theorem dX1_search_126 : decode cX1_search 126 = .ok (.iadd, 1) := by decide +kernel
theorem dX1_search_127 : decode cX1_search 127 = .ok (.invokestatic 45, 3) := by decide +kernel
theorem dX1_search_130 : decode cX1_search 130 = .ok (.iinc 4 1, 3) := by decide +kernel
theorem dX1_search_133 : decode cX1_search 133 = .ok (.goto (-99), 3) := by decide +kernel
theorem dX1_search_136 : decode cX1_search 136 = .ok (.return_, 1) := by decide +kernel
theorem dX1_look_0 : decode cX1_look 0 = .ok (.iload_n 2, 1) := by decide +kernel
theorem dX1_look_1 : decode cX1_look 1 = .ok (.aload_n 0, 1) := by decide +kernel
theorem dX1_look_2 : decode cX1_look 2 = .ok (.getfield 42, 3) := by decide +kernel
theorem dX1_look_5 : decode cX1_look 5 = .ok (.if_icmp .lt 19, 3) := by decide +kernel
theorem dX1_look_8 : decode cX1_look 8 = .ok (.iload_n 2, 1) := by decide +kernel
theorem dX1_look_9 : decode cX1_look 9 = .ok (.aload_n 0, 1) := by decide +kernel
theorem dX1_look_10 : decode cX1_look 10 = .ok (.getfield 42, 3) := by decide +kernel
theorem dX1_look_13 : decode cX1_look 13 = .ok (.if_icmp .ne 35, 3) := by decide +kernel
theorem dX1_look_16 : decode cX1_look 16 = .ok (.iload_n 1, 1) := by decide +kernel
theorem dX1_look_17 : decode cX1_look 17 = .ok (.aload_n 0, 1) := by decide +kernel
theorem dX1_look_18 : decode cX1_look 18 = .ok (.getfield 39, 3) := by decide +kernel
theorem dX1_look_21 : decode cX1_look 21 = .ok (.if_icmp .ge 27, 3) := by decide +kernel
theorem dX1_look_24 : decode cX1_look 24 = .ok (.aload_n 0, 1) := by decide +kernel
theorem dX1_look_25 : decode cX1_look 25 = .ok (.iload_n 2, 1) := by decide +kernel
theorem dX1_look_26 : decode cX1_look 26 = .ok (.putfield 42, 3) := by decide +kernel
theorem dX1_look_29 : decode cX1_look 29 = .ok (.aload_n 0, 1) := by decide +kernel
theorem dX1_look_30 : decode cX1_look 30 = .ok (.iload_n 1, 1) := by decide +kernel
theorem dX1_look_31 : decode cX1_look 31 = .ok (.putfield 39, 3) := by decide +kernel
theorem dX1_look_34 : decode cX1_look 34 = .ok (.aload_n 0, 1) := by decide +kernel
theorem dX1_look_35 : decode cX1_look 35 = .ok (.getfield 15, 3) := by decide +kernel
theorem dX1_look_38 : decode cX1_look 38 = .ok (.iconst 0, 1) := by decide +kernel
theorem dX1_look_39 : decode cX1_look 39 = .ok (.aload_n 0, 1) := by decide +kernel
theorem dX1_look_40 : decode cX1_look 40 = .ok (.getfield 18, 3) := by decide +kernel
theorem dX1_look_43 : decode cX1_look 43 = .ok (.iconst 0, 1) := by decide +kernel
theorem dX1_look_44 : decode cX1_look 44 = .ok (.iload_n 1, 1) := by decide +kernel
theorem dX1_look_45 : decode cX1_look 45 = .ok (.invokestatic 52, 3) := by decide +kernel
theorem dX1_look_48 : decode cX1_look 48 = .ok (.return_, 1) := by decide +kernel
theorem dX2_init_0 : decode cX2_init 0 = .ok (.aload_n 0, 1) := by decide +kernel
theorem dX2_init_1 : decode cX2_init 1 = .ok (.invokespecial 3, 3) := by decide +kernel
theorem dX2_init_4 : decode cX2_init 4 = .ok (.aload_n 0, 1) := by decide +kernel
theorem dX2_init_5 : decode cX2_init 5 = .ok (.iconst 2, 1) := by decide +kernel
theorem dX2_init_6 : decode cX2_init 6 = .ok (.bipush 6, 2) := by decide +kernel
theorem dX2_init_8 : decode cX2_init 8 = .ok (.multianewarray 9 2, 4) := by decide +kernel
theorem dX2_init_12 : decode cX2_init 12 = .ok (.putfield 11, 3) := by decide +kernel
theorem dX2_init_15 : decode cX2_init 15 = .ok (.aload_n 0, 1) := by decide +kernel
theorem dX2_init_16 : decode cX2_init 16 = .ok (.bipush 6, 2) := by decide +kernel
theorem dX2_init_18 : decode cX2_init 18 = .ok (.bipush 6, 2) := by decide +kernel
theorem dX2_init_20 : decode cX2_init 20 = .ok (.multianewarray 9 2, 4) := by decide +kernel
theorem dX2_init_24 : decode cX2_init 24 = .ok (.putfield 16, 3) := by decide +kernel
theorem dX2_init_27 : decode cX2_init 27 = .ok (.aload_n 0, 1) := by decide +kernel
theorem dX2_init_28 : decode cX2_init 28 = .ok (.iconst 2, 1) := by decide +kernel
theorem dX2_init_29 : decode cX2_init 29 = .ok (.newarray .int, 2) := by decide +kernel
theorem dX2_init_31 : decode cX2_init 31 = .ok (.putfield 19, 3) := by decide +kernel
theorem dX2_init_34 : decode cX2_init 34 = .ok (.iconst 0, 1) := by decide +kernel
theorem dX2_init_35 : decode cX2_init 35 = .ok (.istore_n 1, 1) := by decide +kernel
theorem dX2_init_36 : decode cX2_init 36 = .ok (.iload_n 1, 1) := by decide +kernel
theorem dX2_init_37 : decode cX2_init 37 = .ok (.bipush 6, 2) := by decide +kernel
theorem dX2_init_39 : decode cX2_init 39 = .ok (.if_icmp .ge 14, 3) := by decide +kernel
theorem dX2_init_42 : decode cX2_init 42 = .ok (.aload_n 0, 1) := by decide +kernel
theorem dX2_init_43 : decode cX2_init 43 = .ok (.iload_n 1, 1) := by decide +kernel
theorem dX2_init_44 : decode cX2_init 44 = .ok (.invokevirtual 23, 3) := by decide +kernel
theorem dX2_init_47 : decode cX2_init 47 = .ok (.iinc 1 1, 3) := by decide +kernel
theorem dX2_init_50 : decode cX2_init 50 = .ok (.goto (-14), 3) := by decide +kernel
theorem dX2_init_53 : decode cX2_init 53 = .ok (.aload_n 0, 1) := by decide +kernel
theorem dX2_init_54 : decode cX2_init 54 = .ok (.getfield 19, 3) := by decide +kernel
theorem dX2_init_57 : decode cX2_init 57 = .ok (.iconst 1, 1) := by decide +kernel
theorem dX2_init_58 : decode cX2_init 58 = .ok (.bipush 20, 2) := by decide +kernel
theorem dX2_init_60 : decode cX2_init 60 = .ok (.iastore, 1) := by decide +kernel
theorem dX2_init_61 : decode cX2_init 61 = .ok (.return_, 1) := by decide +kernel
theorem dX2_forget_0 : decode cX2_forget 0 = .ok (.aload_n 0, 1) := by decide +kernel
theorem dX2_forget_1 : decode cX2_forget 1 = .ok (.getfield 11, 3) := by decide +kernel
theorem dX2_forget_4 : decode cX2_forget 4 = .ok (.iconst 0, 1) := by decide +kernel
theorem dX2_forget_5 : decode cX2_forget 5 = .ok (.aaload, 1) := by decide +kernel
theorem dX2_forget_6 : decode cX2_forget 6 = .ok (.iload_n 1, 1) := by decide +kernel
theorem dX2_forget_7 : decode cX2_forget 7 = .ok (.bipush 10, 2) := by decide +kernel
theorem dX2_forget_9 : decode cX2_forget 9 = .ok (.iastore, 1) := by decide +kernel
theorem dX2_forget_10 : decode cX2_forget 10 = .ok (.aload_n 0, 1) := by decide +kernel
theorem dX2_forget_11 : decode cX2_forget 11 = .ok (.getfield 11, 3) := by decide +kernel
theorem dX2_forget_14 : decode cX2_forget 14 = .ok (.iconst 1, 1) := by decide +kernel
theorem dX2_forget_15 : decode cX2_forget 15 = .ok (.aaload, 1) := by decide +kernel
theorem dX2_forget_16 : decode cX2_forget 16 = .ok (.iload_n 1, 1) := by decide +kernel
theorem dX2_forget_17 : decode cX2_forget 17 = .ok (.iconst 0, 1) := by decide +kernel
theorem dX2_forget_18 : decode cX2_forget 18 = .ok (.iastore, 1) := by decide +kernel
theorem dX2_forget_19 : decode cX2_forget 19 = .ok (.iconst 0, 1) := by decide +kernel
theorem dX2_forget_20 : decode cX2_forget 20 = .ok (.istore_n 2, 1) := by decide +kernel
theorem dX2_forget_21 : decode cX2_forget 21 = .ok (.iload_n 2, 1) := by decide +kernel
theorem dX2_forget_22 : decode cX2_forget 22 = .ok (.bipush 6, 2) := by decide +kernel
theorem dX2_forget_24 : decode cX2_forget 24 = .ok (.if_icmp .ge 27, 3) := by decide +kernel
theorem dX2_forget_27 : decode cX2_forget 27 = .ok (.aload_n 0, 1) := by decide +kernel
theorem dX2_forget_28 : decode cX2_forget 28 = .ok (.getfield 16, 3) := by decide +kernel
theorem dX2_forget_31 : decode cX2_forget 31 = .ok (.iload_n 1, 1) := by decide +kernel
theorem dX2_forget_32 : decode cX2_forget 32 = .ok (.aaload, 1) := by decide +kernel
theorem dX2_forget_33 : decode cX2_forget 33 = .ok (.iload_n 2, 1) := by decide +kernel
theorem dX2_forget_34 : decode cX2_forget 34 = .ok (.iconst 0, 1) := by decide +kernel
theorem dX2_forget_35 : decode cX2_forget 35 = .ok (.iastore, 1) := by decide +kernel
theorem dX2_forget_36 : decode cX2_forget 36 = .ok (.aload_n 0, 1) := by decide +kernel
theorem dX2_forget_37 : decode cX2_forget 37 = .ok (.getfield 16, 3) := by decide +kernel
theorem dX2_forget_40 : decode cX2_forget 40 = .ok (.iload_n 2, 1) := by decide +kernel
theorem dX2_forget_41 : decode cX2_forget 41 = .ok (.aaload, 1) := by decide +kernel
theorem dX2_forget_42 : decode cX2_forget 42 = .ok (.iload_n 1, 1) := by decide +kernel
theorem dX2_forget_43 : decode cX2_forget 43 = .ok (.iconst 0, 1) := by decide +kernel
theorem dX2_forget_44 : decode cX2_forget 44 = .ok (.iastore, 1) := by decide +kernel
theorem dX2_forget_45 : decode cX2_forget 45 = .ok (.iinc 2 1, 3) := by decide +kernel
theorem dX2_forget_48 : decode cX2_forget 48 = .ok (.goto (-27), 3) := by decide +kernel
theorem dX2_forget_51 : decode cX2_forget 51 = .ok (.return_, 1) := by decide +kernel
theorem dX2_copy_0 : decode cX2_copy 0 = .ok (.aload_n 1, 1) := by decide +kernel
theorem dX2_copy_1 : decode cX2_copy 1 = .ok (.getfield 11, 3) := by decide +kernel
theorem dX2_copy_4 : decode cX2_copy 4 = .ok (.iconst 0, 1) := by decide +kernel
theorem dX2_copy_5 : decode cX2_copy 5 = .ok (.aaload, 1) := by decide +kernel
theorem dX2_copy_6 : decode cX2_copy 6 = .ok (.iconst 0, 1) := by decide +kernel
theorem dX2_copy_7 : decode cX2_copy 7 = .ok (.aload_n 0, 1) := by decide +kernel
theorem dX2_copy_8 : decode cX2_copy 8 = .ok (.getfield 11, 3) := by decide +kernel
theorem dX2_copy_11 : decode cX2_copy 11 = .ok (.iconst 0, 1) := by decide +kernel
theorem dX2_copy_12 : decode cX2_copy 12 = .ok (.aaload, 1) := by decide +kernel
theorem dX2_copy_13 : decode cX2_copy 13 = .ok (.iconst 0, 1) := by decide +kernel
theorem dX2_copy_14 : decode cX2_copy 14 = .ok (.bipush 6, 2) := by decide +kernel
theorem dX2_copy_16 : decode cX2_copy 16 = .ok (.invokestatic 27, 3) := by decide +kernel
theorem dX2_copy_19 : decode cX2_copy 19 = .ok (.aload_n 1, 1) := by decide +kernel
theorem dX2_copy_20 : decode cX2_copy 20 = .ok (.getfield 11, 3) := by decide +kernel
theorem dX2_copy_23 : decode cX2_copy 23 = .ok (.iconst 1, 1) := by decide +kernel
theorem dX2_copy_24 : decode cX2_copy 24 = .ok (.aaload, 1) := by decide +kernel
theorem dX2_copy_25 : decode cX2_copy 25 = .ok (.iconst 0, 1) := by decide +kernel
theorem dX2_copy_26 : decode cX2_copy 26 = .ok (.aload_n 0, 1) := by decide +kernel
theorem dX2_copy_27 : decode cX2_copy 27 = .ok (.getfield 11, 3) := by decide +kernel
theorem dX2_copy_30 : decode cX2_copy 30 = .ok (.iconst 1, 1) := by decide +kernel
theorem dX2_copy_31 : decode cX2_copy 31 = .ok (.aaload, 1) := by decide +kernel
theorem dX2_copy_32 : decode cX2_copy 32 = .ok (.iconst 0, 1) := by decide +kernel
theorem dX2_copy_33 : decode cX2_copy 33 = .ok (.bipush 6, 2) := by decide +kernel
theorem dX2_copy_35 : decode cX2_copy 35 = .ok (.invokestatic 27, 3) := by decide +kernel
theorem dX2_copy_38 : decode cX2_copy 38 = .ok (.iconst 0, 1) := by decide +kernel
theorem dX2_copy_39 : decode cX2_copy 39 = .ok (.istore_n 2, 1) := by decide +kernel
theorem dX2_copy_40 : decode cX2_copy 40 = .ok (.iload_n 2, 1) := by decide +kernel
theorem dX2_copy_41 : decode cX2_copy 41 = .ok (.bipush 6, 2) := by decide +kernel
theorem dX2_copy_43 : decode cX2_copy 43 = .ok (.if_icmp .ge 28, 3) := by decide +kernel
theorem dX2_copy_46 : decode cX2_copy 46 = .ok (.aload_n 1, 1) := by decide +kernel
theorem dX2_copy_47 : decode cX2_copy 47 = .ok (.getfield 16, 3) := by decide +kernel
theorem dX2_copy_50 : decode cX2_copy 50 = .ok (.iload_n 2, 1) := by decide +kernel
theorem dX2_copy_51 : decode cX2_copy 51 = .ok (.aaload, 1) := by decide +kernel
theorem dX2_copy_52 : decode cX2_copy 52 = .ok (.iconst 0, 1) := by decide +kernel
theorem dX2_copy_53 : decode cX2_copy 53 = .ok (.aload_n 0, 1) := by decide +kernel
theorem dX2_copy_54 : decode cX2_copy 54 = .ok (.getfield 16, 3) := by decide +kernel
theorem dX2_copy_57 : decode cX2_copy 57 = .ok (.iload_n 2, 1) := by decide +kernel
theorem dX2_copy_58 : decode cX2_copy 58 = .ok (.aaload, 1) := by decide +kernel
theorem dX2_copy_59 : decode cX2_copy 59 = .ok (.iconst 0, 1) := by decide +kernel
theorem dX2_copy_60 : decode cX2_copy 60 = .ok (.bipush 6, 2) := by decide +kernel
theorem dX2_copy_62 : decode cX2_copy 62 = .ok (.invokestatic 27, 3) := by decide +kernel
theorem dX2_copy_65 : decode cX2_copy 65 = .ok (.iinc 2 1, 3) := by decide +kernel
theorem dX2_copy_68 : decode cX2_copy 68 = .ok (.goto (-28), 3) := by decide +kernel
theorem dX2_copy_71 : decode cX2_copy 71 = .ok (.aload_n 1, 1) := by decide +kernel
theorem dX2_copy_72 : decode cX2_copy 72 = .ok (.getfield 19, 3) := by decide +kernel
theorem dX2_copy_75 : decode cX2_copy 75 = .ok (.iconst 0, 1) := by decide +kernel
theorem dX2_copy_76 : decode cX2_copy 76 = .ok (.aload_n 0, 1) := by decide +kernel
theorem dX2_copy_77 : decode cX2_copy 77 = .ok (.getfield 19, 3) := by decide +kernel
theorem dX2_copy_80 : decode cX2_copy 80 = .ok (.iconst 0, 1) := by decide +kernel
theorem dX2_copy_81 : decode cX2_copy 81 = .ok (.iconst 2, 1) := by decide +kernel
theorem dX2_copy_82 : decode cX2_copy 82 = .ok (.invokestatic 27, 3) := by decide +kernel
theorem dX2_copy_85 : decode cX2_copy 85 = .ok (.return_, 1) := by decide +kernel
theorem dX2_takes_0 : decode cX2_takes 0 = .ok (.aload_n 0, 1) := by decide +kernel
theorem dX2_takes_1 : decode cX2_takes 1 = .ok (.getfield 11, 3) := by decide +kernel
theorem dX2_takes_4 : decode cX2_takes 4 = .ok (.iconst 0, 1) := by decide +kernel
theorem dX2_takes_5 : decode cX2_takes 5 = .ok (.aaload, 1) := by decide +kernel
theorem dX2_takes_6 : decode cX2_takes 6 = .ok (.iload_n 1, 1) := by decide +kernel
theorem dX2_takes_7 : decode cX2_takes 7 = .ok (.iconst 1, 1) := by decide +kernel
theorem dX2_takes_8 : decode cX2_takes 8 = .ok (.ishr, 1) := by decide +kernel
theorem dX2_takes_9 : decode cX2_takes 9 = .ok (.iaload, 1) := by decide +kernel
theorem dX2_takes_10 : decode cX2_takes 10 = .ok (.istore_n 3, 1) := by decide +kernel
theorem dX2_takes_11 : decode cX2_takes 11 = .ok (.iload_n 1, 1) := by decide +kernel
theorem dX2_takes_12 : decode cX2_takes 12 = .ok (.iconst 1, 1) := by decide +kernel
theorem dX2_takes_13 : decode cX2_takes 13 = .ok (.iand, 1) := by decide +kernel
theorem dX2_takes_14 : decode cX2_takes 14 = .ok (.iconst 1, 1) := by decide +kernel
theorem dX2_takes_15 : decode cX2_takes 15 = .ok (.if_icmp .ne 16, 3) := by decide +kernel
theorem dX2_takes_18 : decode cX2_takes 18 = .ok (.iload_n 3, 1) := by decide +kernel
theorem dX2_takes_19 : decode cX2_takes 19 = .ok (.aload_n 0, 1) := by decide +kernel
theorem dX2_takes_20 : decode cX2_takes 20 = .ok (.getfield 11, 3) := by decide +kernel
theorem dX2_takes_23 : decode cX2_takes 23 = .ok (.iconst 1, 1) := by decide +kernel
theorem dX2_takes_24 : decode cX2_takes 24 = .ok (.aaload, 1) := by decide +kernel
theorem dX2_takes_25 : decode cX2_takes 25 = .ok (.iload_n 1, 1) := by decide +kernel
theorem dX2_takes_26 : decode cX2_takes 26 = .ok (.iconst 1, 1) := by decide +kernel
theorem dX2_takes_27 : decode cX2_takes 27 = .ok (.ishr, 1) := by decide +kernel
theorem dX2_takes_28 : decode cX2_takes 28 = .ok (.iaload, 1) := by decide +kernel
theorem dX2_takes_29 : decode cX2_takes 29 = .ok (.iadd, 1) := by decide +kernel
theorem dX2_takes_30 : decode cX2_takes 30 = .ok (.istore_n 3, 1) := by decide +kernel
theorem dX2_takes_31 : decode cX2_takes 31 = .ok (.iload_n 2, 1) := by decide +kernel
theorem dX2_takes_32 : decode cX2_takes 32 = .ok (.bipush (-9), 2) := by decide +kernel
theorem dX2_takes_34 : decode cX2_takes 34 = .ok (.if_icmp .eq 18, 3) := by decide +kernel
theorem dX2_takes_37 : decode cX2_takes 37 = .ok (.iload_n 3, 1) := by decide +kernel
theorem dX2_takes_38 : decode cX2_takes 38 = .ok (.aload_n 0, 1) := by decide +kernel
theorem dX2_takes_39 : decode cX2_takes 39 = .ok (.getfield 16, 3) := by decide +kernel
theorem dX2_takes_42 : decode cX2_takes 42 = .ok (.iload_n 2, 1) := by decide +kernel
theorem dX2_takes_43 : decode cX2_takes 43 = .ok (.iconst 1, 1) := by decide +kernel
theorem dX2_takes_44 : decode cX2_takes 44 = .ok (.ishr, 1) := by decide +kernel
theorem dX2_takes_45 : decode cX2_takes 45 = .ok (.aaload, 1) := by decide +kernel
theorem dX2_takes_46 : decode cX2_takes 46 = .ok (.iload_n 1, 1) := by decide +kernel
theorem dX2_takes_47 : decode cX2_takes 47 = .ok (.iconst 1, 1) := by decide +kernel
theorem dX2_takes_48 : decode cX2_takes 48 = .ok (.ishr, 1) := by decide +kernel
theorem dX2_takes_49 : decode cX2_takes 49 = .ok (.iaload, 1) := by decide +kernel
theorem dX2_takes_50 : decode cX2_takes 50 = .ok (.iadd, 1) := by decide +kernel
theorem dX2_takes_51 : decode cX2_takes 51 = .ok (.istore_n 3, 1) := by decide +kernel
theorem dX2_takes_52 : decode cX2_takes 52 = .ok (.iconst 1, 1) := by decide +kernel
theorem dX2_takes_53 : decode cX2_takes 53 = .ok (.iload_n 3, 1) := by decide +kernel
theorem dX2_takes_54 : decode cX2_takes 54 = .ok (.invokestatic 33, 3) := by decide +kernel
theorem dX2_takes_57 : decode cX2_takes 57 = .ok (.ireturn, 1) := by decide +kernel
theorem dX2_rowTime_0 : decode cX2_rowTime 0 = .ok (.iconst 0, 1) := by decide +kernel
theorem dX2_rowTime_1 : decode cX2_rowTime 1 = .ok (.istore_n 3, 1) := by decide +kernel
theorem dX2_rowTime_2 : decode cX2_rowTime 2 = .ok (.iconst 0, 1) := by decide +kernel
theorem dX2_rowTime_3 : decode cX2_rowTime 3 = .ok (.istore 4, 2) := by decide +kernel
theorem dX2_rowTime_5 : decode cX2_rowTime 5 = .ok (.iload 4, 2) := by decide +kernel
theorem dX2_rowTime_7 : decode cX2_rowTime 7 = .ok (.aload_n 1, 1) := by decide +kernel
theorem dX2_rowTime_8 : decode cX2_rowTime 8 = .ok (.getfield 39, 3) := by decide +kernel
theorem dX2_rowTime_11 : decode cX2_rowTime 11 = .ok (.iload_n 2, 1) := by decide +kernel
theorem dX2_rowTime_12 : decode cX2_rowTime 12 = .ok (.iaload, 1) := by decide +kernel
theorem dX2_rowTime_13 : decode cX2_rowTime 13 = .ok (.if_icmp .ge 32, 3) := by decide +kernel
theorem dX2_rowTime_16 : decode cX2_rowTime 16 = .ok (.iload_n 3, 1) := by decide +kernel
theorem dX2_rowTime_17 : decode cX2_rowTime 17 = .ok (.aload_n 0, 1) := by decide +kernel
theorem dX2_rowTime_18 : decode cX2_rowTime 18 = .ok (.aload_n 1, 1) := by decide +kernel
theorem dX2_rowTime_19 : decode cX2_rowTime 19 = .ok (.getfield 44, 3) := by decide +kernel
theorem dX2_rowTime_22 : decode cX2_rowTime 22 = .ok (.iload_n 2, 1) := by decide +kernel
theorem dX2_rowTime_23 : decode cX2_rowTime 23 = .ok (.aaload, 1) := by decide +kernel
theorem dX2_rowTime_24 : decode cX2_rowTime 24 = .ok (.iload 4, 2) := by decide +kernel
theorem dX2_rowTime_26 : decode cX2_rowTime 26 = .ok (.iaload, 1) := by decide +kernel
theorem dX2_rowTime_27 : decode cX2_rowTime 27 = .ok (.aload_n 1, 1) := by decide +kernel
theorem dX2_rowTime_28 : decode cX2_rowTime 28 = .ok (.iload_n 2, 1) := by decide +kernel
theorem dX2_rowTime_29 : decode cX2_rowTime 29 = .ok (.iload 4, 2) := by decide +kernel
theorem dX2_rowTime_31 : decode cX2_rowTime 31 = .ok (.invokevirtual 47, 3) := by decide +kernel
theorem dX2_rowTime_34 : decode cX2_rowTime 34 = .ok (.invokevirtual 50, 3) := by decide +kernel
theorem dX2_rowTime_37 : decode cX2_rowTime 37 = .ok (.iadd, 1) := by decide +kernel
theorem dX2_rowTime_38 : decode cX2_rowTime 38 = .ok (.istore_n 3, 1) := by decide +kernel
theorem dX2_rowTime_39 : decode cX2_rowTime 39 = .ok (.iinc 4 1, 3) := by decide +kernel
theorem dX2_rowTime_42 : decode cX2_rowTime 42 = .ok (.goto (-37), 3) := by decide +kernel
theorem dX2_rowTime_45 : decode cX2_rowTime 45 = .ok (.iload_n 3, 1) := by decide +kernel
theorem dX2_rowTime_46 : decode cX2_rowTime 46 = .ok (.ireturn, 1) := by decide +kernel
theorem dX2_kindOf_0 : decode cX2_kindOf 0 = .ok (.iload_n 2, 1) := by decide +kernel
theorem dX2_kindOf_1 : decode cX2_kindOf 1 = .ok (.bipush (-9), 2) := by decide +kernel
theorem dX2_kindOf_3 : decode cX2_kindOf 3 = .ok (.if_icmp .ne 5, 3) := by decide +kernel
theorem dX2_kindOf_6 : decode cX2_kindOf 6 = .ok (.iconst 0, 1) := by decide +kernel
theorem dX2_kindOf_7 : decode cX2_kindOf 7 = .ok (.ireturn, 1) := by decide +kernel
theorem dX2_kindOf_8 : decode cX2_kindOf 8 = .ok (.iload_n 2, 1) := by decide +kernel
theorem dX2_kindOf_9 : decode cX2_kindOf 9 = .ok (.iload_n 1, 1) := by decide +kernel
theorem dX2_kindOf_10 : decode cX2_kindOf 10 = .ok (.iconst 1, 1) := by decide +kernel
theorem dX2_kindOf_11 : decode cX2_kindOf 11 = .ok (.ixor, 1) := by decide +kernel
theorem dX2_kindOf_12 : decode cX2_kindOf 12 = .ok (.if_icmp .ne 5, 3) := by decide +kernel
theorem dX2_kindOf_15 : decode cX2_kindOf 15 = .ok (.iconst 3, 1) := by decide +kernel
theorem dX2_kindOf_16 : decode cX2_kindOf 16 = .ok (.ireturn, 1) := by decide +kernel
theorem dX2_kindOf_17 : decode cX2_kindOf 17 = .ok (.aload_n 0, 1) := by decide +kernel
theorem dX2_kindOf_18 : decode cX2_kindOf 18 = .ok (.getfield 16, 3) := by decide +kernel
theorem dX2_kindOf_21 : decode cX2_kindOf 21 = .ok (.iload_n 2, 1) := by decide +kernel
theorem dX2_kindOf_22 : decode cX2_kindOf 22 = .ok (.iconst 1, 1) := by decide +kernel
theorem dX2_kindOf_23 : decode cX2_kindOf 23 = .ok (.ishr, 1) := by decide +kernel
theorem dX2_kindOf_24 : decode cX2_kindOf 24 = .ok (.aaload, 1) := by decide +kernel
theorem dX2_kindOf_25 : decode cX2_kindOf 25 = .ok (.iload_n 1, 1) := by decide +kernel
theorem dX2_kindOf_26 : decode cX2_kindOf 26 = .ok (.iconst 1, 1) := by decide +kernel
theorem dX2_kindOf_27 : decode cX2_kindOf 27 = .ok (.ishr, 1) := by decide +kernel
theorem dX2_kindOf_28 : decode cX2_kindOf 28 = .ok (.iaload, 1) := by decide +kernel
theorem dX2_kindOf_29 : decode cX2_kindOf 29 = .ok (.istore_n 3, 1) := by decide +kernel
theorem dX2_kindOf_30 : decode cX2_kindOf 30 = .ok (.iload_n 3, 1) := by decide +kernel
theorem dX2_kindOf_31 : decode cX2_kindOf 31 = .ok (.ifCond .ge 5, 3) := by decide +kernel
theorem dX2_kindOf_34 : decode cX2_kindOf 34 = .ok (.iconst 1, 1) := by decide +kernel
theorem dX2_kindOf_35 : decode cX2_kindOf 35 = .ok (.ireturn, 1) := by decide +kernel
theorem dX2_kindOf_36 : decode cX2_kindOf 36 = .ok (.iload_n 3, 1) := by decide +kernel
theorem dX2_kindOf_37 : decode cX2_kindOf 37 = .ok (.ifCond .le 7, 3) := by decide +kernel
theorem dX2_kindOf_40 : decode cX2_kindOf 40 = .ok (.iconst 2, 1) := by decide +kernel
theorem dX2_kindOf_41 : decode cX2_kindOf 41 = .ok (.goto 4, 3) := by decide +kernel
theorem dX2_kindOf_44 : decode cX2_kindOf 44 = .ok (.iconst 0, 1) := by decide +kernel
theorem dX2_kindOf_45 : decode cX2_kindOf 45 = .ok (.ireturn, 1) := by decide +kernel
theorem dX2_locksDrawn_0 : decode cX2_locksDrawn 0 = .ok (.iload_n 2, 1) := by decide +kernel
theorem dX2_locksDrawn_1 : decode cX2_locksDrawn 1 = .ok (.istore_n 3, 1) := by decide +kernel
theorem dX2_locksDrawn_2 : decode cX2_locksDrawn 2 = .ok (.iconst 0, 1) := by decide +kernel
theorem dX2_locksDrawn_3 : decode cX2_locksDrawn 3 = .ok (.istore 4, 2) := by decide +kernel
theorem dX2_locksDrawn_5 : decode cX2_locksDrawn 5 = .ok (.iconst 0, 1) := by decide +kernel
theorem dX2_locksDrawn_6 : decode cX2_locksDrawn 6 = .ok (.istore 5, 2) := by decide +kernel
theorem dX2_locksDrawn_8 : decode cX2_locksDrawn 8 = .ok (.iload 5, 2) := by decide +kernel
theorem dX2_locksDrawn_10 : decode cX2_locksDrawn 10 = .ok (.iload_n 1, 1) := by decide +kernel
theorem dX2_locksDrawn_11 : decode cX2_locksDrawn 11 = .ok (.if_icmp .ge 40, 3) := by decide +kernel
theorem dX2_locksDrawn_14 : decode cX2_locksDrawn 14 = .ok (.iload_n 3, 1) := by decide +kernel
theorem dX2_locksDrawn_15 : decode cX2_locksDrawn 15 = .ok (.ldc 53, 2) := by decide +kernel
theorem dX2_locksDrawn_17 : decode cX2_locksDrawn 17 = .ok (.imul, 1) := by decide +kernel
theorem dX2_locksDrawn_18 : decode cX2_locksDrawn 18 = .ok (.ldc 54, 2) := by decide +kernel
theorem dX2_locksDrawn_20 : decode cX2_locksDrawn 20 = .ok (.iadd, 1) := by decide +kernel
theorem dX2_locksDrawn_21 : decode cX2_locksDrawn 21 = .ok (.istore_n 3, 1) := by decide +kernel
theorem dX2_locksDrawn_22 : decode cX2_locksDrawn 22 = .ok (.iload_n 3, 1) := by decide +kernel
theorem dX2_locksDrawn_23 : decode cX2_locksDrawn 23 = .ok (.ldc 55, 2) := by decide +kernel
theorem dX2_locksDrawn_25 : decode cX2_locksDrawn 25 = .ok (.iand, 1) := by decide +kernel
theorem dX2_locksDrawn_26 : decode cX2_locksDrawn 26 = .ok (.sipush 256, 3) := by decide +kernel
theorem dX2_locksDrawn_29 : decode cX2_locksDrawn 29 = .ok (.idiv, 1) := by decide +kernel
theorem dX2_locksDrawn_30 : decode cX2_locksDrawn 30 = .ok (.bipush 100, 2) := by decide +kernel
theorem dX2_locksDrawn_32 : decode cX2_locksDrawn 32 = .ok (.irem, 1) := by decide +kernel
theorem dX2_locksDrawn_33 : decode cX2_locksDrawn 33 = .ok (.aload_n 0, 1) := by decide +kernel
theorem dX2_locksDrawn_34 : decode cX2_locksDrawn 34 = .ok (.getfield 19, 3) := by decide +kernel
theorem dX2_locksDrawn_37 : decode cX2_locksDrawn 37 = .ok (.iconst 0, 1) := by decide +kernel
theorem dX2_locksDrawn_38 : decode cX2_locksDrawn 38 = .ok (.iaload, 1) := by decide +kernel
theorem dX2_locksDrawn_39 : decode cX2_locksDrawn 39 = .ok (.if_icmp .ge 6, 3) := by decide +kernel
theorem dX2_locksDrawn_42 : decode cX2_locksDrawn 42 = .ok (.iinc 4 1, 3) := by decide +kernel
theorem dX2_locksDrawn_45 : decode cX2_locksDrawn 45 = .ok (.iinc 5 1, 3) := by decide +kernel
theorem dX2_locksDrawn_48 : decode cX2_locksDrawn 48 = .ok (.goto (-40), 3) := by decide +kernel
theorem dX2_locksDrawn_51 : decode cX2_locksDrawn 51 = .ok (.iload 4, 2) := by decide +kernel
theorem dX2_locksDrawn_53 : decode cX2_locksDrawn 53 = .ok (.ireturn, 1) := by decide +kernel
theorem dX3_init_0 : decode cX3_init 0 = .ok (.aload_n 0, 1) := by decide +kernel
theorem dX3_init_1 : decode cX3_init 1 = .ok (.invokespecial 3, 3) := by decide +kernel
theorem dX3_init_4 : decode cX3_init 4 = .ok (.aload_n 0, 1) := by decide +kernel
theorem dX3_init_5 : decode cX3_init 5 = .ok (.new 9, 3) := by decide +kernel
theorem dX3_init_8 : decode cX3_init 8 = .ok (.dup, 1) := by decide +kernel
theorem dX3_init_9 : decode cX3_init 9 = .ok (.invokespecial 11, 3) := by decide +kernel
theorem dX3_init_12 : decode cX3_init 12 = .ok (.putfield 12, 3) := by decide +kernel
theorem dX3_init_15 : decode cX3_init 15 = .ok (.aload_n 0, 1) := by decide +kernel
theorem dX3_init_16 : decode cX3_init 16 = .ok (.iconst 4, 1) := by decide +kernel
theorem dX3_init_17 : decode cX3_init 17 = .ok (.newarray .int, 2) := by decide +kernel
theorem dX3_init_19 : decode cX3_init 19 = .ok (.putfield 18, 3) := by decide +kernel
theorem dX3_init_22 : decode cX3_init 22 = .ok (.return_, 1) := by decide +kernel
theorem dX4_init_0 : decode cX4_init 0 = .ok (.aload_n 0, 1) := by decide +kernel
theorem dX4_init_1 : decode cX4_init 1 = .ok (.invokespecial 3, 3) := by decide +kernel
theorem dX4_init_4 : decode cX4_init 4 = .ok (.aload_n 0, 1) := by decide +kernel
theorem dX4_init_5 : decode cX4_init 5 = .ok (.sipush 4320, 3) := by decide +kernel
theorem dX4_init_8 : decode cX4_init 8 = .ok (.newarray .int, 2) := by decide +kernel
theorem dX4_init_10 : decode cX4_init 10 = .ok (.putfield 9, 3) := by decide +kernel
theorem dX4_init_13 : decode cX4_init 13 = .ok (.aload_n 0, 1) := by decide +kernel
theorem dX4_init_14 : decode cX4_init 14 = .ok (.sipush 720, 3) := by decide +kernel
theorem dX4_init_17 : decode cX4_init 17 = .ok (.newarray .int, 2) := by decide +kernel
theorem dX4_init_19 : decode cX4_init 19 = .ok (.putfield 15, 3) := by decide +kernel
theorem dX4_init_22 : decode cX4_init 22 = .ok (.aload_n 0, 1) := by decide +kernel
theorem dX4_init_23 : decode cX4_init 23 = .ok (.bipush 6, 2) := by decide +kernel
theorem dX4_init_25 : decode cX4_init 25 = .ok (.newarray .int, 2) := by decide +kernel
theorem dX4_init_27 : decode cX4_init 27 = .ok (.putfield 18, 3) := by decide +kernel
theorem dX4_init_30 : decode cX4_init 30 = .ok (.iconst 0, 1) := by decide +kernel
theorem dX4_init_31 : decode cX4_init 31 = .ok (.istore_n 1, 1) := by decide +kernel
theorem dX4_init_32 : decode cX4_init 32 = .ok (.iload_n 1, 1) := by decide +kernel
theorem dX4_init_33 : decode cX4_init 33 = .ok (.sipush 720, 3) := by decide +kernel
theorem dX4_init_36 : decode cX4_init 36 = .ok (.if_icmp .ge 14, 3) := by decide +kernel
theorem dX4_init_39 : decode cX4_init 39 = .ok (.aload_n 0, 1) := by decide +kernel
theorem dX4_init_40 : decode cX4_init 40 = .ok (.iload_n 1, 1) := by decide +kernel
theorem dX4_init_41 : decode cX4_init 41 = .ok (.invokevirtual 21, 3) := by decide +kernel
theorem dX4_init_44 : decode cX4_init 44 = .ok (.iinc 1 1, 3) := by decide +kernel
theorem dX4_init_47 : decode cX4_init 47 = .ok (.goto (-15), 3) := by decide +kernel
theorem dX4_init_50 : decode cX4_init 50 = .ok (.return_, 1) := by decide +kernel
theorem dX4_layOut_0 : decode cX4_layOut 0 = .ok (.bipush 63, 2) := by decide +kernel
theorem dX4_layOut_2 : decode cX4_layOut 2 = .ok (.istore_n 2, 1) := by decide +kernel
theorem dX4_layOut_3 : decode cX4_layOut 3 = .ok (.iload_n 1, 1) := by decide +kernel
theorem dX4_layOut_4 : decode cX4_layOut 4 = .ok (.istore_n 3, 1) := by decide +kernel
theorem dX4_layOut_5 : decode cX4_layOut 5 = .ok (.sipush 720, 3) := by decide +kernel
theorem dX4_layOut_8 : decode cX4_layOut 8 = .ok (.istore 4, 2) := by decide +kernel
theorem dX4_layOut_10 : decode cX4_layOut 10 = .ok (.iconst 0, 1) := by decide +kernel
theorem dX4_layOut_11 : decode cX4_layOut 11 = .ok (.istore 5, 2) := by decide +kernel
theorem dX4_layOut_13 : decode cX4_layOut 13 = .ok (.iload 5, 2) := by decide +kernel
theorem dX4_layOut_15 : decode cX4_layOut 15 = .ok (.bipush 6, 2) := by decide +kernel
theorem dX4_layOut_17 : decode cX4_layOut 17 = .ok (.if_icmp .ge 81, 3) := by decide +kernel
theorem dX4_layOut_20 : decode cX4_layOut 20 = .ok (.iconst 1, 1) := by decide +kernel
theorem dX4_layOut_21 : decode cX4_layOut 21 = .ok (.iload 4, 2) := by decide +kernel
theorem dX4_layOut_23 : decode cX4_layOut 23 = .ok (.bipush 6, 2) := by decide +kernel
theorem dX4_layOut_25 : decode cX4_layOut 25 = .ok (.iload 5, 2) := by decide +kernel
theorem dX4_layOut_27 : decode cX4_layOut 27 = .ok (.isub, 1) := by decide +kernel
theorem dX4_layOut_28 : decode cX4_layOut 28 = .ok (.idiv, 1) := by decide +kernel
theorem dX4_layOut_29 : decode cX4_layOut 29 = .ok (.invokestatic 25, 3) := by decide +kernel
theorem dX4_layOut_32 : decode cX4_layOut 32 = .ok (.istore 4, 2) := by decide +kernel
theorem dX4_layOut_34 : decode cX4_layOut 34 = .ok (.iload_n 2, 1) := by decide +kernel
theorem dX4_layOut_35 : decode cX4_layOut 35 = .ok (.iload_n 3, 1) := by decide +kernel
theorem dX4_layOut_36 : decode cX4_layOut 36 = .ok (.iload 4, 2) := by decide +kernel
theorem dX4_layOut_38 : decode cX4_layOut 38 = .ok (.idiv, 1) := by decide +kernel
theorem dX4_layOut_39 : decode cX4_layOut 39 = .ok (.invokestatic 31, 3) := by decide +kernel
theorem dX4_layOut_42 : decode cX4_layOut 42 = .ok (.istore 6, 2) := by decide +kernel
theorem dX4_layOut_44 : decode cX4_layOut 44 = .ok (.iload_n 3, 1) := by decide +kernel
theorem dX4_layOut_45 : decode cX4_layOut 45 = .ok (.iload 4, 2) := by decide +kernel
theorem dX4_layOut_47 : decode cX4_layOut 47 = .ok (.irem, 1) := by decide +kernel
theorem dX4_layOut_48 : decode cX4_layOut 48 = .ok (.istore_n 3, 1) := by decide +kernel
theorem dX4_layOut_49 : decode cX4_layOut 49 = .ok (.iload_n 2, 1) := by decide +kernel
theorem dX4_layOut_50 : decode cX4_layOut 50 = .ok (.iconst 1, 1) := by decide +kernel
theorem dX4_layOut_51 : decode cX4_layOut 51 = .ok (.iload 6, 2) := by decide +kernel
theorem dX4_layOut_53 : decode cX4_layOut 53 = .ok (.ishl, 1) := by decide +kernel
theorem dX4_layOut_54 : decode cX4_layOut 54 = .ok (.iconst (-1), 1) := by decide +kernel
theorem dX4_layOut_55 : decode cX4_layOut 55 = .ok (.ixor, 1) := by decide +kernel
theorem dX4_layOut_56 : decode cX4_layOut 56 = .ok (.iand, 1) := by decide +kernel
theorem dX4_layOut_57 : decode cX4_layOut 57 = .ok (.istore_n 2, 1) := by decide +kernel
theorem dX4_layOut_58 : decode cX4_layOut 58 = .ok (.aload_n 0, 1) := by decide +kernel
theorem dX4_layOut_59 : decode cX4_layOut 59 = .ok (.getfield 9, 3) := by decide +kernel
theorem dX4_layOut_62 : decode cX4_layOut 62 = .ok (.iload_n 1, 1) := by decide +kernel
theorem dX4_layOut_63 : decode cX4_layOut 63 = .ok (.bipush 6, 2) := by decide +kernel
theorem dX4_layOut_65 : decode cX4_layOut 65 = .ok (.imul, 1) := by decide +kernel
theorem dX4_layOut_66 : decode cX4_layOut 66 = .ok (.iload 5, 2) := by decide +kernel
theorem dX4_layOut_68 : decode cX4_layOut 68 = .ok (.iadd, 1) := by decide +kernel
theorem dX4_layOut_69 : decode cX4_layOut 69 = .ok (.iload 6, 2) := by decide +kernel
theorem dX4_layOut_71 : decode cX4_layOut 71 = .ok (.iastore, 1) := by decide +kernel
theorem dX4_layOut_72 : decode cX4_layOut 72 = .ok (.iload 6, 2) := by decide +kernel
theorem dX4_layOut_74 : decode cX4_layOut 74 = .ok (.iload 5, 2) := by decide +kernel
theorem dX4_layOut_76 : decode cX4_layOut 76 = .ok (.if_icmp .ne 16, 3) := by decide +kernel
theorem dX4_layOut_79 : decode cX4_layOut 79 = .ok (.aload_n 0, 1) := by decide +kernel
theorem dX4_layOut_80 : decode cX4_layOut 80 = .ok (.getfield 15, 3) := by decide +kernel
theorem dX4_layOut_83 : decode cX4_layOut 83 = .ok (.iload_n 1, 1) := by decide +kernel
theorem dX4_layOut_84 : decode cX4_layOut 84 = .ok (.dup2, 1) := by decide +kernel
theorem dX4_layOut_85 : decode cX4_layOut 85 = .ok (.iaload, 1) := by decide +kernel
theorem dX4_layOut_86 : decode cX4_layOut 86 = .ok (.iconst 1, 1) := by decide +kernel
theorem dX4_layOut_87 : decode cX4_layOut 87 = .ok (.iload 5, 2) := by decide +kernel
theorem dX4_layOut_89 : decode cX4_layOut 89 = .ok (.ishl, 1) := by decide +kernel
theorem dX4_layOut_90 : decode cX4_layOut 90 = .ok (.ior, 1) := by decide +kernel
theorem dX4_layOut_91 : decode cX4_layOut 91 = .ok (.iastore, 1) := by decide +kernel
theorem dX4_layOut_92 : decode cX4_layOut 92 = .ok (.iinc 5 1, 3) := by decide +kernel
theorem dX4_layOut_95 : decode cX4_layOut 95 = .ok (.goto (-82), 3) := by decide +kernel
theorem dX4_layOut_98 : decode cX4_layOut 98 = .ok (.return_, 1) := by decide +kernel
theorem dX4_nthOf_0 : decode cX4_nthOf 0 = .ok (.iconst 0, 1) := by decide +kernel
theorem dX4_nthOf_1 : decode cX4_nthOf 1 = .ok (.istore_n 2, 1) := by decide +kernel
theorem dX4_nthOf_2 : decode cX4_nthOf 2 = .ok (.iconst 0, 1) := by decide +kernel
theorem dX4_nthOf_3 : decode cX4_nthOf 3 = .ok (.istore_n 3, 1) := by decide +kernel
theorem dX4_nthOf_4 : decode cX4_nthOf 4 = .ok (.iload_n 3, 1) := by decide +kernel
theorem dX4_nthOf_5 : decode cX4_nthOf 5 = .ok (.bipush 6, 2) := by decide +kernel
theorem dX4_nthOf_7 : decode cX4_nthOf 7 = .ok (.if_icmp .ge 28, 3) := by decide +kernel
theorem dX4_nthOf_10 : decode cX4_nthOf 10 = .ok (.iload_n 0, 1) := by decide +kernel
theorem dX4_nthOf_11 : decode cX4_nthOf 11 = .ok (.iload_n 3, 1) := by decide +kernel
theorem dX4_nthOf_12 : decode cX4_nthOf 12 = .ok (.ishr, 1) := by decide +kernel
theorem dX4_nthOf_13 : decode cX4_nthOf 13 = .ok (.iconst 1, 1) := by decide +kernel
theorem dX4_nthOf_14 : decode cX4_nthOf 14 = .ok (.iand, 1) := by decide +kernel
theorem dX4_nthOf_15 : decode cX4_nthOf 15 = .ok (.iconst 1, 1) := by decide +kernel
theorem dX4_nthOf_16 : decode cX4_nthOf 16 = .ok (.if_icmp .ne 13, 3) := by decide +kernel
theorem dX4_nthOf_19 : decode cX4_nthOf 19 = .ok (.iload_n 2, 1) := by decide +kernel
theorem dX4_nthOf_20 : decode cX4_nthOf 20 = .ok (.iload_n 1, 1) := by decide +kernel
theorem dX4_nthOf_21 : decode cX4_nthOf 21 = .ok (.if_icmp .ne 5, 3) := by decide +kernel
theorem dX4_nthOf_24 : decode cX4_nthOf 24 = .ok (.iload_n 3, 1) := by decide +kernel
theorem dX4_nthOf_25 : decode cX4_nthOf 25 = .ok (.ireturn, 1) := by decide +kernel
theorem dX4_nthOf_26 : decode cX4_nthOf 26 = .ok (.iinc 2 1, 3) := by decide +kernel
theorem dX4_nthOf_29 : decode cX4_nthOf 29 = .ok (.iinc 3 1, 3) := by decide +kernel
theorem dX4_nthOf_32 : decode cX4_nthOf 32 = .ok (.goto (-28), 3) := by decide +kernel
theorem dX4_nthOf_35 : decode cX4_nthOf 35 = .ok (.iconst 0, 1) := by decide +kernel
theorem dX4_nthOf_36 : decode cX4_nthOf 36 = .ok (.ireturn, 1) := by decide +kernel
theorem dX4_piece_0 : decode cX4_piece 0 = .ok (.aload_n 0, 1) := by decide +kernel
theorem dX4_piece_1 : decode cX4_piece 1 = .ok (.getfield 9, 3) := by decide +kernel
theorem dX4_piece_4 : decode cX4_piece 4 = .ok (.iload_n 1, 1) := by decide +kernel
theorem dX4_piece_5 : decode cX4_piece 5 = .ok (.bipush 6, 2) := by decide +kernel
theorem dX4_piece_7 : decode cX4_piece 7 = .ok (.imul, 1) := by decide +kernel
theorem dX4_piece_8 : decode cX4_piece 8 = .ok (.iload_n 2, 1) := by decide +kernel
theorem dX4_piece_9 : decode cX4_piece 9 = .ok (.iadd, 1) := by decide +kernel
theorem dX4_piece_10 : decode cX4_piece 10 = .ok (.iaload, 1) := by decide +kernel
theorem dX4_piece_11 : decode cX4_piece 11 = .ok (.ireturn, 1) := by decide +kernel
theorem dX4_numberOf_0 : decode cX4_numberOf 0 = .ok (.bipush 63, 2) := by decide +kernel
theorem dX4_numberOf_2 : decode cX4_numberOf 2 = .ok (.istore_n 2, 1) := by decide +kernel
theorem dX4_numberOf_3 : decode cX4_numberOf 3 = .ok (.iconst 0, 1) := by decide +kernel
theorem dX4_numberOf_4 : decode cX4_numberOf 4 = .ok (.istore_n 3, 1) := by decide +kernel
theorem dX4_numberOf_5 : decode cX4_numberOf 5 = .ok (.iconst 0, 1) := by decide +kernel
theorem dX4_numberOf_6 : decode cX4_numberOf 6 = .ok (.istore 4, 2) := by decide +kernel
theorem dX4_numberOf_8 : decode cX4_numberOf 8 = .ok (.iload 4, 2) := by decide +kernel
theorem dX4_numberOf_10 : decode cX4_numberOf 10 = .ok (.bipush 6, 2) := by decide +kernel
theorem dX4_numberOf_12 : decode cX4_numberOf 12 = .ok (.if_icmp .ge 44, 3) := by decide +kernel
theorem dX4_numberOf_15 : decode cX4_numberOf 15 = .ok (.aload_n 1, 1) := by decide +kernel
theorem dX4_numberOf_16 : decode cX4_numberOf 16 = .ok (.iload 4, 2) := by decide +kernel
theorem dX4_numberOf_18 : decode cX4_numberOf 18 = .ok (.iaload, 1) := by decide +kernel
theorem dX4_numberOf_19 : decode cX4_numberOf 19 = .ok (.istore 5, 2) := by decide +kernel
theorem dX4_numberOf_21 : decode cX4_numberOf 21 = .ok (.iload_n 3, 1) := by decide +kernel
theorem dX4_numberOf_22 : decode cX4_numberOf 22 = .ok (.bipush 6, 2) := by decide +kernel
theorem dX4_numberOf_24 : decode cX4_numberOf 24 = .ok (.iload 4, 2) := by decide +kernel
theorem dX4_numberOf_26 : decode cX4_numberOf 26 = .ok (.isub, 1) := by decide +kernel
theorem dX4_numberOf_27 : decode cX4_numberOf 27 = .ok (.imul, 1) := by decide +kernel
theorem dX4_numberOf_28 : decode cX4_numberOf 28 = .ok (.iload_n 2, 1) := by decide +kernel
theorem dX4_numberOf_29 : decode cX4_numberOf 29 = .ok (.iconst 1, 1) := by decide +kernel
theorem dX4_numberOf_30 : decode cX4_numberOf 30 = .ok (.iload 5, 2) := by decide +kernel
theorem dX4_numberOf_32 : decode cX4_numberOf 32 = .ok (.ishl, 1) := by decide +kernel
theorem dX4_numberOf_33 : decode cX4_numberOf 33 = .ok (.iconst 1, 1) := by decide +kernel
theorem dX4_numberOf_34 : decode cX4_numberOf 34 = .ok (.isub, 1) := by decide +kernel
theorem dX4_numberOf_35 : decode cX4_numberOf 35 = .ok (.iand, 1) := by decide +kernel
theorem dX4_numberOf_36 : decode cX4_numberOf 36 = .ok (.invokestatic 34, 3) := by decide +kernel
theorem dX4_numberOf_39 : decode cX4_numberOf 39 = .ok (.iadd, 1) := by decide +kernel
theorem dX4_numberOf_40 : decode cX4_numberOf 40 = .ok (.istore_n 3, 1) := by decide +kernel
theorem dX4_numberOf_41 : decode cX4_numberOf 41 = .ok (.iload_n 2, 1) := by decide +kernel
theorem dX4_numberOf_42 : decode cX4_numberOf 42 = .ok (.iconst 1, 1) := by decide +kernel
theorem dX4_numberOf_43 : decode cX4_numberOf 43 = .ok (.iload 5, 2) := by decide +kernel
theorem dX4_numberOf_45 : decode cX4_numberOf 45 = .ok (.ishl, 1) := by decide +kernel
theorem dX4_numberOf_46 : decode cX4_numberOf 46 = .ok (.iconst (-1), 1) := by decide +kernel
theorem dX4_numberOf_47 : decode cX4_numberOf 47 = .ok (.ixor, 1) := by decide +kernel
theorem dX4_numberOf_48 : decode cX4_numberOf 48 = .ok (.iand, 1) := by decide +kernel
theorem dX4_numberOf_49 : decode cX4_numberOf 49 = .ok (.istore_n 2, 1) := by decide +kernel
theorem dX4_numberOf_50 : decode cX4_numberOf 50 = .ok (.iinc 4 1, 3) := by decide +kernel
theorem dX4_numberOf_53 : decode cX4_numberOf 53 = .ok (.goto (-45), 3) := by decide +kernel
theorem dX4_numberOf_56 : decode cX4_numberOf 56 = .ok (.iload_n 3, 1) := by decide +kernel
theorem dX4_numberOf_57 : decode cX4_numberOf 57 = .ok (.ireturn, 1) := by decide +kernel
theorem dX4_moved_0 : decode cX4_moved 0 = .ok (.iconst 0, 1) := by decide +kernel
theorem dX4_moved_1 : decode cX4_moved 1 = .ok (.istore_n 3, 1) := by decide +kernel
theorem dX4_moved_2 : decode cX4_moved 2 = .ok (.iload_n 3, 1) := by decide +kernel
theorem dX4_moved_3 : decode cX4_moved 3 = .ok (.bipush 6, 2) := by decide +kernel
theorem dX4_moved_5 : decode cX4_moved 5 = .ok (.if_icmp .ge 23, 3) := by decide +kernel
theorem dX4_moved_8 : decode cX4_moved 8 = .ok (.aload_n 0, 1) := by decide +kernel
theorem dX4_moved_9 : decode cX4_moved 9 = .ok (.getfield 18, 3) := by decide +kernel
theorem dX4_moved_12 : decode cX4_moved 12 = .ok (.aload_n 2, 1) := by decide +kernel
theorem dX4_moved_13 : decode cX4_moved 13 = .ok (.iload_n 3, 1) := by decide +kernel
theorem dX4_moved_14 : decode cX4_moved 14 = .ok (.iaload, 1) := by decide +kernel
theorem dX4_moved_15 : decode cX4_moved 15 = .ok (.aload_n 0, 1) := by decide +kernel
theorem dX4_moved_16 : decode cX4_moved 16 = .ok (.iload_n 1, 1) := by decide +kernel
theorem dX4_moved_17 : decode cX4_moved 17 = .ok (.iload_n 3, 1) := by decide +kernel
theorem dX4_moved_18 : decode cX4_moved 18 = .ok (.invokevirtual 40, 3) := by decide +kernel
theorem dX4_moved_21 : decode cX4_moved 21 = .ok (.iastore, 1) := by decide +kernel
theorem dX4_moved_22 : decode cX4_moved 22 = .ok (.iinc 3 1, 3) := by decide +kernel
theorem dX4_moved_25 : decode cX4_moved 25 = .ok (.goto (-23), 3) := by decide +kernel
theorem dX4_moved_28 : decode cX4_moved 28 = .ok (.aload_n 0, 1) := by decide +kernel
theorem dX4_moved_29 : decode cX4_moved 29 = .ok (.aload_n 0, 1) := by decide +kernel
theorem dX4_moved_30 : decode cX4_moved 30 = .ok (.getfield 18, 3) := by decide +kernel
theorem dX4_moved_33 : decode cX4_moved 33 = .ok (.invokevirtual 43, 3) := by decide +kernel
theorem dX4_moved_36 : decode cX4_moved 36 = .ok (.ireturn, 1) := by decide +kernel
theorem dX5_init_0 : decode cX5_init 0 = .ok (.aload_n 0, 1) := by decide +kernel
theorem dX5_init_1 : decode cX5_init 1 = .ok (.invokespecial 3, 3) := by decide +kernel
theorem dX5_init_4 : decode cX5_init 4 = .ok (.aload_n 0, 1) := by decide +kernel
theorem dX5_init_5 : decode cX5_init 5 = .ok (.bipush 10, 2) := by decide +kernel
theorem dX5_init_7 : decode cX5_init 7 = .ok (.newarray .int, 2) := by decide +kernel
theorem dX5_init_9 : decode cX5_init 9 = .ok (.putfield 9, 3) := by decide +kernel
theorem dX5_init_12 : decode cX5_init 12 = .ok (.aload_n 0, 1) := by decide +kernel
theorem dX5_init_13 : decode cX5_init 13 = .ok (.bipush 10, 2) := by decide +kernel
theorem dX5_init_15 : decode cX5_init 15 = .ok (.bipush 8, 2) := by decide +kernel
theorem dX5_init_17 : decode cX5_init 17 = .ok (.multianewarray 15 2, 4) := by decide +kernel
theorem dX5_init_21 : decode cX5_init 21 = .ok (.putfield 17, 3) := by decide +kernel
theorem dX5_init_24 : decode cX5_init 24 = .ok (.aload_n 0, 1) := by decide +kernel
theorem dX5_init_25 : decode cX5_init 25 = .ok (.bipush 10, 2) := by decide +kernel
theorem dX5_init_27 : decode cX5_init 27 = .ok (.sipush 720, 3) := by decide +kernel
theorem dX5_init_30 : decode cX5_init 30 = .ok (.multianewarray 15 2, 4) := by decide +kernel
theorem dX5_init_34 : decode cX5_init 34 = .ok (.putfield 20, 3) := by decide +kernel
theorem dX5_init_37 : decode cX5_init 37 = .ok (.aload_n 0, 1) := by decide +kernel
theorem dX5_init_38 : decode cX5_init 38 = .ok (.bipush 6, 2) := by decide +kernel
theorem dX5_init_40 : decode cX5_init 40 = .ok (.newarray .int, 2) := by decide +kernel
theorem dX5_init_42 : decode cX5_init 42 = .ok (.putfield 23, 3) := by decide +kernel
theorem dX5_init_45 : decode cX5_init 45 = .ok (.aload_n 0, 1) := by decide +kernel
theorem dX5_init_46 : decode cX5_init 46 = .ok (.aload_n 1, 1) := by decide +kernel
theorem dX5_init_47 : decode cX5_init 47 = .ok (.putfield 26, 3) := by decide +kernel
theorem dX5_init_50 : decode cX5_init 50 = .ok (.aload_n 0, 1) := by decide +kernel
theorem dX5_init_51 : decode cX5_init 51 = .ok (.aload_n 2, 1) := by decide +kernel
theorem dX5_init_52 : decode cX5_init 52 = .ok (.putfield 30, 3) := by decide +kernel
theorem dX5_init_55 : decode cX5_init 55 = .ok (.return_, 1) := by decide +kernel
theorem dX5_has_0 : decode cX5_has 0 = .ok (.iload_n 1, 1) := by decide +kernel
theorem dX5_has_1 : decode cX5_has 1 = .ok (.ifCond .lt 15, 3) := by decide +kernel
theorem dX5_has_4 : decode cX5_has 4 = .ok (.iload_n 1, 1) := by decide +kernel
theorem dX5_has_5 : decode cX5_has 5 = .ok (.aload_n 0, 1) := by decide +kernel
theorem dX5_has_6 : decode cX5_has 6 = .ok (.getfield 34, 3) := by decide +kernel
theorem dX5_has_9 : decode cX5_has 9 = .ok (.if_icmp .ge 7, 3) := by decide +kernel
theorem dX5_has_12 : decode cX5_has 12 = .ok (.iconst 1, 1) := by decide +kernel
theorem dX5_has_13 : decode cX5_has 13 = .ok (.goto 4, 3) := by decide +kernel
theorem dX5_has_16 : decode cX5_has 16 = .ok (.iconst 0, 1) := by decide +kernel
theorem dX5_has_17 : decode cX5_has 17 = .ok (.ireturn, 1) := by decide +kernel
theorem dX5_hasMove_0 : decode cX5_hasMove 0 = .ok (.iload_n 2, 1) := by decide +kernel
theorem dX5_hasMove_1 : decode cX5_hasMove 1 = .ok (.ifCond .lt 17, 3) := by decide +kernel
theorem dX5_hasMove_4 : decode cX5_hasMove 4 = .ok (.iload_n 2, 1) := by decide +kernel
theorem dX5_hasMove_5 : decode cX5_hasMove 5 = .ok (.aload_n 0, 1) := by decide +kernel
theorem dX5_hasMove_6 : decode cX5_hasMove 6 = .ok (.getfield 9, 3) := by decide +kernel
theorem dX5_hasMove_9 : decode cX5_hasMove 9 = .ok (.iload_n 1, 1) := by decide +kernel
theorem dX5_hasMove_10 : decode cX5_hasMove 10 = .ok (.iaload, 1) := by decide +kernel
theorem dX5_hasMove_11 : decode cX5_hasMove 11 = .ok (.if_icmp .ge 7, 3) := by decide +kernel
theorem dX5_hasMove_14 : decode cX5_hasMove 14 = .ok (.iconst 1, 1) := by decide +kernel
theorem dX5_hasMove_15 : decode cX5_hasMove 15 = .ok (.goto 4, 3) := by decide +kernel
theorem dX5_hasMove_18 : decode cX5_hasMove 18 = .ok (.iconst 0, 1) := by decide +kernel
theorem dX5_hasMove_19 : decode cX5_hasMove 19 = .ok (.ireturn, 1) := by decide +kernel
theorem dX5_takeRead_0 : decode cX5_takeRead 0 = .ok (.aload_n 0, 1) := by decide +kernel
theorem dX5_takeRead_1 : decode cX5_takeRead 1 = .ok (.getfield 9, 3) := by decide +kernel
theorem dX5_takeRead_4 : decode cX5_takeRead 4 = .ok (.aload_n 0, 1) := by decide +kernel
theorem dX5_takeRead_5 : decode cX5_takeRead 5 = .ok (.getfield 34, 3) := by decide +kernel
theorem dX5_takeRead_8 : decode cX5_takeRead 8 = .ok (.iload_n 1, 1) := by decide +kernel
theorem dX5_takeRead_9 : decode cX5_takeRead 9 = .ok (.iastore, 1) := by decide +kernel
theorem dX5_takeRead_10 : decode cX5_takeRead 10 = .ok (.iconst 0, 1) := by decide +kernel
theorem dX5_takeRead_11 : decode cX5_takeRead 11 = .ok (.istore_n 2, 1) := by decide +kernel
theorem dX5_takeRead_12 : decode cX5_takeRead 12 = .ok (.iload_n 2, 1) := by decide +kernel
theorem dX5_takeRead_13 : decode cX5_takeRead 13 = .ok (.sipush 720, 3) := by decide +kernel
theorem dX5_takeRead_16 : decode cX5_takeRead 16 = .ok (.if_icmp .ge 61, 3) := by decide +kernel
theorem dX5_takeRead_19 : decode cX5_takeRead 19 = .ok (.iload_n 2, 1) := by decide +kernel
theorem dX5_takeRead_20 : decode cX5_takeRead 20 = .ok (.istore_n 3, 1) := by decide +kernel
theorem dX5_takeRead_21 : decode cX5_takeRead 21 = .ok (.iconst 0, 1) := by decide +kernel
theorem dX5_takeRead_22 : decode cX5_takeRead 22 = .ok (.istore 4, 2) := by decide +kernel
theorem dX5_takeRead_24 : decode cX5_takeRead 24 = .ok (.iload 4, 2) := by decide +kernel
theorem dX5_takeRead_26 : decode cX5_takeRead 26 = .ok (.iload_n 1, 1) := by decide +kernel
theorem dX5_takeRead_27 : decode cX5_takeRead 27 = .ok (.if_icmp .ge 32, 3) := by decide +kernel
theorem dX5_takeRead_30 : decode cX5_takeRead 30 = .ok (.aload_n 0, 1) := by decide +kernel
theorem dX5_takeRead_31 : decode cX5_takeRead 31 = .ok (.getfield 26, 3) := by decide +kernel
theorem dX5_takeRead_34 : decode cX5_takeRead 34 = .ok (.getfield 38, 3) := by decide +kernel
theorem dX5_takeRead_37 : decode cX5_takeRead 37 = .ok (.aload_n 0, 1) := by decide +kernel
theorem dX5_takeRead_38 : decode cX5_takeRead 38 = .ok (.getfield 17, 3) := by decide +kernel
theorem dX5_takeRead_41 : decode cX5_takeRead 41 = .ok (.aload_n 0, 1) := by decide +kernel
theorem dX5_takeRead_42 : decode cX5_takeRead 42 = .ok (.getfield 34, 3) := by decide +kernel
theorem dX5_takeRead_45 : decode cX5_takeRead 45 = .ok (.aaload, 1) := by decide +kernel
theorem dX5_takeRead_46 : decode cX5_takeRead 46 = .ok (.iload 4, 2) := by decide +kernel
theorem dX5_takeRead_48 : decode cX5_takeRead 48 = .ok (.iaload, 1) := by decide +kernel
theorem dX5_takeRead_49 : decode cX5_takeRead 49 = .ok (.aaload, 1) := by decide +kernel
theorem dX5_takeRead_50 : decode cX5_takeRead 50 = .ok (.iload_n 3, 1) := by decide +kernel
theorem dX5_takeRead_51 : decode cX5_takeRead 51 = .ok (.iaload, 1) := by decide +kernel
theorem dX5_takeRead_52 : decode cX5_takeRead 52 = .ok (.istore_n 3, 1) := by decide +kernel
theorem dX5_takeRead_53 : decode cX5_takeRead 53 = .ok (.iinc 4 1, 3) := by decide +kernel
theorem dX5_takeRead_56 : decode cX5_takeRead 56 = .ok (.goto (-32), 3) := by decide +kernel
theorem dX5_takeRead_59 : decode cX5_takeRead 59 = .ok (.aload_n 0, 1) := by decide +kernel
theorem dX5_takeRead_60 : decode cX5_takeRead 60 = .ok (.getfield 20, 3) := by decide +kernel
theorem dX5_takeRead_63 : decode cX5_takeRead 63 = .ok (.aload_n 0, 1) := by decide +kernel
theorem dX5_takeRead_64 : decode cX5_takeRead 64 = .ok (.getfield 34, 3) := by decide +kernel
theorem dX5_takeRead_67 : decode cX5_takeRead 67 = .ok (.aaload, 1) := by decide +kernel
theorem dX5_takeRead_68 : decode cX5_takeRead 68 = .ok (.iload_n 2, 1) := by decide +kernel
theorem dX5_takeRead_69 : decode cX5_takeRead 69 = .ok (.iload_n 3, 1) := by decide +kernel
theorem dX5_takeRead_70 : decode cX5_takeRead 70 = .ok (.iastore, 1) := by decide +kernel
theorem dX5_takeRead_71 : decode cX5_takeRead 71 = .ok (.iinc 2 1, 3) := by decide +kernel
theorem dX5_takeRead_74 : decode cX5_takeRead 74 = .ok (.goto (-62), 3) := by decide +kernel
theorem dX5_takeRead_77 : decode cX5_takeRead 77 = .ok (.aload_n 0, 1) := by decide +kernel
theorem dX5_takeRead_78 : decode cX5_takeRead 78 = .ok (.dup, 1) := by decide +kernel
theorem dX5_takeRead_79 : decode cX5_takeRead 79 = .ok (.getfield 34, 3) := by decide +kernel
theorem dX5_takeRead_82 : decode cX5_takeRead 82 = .ok (.iconst 1, 1) := by decide +kernel
theorem dX5_takeRead_83 : decode cX5_takeRead 83 = .ok (.iadd, 1) := by decide +kernel
theorem dX5_takeRead_84 : decode cX5_takeRead 84 = .ok (.putfield 34, 3) := by decide +kernel
theorem dX5_takeRead_87 : decode cX5_takeRead 87 = .ok (.return_, 1) := by decide +kernel
theorem dX5_ahead_0 : decode cX5_ahead 0 = .ok (.iload_n 2, 1) := by decide +kernel
theorem dX5_ahead_1 : decode cX5_ahead 1 = .ok (.ifCond .le 16, 3) := by decide +kernel
theorem dX5_ahead_4 : decode cX5_ahead 4 = .ok (.aload_n 0, 1) := by decide +kernel
theorem dX5_ahead_5 : decode cX5_ahead 5 = .ok (.getfield 17, 3) := by decide +kernel
theorem dX5_ahead_8 : decode cX5_ahead 8 = .ok (.iload_n 1, 1) := by decide +kernel
theorem dX5_ahead_9 : decode cX5_ahead 9 = .ok (.aaload, 1) := by decide +kernel
theorem dX5_ahead_10 : decode cX5_ahead 10 = .ok (.iload_n 2, 1) := by decide +kernel
theorem dX5_ahead_11 : decode cX5_ahead 11 = .ok (.iconst 1, 1) := by decide +kernel
theorem dX5_ahead_12 : decode cX5_ahead 12 = .ok (.isub, 1) := by decide +kernel
theorem dX5_ahead_13 : decode cX5_ahead 13 = .ok (.iaload, 1) := by decide +kernel
theorem dX5_ahead_14 : decode cX5_ahead 14 = .ok (.goto 5, 3) := by decide +kernel
theorem dX5_ahead_17 : decode cX5_ahead 17 = .ok (.bipush (-9), 2) := by decide +kernel
theorem dX5_ahead_19 : decode cX5_ahead 19 = .ok (.ireturn, 1) := by decide +kernel
theorem dX5_goal_0 : decode cX5_goal 0 = .ok (.iload_n 2, 1) := by decide +kernel
theorem dX5_goal_1 : decode cX5_goal 1 = .ok (.istore_n 3, 1) := by decide +kernel
theorem dX5_goal_2 : decode cX5_goal 2 = .ok (.iconst 0, 1) := by decide +kernel
theorem dX5_goal_3 : decode cX5_goal 3 = .ok (.istore 4, 2) := by decide +kernel
theorem dX5_goal_5 : decode cX5_goal 5 = .ok (.iload 4, 2) := by decide +kernel
theorem dX5_goal_7 : decode cX5_goal 7 = .ok (.aload_n 0, 1) := by decide +kernel
theorem dX5_goal_8 : decode cX5_goal 8 = .ok (.getfield 9, 3) := by decide +kernel
theorem dX5_goal_11 : decode cX5_goal 11 = .ok (.iload_n 1, 1) := by decide +kernel
theorem dX5_goal_12 : decode cX5_goal 12 = .ok (.iaload, 1) := by decide +kernel
theorem dX5_goal_13 : decode cX5_goal 13 = .ok (.if_icmp .ge 29, 3) := by decide +kernel
theorem dX5_goal_16 : decode cX5_goal 16 = .ok (.aload_n 0, 1) := by decide +kernel
theorem dX5_goal_17 : decode cX5_goal 17 = .ok (.getfield 26, 3) := by decide +kernel
theorem dX5_goal_20 : decode cX5_goal 20 = .ok (.getfield 43, 3) := by decide +kernel
theorem dX5_goal_23 : decode cX5_goal 23 = .ok (.aload_n 0, 1) := by decide +kernel
theorem dX5_goal_24 : decode cX5_goal 24 = .ok (.getfield 17, 3) := by decide +kernel
theorem dX5_goal_27 : decode cX5_goal 27 = .ok (.iload_n 1, 1) := by decide +kernel
theorem dX5_goal_28 : decode cX5_goal 28 = .ok (.aaload, 1) := by decide +kernel
theorem dX5_goal_29 : decode cX5_goal 29 = .ok (.iload 4, 2) := by decide +kernel
theorem dX5_goal_31 : decode cX5_goal 31 = .ok (.iaload, 1) := by decide +kernel
theorem dX5_goal_32 : decode cX5_goal 32 = .ok (.aaload, 1) := by decide +kernel
theorem dX5_goal_33 : decode cX5_goal 33 = .ok (.iload_n 3, 1) := by decide +kernel
theorem dX5_goal_34 : decode cX5_goal 34 = .ok (.iaload, 1) := by decide +kernel
theorem dX5_goal_35 : decode cX5_goal 35 = .ok (.istore_n 3, 1) := by decide +kernel
theorem dX5_goal_36 : decode cX5_goal 36 = .ok (.iinc 4 1, 3) := by decide +kernel
theorem dX5_goal_39 : decode cX5_goal 39 = .ok (.goto (-34), 3) := by decide +kernel
theorem dX5_goal_42 : decode cX5_goal 42 = .ok (.iload_n 3, 1) := by decide +kernel
theorem dX5_goal_43 : decode cX5_goal 43 = .ok (.ireturn, 1) := by decide +kernel
theorem dX5_solvedFrom_0 : decode cX5_solvedFrom 0 = .ok (.iconst 0, 1) := by decide +kernel
theorem dX5_solvedFrom_1 : decode cX5_solvedFrom 1 = .ok (.istore_n 2, 1) := by decide +kernel
theorem dX5_solvedFrom_2 : decode cX5_solvedFrom 2 = .ok (.iload_n 2, 1) := by decide +kernel
theorem dX5_solvedFrom_3 : decode cX5_solvedFrom 3 = .ok (.bipush 6, 2) := by decide +kernel
theorem dX5_solvedFrom_5 : decode cX5_solvedFrom 5 = .ok (.if_icmp .ge 21, 3) := by decide +kernel
theorem dX5_solvedFrom_8 : decode cX5_solvedFrom 8 = .ok (.aload_n 0, 1) := by decide +kernel
theorem dX5_solvedFrom_9 : decode cX5_solvedFrom 9 = .ok (.getfield 23, 3) := by decide +kernel
theorem dX5_solvedFrom_12 : decode cX5_solvedFrom 12 = .ok (.iload_n 2, 1) := by decide +kernel
theorem dX5_solvedFrom_13 : decode cX5_solvedFrom 13 = .ok (.aload_n 0, 1) := by decide +kernel
theorem dX5_solvedFrom_14 : decode cX5_solvedFrom 14 = .ok (.iload_n 1, 1) := by decide +kernel
theorem dX5_solvedFrom_15 : decode cX5_solvedFrom 15 = .ok (.iload_n 2, 1) := by decide +kernel
theorem dX5_solvedFrom_16 : decode cX5_solvedFrom 16 = .ok (.invokevirtual 46, 3) := by decide +kernel
theorem dX5_solvedFrom_19 : decode cX5_solvedFrom 19 = .ok (.iastore, 1) := by decide +kernel
theorem dX5_solvedFrom_20 : decode cX5_solvedFrom 20 = .ok (.iinc 2 1, 3) := by decide +kernel
theorem dX5_solvedFrom_23 : decode cX5_solvedFrom 23 = .ok (.goto (-21), 3) := by decide +kernel
theorem dX5_solvedFrom_26 : decode cX5_solvedFrom 26 = .ok (.aload_n 0, 1) := by decide +kernel
theorem dX5_solvedFrom_27 : decode cX5_solvedFrom 27 = .ok (.getfield 30, 3) := by decide +kernel
theorem dX5_solvedFrom_30 : decode cX5_solvedFrom 30 = .ok (.aload_n 0, 1) := by decide +kernel
theorem dX5_solvedFrom_31 : decode cX5_solvedFrom 31 = .ok (.getfield 23, 3) := by decide +kernel
theorem dX5_solvedFrom_34 : decode cX5_solvedFrom 34 = .ok (.invokevirtual 50, 3) := by decide +kernel
theorem dX5_solvedFrom_37 : decode cX5_solvedFrom 37 = .ok (.ireturn, 1) := by decide +kernel
theorem dX6_init_0 : decode cX6_init 0 = .ok (.aload_n 0, 1) := by decide +kernel
theorem dX6_init_1 : decode cX6_init 1 = .ok (.invokespecial 3, 3) := by decide +kernel
theorem dX6_init_4 : decode cX6_init 4 = .ok (.aload_n 0, 1) := by decide +kernel
theorem dX6_init_5 : decode cX6_init 5 = .ok (.bipush 16, 2) := by decide +kernel
theorem dX6_init_7 : decode cX6_init 7 = .ok (.newarray .int, 2) := by decide +kernel
theorem dX6_init_9 : decode cX6_init 9 = .ok (.putfield 9, 3) := by decide +kernel
theorem dX6_init_12 : decode cX6_init 12 = .ok (.return_, 1) := by decide +kernel
theorem dX6_add_0 : decode cX6_add 0 = .ok (.iconst 0, 1) := by decide +kernel
theorem dX6_add_1 : decode cX6_add 1 = .ok (.istore 4, 2) := by decide +kernel
theorem dX6_add_3 : decode cX6_add 3 = .ok (.iload 4, 2) := by decide +kernel
theorem dX6_add_5 : decode cX6_add 5 = .ok (.iload_n 1, 1) := by decide +kernel
theorem dX6_add_6 : decode cX6_add 6 = .ok (.if_icmp .ge 49, 3) := by decide +kernel
theorem dX6_add_9 : decode cX6_add 9 = .ok (.aload_n 0, 1) := by decide +kernel
theorem dX6_add_10 : decode cX6_add 10 = .ok (.getfield 15, 3) := by decide +kernel
theorem dX6_add_13 : decode cX6_add 13 = .ok (.bipush 16, 2) := by decide +kernel
theorem dX6_add_15 : decode cX6_add 15 = .ok (.if_icmp .ge 40, 3) := by decide +kernel
theorem dX6_add_18 : decode cX6_add 18 = .ok (.aload_n 0, 1) := by decide +kernel
theorem dX6_add_19 : decode cX6_add 19 = .ok (.getfield 9, 3) := by decide +kernel
theorem dX6_add_22 : decode cX6_add 22 = .ok (.aload_n 0, 1) := by decide +kernel
theorem dX6_add_23 : decode cX6_add 23 = .ok (.getfield 15, 3) := by decide +kernel
theorem dX6_add_26 : decode cX6_add 26 = .ok (.lload_n 2, 1) := by decide +kernel
theorem dX6_add_27 : decode cX6_add 27 = .ok (.bipush 8, 2) := by decide +kernel
theorem dX6_add_29 : decode cX6_add 29 = .ok (.iload 4, 2) := by decide +kernel
theorem dX6_add_31 : decode cX6_add 31 = .ok (.imul, 1) := by decide +kernel
theorem dX6_add_32 : decode cX6_add 32 = .ok (.lshr, 1) := by decide +kernel
theorem dX6_add_33 : decode cX6_add 33 = .ok (.ldc2_w 19, 3) := by decide +kernel
theorem dX6_add_36 : decode cX6_add 36 = .ok (.land, 1) := by decide +kernel
theorem dX6_add_37 : decode cX6_add 37 = .ok (.l2i, 1) := by decide +kernel
theorem dX6_add_38 : decode cX6_add 38 = .ok (.iastore, 1) := by decide +kernel
theorem dX6_add_39 : decode cX6_add 39 = .ok (.aload_n 0, 1) := by decide +kernel
theorem dX6_add_40 : decode cX6_add 40 = .ok (.dup, 1) := by decide +kernel
theorem dX6_add_41 : decode cX6_add 41 = .ok (.getfield 15, 3) := by decide +kernel
theorem dX6_add_44 : decode cX6_add 44 = .ok (.iconst 1, 1) := by decide +kernel
theorem dX6_add_45 : decode cX6_add 45 = .ok (.iadd, 1) := by decide +kernel
theorem dX6_add_46 : decode cX6_add 46 = .ok (.putfield 15, 3) := by decide +kernel
theorem dX6_add_49 : decode cX6_add 49 = .ok (.iinc 4 1, 3) := by decide +kernel
theorem dX6_add_52 : decode cX6_add 52 = .ok (.goto (-49), 3) := by decide +kernel
theorem dX6_add_55 : decode cX6_add 55 = .ok (.return_, 1) := by decide +kernel
theorem dX6_readTurn_0 : decode cX6_readTurn 0 = .ok (.iconst 0, 1) := by decide +kernel
theorem dX6_readTurn_1 : decode cX6_readTurn 1 = .ok (.istore_n 2, 1) := by decide +kernel
theorem dX6_readTurn_2 : decode cX6_readTurn 2 = .ok (.iload_n 2, 1) := by decide +kernel
theorem dX6_readTurn_3 : decode cX6_readTurn 3 = .ok (.bipush 6, 2) := by decide +kernel
theorem dX6_readTurn_5 : decode cX6_readTurn 5 = .ok (.if_icmp .ge 13, 3) := by decide +kernel
theorem dX6_readTurn_8 : decode cX6_readTurn 8 = .ok (.aload_n 1, 1) := by decide +kernel
theorem dX6_readTurn_9 : decode cX6_readTurn 9 = .ok (.iload_n 2, 1) := by decide +kernel
theorem dX6_readTurn_10 : decode cX6_readTurn 10 = .ok (.iload_n 2, 1) := by decide +kernel
theorem dX6_readTurn_11 : decode cX6_readTurn 11 = .ok (.iastore, 1) := by decide +kernel
theorem dX6_readTurn_12 : decode cX6_readTurn 12 = .ok (.iinc 2 1, 3) := by decide +kernel
theorem dX6_readTurn_15 : decode cX6_readTurn 15 = .ok (.goto (-13), 3) := by decide +kernel
theorem dX6_readTurn_18 : decode cX6_readTurn 18 = .ok (.iconst 0, 1) := by decide +kernel
theorem dX6_readTurn_19 : decode cX6_readTurn 19 = .ok (.istore_n 2, 1) := by decide +kernel
theorem dX6_readTurn_20 : decode cX6_readTurn 20 = .ok (.iconst 0, 1) := by decide +kernel
theorem dX6_readTurn_21 : decode cX6_readTurn 21 = .ok (.istore_n 3, 1) := by decide +kernel
theorem dX6_readTurn_22 : decode cX6_readTurn 22 = .ok (.iconst 0, 1) := by decide +kernel
theorem dX6_readTurn_23 : decode cX6_readTurn 23 = .ok (.istore 4, 2) := by decide +kernel
theorem dX6_readTurn_25 : decode cX6_readTurn 25 = .ok (.iconst 0, 1) := by decide +kernel
theorem dX6_readTurn_26 : decode cX6_readTurn 26 = .ok (.istore 5, 2) := by decide +kernel
theorem dX6_readTurn_28 : decode cX6_readTurn 28 = .ok (.iconst 0, 1) := by decide +kernel
theorem dX6_readTurn_29 : decode cX6_readTurn 29 = .ok (.istore 6, 2) := by decide +kernel
theorem dX6_readTurn_31 : decode cX6_readTurn 31 = .ok (.iconst 0, 1) := by decide +kernel
theorem dX6_readTurn_32 : decode cX6_readTurn 32 = .ok (.istore 7, 2) := by decide +kernel
theorem dX6_readTurn_34 : decode cX6_readTurn 34 = .ok (.iload 7, 2) := by decide +kernel
theorem dX6_readTurn_36 : decode cX6_readTurn 36 = .ok (.aload_n 0, 1) := by decide +kernel
theorem dX6_readTurn_37 : decode cX6_readTurn 37 = .ok (.getfield 15, 3) := by decide +kernel
theorem dX6_readTurn_40 : decode cX6_readTurn 40 = .ok (.if_icmp .ge 133, 3) := by decide +kernel
theorem dX6_readTurn_43 : decode cX6_readTurn 43 = .ok (.aload_n 0, 1) := by decide +kernel
theorem dX6_readTurn_44 : decode cX6_readTurn 44 = .ok (.getfield 9, 3) := by decide +kernel
theorem dX6_readTurn_47 : decode cX6_readTurn 47 = .ok (.iload 7, 2) := by decide +kernel
theorem dX6_readTurn_49 : decode cX6_readTurn 49 = .ok (.iaload, 1) := by decide +kernel
theorem dX6_readTurn_50 : decode cX6_readTurn 50 = .ok (.bipush 97, 2) := by decide +kernel
theorem dX6_readTurn_52 : decode cX6_readTurn 52 = .ok (.isub, 1) := by decide +kernel
theorem dX6_readTurn_53 : decode cX6_readTurn 53 = .ok (.istore 8, 2) := by decide +kernel
theorem dX6_readTurn_55 : decode cX6_readTurn 55 = .ok (.iload 6, 2) := by decide +kernel
theorem dX6_readTurn_57 : decode cX6_readTurn 57 = .ok (.ifCond .ne 26, 3) := by decide +kernel
theorem dX6_readTurn_60 : decode cX6_readTurn 60 = .ok (.aload_n 0, 1) := by decide +kernel
theorem dX6_readTurn_61 : decode cX6_readTurn 61 = .ok (.getfield 9, 3) := by decide +kernel
theorem dX6_readTurn_64 : decode cX6_readTurn 64 = .ok (.iload 7, 2) := by decide +kernel
theorem dX6_readTurn_66 : decode cX6_readTurn 66 = .ok (.iaload, 1) := by decide +kernel
theorem dX6_readTurn_67 : decode cX6_readTurn 67 = .ok (.bipush 40, 2) := by decide +kernel
theorem dX6_readTurn_69 : decode cX6_readTurn 69 = .ok (.if_icmp .eq 6, 3) := by decide +kernel
theorem dX6_readTurn_72 : decode cX6_readTurn 72 = .ok (.iload 7, 2) := by decide +kernel
theorem dX6_readTurn_74 : decode cX6_readTurn 74 = .ok (.ireturn, 1) := by decide +kernel
theorem dX6_readTurn_75 : decode cX6_readTurn 75 = .ok (.iconst 1, 1) := by decide +kernel
theorem dX6_readTurn_76 : decode cX6_readTurn 76 = .ok (.istore 6, 2) := by decide +kernel
theorem dX6_readTurn_78 : decode cX6_readTurn 78 = .ok (.iconst 0, 1) := by decide +kernel
theorem dX6_readTurn_79 : decode cX6_readTurn 79 = .ok (.istore_n 3, 1) := by decide +kernel
theorem dX6_readTurn_80 : decode cX6_readTurn 80 = .ok (.goto 87, 3) := by decide +kernel
theorem dX6_readTurn_83 : decode cX6_readTurn 83 = .ok (.aload_n 0, 1) := by decide +kernel
theorem dX6_readTurn_84 : decode cX6_readTurn 84 = .ok (.getfield 9, 3) := by decide +kernel
theorem dX6_readTurn_87 : decode cX6_readTurn 87 = .ok (.iload 7, 2) := by decide +kernel
theorem dX6_readTurn_89 : decode cX6_readTurn 89 = .ok (.iaload, 1) := by decide +kernel
theorem dX6_readTurn_90 : decode cX6_readTurn 90 = .ok (.bipush 41, 2) := by decide +kernel
theorem dX6_readTurn_92 : decode cX6_readTurn 92 = .ok (.if_icmp .ne 23, 3) := by decide +kernel
theorem dX6_readTurn_95 : decode cX6_readTurn 95 = .ok (.iload_n 3, 1) := by decide +kernel
theorem dX6_readTurn_96 : decode cX6_readTurn 96 = .ok (.iconst 2, 1) := by decide +kernel
theorem dX6_readTurn_97 : decode cX6_readTurn 97 = .ok (.if_icmp .ge 6, 3) := by decide +kernel
theorem dX6_readTurn_100 : decode cX6_readTurn 100 = .ok (.iload 7, 2) := by decide +kernel
theorem dX6_readTurn_102 : decode cX6_readTurn 102 = .ok (.ireturn, 1) := by decide +kernel
theorem dX6_readTurn_103 : decode cX6_readTurn 103 = .ok (.aload_n 1, 1) := by decide +kernel
theorem dX6_readTurn_104 : decode cX6_readTurn 104 = .ok (.iload 5, 2) := by decide +kernel
theorem dX6_readTurn_106 : decode cX6_readTurn 106 = .ok (.iload 4, 2) := by decide +kernel
theorem dX6_readTurn_108 : decode cX6_readTurn 108 = .ok (.iastore, 1) := by decide +kernel
theorem dX6_readTurn_109 : decode cX6_readTurn 109 = .ok (.iconst 0, 1) := by decide +kernel
theorem dX6_readTurn_110 : decode cX6_readTurn 110 = .ok (.istore 6, 2) := by decide +kernel
theorem dX6_readTurn_112 : decode cX6_readTurn 112 = .ok (.goto 55, 3) := by decide +kernel
theorem dX6_readTurn_115 : decode cX6_readTurn 115 = .ok (.iload 8, 2) := by decide +kernel
theorem dX6_readTurn_117 : decode cX6_readTurn 117 = .ok (.invokestatic 21, 3) := by decide +kernel
theorem dX6_readTurn_120 : decode cX6_readTurn 120 = .ok (.ifCond .eq 13, 3) := by decide +kernel
theorem dX6_readTurn_123 : decode cX6_readTurn 123 = .ok (.iload_n 2, 1) := by decide +kernel
theorem dX6_readTurn_124 : decode cX6_readTurn 124 = .ok (.iload 8, 2) := by decide +kernel
theorem dX6_readTurn_126 : decode cX6_readTurn 126 = .ok (.ishr, 1) := by decide +kernel
theorem dX6_readTurn_127 : decode cX6_readTurn 127 = .ok (.iconst 1, 1) := by decide +kernel
theorem dX6_readTurn_128 : decode cX6_readTurn 128 = .ok (.iand, 1) := by decide +kernel
theorem dX6_readTurn_129 : decode cX6_readTurn 129 = .ok (.iconst 1, 1) := by decide +kernel
theorem dX6_readTurn_130 : decode cX6_readTurn 130 = .ok (.if_icmp .ne 6, 3) := by decide +kernel
theorem dX6_readTurn_133 : decode cX6_readTurn 133 = .ok (.iload 7, 2) := by decide +kernel
theorem dX6_readTurn_135 : decode cX6_readTurn 135 = .ok (.ireturn, 1) := by decide +kernel
theorem dX6_readTurn_136 : decode cX6_readTurn 136 = .ok (.iload_n 3, 1) := by decide +kernel
theorem dX6_readTurn_137 : decode cX6_readTurn 137 = .ok (.ifCond .ne 10, 3) := by decide +kernel
theorem dX6_readTurn_140 : decode cX6_readTurn 140 = .ok (.iload 8, 2) := by decide +kernel
theorem dX6_readTurn_142 : decode cX6_readTurn 142 = .ok (.istore 4, 2) := by decide +kernel
theorem dX6_readTurn_144 : decode cX6_readTurn 144 = .ok (.goto 9, 3) := by decide +kernel
theorem dX6_readTurn_147 : decode cX6_readTurn 147 = .ok (.aload_n 1, 1) := by decide +kernel
theorem dX6_readTurn_148 : decode cX6_readTurn 148 = .ok (.iload 5, 2) := by decide +kernel
theorem dX6_readTurn_150 : decode cX6_readTurn 150 = .ok (.iload 8, 2) := by decide +kernel
theorem dX6_readTurn_152 : decode cX6_readTurn 152 = .ok (.iastore, 1) := by decide +kernel
theorem dX6_readTurn_153 : decode cX6_readTurn 153 = .ok (.iload_n 2, 1) := by decide +kernel
theorem dX6_readTurn_154 : decode cX6_readTurn 154 = .ok (.iconst 1, 1) := by decide +kernel
theorem dX6_readTurn_155 : decode cX6_readTurn 155 = .ok (.iload 8, 2) := by decide +kernel
theorem dX6_readTurn_157 : decode cX6_readTurn 157 = .ok (.ishl, 1) := by decide +kernel
theorem dX6_readTurn_158 : decode cX6_readTurn 158 = .ok (.ior, 1) := by decide +kernel
theorem dX6_readTurn_159 : decode cX6_readTurn 159 = .ok (.istore_n 2, 1) := by decide +kernel
theorem dX6_readTurn_160 : decode cX6_readTurn 160 = .ok (.iload 8, 2) := by decide +kernel
theorem dX6_readTurn_162 : decode cX6_readTurn 162 = .ok (.istore 5, 2) := by decide +kernel
theorem dX6_readTurn_164 : decode cX6_readTurn 164 = .ok (.iinc 3 1, 3) := by decide +kernel
theorem dX6_readTurn_167 : decode cX6_readTurn 167 = .ok (.iinc 7 1, 3) := by decide +kernel
theorem dX6_readTurn_170 : decode cX6_readTurn 170 = .ok (.goto (-136), 3) := by decide +kernel
theorem dX6_readTurn_173 : decode cX6_readTurn 173 = .ok (.iload 6, 2) := by decide +kernel
theorem dX6_readTurn_175 : decode cX6_readTurn 175 = .ok (.ifCond .ne 10, 3) := by decide +kernel
theorem dX6_readTurn_178 : decode cX6_readTurn 178 = .ok (.aload_n 0, 1) := by decide +kernel
theorem dX6_readTurn_179 : decode cX6_readTurn 179 = .ok (.getfield 15, 3) := by decide +kernel
theorem dX6_readTurn_182 : decode cX6_readTurn 182 = .ok (.ifCond .ne 10, 3) := by decide +kernel
theorem dX6_readTurn_185 : decode cX6_readTurn 185 = .ok (.aload_n 0, 1) := by decide +kernel
theorem dX6_readTurn_186 : decode cX6_readTurn 186 = .ok (.getfield 15, 3) := by decide +kernel
theorem dX6_readTurn_189 : decode cX6_readTurn 189 = .ok (.goto 5, 3) := by decide +kernel
theorem dX6_readTurn_192 : decode cX6_readTurn 192 = .ok (.bipush (-9), 2) := by decide +kernel
theorem dX6_readTurn_194 : decode cX6_readTurn 194 = .ok (.ireturn, 1) := by decide +kernel
theorem dX6_readRow_0 : decode cX6_readRow 0 = .ok (.aload_n 0, 1) := by decide +kernel
theorem dX6_readRow_1 : decode cX6_readRow 1 = .ok (.iconst 0, 1) := by decide +kernel
theorem dX6_readRow_2 : decode cX6_readRow 2 = .ok (.putfield 25, 3) := by decide +kernel
theorem dX6_readRow_5 : decode cX6_readRow 5 = .ok (.iconst 0, 1) := by decide +kernel
theorem dX6_readRow_6 : decode cX6_readRow 6 = .ok (.istore_n 3, 1) := by decide +kernel
theorem dX6_readRow_7 : decode cX6_readRow 7 = .ok (.iload_n 3, 1) := by decide +kernel
theorem dX6_readRow_8 : decode cX6_readRow 8 = .ok (.aload_n 0, 1) := by decide +kernel
theorem dX6_readRow_9 : decode cX6_readRow 9 = .ok (.getfield 15, 3) := by decide +kernel
theorem dX6_readRow_12 : decode cX6_readRow 12 = .ok (.if_icmp .ge 111, 3) := by decide +kernel
theorem dX6_readRow_15 : decode cX6_readRow 15 = .ok (.aload_n 0, 1) := by decide +kernel
theorem dX6_readRow_16 : decode cX6_readRow 16 = .ok (.getfield 9, 3) := by decide +kernel
theorem dX6_readRow_19 : decode cX6_readRow 19 = .ok (.iload_n 3, 1) := by decide +kernel
theorem dX6_readRow_20 : decode cX6_readRow 20 = .ok (.iaload, 1) := by decide +kernel
theorem dX6_readRow_21 : decode cX6_readRow 21 = .ok (.bipush 48, 2) := by decide +kernel
theorem dX6_readRow_23 : decode cX6_readRow 23 = .ok (.isub, 1) := by decide +kernel
theorem dX6_readRow_24 : decode cX6_readRow 24 = .ok (.istore 4, 2) := by decide +kernel
theorem dX6_readRow_26 : decode cX6_readRow 26 = .ok (.iload 4, 2) := by decide +kernel
theorem dX6_readRow_28 : decode cX6_readRow 28 = .ok (.ifCond .lt 41, 3) := by decide +kernel
theorem dX6_readRow_31 : decode cX6_readRow 31 = .ok (.iload 4, 2) := by decide +kernel
theorem dX6_readRow_33 : decode cX6_readRow 33 = .ok (.iload_n 2, 1) := by decide +kernel
theorem dX6_readRow_34 : decode cX6_readRow 34 = .ok (.if_icmp .ge 35, 3) := by decide +kernel
theorem dX6_readRow_37 : decode cX6_readRow 37 = .ok (.aload_n 0, 1) := by decide +kernel
theorem dX6_readRow_38 : decode cX6_readRow 38 = .ok (.getfield 25, 3) := by decide +kernel
theorem dX6_readRow_41 : decode cX6_readRow 41 = .ok (.bipush 8, 2) := by decide +kernel
theorem dX6_readRow_43 : decode cX6_readRow 43 = .ok (.if_icmp .ge 26, 3) := by decide +kernel
theorem dX6_readRow_46 : decode cX6_readRow 46 = .ok (.aload_n 1, 1) := by decide +kernel
theorem dX6_readRow_47 : decode cX6_readRow 47 = .ok (.aload_n 0, 1) := by decide +kernel
theorem dX6_readRow_48 : decode cX6_readRow 48 = .ok (.getfield 25, 3) := by decide +kernel
theorem dX6_readRow_51 : decode cX6_readRow 51 = .ok (.iconst 2, 1) := by decide +kernel
theorem dX6_readRow_52 : decode cX6_readRow 52 = .ok (.iload 4, 2) := by decide +kernel
theorem dX6_readRow_54 : decode cX6_readRow 54 = .ok (.imul, 1) := by decide +kernel
theorem dX6_readRow_55 : decode cX6_readRow 55 = .ok (.iastore, 1) := by decide +kernel
theorem dX6_readRow_56 : decode cX6_readRow 56 = .ok (.aload_n 0, 1) := by decide +kernel
theorem dX6_readRow_57 : decode cX6_readRow 57 = .ok (.dup, 1) := by decide +kernel
theorem dX6_readRow_58 : decode cX6_readRow 58 = .ok (.getfield 25, 3) := by decide +kernel
theorem dX6_readRow_61 : decode cX6_readRow 61 = .ok (.iconst 1, 1) := by decide +kernel
theorem dX6_readRow_62 : decode cX6_readRow 62 = .ok (.iadd, 1) := by decide +kernel
theorem dX6_readRow_63 : decode cX6_readRow 63 = .ok (.putfield 25, 3) := by decide +kernel
theorem dX6_readRow_66 : decode cX6_readRow 66 = .ok (.goto 51, 3) := by decide +kernel
theorem dX6_readRow_69 : decode cX6_readRow 69 = .ok (.aload_n 0, 1) := by decide +kernel
theorem dX6_readRow_70 : decode cX6_readRow 70 = .ok (.getfield 9, 3) := by decide +kernel
theorem dX6_readRow_73 : decode cX6_readRow 73 = .ok (.iload_n 3, 1) := by decide +kernel
theorem dX6_readRow_74 : decode cX6_readRow 74 = .ok (.iaload, 1) := by decide +kernel
theorem dX6_readRow_75 : decode cX6_readRow 75 = .ok (.bipush 39, 2) := by decide +kernel
theorem dX6_readRow_77 : decode cX6_readRow 77 = .ok (.if_icmp .ne 38, 3) := by decide +kernel
theorem dX6_readRow_80 : decode cX6_readRow 80 = .ok (.aload_n 0, 1) := by decide +kernel
theorem dX6_readRow_81 : decode cX6_readRow 81 = .ok (.getfield 25, 3) := by decide +kernel
theorem dX6_readRow_84 : decode cX6_readRow 84 = .ok (.ifCond .le 31, 3) := by decide +kernel
theorem dX6_readRow_87 : decode cX6_readRow 87 = .ok (.aload_n 1, 1) := by decide +kernel
theorem dX6_readRow_88 : decode cX6_readRow 88 = .ok (.aload_n 0, 1) := by decide +kernel
theorem dX6_readRow_89 : decode cX6_readRow 89 = .ok (.getfield 25, 3) := by decide +kernel
theorem dX6_readRow_92 : decode cX6_readRow 92 = .ok (.iconst 1, 1) := by decide +kernel
theorem dX6_readRow_93 : decode cX6_readRow 93 = .ok (.isub, 1) := by decide +kernel
theorem dX6_readRow_94 : decode cX6_readRow 94 = .ok (.iaload, 1) := by decide +kernel
theorem dX6_readRow_95 : decode cX6_readRow 95 = .ok (.iconst 1, 1) := by decide +kernel
theorem dX6_readRow_96 : decode cX6_readRow 96 = .ok (.iand, 1) := by decide +kernel
theorem dX6_readRow_97 : decode cX6_readRow 97 = .ok (.ifCond .ne 18, 3) := by decide +kernel
theorem dX6_readRow_100 : decode cX6_readRow 100 = .ok (.aload_n 1, 1) := by decide +kernel
theorem dX6_readRow_101 : decode cX6_readRow 101 = .ok (.aload_n 0, 1) := by decide +kernel
theorem dX6_readRow_102 : decode cX6_readRow 102 = .ok (.getfield 25, 3) := by decide +kernel
theorem dX6_readRow_105 : decode cX6_readRow 105 = .ok (.iconst 1, 1) := by decide +kernel
theorem dX6_readRow_106 : decode cX6_readRow 106 = .ok (.isub, 1) := by decide +kernel
theorem dX6_readRow_107 : decode cX6_readRow 107 = .ok (.dup2, 1) := by decide +kernel
theorem dX6_readRow_108 : decode cX6_readRow 108 = .ok (.iaload, 1) := by decide +kernel
theorem dX6_readRow_109 : decode cX6_readRow 109 = .ok (.iconst 1, 1) := by decide +kernel
theorem dX6_readRow_110 : decode cX6_readRow 110 = .ok (.iadd, 1) := by decide +kernel
theorem dX6_readRow_111 : decode cX6_readRow 111 = .ok (.iastore, 1) := by decide +kernel
theorem dX6_readRow_112 : decode cX6_readRow 112 = .ok (.goto 5, 3) := by decide +kernel
theorem dX6_readRow_115 : decode cX6_readRow 115 = .ok (.iload_n 3, 1) := by decide +kernel
theorem dX6_readRow_116 : decode cX6_readRow 116 = .ok (.ireturn, 1) := by decide +kernel
theorem dX6_readRow_117 : decode cX6_readRow 117 = .ok (.iinc 3 1, 3) := by decide +kernel
theorem dX6_readRow_120 : decode cX6_readRow 120 = .ok (.goto (-113), 3) := by decide +kernel
theorem dX6_readRow_123 : decode cX6_readRow 123 = .ok (.aload_n 0, 1) := by decide +kernel
theorem dX6_readRow_124 : decode cX6_readRow 124 = .ok (.getfield 25, 3) := by decide +kernel
theorem dX6_readRow_127 : decode cX6_readRow 127 = .ok (.ifCond .ne 10, 3) := by decide +kernel
theorem dX6_readRow_130 : decode cX6_readRow 130 = .ok (.aload_n 0, 1) := by decide +kernel
theorem dX6_readRow_131 : decode cX6_readRow 131 = .ok (.getfield 15, 3) := by decide +kernel
theorem dX6_readRow_134 : decode cX6_readRow 134 = .ok (.goto 5, 3) := by decide +kernel
theorem dX6_readRow_137 : decode cX6_readRow 137 = .ok (.bipush (-9), 2) := by decide +kernel
theorem dX6_readRow_139 : decode cX6_readRow 139 = .ok (.ireturn, 1) := by decide +kernel
theorem dX7_init_0 : decode cX7_init 0 = .ok (.aload_n 0, 1) := by decide +kernel
theorem dX7_init_1 : decode cX7_init 1 = .ok (.invokespecial 3, 3) := by decide +kernel
theorem dX7_init_4 : decode cX7_init 4 = .ok (.aload_n 0, 1) := by decide +kernel
theorem dX7_init_5 : decode cX7_init 5 = .ok (.iconst 5, 1) := by decide +kernel
theorem dX7_init_6 : decode cX7_init 6 = .ok (.newarray .int, 2) := by decide +kernel
theorem dX7_init_8 : decode cX7_init 8 = .ok (.putfield 9, 3) := by decide +kernel
theorem dX7_init_11 : decode cX7_init 11 = .ok (.return_, 1) := by decide +kernel
theorem dX7_add_0 : decode cX7_add 0 = .ok (.aload_n 0, 1) := by decide +kernel
theorem dX7_add_1 : decode cX7_add 1 = .ok (.getfield 15, 3) := by decide +kernel
theorem dX7_add_4 : decode cX7_add 4 = .ok (.istore_n 2, 1) := by decide +kernel
theorem dX7_add_5 : decode cX7_add 5 = .ok (.iload_n 2, 1) := by decide +kernel
theorem dX7_add_6 : decode cX7_add 6 = .ok (.ifCond .le 35, 3) := by decide +kernel
theorem dX7_add_9 : decode cX7_add 9 = .ok (.aload_n 0, 1) := by decide +kernel
theorem dX7_add_10 : decode cX7_add 10 = .ok (.getfield 9, 3) := by decide +kernel
theorem dX7_add_13 : decode cX7_add 13 = .ok (.iload_n 2, 1) := by decide +kernel
theorem dX7_add_14 : decode cX7_add 14 = .ok (.iconst 1, 1) := by decide +kernel
theorem dX7_add_15 : decode cX7_add 15 = .ok (.isub, 1) := by decide +kernel
theorem dX7_add_16 : decode cX7_add 16 = .ok (.iaload, 1) := by decide +kernel
theorem dX7_add_17 : decode cX7_add 17 = .ok (.iload_n 1, 1) := by decide +kernel
theorem dX7_add_18 : decode cX7_add 18 = .ok (.if_icmp .le 23, 3) := by decide +kernel
theorem dX7_add_21 : decode cX7_add 21 = .ok (.aload_n 0, 1) := by decide +kernel
theorem dX7_add_22 : decode cX7_add 22 = .ok (.getfield 9, 3) := by decide +kernel
theorem dX7_add_25 : decode cX7_add 25 = .ok (.iload_n 2, 1) := by decide +kernel
theorem dX7_add_26 : decode cX7_add 26 = .ok (.aload_n 0, 1) := by decide +kernel
theorem dX7_add_27 : decode cX7_add 27 = .ok (.getfield 9, 3) := by decide +kernel
theorem dX7_add_30 : decode cX7_add 30 = .ok (.iload_n 2, 1) := by decide +kernel
theorem dX7_add_31 : decode cX7_add 31 = .ok (.iconst 1, 1) := by decide +kernel
theorem dX7_add_32 : decode cX7_add 32 = .ok (.isub, 1) := by decide +kernel
theorem dX7_add_33 : decode cX7_add 33 = .ok (.iaload, 1) := by decide +kernel
theorem dX7_add_34 : decode cX7_add 34 = .ok (.iastore, 1) := by decide +kernel
theorem dX7_add_35 : decode cX7_add 35 = .ok (.iinc 2 (-1), 3) := by decide +kernel
theorem dX7_add_38 : decode cX7_add 38 = .ok (.goto (-33), 3) := by decide +kernel
theorem dX7_add_41 : decode cX7_add 41 = .ok (.aload_n 0, 1) := by decide +kernel
theorem dX7_add_42 : decode cX7_add 42 = .ok (.getfield 9, 3) := by decide +kernel
theorem dX7_add_45 : decode cX7_add 45 = .ok (.iload_n 2, 1) := by decide +kernel
theorem dX7_add_46 : decode cX7_add 46 = .ok (.iload_n 1, 1) := by decide +kernel
theorem dX7_add_47 : decode cX7_add 47 = .ok (.iastore, 1) := by decide +kernel
theorem dX7_add_48 : decode cX7_add 48 = .ok (.aload_n 0, 1) := by decide +kernel
theorem dX7_add_49 : decode cX7_add 49 = .ok (.dup, 1) := by decide +kernel
theorem dX7_add_50 : decode cX7_add 50 = .ok (.getfield 15, 3) := by decide +kernel
theorem dX7_add_53 : decode cX7_add 53 = .ok (.iconst 1, 1) := by decide +kernel
theorem dX7_add_54 : decode cX7_add 54 = .ok (.iadd, 1) := by decide +kernel
theorem dX7_add_55 : decode cX7_add 55 = .ok (.putfield 15, 3) := by decide +kernel
theorem dX7_add_58 : decode cX7_add 58 = .ok (.return_, 1) := by decide +kernel
theorem dX7_middleThree_0 : decode cX7_middleThree 0 = .ok (.aload_n 0, 1) := by decide +kernel
theorem dX7_middleThree_1 : decode cX7_middleThree 1 = .ok (.getfield 9, 3) := by decide +kernel
theorem dX7_middleThree_4 : decode cX7_middleThree 4 = .ok (.iconst 1, 1) := by decide +kernel
theorem dX7_middleThree_5 : decode cX7_middleThree 5 = .ok (.iaload, 1) := by decide +kernel
theorem dX7_middleThree_6 : decode cX7_middleThree 6 = .ok (.aload_n 0, 1) := by decide +kernel
theorem dX7_middleThree_7 : decode cX7_middleThree 7 = .ok (.getfield 9, 3) := by decide +kernel
theorem dX7_middleThree_10 : decode cX7_middleThree 10 = .ok (.iconst 2, 1) := by decide +kernel
theorem dX7_middleThree_11 : decode cX7_middleThree 11 = .ok (.iaload, 1) := by decide +kernel
theorem dX7_middleThree_12 : decode cX7_middleThree 12 = .ok (.iadd, 1) := by decide +kernel
theorem dX7_middleThree_13 : decode cX7_middleThree 13 = .ok (.aload_n 0, 1) := by decide +kernel
theorem dX7_middleThree_14 : decode cX7_middleThree 14 = .ok (.getfield 9, 3) := by decide +kernel
theorem dX7_middleThree_17 : decode cX7_middleThree 17 = .ok (.iconst 3, 1) := by decide +kernel
theorem dX7_middleThree_18 : decode cX7_middleThree 18 = .ok (.iaload, 1) := by decide +kernel
theorem dX7_middleThree_19 : decode cX7_middleThree 19 = .ok (.iadd, 1) := by decide +kernel
theorem dX7_middleThree_20 : decode cX7_middleThree 20 = .ok (.ireturn, 1) := by decide +kernel
theorem dX7_greatestFifth_0 : decode cX7_greatestFifth 0 = .ok (.iconst 3, 1) := by decide +kernel
theorem dX7_greatestFifth_1 : decode cX7_greatestFifth 1 = .ok (.iload_n 1, 1) := by decide +kernel
theorem dX7_greatestFifth_2 : decode cX7_greatestFifth 2 = .ok (.imul, 1) := by decide +kernel
theorem dX7_greatestFifth_3 : decode cX7_greatestFifth 3 = .ok (.aload_n 0, 1) := by decide +kernel
theorem dX7_greatestFifth_4 : decode cX7_greatestFifth 4 = .ok (.getfield 9, 3) := by decide +kernel
theorem dX7_greatestFifth_7 : decode cX7_greatestFifth 7 = .ok (.iconst 1, 1) := by decide +kernel
theorem dX7_greatestFifth_8 : decode cX7_greatestFifth 8 = .ok (.iaload, 1) := by decide +kernel
theorem dX7_greatestFifth_9 : decode cX7_greatestFifth 9 = .ok (.isub, 1) := by decide +kernel
theorem dX7_greatestFifth_10 : decode cX7_greatestFifth 10 = .ok (.aload_n 0, 1) := by decide +kernel
theorem dX7_greatestFifth_11 : decode cX7_greatestFifth 11 = .ok (.getfield 9, 3) := by decide +kernel
theorem dX7_greatestFifth_14 : decode cX7_greatestFifth 14 = .ok (.iconst 2, 1) := by decide +kernel
theorem dX7_greatestFifth_15 : decode cX7_greatestFifth 15 = .ok (.iaload, 1) := by decide +kernel
theorem dX7_greatestFifth_16 : decode cX7_greatestFifth 16 = .ok (.isub, 1) := by decide +kernel
theorem dX7_greatestFifth_17 : decode cX7_greatestFifth 17 = .ok (.istore_n 2, 1) := by decide +kernel
theorem dX7_greatestFifth_18 : decode cX7_greatestFifth 18 = .ok (.iload_n 2, 1) := by decide +kernel
theorem dX7_greatestFifth_19 : decode cX7_greatestFifth 19 = .ok (.aload_n 0, 1) := by decide +kernel
theorem dX7_greatestFifth_20 : decode cX7_greatestFifth 20 = .ok (.getfield 9, 3) := by decide +kernel
theorem dX7_greatestFifth_23 : decode cX7_greatestFifth 23 = .ok (.iconst 3, 1) := by decide +kernel
theorem dX7_greatestFifth_24 : decode cX7_greatestFifth 24 = .ok (.iaload, 1) := by decide +kernel
theorem dX7_greatestFifth_25 : decode cX7_greatestFifth 25 = .ok (.if_icmp .lt 7, 3) := by decide +kernel
theorem dX7_greatestFifth_28 : decode cX7_greatestFifth 28 = .ok (.sipush 9999, 3) := by decide +kernel
theorem dX7_greatestFifth_31 : decode cX7_greatestFifth 31 = .ok (.ireturn, 1) := by decide +kernel
theorem dX7_greatestFifth_32 : decode cX7_greatestFifth 32 = .ok (.iload_n 2, 1) := by decide +kernel
theorem dX7_greatestFifth_33 : decode cX7_greatestFifth 33 = .ok (.aload_n 0, 1) := by decide +kernel
theorem dX7_greatestFifth_34 : decode cX7_greatestFifth 34 = .ok (.getfield 9, 3) := by decide +kernel
theorem dX7_greatestFifth_37 : decode cX7_greatestFifth 37 = .ok (.iconst 0, 1) := by decide +kernel
theorem dX7_greatestFifth_38 : decode cX7_greatestFifth 38 = .ok (.iaload, 1) := by decide +kernel
theorem dX7_greatestFifth_39 : decode cX7_greatestFifth 39 = .ok (.if_icmp .lt 7, 3) := by decide +kernel
theorem dX7_greatestFifth_42 : decode cX7_greatestFifth 42 = .ok (.iload_n 2, 1) := by decide +kernel
theorem dX7_greatestFifth_43 : decode cX7_greatestFifth 43 = .ok (.goto 5, 3) := by decide +kernel
theorem dX7_greatestFifth_46 : decode cX7_greatestFifth 46 = .ok (.bipush (-9), 2) := by decide +kernel
theorem dX7_greatestFifth_48 : decode cX7_greatestFifth 48 = .ok (.ireturn, 1) := by decide +kernel
theorem dX8_init_0 : decode cX8_init 0 = .ok (.aload_n 0, 1) := by decide +kernel
theorem dX8_init_1 : decode cX8_init 1 = .ok (.invokespecial 3, 3) := by decide +kernel
theorem dX8_init_4 : decode cX8_init 4 = .ok (.aload_n 0, 1) := by decide +kernel
theorem dX8_init_5 : decode cX8_init 5 = .ok (.iconst 4, 1) := by decide +kernel
theorem dX8_init_6 : decode cX8_init 6 = .ok (.newarray .int, 2) := by decide +kernel
theorem dX8_init_8 : decode cX8_init 8 = .ok (.putfield 9, 3) := by decide +kernel
theorem dX8_init_11 : decode cX8_init 11 = .ok (.return_, 1) := by decide +kernel
theorem dX8_begin_0 : decode cX8_begin 0 = .ok (.aload_n 0, 1) := by decide +kernel
theorem dX8_begin_1 : decode cX8_begin 1 = .ok (.bipush (-9), 2) := by decide +kernel
theorem dX8_begin_3 : decode cX8_begin 3 = .ok (.putfield 15, 3) := by decide +kernel
theorem dX8_begin_6 : decode cX8_begin 6 = .ok (.iconst 0, 1) := by decide +kernel
theorem dX8_begin_7 : decode cX8_begin 7 = .ok (.istore_n 1, 1) := by decide +kernel
theorem dX8_begin_8 : decode cX8_begin 8 = .ok (.iload_n 1, 1) := by decide +kernel
theorem dX8_begin_9 : decode cX8_begin 9 = .ok (.iconst 4, 1) := by decide +kernel
theorem dX8_begin_10 : decode cX8_begin 10 = .ok (.if_icmp .ge 17, 3) := by decide +kernel
theorem dX8_begin_13 : decode cX8_begin 13 = .ok (.aload_n 0, 1) := by decide +kernel
theorem dX8_begin_14 : decode cX8_begin 14 = .ok (.getfield 9, 3) := by decide +kernel
theorem dX8_begin_17 : decode cX8_begin 17 = .ok (.iload_n 1, 1) := by decide +kernel
theorem dX8_begin_18 : decode cX8_begin 18 = .ok (.bipush (-9), 2) := by decide +kernel
theorem dX8_begin_20 : decode cX8_begin 20 = .ok (.iastore, 1) := by decide +kernel
theorem dX8_begin_21 : decode cX8_begin 21 = .ok (.iinc 1 1, 3) := by decide +kernel
theorem dX8_begin_24 : decode cX8_begin 24 = .ok (.goto (-16), 3) := by decide +kernel
theorem dX8_begin_27 : decode cX8_begin 27 = .ok (.return_, 1) := by decide +kernel
theorem dX8_solved_0 : decode cX8_solved 0 = .ok (.aload_n 0, 1) := by decide +kernel
theorem dX8_solved_1 : decode cX8_solved 1 = .ok (.getfield 15, 3) := by decide +kernel
theorem dX8_solved_4 : decode cX8_solved 4 = .ok (.bipush (-9), 2) := by decide +kernel
theorem dX8_solved_6 : decode cX8_solved 6 = .ok (.if_icmp .ne 14, 3) := by decide +kernel
theorem dX8_solved_9 : decode cX8_solved 9 = .ok (.aload_n 0, 1) := by decide +kernel
theorem dX8_solved_10 : decode cX8_solved 10 = .ok (.getfield 19, 3) := by decide +kernel
theorem dX8_solved_13 : decode cX8_solved 13 = .ok (.ifCond .ne 7, 3) := by decide +kernel
theorem dX8_solved_16 : decode cX8_solved 16 = .ok (.iconst 1, 1) := by decide +kernel
theorem dX8_solved_17 : decode cX8_solved 17 = .ok (.goto 4, 3) := by decide +kernel
theorem dX8_solved_20 : decode cX8_solved 20 = .ok (.iconst 0, 1) := by decide +kernel
theorem dX8_solved_21 : decode cX8_solved 21 = .ok (.ireturn, 1) := by decide +kernel
theorem dX8_comesTo_0 : decode cX8_comesTo 0 = .ok (.aload_n 0, 1) := by decide +kernel
theorem dX8_comesTo_1 : decode cX8_comesTo 1 = .ok (.getfield 15, 3) := by decide +kernel
theorem dX8_comesTo_4 : decode cX8_comesTo 4 = .ok (.bipush (-9), 2) := by decide +kernel
theorem dX8_comesTo_6 : decode cX8_comesTo 6 = .ok (.if_icmp .eq 11, 3) := by decide +kernel
theorem dX8_comesTo_9 : decode cX8_comesTo 9 = .ok (.aload_n 0, 1) := by decide +kernel
theorem dX8_comesTo_10 : decode cX8_comesTo 10 = .ok (.getfield 15, 3) := by decide +kernel
theorem dX8_comesTo_13 : decode cX8_comesTo 13 = .ok (.iload_n 1, 1) := by decide +kernel
theorem dX8_comesTo_14 : decode cX8_comesTo 14 = .ok (.if_icmp .lt 7, 3) := by decide +kernel
theorem dX8_comesTo_17 : decode cX8_comesTo 17 = .ok (.iconst 1, 1) := by decide +kernel
theorem dX8_comesTo_18 : decode cX8_comesTo 18 = .ok (.goto 4, 3) := by decide +kernel
theorem dX8_comesTo_21 : decode cX8_comesTo 21 = .ok (.iconst 0, 1) := by decide +kernel
theorem dX8_comesTo_22 : decode cX8_comesTo 22 = .ok (.ireturn, 1) := by decide +kernel
theorem dX8_needsNone_0 : decode cX8_needsNone 0 = .ok (.aload_n 0, 1) := by decide +kernel
theorem dX8_needsNone_1 : decode cX8_needsNone 1 = .ok (.getfield 15, 3) := by decide +kernel
theorem dX8_needsNone_4 : decode cX8_needsNone 4 = .ok (.iload_n 1, 1) := by decide +kernel
theorem dX8_needsNone_5 : decode cX8_needsNone 5 = .ok (.if_icmp .eq 18, 3) := by decide +kernel
theorem dX8_needsNone_8 : decode cX8_needsNone 8 = .ok (.aload_n 0, 1) := by decide +kernel
theorem dX8_needsNone_9 : decode cX8_needsNone 9 = .ok (.getfield 9, 3) := by decide +kernel
theorem dX8_needsNone_12 : decode cX8_needsNone 12 = .ok (.iload_n 1, 1) := by decide +kernel
theorem dX8_needsNone_13 : decode cX8_needsNone 13 = .ok (.iaload, 1) := by decide +kernel
theorem dX8_needsNone_14 : decode cX8_needsNone 14 = .ok (.bipush (-9), 2) := by decide +kernel
theorem dX8_needsNone_16 : decode cX8_needsNone 16 = .ok (.if_icmp .ne 7, 3) := by decide +kernel
theorem dX8_needsNone_19 : decode cX8_needsNone 19 = .ok (.iconst 1, 1) := by decide +kernel
theorem dX8_needsNone_20 : decode cX8_needsNone 20 = .ok (.goto 4, 3) := by decide +kernel
theorem dX8_needsNone_23 : decode cX8_needsNone 23 = .ok (.iconst 0, 1) := by decide +kernel
theorem dX8_needsNone_24 : decode cX8_needsNone 24 = .ok (.ireturn, 1) := by decide +kernel
theorem dX9_init_0 : decode cX9_init 0 = .ok (.aload_n 0, 1) := by decide +kernel
theorem dX9_init_1 : decode cX9_init 1 = .ok (.invokespecial 3, 3) := by decide +kernel
theorem dX9_init_4 : decode cX9_init 4 = .ok (.aload_n 0, 1) := by decide +kernel
theorem dX9_init_5 : decode cX9_init 5 = .ok (.bipush 12, 2) := by decide +kernel
theorem dX9_init_7 : decode cX9_init 7 = .ok (.bipush 6, 2) := by decide +kernel
theorem dX9_init_9 : decode cX9_init 9 = .ok (.multianewarray 9 2, 4) := by decide +kernel
theorem dX9_init_13 : decode cX9_init 13 = .ok (.putfield 11, 3) := by decide +kernel
theorem dX9_init_16 : decode cX9_init 16 = .ok (.aload_n 0, 1) := by decide +kernel
theorem dX9_init_17 : decode cX9_init 17 = .ok (.bipush 12, 2) := by decide +kernel
theorem dX9_init_19 : decode cX9_init 19 = .ok (.sipush 720, 3) := by decide +kernel
theorem dX9_init_22 : decode cX9_init 22 = .ok (.multianewarray 9 2, 4) := by decide +kernel
theorem dX9_init_26 : decode cX9_init 26 = .ok (.putfield 16, 3) := by decide +kernel
theorem dX9_init_29 : decode cX9_init 29 = .ok (.aload_n 0, 1) := by decide +kernel
theorem dX9_init_30 : decode cX9_init 30 = .ok (.sipush 720, 3) := by decide +kernel
theorem dX9_init_33 : decode cX9_init 33 = .ok (.newarray .int, 2) := by decide +kernel
theorem dX9_init_35 : decode cX9_init 35 = .ok (.putfield 19, 3) := by decide +kernel
theorem dX9_init_38 : decode cX9_init 38 = .ok (.aload_n 0, 1) := by decide +kernel
theorem dX9_init_39 : decode cX9_init 39 = .ok (.sipush 720, 3) := by decide +kernel
theorem dX9_init_42 : decode cX9_init 42 = .ok (.newarray .int, 2) := by decide +kernel
theorem dX9_init_44 : decode cX9_init 44 = .ok (.putfield 23, 3) := by decide +kernel
theorem dX9_init_47 : decode cX9_init 47 = .ok (.aload_n 0, 1) := by decide +kernel
theorem dX9_init_48 : decode cX9_init 48 = .ok (.aload_n 1, 1) := by decide +kernel
theorem dX9_init_49 : decode cX9_init 49 = .ok (.putfield 26, 3) := by decide +kernel
theorem dX9_init_52 : decode cX9_init 52 = .ok (.aload_n 0, 1) := by decide +kernel
theorem dX9_init_53 : decode cX9_init 53 = .ok (.invokevirtual 30, 3) := by decide +kernel
theorem dX9_init_56 : decode cX9_init 56 = .ok (.return_, 1) := by decide +kernel
theorem dX9_has_0 : decode cX9_has 0 = .ok (.iload_n 1, 1) := by decide +kernel
theorem dX9_has_1 : decode cX9_has 1 = .ok (.ifCond .lt 15, 3) := by decide +kernel
theorem dX9_has_4 : decode cX9_has 4 = .ok (.iload_n 1, 1) := by decide +kernel
theorem dX9_has_5 : decode cX9_has 5 = .ok (.aload_n 0, 1) := by decide +kernel
theorem dX9_has_6 : decode cX9_has 6 = .ok (.getfield 33, 3) := by decide +kernel
theorem dX9_has_9 : decode cX9_has 9 = .ok (.if_icmp .ge 7, 3) := by decide +kernel
theorem dX9_has_12 : decode cX9_has 12 = .ok (.iconst 1, 1) := by decide +kernel
theorem dX9_has_13 : decode cX9_has 13 = .ok (.goto 4, 3) := by decide +kernel
theorem dX9_has_16 : decode cX9_has 16 = .ok (.iconst 0, 1) := by decide +kernel
theorem dX9_has_17 : decode cX9_has 17 = .ok (.ireturn, 1) := by decide +kernel
theorem dX9_hasMove_0 : decode cX9_hasMove 0 = .ok (.iload_n 1, 1) := by decide +kernel
theorem dX9_hasMove_1 : decode cX9_hasMove 1 = .ok (.ifCond .lt 17, 3) := by decide +kernel
theorem dX9_hasMove_4 : decode cX9_hasMove 4 = .ok (.iload_n 1, 1) := by decide +kernel
theorem dX9_hasMove_5 : decode cX9_hasMove 5 = .ok (.iconst 2, 1) := by decide +kernel
theorem dX9_hasMove_6 : decode cX9_hasMove 6 = .ok (.aload_n 0, 1) := by decide +kernel
theorem dX9_hasMove_7 : decode cX9_hasMove 7 = .ok (.getfield 33, 3) := by decide +kernel
theorem dX9_hasMove_10 : decode cX9_hasMove 10 = .ok (.imul, 1) := by decide +kernel
theorem dX9_hasMove_11 : decode cX9_hasMove 11 = .ok (.if_icmp .ge 7, 3) := by decide +kernel
theorem dX9_hasMove_14 : decode cX9_hasMove 14 = .ok (.iconst 1, 1) := by decide +kernel
theorem dX9_hasMove_15 : decode cX9_hasMove 15 = .ok (.goto 4, 3) := by decide +kernel
theorem dX9_hasMove_18 : decode cX9_hasMove 18 = .ok (.iconst 0, 1) := by decide +kernel
theorem dX9_hasMove_19 : decode cX9_hasMove 19 = .ok (.ireturn, 1) := by decide +kernel
theorem dX9_takeRead_0 : decode cX9_takeRead 0 = .ok (.iconst 2, 1) := by decide +kernel
theorem dX9_takeRead_1 : decode cX9_takeRead 1 = .ok (.aload_n 0, 1) := by decide +kernel
theorem dX9_takeRead_2 : decode cX9_takeRead 2 = .ok (.getfield 33, 3) := by decide +kernel
theorem dX9_takeRead_5 : decode cX9_takeRead 5 = .ok (.imul, 1) := by decide +kernel
theorem dX9_takeRead_6 : decode cX9_takeRead 6 = .ok (.istore_n 1, 1) := by decide +kernel
theorem dX9_takeRead_7 : decode cX9_takeRead 7 = .ok (.iload_n 1, 1) := by decide +kernel
theorem dX9_takeRead_8 : decode cX9_takeRead 8 = .ok (.iconst 1, 1) := by decide +kernel
theorem dX9_takeRead_9 : decode cX9_takeRead 9 = .ok (.iadd, 1) := by decide +kernel
theorem dX9_takeRead_10 : decode cX9_takeRead 10 = .ok (.istore_n 2, 1) := by decide +kernel
theorem dX9_takeRead_11 : decode cX9_takeRead 11 = .ok (.iconst 0, 1) := by decide +kernel
theorem dX9_takeRead_12 : decode cX9_takeRead 12 = .ok (.istore_n 3, 1) := by decide +kernel
theorem dX9_takeRead_13 : decode cX9_takeRead 13 = .ok (.iload_n 3, 1) := by decide +kernel
theorem dX9_takeRead_14 : decode cX9_takeRead 14 = .ok (.bipush 6, 2) := by decide +kernel
theorem dX9_takeRead_16 : decode cX9_takeRead 16 = .ok (.if_icmp .ge 25, 3) := by decide +kernel
theorem dX9_takeRead_19 : decode cX9_takeRead 19 = .ok (.aload_n 0, 1) := by decide +kernel
theorem dX9_takeRead_20 : decode cX9_takeRead 20 = .ok (.getfield 11, 3) := by decide +kernel
theorem dX9_takeRead_23 : decode cX9_takeRead 23 = .ok (.iload_n 2, 1) := by decide +kernel
theorem dX9_takeRead_24 : decode cX9_takeRead 24 = .ok (.aaload, 1) := by decide +kernel
theorem dX9_takeRead_25 : decode cX9_takeRead 25 = .ok (.aload_n 0, 1) := by decide +kernel
theorem dX9_takeRead_26 : decode cX9_takeRead 26 = .ok (.getfield 11, 3) := by decide +kernel
theorem dX9_takeRead_29 : decode cX9_takeRead 29 = .ok (.iload_n 1, 1) := by decide +kernel
theorem dX9_takeRead_30 : decode cX9_takeRead 30 = .ok (.aaload, 1) := by decide +kernel
theorem dX9_takeRead_31 : decode cX9_takeRead 31 = .ok (.iload_n 3, 1) := by decide +kernel
theorem dX9_takeRead_32 : decode cX9_takeRead 32 = .ok (.iaload, 1) := by decide +kernel
theorem dX9_takeRead_33 : decode cX9_takeRead 33 = .ok (.iload_n 3, 1) := by decide +kernel
theorem dX9_takeRead_34 : decode cX9_takeRead 34 = .ok (.iastore, 1) := by decide +kernel
theorem dX9_takeRead_35 : decode cX9_takeRead 35 = .ok (.iinc 3 1, 3) := by decide +kernel
theorem dX9_takeRead_38 : decode cX9_takeRead 38 = .ok (.goto (-25), 3) := by decide +kernel
theorem dX9_takeRead_41 : decode cX9_takeRead 41 = .ok (.iconst 0, 1) := by decide +kernel
theorem dX9_takeRead_42 : decode cX9_takeRead 42 = .ok (.istore_n 3, 1) := by decide +kernel
theorem dX9_takeRead_43 : decode cX9_takeRead 43 = .ok (.iload_n 3, 1) := by decide +kernel
theorem dX9_takeRead_44 : decode cX9_takeRead 44 = .ok (.sipush 720, 3) := by decide +kernel
theorem dX9_takeRead_47 : decode cX9_takeRead 47 = .ok (.if_icmp .ge 45, 3) := by decide +kernel
theorem dX9_takeRead_50 : decode cX9_takeRead 50 = .ok (.aload_n 0, 1) := by decide +kernel
theorem dX9_takeRead_51 : decode cX9_takeRead 51 = .ok (.getfield 26, 3) := by decide +kernel
theorem dX9_takeRead_54 : decode cX9_takeRead 54 = .ok (.iload_n 3, 1) := by decide +kernel
theorem dX9_takeRead_55 : decode cX9_takeRead 55 = .ok (.aload_n 0, 1) := by decide +kernel
theorem dX9_takeRead_56 : decode cX9_takeRead 56 = .ok (.getfield 11, 3) := by decide +kernel
theorem dX9_takeRead_59 : decode cX9_takeRead 59 = .ok (.iload_n 1, 1) := by decide +kernel
theorem dX9_takeRead_60 : decode cX9_takeRead 60 = .ok (.aaload, 1) := by decide +kernel
theorem dX9_takeRead_61 : decode cX9_takeRead 61 = .ok (.invokevirtual 37, 3) := by decide +kernel
theorem dX9_takeRead_64 : decode cX9_takeRead 64 = .ok (.istore 4, 2) := by decide +kernel
theorem dX9_takeRead_66 : decode cX9_takeRead 66 = .ok (.aload_n 0, 1) := by decide +kernel
theorem dX9_takeRead_67 : decode cX9_takeRead 67 = .ok (.getfield 16, 3) := by decide +kernel
theorem dX9_takeRead_70 : decode cX9_takeRead 70 = .ok (.iload_n 1, 1) := by decide +kernel
theorem dX9_takeRead_71 : decode cX9_takeRead 71 = .ok (.aaload, 1) := by decide +kernel
theorem dX9_takeRead_72 : decode cX9_takeRead 72 = .ok (.iload_n 3, 1) := by decide +kernel
theorem dX9_takeRead_73 : decode cX9_takeRead 73 = .ok (.iload 4, 2) := by decide +kernel
theorem dX9_takeRead_75 : decode cX9_takeRead 75 = .ok (.iastore, 1) := by decide +kernel
theorem dX9_takeRead_76 : decode cX9_takeRead 76 = .ok (.aload_n 0, 1) := by decide +kernel
theorem dX9_takeRead_77 : decode cX9_takeRead 77 = .ok (.getfield 16, 3) := by decide +kernel
theorem dX9_takeRead_80 : decode cX9_takeRead 80 = .ok (.iload_n 2, 1) := by decide +kernel
theorem dX9_takeRead_81 : decode cX9_takeRead 81 = .ok (.aaload, 1) := by decide +kernel
theorem dX9_takeRead_82 : decode cX9_takeRead 82 = .ok (.iload 4, 2) := by decide +kernel
theorem dX9_takeRead_84 : decode cX9_takeRead 84 = .ok (.iload_n 3, 1) := by decide +kernel
theorem dX9_takeRead_85 : decode cX9_takeRead 85 = .ok (.iastore, 1) := by decide +kernel
theorem dX9_takeRead_86 : decode cX9_takeRead 86 = .ok (.iinc 3 1, 3) := by decide +kernel
theorem dX9_takeRead_89 : decode cX9_takeRead 89 = .ok (.goto (-46), 3) := by decide +kernel
theorem dX9_takeRead_92 : decode cX9_takeRead 92 = .ok (.aload_n 0, 1) := by decide +kernel
theorem dX9_takeRead_93 : decode cX9_takeRead 93 = .ok (.dup, 1) := by decide +kernel
theorem dX9_takeRead_94 : decode cX9_takeRead 94 = .ok (.getfield 33, 3) := by decide +kernel
theorem dX9_takeRead_97 : decode cX9_takeRead 97 = .ok (.iconst 1, 1) := by decide +kernel
theorem dX9_takeRead_98 : decode cX9_takeRead 98 = .ok (.iadd, 1) := by decide +kernel
theorem dX9_takeRead_99 : decode cX9_takeRead 99 = .ok (.putfield 33, 3) := by decide +kernel
theorem dX9_takeRead_102 : decode cX9_takeRead 102 = .ok (.aload_n 0, 1) := by decide +kernel
theorem dX9_takeRead_103 : decode cX9_takeRead 103 = .ok (.invokevirtual 30, 3) := by decide +kernel
theorem dX9_takeRead_106 : decode cX9_takeRead 106 = .ok (.return_, 1) := by decide +kernel
theorem dX9_goBackTo_0 : decode cX9_goBackTo 0 = .ok (.aload_n 0, 1) := by decide +kernel
theorem dX9_goBackTo_1 : decode cX9_goBackTo 1 = .ok (.iload_n 1, 1) := by decide +kernel
theorem dX9_goBackTo_2 : decode cX9_goBackTo 2 = .ok (.putfield 33, 3) := by decide +kernel
theorem dX9_goBackTo_5 : decode cX9_goBackTo 5 = .ok (.aload_n 0, 1) := by decide +kernel
theorem dX9_goBackTo_6 : decode cX9_goBackTo 6 = .ok (.invokevirtual 30, 3) := by decide +kernel
theorem dX9_goBackTo_9 : decode cX9_goBackTo 9 = .ok (.return_, 1) := by decide +kernel
theorem dX9_measure_0 : decode cX9_measure 0 = .ok (.iconst 0, 1) := by decide +kernel
theorem dX9_measure_1 : decode cX9_measure 1 = .ok (.istore_n 1, 1) := by decide +kernel
theorem dX9_measure_2 : decode cX9_measure 2 = .ok (.iload_n 1, 1) := by decide +kernel
theorem dX9_measure_3 : decode cX9_measure 3 = .ok (.sipush 720, 3) := by decide +kernel
theorem dX9_measure_6 : decode cX9_measure 6 = .ok (.if_icmp .ge 17, 3) := by decide +kernel
theorem dX9_measure_9 : decode cX9_measure 9 = .ok (.aload_n 0, 1) := by decide +kernel
theorem dX9_measure_10 : decode cX9_measure 10 = .ok (.getfield 19, 3) := by decide +kernel
theorem dX9_measure_13 : decode cX9_measure 13 = .ok (.iload_n 1, 1) := by decide +kernel
theorem dX9_measure_14 : decode cX9_measure 14 = .ok (.bipush (-9), 2) := by decide +kernel
theorem dX9_measure_16 : decode cX9_measure 16 = .ok (.iastore, 1) := by decide +kernel
theorem dX9_measure_17 : decode cX9_measure 17 = .ok (.iinc 1 1, 3) := by decide +kernel
theorem dX9_measure_20 : decode cX9_measure 20 = .ok (.goto (-18), 3) := by decide +kernel
theorem dX9_measure_23 : decode cX9_measure 23 = .ok (.aload_n 0, 1) := by decide +kernel
theorem dX9_measure_24 : decode cX9_measure 24 = .ok (.getfield 19, 3) := by decide +kernel
theorem dX9_measure_27 : decode cX9_measure 27 = .ok (.iconst 0, 1) := by decide +kernel
theorem dX9_measure_28 : decode cX9_measure 28 = .ok (.iconst 0, 1) := by decide +kernel
theorem dX9_measure_29 : decode cX9_measure 29 = .ok (.iastore, 1) := by decide +kernel
theorem dX9_measure_30 : decode cX9_measure 30 = .ok (.aload_n 0, 1) := by decide +kernel
theorem dX9_measure_31 : decode cX9_measure 31 = .ok (.getfield 23, 3) := by decide +kernel
theorem dX9_measure_34 : decode cX9_measure 34 = .ok (.iconst 0, 1) := by decide +kernel
theorem dX9_measure_35 : decode cX9_measure 35 = .ok (.iconst 0, 1) := by decide +kernel
theorem dX9_measure_36 : decode cX9_measure 36 = .ok (.iastore, 1) := by decide +kernel
theorem dX9_measure_37 : decode cX9_measure 37 = .ok (.iconst 1, 1) := by decide +kernel
theorem dX9_measure_38 : decode cX9_measure 38 = .ok (.istore_n 1, 1) := by decide +kernel
theorem dX9_measure_39 : decode cX9_measure 39 = .ok (.iconst 0, 1) := by decide +kernel
theorem dX9_measure_40 : decode cX9_measure 40 = .ok (.istore_n 2, 1) := by decide +kernel
theorem dX9_measure_41 : decode cX9_measure 41 = .ok (.iload_n 2, 1) := by decide +kernel
theorem dX9_measure_42 : decode cX9_measure 42 = .ok (.iload_n 1, 1) := by decide +kernel
theorem dX9_measure_43 : decode cX9_measure 43 = .ok (.if_icmp .ge 99, 3) := by decide +kernel
theorem dX9_measure_46 : decode cX9_measure 46 = .ok (.iload_n 2, 1) := by decide +kernel
theorem dX9_measure_47 : decode cX9_measure 47 = .ok (.sipush 720, 3) := by decide +kernel
theorem dX9_measure_50 : decode cX9_measure 50 = .ok (.if_icmp .ge 92, 3) := by decide +kernel
theorem dX9_measure_53 : decode cX9_measure 53 = .ok (.aload_n 0, 1) := by decide +kernel
theorem dX9_measure_54 : decode cX9_measure 54 = .ok (.getfield 23, 3) := by decide +kernel
theorem dX9_measure_57 : decode cX9_measure 57 = .ok (.iload_n 2, 1) := by decide +kernel
theorem dX9_measure_58 : decode cX9_measure 58 = .ok (.iaload, 1) := by decide +kernel
theorem dX9_measure_59 : decode cX9_measure 59 = .ok (.istore_n 3, 1) := by decide +kernel
theorem dX9_measure_60 : decode cX9_measure 60 = .ok (.iconst 0, 1) := by decide +kernel
theorem dX9_measure_61 : decode cX9_measure 61 = .ok (.istore 4, 2) := by decide +kernel
theorem dX9_measure_63 : decode cX9_measure 63 = .ok (.iload 4, 2) := by decide +kernel
theorem dX9_measure_65 : decode cX9_measure 65 = .ok (.iconst 2, 1) := by decide +kernel
theorem dX9_measure_66 : decode cX9_measure 66 = .ok (.aload_n 0, 1) := by decide +kernel
theorem dX9_measure_67 : decode cX9_measure 67 = .ok (.getfield 33, 3) := by decide +kernel
theorem dX9_measure_70 : decode cX9_measure 70 = .ok (.imul, 1) := by decide +kernel
theorem dX9_measure_71 : decode cX9_measure 71 = .ok (.if_icmp .ge 65, 3) := by decide +kernel
theorem dX9_measure_74 : decode cX9_measure 74 = .ok (.aload_n 0, 1) := by decide +kernel
theorem dX9_measure_75 : decode cX9_measure 75 = .ok (.getfield 16, 3) := by decide +kernel
theorem dX9_measure_78 : decode cX9_measure 78 = .ok (.iload 4, 2) := by decide +kernel
theorem dX9_measure_80 : decode cX9_measure 80 = .ok (.aaload, 1) := by decide +kernel
theorem dX9_measure_81 : decode cX9_measure 81 = .ok (.iload_n 3, 1) := by decide +kernel
theorem dX9_measure_82 : decode cX9_measure 82 = .ok (.iaload, 1) := by decide +kernel
theorem dX9_measure_83 : decode cX9_measure 83 = .ok (.istore 5, 2) := by decide +kernel
theorem dX9_measure_85 : decode cX9_measure 85 = .ok (.aload_n 0, 1) := by decide +kernel
theorem dX9_measure_86 : decode cX9_measure 86 = .ok (.getfield 19, 3) := by decide +kernel
theorem dX9_measure_89 : decode cX9_measure 89 = .ok (.iload 5, 2) := by decide +kernel
theorem dX9_measure_91 : decode cX9_measure 91 = .ok (.iaload, 1) := by decide +kernel
theorem dX9_measure_92 : decode cX9_measure 92 = .ok (.bipush (-9), 2) := by decide +kernel
theorem dX9_measure_94 : decode cX9_measure 94 = .ok (.if_icmp .ne 36, 3) := by decide +kernel
theorem dX9_measure_97 : decode cX9_measure 97 = .ok (.iload_n 1, 1) := by decide +kernel
theorem dX9_measure_98 : decode cX9_measure 98 = .ok (.sipush 720, 3) := by decide +kernel
theorem dX9_measure_101 : decode cX9_measure 101 = .ok (.if_icmp .ge 29, 3) := by decide +kernel
theorem dX9_measure_104 : decode cX9_measure 104 = .ok (.aload_n 0, 1) := by decide +kernel
theorem dX9_measure_105 : decode cX9_measure 105 = .ok (.getfield 19, 3) := by decide +kernel
theorem dX9_measure_108 : decode cX9_measure 108 = .ok (.iload 5, 2) := by decide +kernel
theorem dX9_measure_110 : decode cX9_measure 110 = .ok (.aload_n 0, 1) := by decide +kernel
theorem dX9_measure_111 : decode cX9_measure 111 = .ok (.getfield 19, 3) := by decide +kernel
theorem dX9_measure_114 : decode cX9_measure 114 = .ok (.iload_n 3, 1) := by decide +kernel
theorem dX9_measure_115 : decode cX9_measure 115 = .ok (.iaload, 1) := by decide +kernel
theorem dX9_measure_116 : decode cX9_measure 116 = .ok (.iconst 1, 1) := by decide +kernel
theorem dX9_measure_117 : decode cX9_measure 117 = .ok (.iadd, 1) := by decide +kernel
theorem dX9_measure_118 : decode cX9_measure 118 = .ok (.iastore, 1) := by decide +kernel
theorem dX9_measure_119 : decode cX9_measure 119 = .ok (.aload_n 0, 1) := by decide +kernel
theorem dX9_measure_120 : decode cX9_measure 120 = .ok (.getfield 23, 3) := by decide +kernel
theorem dX9_measure_123 : decode cX9_measure 123 = .ok (.iload_n 1, 1) := by decide +kernel
theorem dX9_measure_124 : decode cX9_measure 124 = .ok (.iload 5, 2) := by decide +kernel
theorem dX9_measure_126 : decode cX9_measure 126 = .ok (.iastore, 1) := by decide +kernel
theorem dX9_measure_127 : decode cX9_measure 127 = .ok (.iinc 1 1, 3) := by decide +kernel
theorem dX9_measure_130 : decode cX9_measure 130 = .ok (.iinc 4 1, 3) := by decide +kernel
theorem dX9_measure_133 : decode cX9_measure 133 = .ok (.goto (-70), 3) := by decide +kernel
theorem dX9_measure_136 : decode cX9_measure 136 = .ok (.iinc 2 1, 3) := by decide +kernel
theorem dX9_measure_139 : decode cX9_measure 139 = .ok (.goto (-98), 3) := by decide +kernel
theorem dX9_measure_142 : decode cX9_measure 142 = .ok (.return_, 1) := by decide +kernel
theorem dX9_firstTowardsSolved_0 : decode cX9_firstTowardsSolved 0 = .ok (.iconst 0, 1) := by decide +kernel
theorem dX9_firstTowardsSolved_1 : decode cX9_firstTowardsSolved 1 = .ok (.istore_n 2, 1) := by decide +kernel
theorem dX9_firstTowardsSolved_2 : decode cX9_firstTowardsSolved 2 = .ok (.iload_n 2, 1) := by decide +kernel
theorem dX9_firstTowardsSolved_3 : decode cX9_firstTowardsSolved 3 = .ok (.iconst 2, 1) := by decide +kernel
theorem dX9_firstTowardsSolved_4 : decode cX9_firstTowardsSolved 4 = .ok (.aload_n 0, 1) := by decide +kernel
theorem dX9_firstTowardsSolved_5 : decode cX9_firstTowardsSolved 5 = .ok (.getfield 33, 3) := by decide +kernel
theorem dX9_firstTowardsSolved_8 : decode cX9_firstTowardsSolved 8 = .ok (.imul, 1) := by decide +kernel
theorem dX9_firstTowardsSolved_9 : decode cX9_firstTowardsSolved 9 = .ok (.if_icmp .ge 44, 3) := by decide +kernel
theorem dX9_firstTowardsSolved_12 : decode cX9_firstTowardsSolved 12 = .ok (.aload_n 0, 1) := by decide +kernel
theorem dX9_firstTowardsSolved_13 : decode cX9_firstTowardsSolved 13 = .ok (.getfield 19, 3) := by decide +kernel
theorem dX9_firstTowardsSolved_16 : decode cX9_firstTowardsSolved 16 = .ok (.iload_n 1, 1) := by decide +kernel
theorem dX9_firstTowardsSolved_17 : decode cX9_firstTowardsSolved 17 = .ok (.iaload, 1) := by decide +kernel
theorem dX9_firstTowardsSolved_18 : decode cX9_firstTowardsSolved 18 = .ok (.ifCond .le 35, 3) := by decide +kernel
theorem dX9_firstTowardsSolved_21 : decode cX9_firstTowardsSolved 21 = .ok (.aload_n 0, 1) := by decide +kernel
theorem dX9_firstTowardsSolved_22 : decode cX9_firstTowardsSolved 22 = .ok (.getfield 19, 3) := by decide +kernel
theorem dX9_firstTowardsSolved_25 : decode cX9_firstTowardsSolved 25 = .ok (.aload_n 0, 1) := by decide +kernel
theorem dX9_firstTowardsSolved_26 : decode cX9_firstTowardsSolved 26 = .ok (.getfield 16, 3) := by decide +kernel
theorem dX9_firstTowardsSolved_29 : decode cX9_firstTowardsSolved 29 = .ok (.iload_n 2, 1) := by decide +kernel
theorem dX9_firstTowardsSolved_30 : decode cX9_firstTowardsSolved 30 = .ok (.aaload, 1) := by decide +kernel
theorem dX9_firstTowardsSolved_31 : decode cX9_firstTowardsSolved 31 = .ok (.iload_n 1, 1) := by decide +kernel
theorem dX9_firstTowardsSolved_32 : decode cX9_firstTowardsSolved 32 = .ok (.iaload, 1) := by decide +kernel
theorem dX9_firstTowardsSolved_33 : decode cX9_firstTowardsSolved 33 = .ok (.iaload, 1) := by decide +kernel
theorem dX9_firstTowardsSolved_34 : decode cX9_firstTowardsSolved 34 = .ok (.aload_n 0, 1) := by decide +kernel
theorem dX9_firstTowardsSolved_35 : decode cX9_firstTowardsSolved 35 = .ok (.getfield 19, 3) := by decide +kernel
theorem dX9_firstTowardsSolved_38 : decode cX9_firstTowardsSolved 38 = .ok (.iload_n 1, 1) := by decide +kernel
theorem dX9_firstTowardsSolved_39 : decode cX9_firstTowardsSolved 39 = .ok (.iaload, 1) := by decide +kernel
theorem dX9_firstTowardsSolved_40 : decode cX9_firstTowardsSolved 40 = .ok (.iconst 1, 1) := by decide +kernel
theorem dX9_firstTowardsSolved_41 : decode cX9_firstTowardsSolved 41 = .ok (.isub, 1) := by decide +kernel
theorem dX9_firstTowardsSolved_42 : decode cX9_firstTowardsSolved 42 = .ok (.if_icmp .ne 5, 3) := by decide +kernel
theorem dX9_firstTowardsSolved_45 : decode cX9_firstTowardsSolved 45 = .ok (.iload_n 2, 1) := by decide +kernel
theorem dX9_firstTowardsSolved_46 : decode cX9_firstTowardsSolved 46 = .ok (.ireturn, 1) := by decide +kernel
theorem dX9_firstTowardsSolved_47 : decode cX9_firstTowardsSolved 47 = .ok (.iinc 2 1, 3) := by decide +kernel
theorem dX9_firstTowardsSolved_50 : decode cX9_firstTowardsSolved 50 = .ok (.goto (-48), 3) := by decide +kernel
theorem dX9_firstTowardsSolved_53 : decode cX9_firstTowardsSolved 53 = .ok (.bipush (-9), 2) := by decide +kernel
theorem dX9_firstTowardsSolved_55 : decode cX9_firstTowardsSolved 55 = .ok (.ireturn, 1) := by decide +kernel
theorem dX10_init_0 : decode cX10_init 0 = .ok (.aload_n 0, 1) := by decide +kernel
theorem dX10_init_1 : decode cX10_init 1 = .ok (.invokespecial 3, 3) := by decide +kernel
theorem dX10_init_4 : decode cX10_init 4 = .ok (.aload_n 0, 1) := by decide +kernel
theorem dX10_init_5 : decode cX10_init 5 = .ok (.iconst 4, 1) := by decide +kernel
theorem dX10_init_6 : decode cX10_init 6 = .ok (.newarray .int, 2) := by decide +kernel
theorem dX10_init_8 : decode cX10_init 8 = .ok (.putfield 9, 3) := by decide +kernel
theorem dX10_init_11 : decode cX10_init 11 = .ok (.aload_n 0, 1) := by decide +kernel
theorem dX10_init_12 : decode cX10_init 12 = .ok (.iconst 4, 1) := by decide +kernel
theorem dX10_init_13 : decode cX10_init 13 = .ok (.newarray .int, 2) := by decide +kernel
theorem dX10_init_15 : decode cX10_init 15 = .ok (.putfield 15, 3) := by decide +kernel
theorem dX10_init_18 : decode cX10_init 18 = .ok (.aload_n 0, 1) := by decide +kernel
theorem dX10_init_19 : decode cX10_init 19 = .ok (.iconst 4, 1) := by decide +kernel
theorem dX10_init_20 : decode cX10_init 20 = .ok (.newarray .int, 2) := by decide +kernel
theorem dX10_init_22 : decode cX10_init 22 = .ok (.putfield 18, 3) := by decide +kernel
theorem dX10_init_25 : decode cX10_init 25 = .ok (.aload_n 0, 1) := by decide +kernel
theorem dX10_init_26 : decode cX10_init 26 = .ok (.aload_n 1, 1) := by decide +kernel
theorem dX10_init_27 : decode cX10_init 27 = .ok (.putfield 21, 3) := by decide +kernel
theorem dX10_init_30 : decode cX10_init 30 = .ok (.aload_n 0, 1) := by decide +kernel
theorem dX10_init_31 : decode cX10_init 31 = .ok (.aload_n 2, 1) := by decide +kernel
theorem dX10_init_32 : decode cX10_init 32 = .ok (.putfield 25, 3) := by decide +kernel
theorem dX10_init_35 : decode cX10_init 35 = .ok (.aload_n 0, 1) := by decide +kernel
theorem dX10_init_36 : decode cX10_init 36 = .ok (.aload_n 3, 1) := by decide +kernel
theorem dX10_init_37 : decode cX10_init 37 = .ok (.putfield 29, 3) := by decide +kernel
theorem dX10_init_40 : decode cX10_init 40 = .ok (.return_, 1) := by decide +kernel
theorem dX10_has_0 : decode cX10_has 0 = .ok (.iload_n 1, 1) := by decide +kernel
theorem dX10_has_1 : decode cX10_has 1 = .ok (.ifCond .lt 15, 3) := by decide +kernel
theorem dX10_has_4 : decode cX10_has 4 = .ok (.iload_n 1, 1) := by decide +kernel
theorem dX10_has_5 : decode cX10_has 5 = .ok (.aload_n 0, 1) := by decide +kernel
theorem dX10_has_6 : decode cX10_has 6 = .ok (.getfield 33, 3) := by decide +kernel
theorem dX10_has_9 : decode cX10_has 9 = .ok (.if_icmp .ge 7, 3) := by decide +kernel
theorem dX10_has_12 : decode cX10_has 12 = .ok (.iconst 1, 1) := by decide +kernel
theorem dX10_has_13 : decode cX10_has 13 = .ok (.goto 4, 3) := by decide +kernel
theorem dX10_has_16 : decode cX10_has 16 = .ok (.iconst 0, 1) := by decide +kernel
theorem dX10_has_17 : decode cX10_has 17 = .ok (.ireturn, 1) := by decide +kernel
theorem dX10_add_0 : decode cX10_add 0 = .ok (.aload_n 0, 1) := by decide +kernel
theorem dX10_add_1 : decode cX10_add 1 = .ok (.getfield 9, 3) := by decide +kernel
theorem dX10_add_4 : decode cX10_add 4 = .ok (.aload_n 0, 1) := by decide +kernel
theorem dX10_add_5 : decode cX10_add 5 = .ok (.getfield 33, 3) := by decide +kernel
theorem dX10_add_8 : decode cX10_add 8 = .ok (.iload_n 1, 1) := by decide +kernel
theorem dX10_add_9 : decode cX10_add 9 = .ok (.iastore, 1) := by decide +kernel
theorem dX10_add_10 : decode cX10_add 10 = .ok (.aload_n 0, 1) := by decide +kernel
theorem dX10_add_11 : decode cX10_add 11 = .ok (.getfield 15, 3) := by decide +kernel
theorem dX10_add_14 : decode cX10_add 14 = .ok (.aload_n 0, 1) := by decide +kernel
theorem dX10_add_15 : decode cX10_add 15 = .ok (.getfield 33, 3) := by decide +kernel
theorem dX10_add_18 : decode cX10_add 18 = .ok (.iload_n 2, 1) := by decide +kernel
theorem dX10_add_19 : decode cX10_add 19 = .ok (.iastore, 1) := by decide +kernel
theorem dX10_add_20 : decode cX10_add 20 = .ok (.aload_n 0, 1) := by decide +kernel
theorem dX10_add_21 : decode cX10_add 21 = .ok (.getfield 18, 3) := by decide +kernel
theorem dX10_add_24 : decode cX10_add 24 = .ok (.aload_n 0, 1) := by decide +kernel
theorem dX10_add_25 : decode cX10_add 25 = .ok (.getfield 33, 3) := by decide +kernel
theorem dX10_add_28 : decode cX10_add 28 = .ok (.iconst 0, 1) := by decide +kernel
theorem dX10_add_29 : decode cX10_add 29 = .ok (.iastore, 1) := by decide +kernel
theorem dX10_add_30 : decode cX10_add 30 = .ok (.aload_n 0, 1) := by decide +kernel
theorem dX10_add_31 : decode cX10_add 31 = .ok (.dup, 1) := by decide +kernel
theorem dX10_add_32 : decode cX10_add 32 = .ok (.getfield 33, 3) := by decide +kernel
theorem dX10_add_35 : decode cX10_add 35 = .ok (.iconst 1, 1) := by decide +kernel
theorem dX10_add_36 : decode cX10_add 36 = .ok (.iadd, 1) := by decide +kernel
theorem dX10_add_37 : decode cX10_add 37 = .ok (.putfield 33, 3) := by decide +kernel
theorem dX10_add_40 : decode cX10_add 40 = .ok (.return_, 1) := by decide +kernel
theorem dX10_tryFrom_0 : decode cX10_tryFrom 0 = .ok (.aload_n 2, 1) := by decide +kernel
theorem dX10_tryFrom_1 : decode cX10_tryFrom 1 = .ok (.invokevirtual 37, 3) := by decide +kernel
theorem dX10_tryFrom_4 : decode cX10_tryFrom 4 = .ok (.iload_n 1, 1) := by decide +kernel
theorem dX10_tryFrom_5 : decode cX10_tryFrom 5 = .ok (.istore_n 3, 1) := by decide +kernel
theorem dX10_tryFrom_6 : decode cX10_tryFrom 6 = .ok (.iconst 0, 1) := by decide +kernel
theorem dX10_tryFrom_7 : decode cX10_tryFrom 7 = .ok (.istore 4, 2) := by decide +kernel
theorem dX10_tryFrom_9 : decode cX10_tryFrom 9 = .ok (.iconst 0, 1) := by decide +kernel
theorem dX10_tryFrom_10 : decode cX10_tryFrom 10 = .ok (.istore 5, 2) := by decide +kernel
theorem dX10_tryFrom_12 : decode cX10_tryFrom 12 = .ok (.iload 5, 2) := by decide +kernel
theorem dX10_tryFrom_14 : decode cX10_tryFrom 14 = .ok (.aload_n 0, 1) := by decide +kernel
theorem dX10_tryFrom_15 : decode cX10_tryFrom 15 = .ok (.getfield 33, 3) := by decide +kernel
theorem dX10_tryFrom_18 : decode cX10_tryFrom 18 = .ok (.if_icmp .ge 101, 3) := by decide +kernel
theorem dX10_tryFrom_21 : decode cX10_tryFrom 21 = .ok (.aload_n 2, 1) := by decide +kernel
theorem dX10_tryFrom_22 : decode cX10_tryFrom 22 = .ok (.getfield 42, 3) := by decide +kernel
theorem dX10_tryFrom_25 : decode cX10_tryFrom 25 = .ok (.bipush (-9), 2) := by decide +kernel
theorem dX10_tryFrom_27 : decode cX10_tryFrom 27 = .ok (.if_icmp .ne 92, 3) := by decide +kernel
theorem dX10_tryFrom_30 : decode cX10_tryFrom 30 = .ok (.iload 4, 2) := by decide +kernel
theorem dX10_tryFrom_32 : decode cX10_tryFrom 32 = .ok (.aload_n 0, 1) := by decide +kernel
theorem dX10_tryFrom_33 : decode cX10_tryFrom 33 = .ok (.getfield 9, 3) := by decide +kernel
theorem dX10_tryFrom_36 : decode cX10_tryFrom 36 = .ok (.iload 5, 2) := by decide +kernel
theorem dX10_tryFrom_38 : decode cX10_tryFrom 38 = .ok (.iaload, 1) := by decide +kernel
theorem dX10_tryFrom_39 : decode cX10_tryFrom 39 = .ok (.ior, 1) := by decide +kernel
theorem dX10_tryFrom_40 : decode cX10_tryFrom 40 = .ok (.istore 4, 2) := by decide +kernel
theorem dX10_tryFrom_42 : decode cX10_tryFrom 42 = .ok (.aload_n 0, 1) := by decide +kernel
theorem dX10_tryFrom_43 : decode cX10_tryFrom 43 = .ok (.getfield 21, 3) := by decide +kernel
theorem dX10_tryFrom_46 : decode cX10_tryFrom 46 = .ok (.getfield 45, 3) := by decide +kernel
theorem dX10_tryFrom_49 : decode cX10_tryFrom 49 = .ok (.iload_n 3, 1) := by decide +kernel
theorem dX10_tryFrom_50 : decode cX10_tryFrom 50 = .ok (.iaload, 1) := by decide +kernel
theorem dX10_tryFrom_51 : decode cX10_tryFrom 51 = .ok (.iload 4, 2) := by decide +kernel
theorem dX10_tryFrom_53 : decode cX10_tryFrom 53 = .ok (.iand, 1) := by decide +kernel
theorem dX10_tryFrom_54 : decode cX10_tryFrom 54 = .ok (.iload 4, 2) := by decide +kernel
theorem dX10_tryFrom_56 : decode cX10_tryFrom 56 = .ok (.if_icmp .eq 57, 3) := by decide +kernel
theorem dX10_tryFrom_59 : decode cX10_tryFrom 59 = .ok (.aload_n 0, 1) := by decide +kernel
theorem dX10_tryFrom_60 : decode cX10_tryFrom 60 = .ok (.aload_n 0, 1) := by decide +kernel
theorem dX10_tryFrom_61 : decode cX10_tryFrom 61 = .ok (.getfield 15, 3) := by decide +kernel
theorem dX10_tryFrom_64 : decode cX10_tryFrom 64 = .ok (.iload 5, 2) := by decide +kernel
theorem dX10_tryFrom_66 : decode cX10_tryFrom 66 = .ok (.iaload, 1) := by decide +kernel
theorem dX10_tryFrom_67 : decode cX10_tryFrom 67 = .ok (.iload_n 3, 1) := by decide +kernel
theorem dX10_tryFrom_68 : decode cX10_tryFrom 68 = .ok (.iload 4, 2) := by decide +kernel
theorem dX10_tryFrom_70 : decode cX10_tryFrom 70 = .ok (.invokevirtual 50, 3) := by decide +kernel
theorem dX10_tryFrom_73 : decode cX10_tryFrom 73 = .ok (.istore 6, 2) := by decide +kernel
theorem dX10_tryFrom_75 : decode cX10_tryFrom 75 = .ok (.iload 6, 2) := by decide +kernel
theorem dX10_tryFrom_77 : decode cX10_tryFrom 77 = .ok (.bipush (-9), 2) := by decide +kernel
theorem dX10_tryFrom_79 : decode cX10_tryFrom 79 = .ok (.if_icmp .ne 12, 3) := by decide +kernel
theorem dX10_tryFrom_82 : decode cX10_tryFrom 82 = .ok (.aload_n 2, 1) := by decide +kernel
theorem dX10_tryFrom_83 : decode cX10_tryFrom 83 = .ok (.iload 5, 2) := by decide +kernel
theorem dX10_tryFrom_85 : decode cX10_tryFrom 85 = .ok (.putfield 42, 3) := by decide +kernel
theorem dX10_tryFrom_88 : decode cX10_tryFrom 88 = .ok (.goto 25, 3) := by decide +kernel
theorem dX10_tryFrom_91 : decode cX10_tryFrom 91 = .ok (.aload_n 2, 1) := by decide +kernel
theorem dX10_tryFrom_92 : decode cX10_tryFrom 92 = .ok (.getfield 54, 3) := by decide +kernel
theorem dX10_tryFrom_95 : decode cX10_tryFrom 95 = .ok (.iload 5, 2) := by decide +kernel
theorem dX10_tryFrom_97 : decode cX10_tryFrom 97 = .ok (.iload 6, 2) := by decide +kernel
theorem dX10_tryFrom_99 : decode cX10_tryFrom 99 = .ok (.iastore, 1) := by decide +kernel
theorem dX10_tryFrom_100 : decode cX10_tryFrom 100 = .ok (.aload_n 0, 1) := by decide +kernel
theorem dX10_tryFrom_101 : decode cX10_tryFrom 101 = .ok (.getfield 25, 3) := by decide +kernel
theorem dX10_tryFrom_104 : decode cX10_tryFrom 104 = .ok (.getfield 57, 3) := by decide +kernel
theorem dX10_tryFrom_107 : decode cX10_tryFrom 107 = .ok (.iload 6, 2) := by decide +kernel
theorem dX10_tryFrom_109 : decode cX10_tryFrom 109 = .ok (.aaload, 1) := by decide +kernel
theorem dX10_tryFrom_110 : decode cX10_tryFrom 110 = .ok (.iload_n 3, 1) := by decide +kernel
theorem dX10_tryFrom_111 : decode cX10_tryFrom 111 = .ok (.iaload, 1) := by decide +kernel
theorem dX10_tryFrom_112 : decode cX10_tryFrom 112 = .ok (.istore_n 3, 1) := by decide +kernel
theorem dX10_tryFrom_113 : decode cX10_tryFrom 113 = .ok (.iinc 5 1, 3) := by decide +kernel
theorem dX10_tryFrom_116 : decode cX10_tryFrom 116 = .ok (.goto (-104), 3) := by decide +kernel
theorem dX10_tryFrom_119 : decode cX10_tryFrom 119 = .ok (.aload_n 2, 1) := by decide +kernel
theorem dX10_tryFrom_120 : decode cX10_tryFrom 120 = .ok (.iload_n 3, 1) := by decide +kernel
theorem dX10_tryFrom_121 : decode cX10_tryFrom 121 = .ok (.putfield 63, 3) := by decide +kernel
theorem dX10_tryFrom_124 : decode cX10_tryFrom 124 = .ok (.return_, 1) := by decide +kernel
theorem dX10_leastRow_0 : decode cX10_leastRow 0 = .ok (.iconst 0, 1) := by decide +kernel
theorem dX10_leastRow_1 : decode cX10_leastRow 1 = .ok (.istore 4, 2) := by decide +kernel
theorem dX10_leastRow_3 : decode cX10_leastRow 3 = .ok (.iload 4, 2) := by decide +kernel
theorem dX10_leastRow_5 : decode cX10_leastRow 5 = .ok (.aload_n 0, 1) := by decide +kernel
theorem dX10_leastRow_6 : decode cX10_leastRow 6 = .ok (.getfield 25, 3) := by decide +kernel
theorem dX10_leastRow_9 : decode cX10_leastRow 9 = .ok (.getfield 66, 3) := by decide +kernel
theorem dX10_leastRow_12 : decode cX10_leastRow 12 = .ok (.if_icmp .ge 48, 3) := by decide +kernel
theorem dX10_leastRow_15 : decode cX10_leastRow 15 = .ok (.iload_n 1, 1) := by decide +kernel
theorem dX10_leastRow_16 : decode cX10_leastRow 16 = .ok (.iload 4, 2) := by decide +kernel
theorem dX10_leastRow_18 : decode cX10_leastRow 18 = .ok (.ishr, 1) := by decide +kernel
theorem dX10_leastRow_19 : decode cX10_leastRow 19 = .ok (.iconst 1, 1) := by decide +kernel
theorem dX10_leastRow_20 : decode cX10_leastRow 20 = .ok (.iand, 1) := by decide +kernel
theorem dX10_leastRow_21 : decode cX10_leastRow 21 = .ok (.iconst 1, 1) := by decide +kernel
theorem dX10_leastRow_22 : decode cX10_leastRow 22 = .ok (.if_icmp .ne 32, 3) := by decide +kernel
theorem dX10_leastRow_25 : decode cX10_leastRow 25 = .ok (.aload_n 0, 1) := by decide +kernel
theorem dX10_leastRow_26 : decode cX10_leastRow 26 = .ok (.getfield 21, 3) := by decide +kernel
theorem dX10_leastRow_29 : decode cX10_leastRow 29 = .ok (.getfield 45, 3) := by decide +kernel
theorem dX10_leastRow_32 : decode cX10_leastRow 32 = .ok (.aload_n 0, 1) := by decide +kernel
theorem dX10_leastRow_33 : decode cX10_leastRow 33 = .ok (.getfield 25, 3) := by decide +kernel
theorem dX10_leastRow_36 : decode cX10_leastRow 36 = .ok (.getfield 57, 3) := by decide +kernel
theorem dX10_leastRow_39 : decode cX10_leastRow 39 = .ok (.iload 4, 2) := by decide +kernel
theorem dX10_leastRow_41 : decode cX10_leastRow 41 = .ok (.aaload, 1) := by decide +kernel
theorem dX10_leastRow_42 : decode cX10_leastRow 42 = .ok (.iload_n 2, 1) := by decide +kernel
theorem dX10_leastRow_43 : decode cX10_leastRow 43 = .ok (.iaload, 1) := by decide +kernel
theorem dX10_leastRow_44 : decode cX10_leastRow 44 = .ok (.iaload, 1) := by decide +kernel
theorem dX10_leastRow_45 : decode cX10_leastRow 45 = .ok (.iload_n 3, 1) := by decide +kernel
theorem dX10_leastRow_46 : decode cX10_leastRow 46 = .ok (.iand, 1) := by decide +kernel
theorem dX10_leastRow_47 : decode cX10_leastRow 47 = .ok (.iload_n 3, 1) := by decide +kernel
theorem dX10_leastRow_48 : decode cX10_leastRow 48 = .ok (.if_icmp .ne 6, 3) := by decide +kernel
theorem dX10_leastRow_51 : decode cX10_leastRow 51 = .ok (.iload 4, 2) := by decide +kernel
theorem dX10_leastRow_53 : decode cX10_leastRow 53 = .ok (.ireturn, 1) := by decide +kernel
theorem dX10_leastRow_54 : decode cX10_leastRow 54 = .ok (.iinc 4 1, 3) := by decide +kernel
theorem dX10_leastRow_57 : decode cX10_leastRow 57 = .ok (.goto (-54), 3) := by decide +kernel
theorem dX10_leastRow_60 : decode cX10_leastRow 60 = .ok (.bipush (-9), 2) := by decide +kernel
theorem dX10_leastRow_62 : decode cX10_leastRow 62 = .ok (.ireturn, 1) := by decide +kernel
theorem dX10_solved_0 : decode cX10_solved 0 = .ok (.iconst 0, 1) := by decide +kernel
theorem dX10_solved_1 : decode cX10_solved 1 = .ok (.istore_n 2, 1) := by decide +kernel
theorem dX10_solved_2 : decode cX10_solved 2 = .ok (.iconst 0, 1) := by decide +kernel
theorem dX10_solved_3 : decode cX10_solved 3 = .ok (.istore_n 3, 1) := by decide +kernel
theorem dX10_solved_4 : decode cX10_solved 4 = .ok (.iload_n 3, 1) := by decide +kernel
theorem dX10_solved_5 : decode cX10_solved 5 = .ok (.sipush 720, 3) := by decide +kernel
theorem dX10_solved_8 : decode cX10_solved 8 = .ok (.if_icmp .ge 25, 3) := by decide +kernel
theorem dX10_solved_11 : decode cX10_solved 11 = .ok (.aload_n 0, 1) := by decide +kernel
theorem dX10_solved_12 : decode cX10_solved 12 = .ok (.iload_n 3, 1) := by decide +kernel
theorem dX10_solved_13 : decode cX10_solved 13 = .ok (.aload_n 1, 1) := by decide +kernel
theorem dX10_solved_14 : decode cX10_solved 14 = .ok (.invokevirtual 67, 3) := by decide +kernel
theorem dX10_solved_17 : decode cX10_solved 17 = .ok (.aload_n 1, 1) := by decide +kernel
theorem dX10_solved_18 : decode cX10_solved 18 = .ok (.invokevirtual 71, 3) := by decide +kernel
theorem dX10_solved_21 : decode cX10_solved 21 = .ok (.ifCond .eq 6, 3) := by decide +kernel
theorem dX10_solved_24 : decode cX10_solved 24 = .ok (.iinc 2 1, 3) := by decide +kernel
theorem dX10_solved_27 : decode cX10_solved 27 = .ok (.iinc 3 1, 3) := by decide +kernel
theorem dX10_solved_30 : decode cX10_solved 30 = .ok (.goto (-26), 3) := by decide +kernel
theorem dX10_solved_33 : decode cX10_solved 33 = .ok (.iload_n 2, 1) := by decide +kernel
theorem dX10_solved_34 : decode cX10_solved 34 = .ok (.ireturn, 1) := by decide +kernel
theorem dX10_sumOf_0 : decode cX10_sumOf 0 = .ok (.aload_n 1, 1) := by decide +kernel
theorem dX10_sumOf_1 : decode cX10_sumOf 1 = .ok (.getfield 42, 3) := by decide +kernel
theorem dX10_sumOf_4 : decode cX10_sumOf 4 = .ok (.bipush (-9), 2) := by decide +kernel
theorem dX10_sumOf_6 : decode cX10_sumOf 6 = .ok (.if_icmp .eq 6, 3) := by decide +kernel
theorem dX10_sumOf_9 : decode cX10_sumOf 9 = .ok (.bipush (-9), 2) := by decide +kernel
theorem dX10_sumOf_11 : decode cX10_sumOf 11 = .ok (.ireturn, 1) := by decide +kernel
theorem dX10_sumOf_12 : decode cX10_sumOf 12 = .ok (.iconst 0, 1) := by decide +kernel
theorem dX10_sumOf_13 : decode cX10_sumOf 13 = .ok (.istore_n 3, 1) := by decide +kernel
theorem dX10_sumOf_14 : decode cX10_sumOf 14 = .ok (.iconst 0, 1) := by decide +kernel
theorem dX10_sumOf_15 : decode cX10_sumOf 15 = .ok (.istore 4, 2) := by decide +kernel
theorem dX10_sumOf_17 : decode cX10_sumOf 17 = .ok (.iconst 0, 1) := by decide +kernel
theorem dX10_sumOf_18 : decode cX10_sumOf 18 = .ok (.istore 5, 2) := by decide +kernel
theorem dX10_sumOf_20 : decode cX10_sumOf 20 = .ok (.iload 5, 2) := by decide +kernel
theorem dX10_sumOf_22 : decode cX10_sumOf 22 = .ok (.aload_n 0, 1) := by decide +kernel
theorem dX10_sumOf_23 : decode cX10_sumOf 23 = .ok (.getfield 33, 3) := by decide +kernel
theorem dX10_sumOf_26 : decode cX10_sumOf 26 = .ok (.if_icmp .ge 76, 3) := by decide +kernel
theorem dX10_sumOf_29 : decode cX10_sumOf 29 = .ok (.iload 5, 2) := by decide +kernel
theorem dX10_sumOf_31 : decode cX10_sumOf 31 = .ok (.ifCond .le 20, 3) := by decide +kernel
theorem dX10_sumOf_34 : decode cX10_sumOf 34 = .ok (.iload_n 3, 1) := by decide +kernel
theorem dX10_sumOf_35 : decode cX10_sumOf 35 = .ok (.iconst 0, 1) := by decide +kernel
theorem dX10_sumOf_36 : decode cX10_sumOf 36 = .ok (.aload_n 0, 1) := by decide +kernel
theorem dX10_sumOf_37 : decode cX10_sumOf 37 = .ok (.getfield 18, 3) := by decide +kernel
theorem dX10_sumOf_40 : decode cX10_sumOf 40 = .ok (.iload 5, 2) := by decide +kernel
theorem dX10_sumOf_42 : decode cX10_sumOf 42 = .ok (.iaload, 1) := by decide +kernel
theorem dX10_sumOf_43 : decode cX10_sumOf 43 = .ok (.iload 4, 2) := by decide +kernel
theorem dX10_sumOf_45 : decode cX10_sumOf 45 = .ok (.isub, 1) := by decide +kernel
theorem dX10_sumOf_46 : decode cX10_sumOf 46 = .ok (.invokestatic 75, 3) := by decide +kernel
theorem dX10_sumOf_49 : decode cX10_sumOf 49 = .ok (.iadd, 1) := by decide +kernel
theorem dX10_sumOf_50 : decode cX10_sumOf 50 = .ok (.istore_n 3, 1) := by decide +kernel
theorem dX10_sumOf_51 : decode cX10_sumOf 51 = .ok (.aload_n 1, 1) := by decide +kernel
theorem dX10_sumOf_52 : decode cX10_sumOf 52 = .ok (.getfield 54, 3) := by decide +kernel
theorem dX10_sumOf_55 : decode cX10_sumOf 55 = .ok (.iload 5, 2) := by decide +kernel
theorem dX10_sumOf_57 : decode cX10_sumOf 57 = .ok (.iaload, 1) := by decide +kernel
theorem dX10_sumOf_58 : decode cX10_sumOf 58 = .ok (.istore 6, 2) := by decide +kernel
theorem dX10_sumOf_60 : decode cX10_sumOf 60 = .ok (.iload 6, 2) := by decide +kernel
theorem dX10_sumOf_62 : decode cX10_sumOf 62 = .ok (.bipush (-9), 2) := by decide +kernel
theorem dX10_sumOf_64 : decode cX10_sumOf 64 = .ok (.if_icmp .ne 7, 3) := by decide +kernel
theorem dX10_sumOf_67 : decode cX10_sumOf 67 = .ok (.iconst 0, 1) := by decide +kernel
theorem dX10_sumOf_68 : decode cX10_sumOf 68 = .ok (.goto 21, 3) := by decide +kernel
theorem dX10_sumOf_71 : decode cX10_sumOf 71 = .ok (.aload_n 0, 1) := by decide +kernel
theorem dX10_sumOf_72 : decode cX10_sumOf 72 = .ok (.getfield 29, 3) := by decide +kernel
theorem dX10_sumOf_75 : decode cX10_sumOf 75 = .ok (.aload_n 0, 1) := by decide +kernel
theorem dX10_sumOf_76 : decode cX10_sumOf 76 = .ok (.getfield 25, 3) := by decide +kernel
theorem dX10_sumOf_79 : decode cX10_sumOf 79 = .ok (.iload 6, 2) := by decide +kernel
theorem dX10_sumOf_81 : decode cX10_sumOf 81 = .ok (.invokevirtual 81, 3) := by decide +kernel
theorem dX10_sumOf_84 : decode cX10_sumOf 84 = .ok (.iload_n 2, 1) := by decide +kernel
theorem dX10_sumOf_85 : decode cX10_sumOf 85 = .ok (.imul, 1) := by decide +kernel
theorem dX10_sumOf_86 : decode cX10_sumOf 86 = .ok (.bipush 100, 2) := by decide +kernel
theorem dX10_sumOf_88 : decode cX10_sumOf 88 = .ok (.idiv, 1) := by decide +kernel
theorem dX10_sumOf_89 : decode cX10_sumOf 89 = .ok (.istore 4, 2) := by decide +kernel
theorem dX10_sumOf_91 : decode cX10_sumOf 91 = .ok (.iload_n 3, 1) := by decide +kernel
theorem dX10_sumOf_92 : decode cX10_sumOf 92 = .ok (.iload 4, 2) := by decide +kernel
theorem dX10_sumOf_94 : decode cX10_sumOf 94 = .ok (.iadd, 1) := by decide +kernel
theorem dX10_sumOf_95 : decode cX10_sumOf 95 = .ok (.istore_n 3, 1) := by decide +kernel
theorem dX10_sumOf_96 : decode cX10_sumOf 96 = .ok (.iinc 5 1, 3) := by decide +kernel
theorem dX10_sumOf_99 : decode cX10_sumOf 99 = .ok (.goto (-79), 3) := by decide +kernel
theorem dX10_sumOf_102 : decode cX10_sumOf 102 = .ok (.iload_n 3, 1) := by decide +kernel
theorem dX10_sumOf_103 : decode cX10_sumOf 103 = .ok (.ireturn, 1) := by decide +kernel
theorem dX11_init_0 : decode cX11_init 0 = .ok (.aload_n 0, 1) := by decide +kernel
theorem dX11_init_1 : decode cX11_init 1 = .ok (.invokespecial 3, 3) := by decide +kernel
theorem dX11_init_4 : decode cX11_init 4 = .ok (.aload_n 0, 1) := by decide +kernel
theorem dX11_init_5 : decode cX11_init 5 = .ok (.new 9, 3) := by decide +kernel
theorem dX11_init_8 : decode cX11_init 8 = .ok (.dup, 1) := by decide +kernel
theorem dX11_init_9 : decode cX11_init 9 = .ok (.invokespecial 11, 3) := by decide +kernel
theorem dX11_init_12 : decode cX11_init 12 = .ok (.putfield 12, 3) := by decide +kernel
theorem dX11_init_15 : decode cX11_init 15 = .ok (.aload_n 0, 1) := by decide +kernel
theorem dX11_init_16 : decode cX11_init 16 = .ok (.new 16, 3) := by decide +kernel
theorem dX11_init_19 : decode cX11_init 19 = .ok (.dup, 1) := by decide +kernel
theorem dX11_init_20 : decode cX11_init 20 = .ok (.invokespecial 18, 3) := by decide +kernel
theorem dX11_init_23 : decode cX11_init 23 = .ok (.putfield 19, 3) := by decide +kernel
theorem dX11_init_26 : decode cX11_init 26 = .ok (.aload_n 0, 1) := by decide +kernel
theorem dX11_init_27 : decode cX11_init 27 = .ok (.new 23, 3) := by decide +kernel
theorem dX11_init_30 : decode cX11_init 30 = .ok (.dup, 1) := by decide +kernel
theorem dX11_init_31 : decode cX11_init 31 = .ok (.aload_n 0, 1) := by decide +kernel
theorem dX11_init_32 : decode cX11_init 32 = .ok (.getfield 19, 3) := by decide +kernel
theorem dX11_init_35 : decode cX11_init 35 = .ok (.invokespecial 25, 3) := by decide +kernel
theorem dX11_init_38 : decode cX11_init 38 = .ok (.putfield 28, 3) := by decide +kernel
theorem dX11_init_41 : decode cX11_init 41 = .ok (.aload_n 0, 1) := by decide +kernel
theorem dX11_init_42 : decode cX11_init 42 = .ok (.new 32, 3) := by decide +kernel
theorem dX11_init_45 : decode cX11_init 45 = .ok (.dup, 1) := by decide +kernel
theorem dX11_init_46 : decode cX11_init 46 = .ok (.aload_n 0, 1) := by decide +kernel
theorem dX11_init_47 : decode cX11_init 47 = .ok (.getfield 28, 3) := by decide +kernel
theorem dX11_init_50 : decode cX11_init 50 = .ok (.aload_n 0, 1) := by decide +kernel
theorem dX11_init_51 : decode cX11_init 51 = .ok (.getfield 19, 3) := by decide +kernel
theorem dX11_init_54 : decode cX11_init 54 = .ok (.invokespecial 34, 3) := by decide +kernel
theorem dX11_init_57 : decode cX11_init 57 = .ok (.putfield 37, 3) := by decide +kernel
theorem dX11_init_60 : decode cX11_init 60 = .ok (.aload_n 0, 1) := by decide +kernel
theorem dX11_init_61 : decode cX11_init 61 = .ok (.new 41, 3) := by decide +kernel
theorem dX11_init_64 : decode cX11_init 64 = .ok (.dup, 1) := by decide +kernel
theorem dX11_init_65 : decode cX11_init 65 = .ok (.invokespecial 43, 3) := by decide +kernel
theorem dX11_init_68 : decode cX11_init 68 = .ok (.putfield 44, 3) := by decide +kernel
theorem dX11_init_71 : decode cX11_init 71 = .ok (.aload_n 0, 1) := by decide +kernel
theorem dX11_init_72 : decode cX11_init 72 = .ok (.new 48, 3) := by decide +kernel
theorem dX11_init_75 : decode cX11_init 75 = .ok (.dup, 1) := by decide +kernel
theorem dX11_init_76 : decode cX11_init 76 = .ok (.aload_n 0, 1) := by decide +kernel
theorem dX11_init_77 : decode cX11_init 77 = .ok (.getfield 28, 3) := by decide +kernel
theorem dX11_init_80 : decode cX11_init 80 = .ok (.aload_n 0, 1) := by decide +kernel
theorem dX11_init_81 : decode cX11_init 81 = .ok (.getfield 44, 3) := by decide +kernel
theorem dX11_init_84 : decode cX11_init 84 = .ok (.invokespecial 50, 3) := by decide +kernel
theorem dX11_init_87 : decode cX11_init 87 = .ok (.putfield 53, 3) := by decide +kernel
theorem dX11_init_90 : decode cX11_init 90 = .ok (.aload_n 0, 1) := by decide +kernel
theorem dX11_init_91 : decode cX11_init 91 = .ok (.new 57, 3) := by decide +kernel
theorem dX11_init_94 : decode cX11_init 94 = .ok (.dup, 1) := by decide +kernel
theorem dX11_init_95 : decode cX11_init 95 = .ok (.aload_n 0, 1) := by decide +kernel
theorem dX11_init_96 : decode cX11_init 96 = .ok (.getfield 19, 3) := by decide +kernel
theorem dX11_init_99 : decode cX11_init 99 = .ok (.aload_n 0, 1) := by decide +kernel
theorem dX11_init_100 : decode cX11_init 100 = .ok (.getfield 37, 3) := by decide +kernel
theorem dX11_init_103 : decode cX11_init 103 = .ok (.aload_n 0, 1) := by decide +kernel
theorem dX11_init_104 : decode cX11_init 104 = .ok (.getfield 44, 3) := by decide +kernel
theorem dX11_init_107 : decode cX11_init 107 = .ok (.invokespecial 59, 3) := by decide +kernel
theorem dX11_init_110 : decode cX11_init 110 = .ok (.putfield 62, 3) := by decide +kernel
theorem dX11_init_113 : decode cX11_init 113 = .ok (.aload_n 0, 1) := by decide +kernel
theorem dX11_init_114 : decode cX11_init 114 = .ok (.new 66, 3) := by decide +kernel
theorem dX11_init_117 : decode cX11_init 117 = .ok (.dup, 1) := by decide +kernel
theorem dX11_init_118 : decode cX11_init 118 = .ok (.invokespecial 68, 3) := by decide +kernel
theorem dX11_init_121 : decode cX11_init 121 = .ok (.putfield 69, 3) := by decide +kernel
theorem dX11_init_124 : decode cX11_init 124 = .ok (.aload_n 0, 1) := by decide +kernel
theorem dX11_init_125 : decode cX11_init 125 = .ok (.new 73, 3) := by decide +kernel
theorem dX11_init_128 : decode cX11_init 128 = .ok (.dup, 1) := by decide +kernel
theorem dX11_init_129 : decode cX11_init 129 = .ok (.invokespecial 75, 3) := by decide +kernel
theorem dX11_init_132 : decode cX11_init 132 = .ok (.putfield 76, 3) := by decide +kernel
theorem dX11_init_135 : decode cX11_init 135 = .ok (.aload_n 0, 1) := by decide +kernel
theorem dX11_init_136 : decode cX11_init 136 = .ok (.new 80, 3) := by decide +kernel
theorem dX11_init_139 : decode cX11_init 139 = .ok (.dup, 1) := by decide +kernel
theorem dX11_init_140 : decode cX11_init 140 = .ok (.aload_n 0, 1) := by decide +kernel
theorem dX11_init_141 : decode cX11_init 141 = .ok (.getfield 37, 3) := by decide +kernel
theorem dX11_init_144 : decode cX11_init 144 = .ok (.aload_n 0, 1) := by decide +kernel
theorem dX11_init_145 : decode cX11_init 145 = .ok (.getfield 44, 3) := by decide +kernel
theorem dX11_init_148 : decode cX11_init 148 = .ok (.invokespecial 82, 3) := by decide +kernel
theorem dX11_init_151 : decode cX11_init 151 = .ok (.putfield 85, 3) := by decide +kernel
theorem dX11_init_154 : decode cX11_init 154 = .ok (.aload_n 0, 1) := by decide +kernel
theorem dX11_init_155 : decode cX11_init 155 = .ok (.new 89, 3) := by decide +kernel
theorem dX11_init_158 : decode cX11_init 158 = .ok (.dup, 1) := by decide +kernel
theorem dX11_init_159 : decode cX11_init 159 = .ok (.invokespecial 91, 3) := by decide +kernel
theorem dX11_init_162 : decode cX11_init 162 = .ok (.putfield 92, 3) := by decide +kernel
theorem dX11_init_165 : decode cX11_init 165 = .ok (.aload_n 0, 1) := by decide +kernel
theorem dX11_init_166 : decode cX11_init 166 = .ok (.bipush 7, 2) := by decide +kernel
theorem dX11_init_168 : decode cX11_init 168 = .ok (.newarray .int, 2) := by decide +kernel
theorem dX11_init_170 : decode cX11_init 170 = .ok (.putfield 96, 3) := by decide +kernel
theorem dX11_init_173 : decode cX11_init 173 = .ok (.aload_n 0, 1) := by decide +kernel
theorem dX11_init_174 : decode cX11_init 174 = .ok (.iconst 0, 1) := by decide +kernel
theorem dX11_init_175 : decode cX11_init 175 = .ok (.putfield 100, 3) := by decide +kernel
theorem dX11_init_178 : decode cX11_init 178 = .ok (.return_, 1) := by decide +kernel
theorem dX11_feed_0 : decode cX11_feed 0 = .ok (.iload_n 1, 1) := by decide +kernel
theorem dX11_feed_1 : decode cX11_feed 1 = .ok (.iconst 1, 1) := by decide +kernel
theorem dX11_feed_2 : decode cX11_feed 2 = .ok (.bipush 8, 2) := by decide +kernel
theorem dX11_feed_4 : decode cX11_feed 4 = .ok (.invokestatic 104, 3) := by decide +kernel
theorem dX11_feed_7 : decode cX11_feed 7 = .ok (.istore 4, 2) := by decide +kernel
theorem dX11_feed_9 : decode cX11_feed 9 = .ok (.iload 4, 2) := by decide +kernel
theorem dX11_feed_11 : decode cX11_feed 11 = .ok (.ifCond .eq 10, 3) := by decide +kernel
theorem dX11_feed_14 : decode cX11_feed 14 = .ok (.aload_n 0, 1) := by decide +kernel
theorem dX11_feed_15 : decode cX11_feed 15 = .ok (.iload 4, 2) := by decide +kernel
theorem dX11_feed_17 : decode cX11_feed 17 = .ok (.invokevirtual 108, 3) := by decide +kernel
theorem dX11_feed_20 : decode cX11_feed 20 = .ok (.ireturn, 1) := by decide +kernel
theorem dX11_feed_21 : decode cX11_feed 21 = .ok (.aload_n 0, 1) := by decide +kernel
theorem dX11_feed_22 : decode cX11_feed 22 = .ok (.getfield 12, 3) := by decide +kernel
theorem dX11_feed_25 : decode cX11_feed 25 = .ok (.getfield 112, 3) := by decide +kernel
theorem dX11_feed_28 : decode cX11_feed 28 = .ok (.iload_n 1, 1) := by decide +kernel
theorem dX11_feed_29 : decode cX11_feed 29 = .ok (.iadd, 1) := by decide +kernel
theorem dX11_feed_30 : decode cX11_feed 30 = .ok (.bipush 16, 2) := by decide +kernel
theorem dX11_feed_32 : decode cX11_feed 32 = .ok (.if_icmp .le 10, 3) := by decide +kernel
theorem dX11_feed_35 : decode cX11_feed 35 = .ok (.aload_n 0, 1) := by decide +kernel
theorem dX11_feed_36 : decode cX11_feed 36 = .ok (.bipush (-6), 2) := by decide +kernel
theorem dX11_feed_38 : decode cX11_feed 38 = .ok (.invokevirtual 108, 3) := by decide +kernel
theorem dX11_feed_41 : decode cX11_feed 41 = .ok (.ireturn, 1) := by decide +kernel
theorem dX11_feed_42 : decode cX11_feed 42 = .ok (.aload_n 0, 1) := by decide +kernel
theorem dX11_feed_43 : decode cX11_feed 43 = .ok (.getfield 12, 3) := by decide +kernel
theorem dX11_feed_46 : decode cX11_feed 46 = .ok (.iload_n 1, 1) := by decide +kernel
theorem dX11_feed_47 : decode cX11_feed 47 = .ok (.lload_n 2, 1) := by decide +kernel
theorem dX11_feed_48 : decode cX11_feed 48 = .ok (.invokevirtual 115, 3) := by decide +kernel
theorem dX11_feed_51 : decode cX11_feed 51 = .ok (.aload_n 0, 1) := by decide +kernel
theorem dX11_feed_52 : decode cX11_feed 52 = .ok (.getfield 12, 3) := by decide +kernel
theorem dX11_feed_55 : decode cX11_feed 55 = .ok (.getfield 112, 3) := by decide +kernel
theorem dX11_feed_58 : decode cX11_feed 58 = .ok (.ireturn, 1) := by decide +kernel
theorem dX11_turn_0 : decode cX11_turn 0 = .ok (.aload_n 0, 1) := by decide +kernel
theorem dX11_turn_1 : decode cX11_turn 1 = .ok (.getfield 28, 3) := by decide +kernel
theorem dX11_turn_4 : decode cX11_turn 4 = .ok (.getfield 119, 3) := by decide +kernel
theorem dX11_turn_7 : decode cX11_turn 7 = .ok (.bipush 6, 2) := by decide +kernel
theorem dX11_turn_9 : decode cX11_turn 9 = .ok (.if_icmp .lt 10, 3) := by decide +kernel
theorem dX11_turn_12 : decode cX11_turn 12 = .ok (.aload_n 0, 1) := by decide +kernel
theorem dX11_turn_13 : decode cX11_turn 13 = .ok (.bipush (-6), 2) := by decide +kernel
theorem dX11_turn_15 : decode cX11_turn 15 = .ok (.invokevirtual 108, 3) := by decide +kernel
theorem dX11_turn_18 : decode cX11_turn 18 = .ok (.ireturn, 1) := by decide +kernel
theorem dX11_turn_19 : decode cX11_turn 19 = .ok (.aload_n 0, 1) := by decide +kernel
theorem dX11_turn_20 : decode cX11_turn 20 = .ok (.getfield 12, 3) := by decide +kernel
theorem dX11_turn_23 : decode cX11_turn 23 = .ok (.aload_n 0, 1) := by decide +kernel
theorem dX11_turn_24 : decode cX11_turn 24 = .ok (.getfield 28, 3) := by decide +kernel
theorem dX11_turn_27 : decode cX11_turn 27 = .ok (.getfield 122, 3) := by decide +kernel
theorem dX11_turn_30 : decode cX11_turn 30 = .ok (.iconst 2, 1) := by decide +kernel
theorem dX11_turn_31 : decode cX11_turn 31 = .ok (.aload_n 0, 1) := by decide +kernel
theorem dX11_turn_32 : decode cX11_turn 32 = .ok (.getfield 28, 3) := by decide +kernel
theorem dX11_turn_35 : decode cX11_turn 35 = .ok (.getfield 119, 3) := by decide +kernel
theorem dX11_turn_38 : decode cX11_turn 38 = .ok (.imul, 1) := by decide +kernel
theorem dX11_turn_39 : decode cX11_turn 39 = .ok (.aaload, 1) := by decide +kernel
theorem dX11_turn_40 : decode cX11_turn 40 = .ok (.invokevirtual 126, 3) := by decide +kernel
theorem dX11_turn_43 : decode cX11_turn 43 = .ok (.istore_n 1, 1) := by decide +kernel
theorem dX11_turn_44 : decode cX11_turn 44 = .ok (.aload_n 0, 1) := by decide +kernel
theorem dX11_turn_45 : decode cX11_turn 45 = .ok (.getfield 12, 3) := by decide +kernel
theorem dX11_turn_48 : decode cX11_turn 48 = .ok (.iconst 0, 1) := by decide +kernel
theorem dX11_turn_49 : decode cX11_turn 49 = .ok (.putfield 112, 3) := by decide +kernel
theorem dX11_turn_52 : decode cX11_turn 52 = .ok (.iload_n 1, 1) := by decide +kernel
theorem dX11_turn_53 : decode cX11_turn 53 = .ok (.bipush (-9), 2) := by decide +kernel
theorem dX11_turn_55 : decode cX11_turn 55 = .ok (.if_icmp .eq 8, 3) := by decide +kernel
theorem dX11_turn_58 : decode cX11_turn 58 = .ok (.bipush (-20), 2) := by decide +kernel
theorem dX11_turn_60 : decode cX11_turn 60 = .ok (.iload_n 1, 1) := by decide +kernel
theorem dX11_turn_61 : decode cX11_turn 61 = .ok (.isub, 1) := by decide +kernel
theorem dX11_turn_62 : decode cX11_turn 62 = .ok (.ireturn, 1) := by decide +kernel
theorem dX11_turn_63 : decode cX11_turn 63 = .ok (.aload_n 0, 1) := by decide +kernel
theorem dX11_turn_64 : decode cX11_turn 64 = .ok (.getfield 44, 3) := by decide +kernel
theorem dX11_turn_67 : decode cX11_turn 67 = .ok (.aload_n 0, 1) := by decide +kernel
theorem dX11_turn_68 : decode cX11_turn 68 = .ok (.getfield 28, 3) := by decide +kernel
theorem dX11_turn_71 : decode cX11_turn 71 = .ok (.getfield 119, 3) := by decide +kernel
theorem dX11_turn_74 : decode cX11_turn 74 = .ok (.invokevirtual 130, 3) := by decide +kernel
theorem dX11_turn_77 : decode cX11_turn 77 = .ok (.aload_n 0, 1) := by decide +kernel
theorem dX11_turn_78 : decode cX11_turn 78 = .ok (.getfield 28, 3) := by decide +kernel
theorem dX11_turn_81 : decode cX11_turn 81 = .ok (.invokevirtual 134, 3) := by decide +kernel
theorem dX11_turn_84 : decode cX11_turn 84 = .ok (.aload_n 0, 1) := by decide +kernel
theorem dX11_turn_85 : decode cX11_turn 85 = .ok (.getfield 28, 3) := by decide +kernel
theorem dX11_turn_88 : decode cX11_turn 88 = .ok (.getfield 119, 3) := by decide +kernel
theorem dX11_turn_91 : decode cX11_turn 91 = .ok (.iconst 1, 1) := by decide +kernel
theorem dX11_turn_92 : decode cX11_turn 92 = .ok (.isub, 1) := by decide +kernel
theorem dX11_turn_93 : decode cX11_turn 93 = .ok (.ireturn, 1) := by decide +kernel
theorem dX11_row_0 : decode cX11_row 0 = .ok (.aload_n 0, 1) := by decide +kernel
theorem dX11_row_1 : decode cX11_row 1 = .ok (.getfield 37, 3) := by decide +kernel
theorem dX11_row_4 : decode cX11_row 4 = .ok (.getfield 137, 3) := by decide +kernel
theorem dX11_row_7 : decode cX11_row 7 = .ok (.bipush 10, 2) := by decide +kernel
theorem dX11_row_9 : decode cX11_row 9 = .ok (.if_icmp .lt 10, 3) := by decide +kernel
theorem dX11_row_12 : decode cX11_row 12 = .ok (.aload_n 0, 1) := by decide +kernel
theorem dX11_row_13 : decode cX11_row 13 = .ok (.bipush (-6), 2) := by decide +kernel
theorem dX11_row_15 : decode cX11_row 15 = .ok (.invokevirtual 108, 3) := by decide +kernel
theorem dX11_row_18 : decode cX11_row 18 = .ok (.ireturn, 1) := by decide +kernel
theorem dX11_row_19 : decode cX11_row 19 = .ok (.aload_n 0, 1) := by decide +kernel
theorem dX11_row_20 : decode cX11_row 20 = .ok (.getfield 12, 3) := by decide +kernel
theorem dX11_row_23 : decode cX11_row 23 = .ok (.aload_n 0, 1) := by decide +kernel
theorem dX11_row_24 : decode cX11_row 24 = .ok (.getfield 37, 3) := by decide +kernel
theorem dX11_row_27 : decode cX11_row 27 = .ok (.getfield 138, 3) := by decide +kernel
theorem dX11_row_30 : decode cX11_row 30 = .ok (.aload_n 0, 1) := by decide +kernel
theorem dX11_row_31 : decode cX11_row 31 = .ok (.getfield 37, 3) := by decide +kernel
theorem dX11_row_34 : decode cX11_row 34 = .ok (.getfield 137, 3) := by decide +kernel
theorem dX11_row_37 : decode cX11_row 37 = .ok (.aaload, 1) := by decide +kernel
theorem dX11_row_38 : decode cX11_row 38 = .ok (.aload_n 0, 1) := by decide +kernel
theorem dX11_row_39 : decode cX11_row 39 = .ok (.getfield 28, 3) := by decide +kernel
theorem dX11_row_42 : decode cX11_row 42 = .ok (.getfield 119, 3) := by decide +kernel
theorem dX11_row_45 : decode cX11_row 45 = .ok (.invokevirtual 141, 3) := by decide +kernel
theorem dX11_row_48 : decode cX11_row 48 = .ok (.istore_n 1, 1) := by decide +kernel
theorem dX11_row_49 : decode cX11_row 49 = .ok (.aload_n 0, 1) := by decide +kernel
theorem dX11_row_50 : decode cX11_row 50 = .ok (.getfield 12, 3) := by decide +kernel
theorem dX11_row_53 : decode cX11_row 53 = .ok (.iconst 0, 1) := by decide +kernel
theorem dX11_row_54 : decode cX11_row 54 = .ok (.putfield 112, 3) := by decide +kernel
theorem dX11_row_57 : decode cX11_row 57 = .ok (.iload_n 1, 1) := by decide +kernel
theorem dX11_row_58 : decode cX11_row 58 = .ok (.bipush (-9), 2) := by decide +kernel
theorem dX11_row_60 : decode cX11_row 60 = .ok (.if_icmp .eq 8, 3) := by decide +kernel
theorem dX11_row_63 : decode cX11_row 63 = .ok (.bipush (-20), 2) := by decide +kernel
theorem dX11_row_65 : decode cX11_row 65 = .ok (.iload_n 1, 1) := by decide +kernel
theorem dX11_row_66 : decode cX11_row 66 = .ok (.isub, 1) := by decide +kernel
theorem dX11_row_67 : decode cX11_row 67 = .ok (.ireturn, 1) := by decide +kernel
theorem dX11_row_68 : decode cX11_row 68 = .ok (.aload_n 0, 1) := by decide +kernel
theorem dX11_row_69 : decode cX11_row 69 = .ok (.getfield 37, 3) := by decide +kernel
theorem dX11_row_72 : decode cX11_row 72 = .ok (.aload_n 0, 1) := by decide +kernel
theorem dX11_row_73 : decode cX11_row 73 = .ok (.getfield 12, 3) := by decide +kernel
theorem dX11_row_76 : decode cX11_row 76 = .ok (.getfield 145, 3) := by decide +kernel
theorem dX11_row_79 : decode cX11_row 79 = .ok (.invokevirtual 148, 3) := by decide +kernel
theorem dX11_row_82 : decode cX11_row 82 = .ok (.aload_n 0, 1) := by decide +kernel
theorem dX11_row_83 : decode cX11_row 83 = .ok (.getfield 37, 3) := by decide +kernel
theorem dX11_row_86 : decode cX11_row 86 = .ok (.getfield 137, 3) := by decide +kernel
theorem dX11_row_89 : decode cX11_row 89 = .ok (.iconst 1, 1) := by decide +kernel
theorem dX11_row_90 : decode cX11_row 90 = .ok (.isub, 1) := by decide +kernel
theorem dX11_row_91 : decode cX11_row 91 = .ok (.ireturn, 1) := by decide +kernel
theorem dX11_goes_0 : decode cX11_goes 0 = .ok (.aload_n 0, 1) := by decide +kernel
theorem dX11_goes_1 : decode cX11_goes 1 = .ok (.getfield 28, 3) := by decide +kernel
theorem dX11_goes_4 : decode cX11_goes 4 = .ok (.iload_n 1, 1) := by decide +kernel
theorem dX11_goes_5 : decode cX11_goes 5 = .ok (.invokevirtual 150, 3) := by decide +kernel
theorem dX11_goes_8 : decode cX11_goes 8 = .ok (.ifCond .eq 10, 3) := by decide +kernel
theorem dX11_goes_11 : decode cX11_goes 11 = .ok (.iload_n 2, 1) := by decide +kernel
theorem dX11_goes_12 : decode cX11_goes 12 = .ok (.invokestatic 154, 3) := by decide +kernel
theorem dX11_goes_15 : decode cX11_goes 15 = .ok (.ifCond .ne 9, 3) := by decide +kernel
theorem dX11_goes_18 : decode cX11_goes 18 = .ok (.aload_n 0, 1) := by decide +kernel
theorem dX11_goes_19 : decode cX11_goes 19 = .ok (.iconst (-1), 1) := by decide +kernel
theorem dX11_goes_20 : decode cX11_goes 20 = .ok (.invokevirtual 108, 3) := by decide +kernel
theorem dX11_goes_23 : decode cX11_goes 23 = .ok (.ireturn, 1) := by decide +kernel
theorem dX11_goes_24 : decode cX11_goes 24 = .ok (.aload_n 0, 1) := by decide +kernel
theorem dX11_goes_25 : decode cX11_goes 25 = .ok (.getfield 28, 3) := by decide +kernel
theorem dX11_goes_28 : decode cX11_goes 28 = .ok (.getfield 122, 3) := by decide +kernel
theorem dX11_goes_31 : decode cX11_goes 31 = .ok (.iload_n 1, 1) := by decide +kernel
theorem dX11_goes_32 : decode cX11_goes 32 = .ok (.aaload, 1) := by decide +kernel
theorem dX11_goes_33 : decode cX11_goes 33 = .ok (.iload_n 2, 1) := by decide +kernel
theorem dX11_goes_34 : decode cX11_goes 34 = .ok (.iaload, 1) := by decide +kernel
theorem dX11_goes_35 : decode cX11_goes 35 = .ok (.ireturn, 1) := by decide +kernel
theorem dX11_rowOf_0 : decode cX11_rowOf 0 = .ok (.aload_n 0, 1) := by decide +kernel
theorem dX11_rowOf_1 : decode cX11_rowOf 1 = .ok (.getfield 37, 3) := by decide +kernel
theorem dX11_rowOf_4 : decode cX11_rowOf 4 = .ok (.iload_n 1, 1) := by decide +kernel
theorem dX11_rowOf_5 : decode cX11_rowOf 5 = .ok (.invokevirtual 157, 3) := by decide +kernel
theorem dX11_rowOf_8 : decode cX11_rowOf 8 = .ok (.ifCond .ne 9, 3) := by decide +kernel
theorem dX11_rowOf_11 : decode cX11_rowOf 11 = .ok (.aload_n 0, 1) := by decide +kernel
theorem dX11_rowOf_12 : decode cX11_rowOf 12 = .ok (.iconst (-1), 1) := by decide +kernel
theorem dX11_rowOf_13 : decode cX11_rowOf 13 = .ok (.invokevirtual 108, 3) := by decide +kernel
theorem dX11_rowOf_16 : decode cX11_rowOf 16 = .ok (.ireturn, 1) := by decide +kernel
theorem dX11_rowOf_17 : decode cX11_rowOf 17 = .ok (.iload_n 2, 1) := by decide +kernel
theorem dX11_rowOf_18 : decode cX11_rowOf 18 = .ok (.iconst (-1), 1) := by decide +kernel
theorem dX11_rowOf_19 : decode cX11_rowOf 19 = .ok (.if_icmp .ne 13, 3) := by decide +kernel
theorem dX11_rowOf_22 : decode cX11_rowOf 22 = .ok (.aload_n 0, 1) := by decide +kernel
theorem dX11_rowOf_23 : decode cX11_rowOf 23 = .ok (.getfield 37, 3) := by decide +kernel
theorem dX11_rowOf_26 : decode cX11_rowOf 26 = .ok (.getfield 160, 3) := by decide +kernel
theorem dX11_rowOf_29 : decode cX11_rowOf 29 = .ok (.iload_n 1, 1) := by decide +kernel
theorem dX11_rowOf_30 : decode cX11_rowOf 30 = .ok (.iaload, 1) := by decide +kernel
theorem dX11_rowOf_31 : decode cX11_rowOf 31 = .ok (.ireturn, 1) := by decide +kernel
theorem dX11_rowOf_32 : decode cX11_rowOf 32 = .ok (.aload_n 0, 1) := by decide +kernel
theorem dX11_rowOf_33 : decode cX11_rowOf 33 = .ok (.getfield 37, 3) := by decide +kernel
theorem dX11_rowOf_36 : decode cX11_rowOf 36 = .ok (.iload_n 1, 1) := by decide +kernel
theorem dX11_rowOf_37 : decode cX11_rowOf 37 = .ok (.iload_n 2, 1) := by decide +kernel
theorem dX11_rowOf_38 : decode cX11_rowOf 38 = .ok (.invokevirtual 163, 3) := by decide +kernel
theorem dX11_rowOf_41 : decode cX11_rowOf 41 = .ok (.ifCond .eq 17, 3) := by decide +kernel
theorem dX11_rowOf_44 : decode cX11_rowOf 44 = .ok (.aload_n 0, 1) := by decide +kernel
theorem dX11_rowOf_45 : decode cX11_rowOf 45 = .ok (.getfield 37, 3) := by decide +kernel
theorem dX11_rowOf_48 : decode cX11_rowOf 48 = .ok (.getfield 138, 3) := by decide +kernel
theorem dX11_rowOf_51 : decode cX11_rowOf 51 = .ok (.iload_n 1, 1) := by decide +kernel
theorem dX11_rowOf_52 : decode cX11_rowOf 52 = .ok (.aaload, 1) := by decide +kernel
theorem dX11_rowOf_53 : decode cX11_rowOf 53 = .ok (.iload_n 2, 1) := by decide +kernel
theorem dX11_rowOf_54 : decode cX11_rowOf 54 = .ok (.iaload, 1) := by decide +kernel
theorem dX11_rowOf_55 : decode cX11_rowOf 55 = .ok (.goto 5, 3) := by decide +kernel
theorem dX11_rowOf_58 : decode cX11_rowOf 58 = .ok (.bipush (-9), 2) := by decide +kernel
theorem dX11_rowOf_60 : decode cX11_rowOf 60 = .ok (.ireturn, 1) := by decide +kernel
theorem dX11_does_0 : decode cX11_does 0 = .ok (.aload_n 0, 1) := by decide +kernel
theorem dX11_does_1 : decode cX11_does 1 = .ok (.getfield 37, 3) := by decide +kernel
theorem dX11_does_4 : decode cX11_does 4 = .ok (.iload_n 1, 1) := by decide +kernel
theorem dX11_does_5 : decode cX11_does 5 = .ok (.invokevirtual 157, 3) := by decide +kernel
theorem dX11_does_8 : decode cX11_does 8 = .ok (.ifCond .eq 10, 3) := by decide +kernel
theorem dX11_does_11 : decode cX11_does 11 = .ok (.iload_n 2, 1) := by decide +kernel
theorem dX11_does_12 : decode cX11_does 12 = .ok (.invokestatic 154, 3) := by decide +kernel
theorem dX11_does_15 : decode cX11_does 15 = .ok (.ifCond .ne 9, 3) := by decide +kernel
theorem dX11_does_18 : decode cX11_does 18 = .ok (.aload_n 0, 1) := by decide +kernel
theorem dX11_does_19 : decode cX11_does 19 = .ok (.iconst (-1), 1) := by decide +kernel
theorem dX11_does_20 : decode cX11_does 20 = .ok (.invokevirtual 108, 3) := by decide +kernel
theorem dX11_does_23 : decode cX11_does 23 = .ok (.ireturn, 1) := by decide +kernel
theorem dX11_does_24 : decode cX11_does 24 = .ok (.aload_n 0, 1) := by decide +kernel
theorem dX11_does_25 : decode cX11_does 25 = .ok (.getfield 37, 3) := by decide +kernel
theorem dX11_does_28 : decode cX11_does 28 = .ok (.iload_n 1, 1) := by decide +kernel
theorem dX11_does_29 : decode cX11_does 29 = .ok (.iload_n 2, 1) := by decide +kernel
theorem dX11_does_30 : decode cX11_does 30 = .ok (.invokevirtual 166, 3) := by decide +kernel
theorem dX11_does_33 : decode cX11_does 33 = .ok (.ireturn, 1) := by decide +kernel
theorem dX11_order_0 : decode cX11_order 0 = .ok (.aload_n 0, 1) := by decide +kernel
theorem dX11_order_1 : decode cX11_order 1 = .ok (.getfield 37, 3) := by decide +kernel
theorem dX11_order_4 : decode cX11_order 4 = .ok (.iload_n 1, 1) := by decide +kernel
theorem dX11_order_5 : decode cX11_order 5 = .ok (.invokevirtual 157, 3) := by decide +kernel
theorem dX11_order_8 : decode cX11_order 8 = .ok (.ifCond .ne 9, 3) := by decide +kernel
theorem dX11_order_11 : decode cX11_order 11 = .ok (.aload_n 0, 1) := by decide +kernel
theorem dX11_order_12 : decode cX11_order 12 = .ok (.iconst (-1), 1) := by decide +kernel
theorem dX11_order_13 : decode cX11_order 13 = .ok (.invokevirtual 108, 3) := by decide +kernel
theorem dX11_order_16 : decode cX11_order 16 = .ok (.ireturn, 1) := by decide +kernel
theorem dX11_order_17 : decode cX11_order 17 = .ok (.aload_n 0, 1) := by decide +kernel
theorem dX11_order_18 : decode cX11_order 18 = .ok (.getfield 37, 3) := by decide +kernel
theorem dX11_order_21 : decode cX11_order 21 = .ok (.getfield 170, 3) := by decide +kernel
theorem dX11_order_24 : decode cX11_order 24 = .ok (.iload_n 1, 1) := by decide +kernel
theorem dX11_order_25 : decode cX11_order 25 = .ok (.aaload, 1) := by decide +kernel
theorem dX11_order_26 : decode cX11_order 26 = .ok (.iconst 0, 1) := by decide +kernel
theorem dX11_order_27 : decode cX11_order 27 = .ok (.iaload, 1) := by decide +kernel
theorem dX11_order_28 : decode cX11_order 28 = .ok (.istore_n 2, 1) := by decide +kernel
theorem dX11_order_29 : decode cX11_order 29 = .ok (.iconst 1, 1) := by decide +kernel
theorem dX11_order_30 : decode cX11_order 30 = .ok (.istore_n 3, 1) := by decide +kernel
theorem dX11_order_31 : decode cX11_order 31 = .ok (.iload_n 2, 1) := by decide +kernel
theorem dX11_order_32 : decode cX11_order 32 = .ok (.ifCond .eq 28, 3) := by decide +kernel
theorem dX11_order_35 : decode cX11_order 35 = .ok (.iload_n 3, 1) := by decide +kernel
theorem dX11_order_36 : decode cX11_order 36 = .ok (.sipush 720, 3) := by decide +kernel
theorem dX11_order_39 : decode cX11_order 39 = .ok (.if_icmp .ge 21, 3) := by decide +kernel
theorem dX11_order_42 : decode cX11_order 42 = .ok (.aload_n 0, 1) := by decide +kernel
theorem dX11_order_43 : decode cX11_order 43 = .ok (.getfield 37, 3) := by decide +kernel
theorem dX11_order_46 : decode cX11_order 46 = .ok (.getfield 170, 3) := by decide +kernel
theorem dX11_order_49 : decode cX11_order 49 = .ok (.iload_n 1, 1) := by decide +kernel
theorem dX11_order_50 : decode cX11_order 50 = .ok (.aaload, 1) := by decide +kernel
theorem dX11_order_51 : decode cX11_order 51 = .ok (.iload_n 2, 1) := by decide +kernel
theorem dX11_order_52 : decode cX11_order 52 = .ok (.iaload, 1) := by decide +kernel
theorem dX11_order_53 : decode cX11_order 53 = .ok (.istore_n 2, 1) := by decide +kernel
theorem dX11_order_54 : decode cX11_order 54 = .ok (.iinc 3 1, 3) := by decide +kernel
theorem dX11_order_57 : decode cX11_order 57 = .ok (.goto (-26), 3) := by decide +kernel
theorem dX11_order_60 : decode cX11_order 60 = .ok (.iload_n 3, 1) := by decide +kernel
theorem dX11_order_61 : decode cX11_order 61 = .ok (.ireturn, 1) := by decide +kernel
theorem dX11_keeps_0 : decode cX11_keeps 0 = .ok (.aload_n 0, 1) := by decide +kernel
theorem dX11_keeps_1 : decode cX11_keeps 1 = .ok (.getfield 37, 3) := by decide +kernel
theorem dX11_keeps_4 : decode cX11_keeps 4 = .ok (.iload_n 1, 1) := by decide +kernel
theorem dX11_keeps_5 : decode cX11_keeps 5 = .ok (.invokevirtual 157, 3) := by decide +kernel
theorem dX11_keeps_8 : decode cX11_keeps 8 = .ok (.ifCond .ne 9, 3) := by decide +kernel
theorem dX11_keeps_11 : decode cX11_keeps 11 = .ok (.aload_n 0, 1) := by decide +kernel
theorem dX11_keeps_12 : decode cX11_keeps 12 = .ok (.iconst (-1), 1) := by decide +kernel
theorem dX11_keeps_13 : decode cX11_keeps 13 = .ok (.invokevirtual 108, 3) := by decide +kernel
theorem dX11_keeps_16 : decode cX11_keeps 16 = .ok (.ireturn, 1) := by decide +kernel
theorem dX11_keeps_17 : decode cX11_keeps 17 = .ok (.aload_n 0, 1) := by decide +kernel
theorem dX11_keeps_18 : decode cX11_keeps 18 = .ok (.getfield 19, 3) := by decide +kernel
theorem dX11_keeps_21 : decode cX11_keeps 21 = .ok (.getfield 173, 3) := by decide +kernel
theorem dX11_keeps_24 : decode cX11_keeps 24 = .ok (.aload_n 0, 1) := by decide +kernel
theorem dX11_keeps_25 : decode cX11_keeps 25 = .ok (.getfield 37, 3) := by decide +kernel
theorem dX11_keeps_28 : decode cX11_keeps 28 = .ok (.getfield 170, 3) := by decide +kernel
theorem dX11_keeps_31 : decode cX11_keeps 31 = .ok (.iload_n 1, 1) := by decide +kernel
theorem dX11_keeps_32 : decode cX11_keeps 32 = .ok (.aaload, 1) := by decide +kernel
theorem dX11_keeps_33 : decode cX11_keeps 33 = .ok (.iconst 0, 1) := by decide +kernel
theorem dX11_keeps_34 : decode cX11_keeps 34 = .ok (.iaload, 1) := by decide +kernel
theorem dX11_keeps_35 : decode cX11_keeps 35 = .ok (.iaload, 1) := by decide +kernel
theorem dX11_keeps_36 : decode cX11_keeps 36 = .ok (.ireturn, 1) := by decide +kernel
theorem dX11_now_0 : decode cX11_now 0 = .ok (.iload_n 1, 1) := by decide +kernel
theorem dX11_now_1 : decode cX11_now 1 = .ok (.invokestatic 154, 3) := by decide +kernel
theorem dX11_now_4 : decode cX11_now 4 = .ok (.ifCond .ne 9, 3) := by decide +kernel
theorem dX11_now_7 : decode cX11_now 7 = .ok (.aload_n 0, 1) := by decide +kernel
theorem dX11_now_8 : decode cX11_now 8 = .ok (.iconst (-1), 1) := by decide +kernel
theorem dX11_now_9 : decode cX11_now 9 = .ok (.invokevirtual 108, 3) := by decide +kernel
theorem dX11_now_12 : decode cX11_now 12 = .ok (.ireturn, 1) := by decide +kernel
theorem dX11_now_13 : decode cX11_now 13 = .ok (.aload_n 0, 1) := by decide +kernel
theorem dX11_now_14 : decode cX11_now 14 = .ok (.getfield 19, 3) := by decide +kernel
theorem dX11_now_17 : decode cX11_now 17 = .ok (.aload_n 0, 1) := by decide +kernel
theorem dX11_now_18 : decode cX11_now 18 = .ok (.getfield 100, 3) := by decide +kernel
theorem dX11_now_21 : decode cX11_now 21 = .ok (.iload_n 1, 1) := by decide +kernel
theorem dX11_now_22 : decode cX11_now 22 = .ok (.invokevirtual 176, 3) := by decide +kernel
theorem dX11_now_25 : decode cX11_now 25 = .ok (.ireturn, 1) := by decide +kernel
theorem dX11_make_0 : decode cX11_make 0 = .ok (.aload_n 0, 1) := by decide +kernel
theorem dX11_make_1 : decode cX11_make 1 = .ok (.getfield 28, 3) := by decide +kernel
theorem dX11_make_4 : decode cX11_make 4 = .ok (.iload_n 1, 1) := by decide +kernel
theorem dX11_make_5 : decode cX11_make 5 = .ok (.invokevirtual 150, 3) := by decide +kernel
theorem dX11_make_8 : decode cX11_make 8 = .ok (.ifCond .ne 9, 3) := by decide +kernel
theorem dX11_make_11 : decode cX11_make 11 = .ok (.aload_n 0, 1) := by decide +kernel
theorem dX11_make_12 : decode cX11_make 12 = .ok (.iconst (-1), 1) := by decide +kernel
theorem dX11_make_13 : decode cX11_make 13 = .ok (.invokevirtual 108, 3) := by decide +kernel
theorem dX11_make_16 : decode cX11_make 16 = .ok (.ireturn, 1) := by decide +kernel
theorem dX11_make_17 : decode cX11_make 17 = .ok (.aload_n 0, 1) := by decide +kernel
theorem dX11_make_18 : decode cX11_make 18 = .ok (.aload_n 0, 1) := by decide +kernel
theorem dX11_make_19 : decode cX11_make 19 = .ok (.getfield 28, 3) := by decide +kernel
theorem dX11_make_22 : decode cX11_make 22 = .ok (.getfield 179, 3) := by decide +kernel
theorem dX11_make_25 : decode cX11_make 25 = .ok (.iload_n 1, 1) := by decide +kernel
theorem dX11_make_26 : decode cX11_make 26 = .ok (.aaload, 1) := by decide +kernel
theorem dX11_make_27 : decode cX11_make 27 = .ok (.aload_n 0, 1) := by decide +kernel
theorem dX11_make_28 : decode cX11_make 28 = .ok (.getfield 100, 3) := by decide +kernel
theorem dX11_make_31 : decode cX11_make 31 = .ok (.iaload, 1) := by decide +kernel
theorem dX11_make_32 : decode cX11_make 32 = .ok (.putfield 100, 3) := by decide +kernel
theorem dX11_make_35 : decode cX11_make 35 = .ok (.aload_n 0, 1) := by decide +kernel
theorem dX11_make_36 : decode cX11_make 36 = .ok (.invokevirtual 182, 3) := by decide +kernel
theorem dX11_make_39 : decode cX11_make 39 = .ok (.ireturn, 1) := by decide +kernel
theorem dX11_makeRow_0 : decode cX11_makeRow 0 = .ok (.aload_n 0, 1) := by decide +kernel
theorem dX11_makeRow_1 : decode cX11_makeRow 1 = .ok (.getfield 37, 3) := by decide +kernel
theorem dX11_makeRow_4 : decode cX11_makeRow 4 = .ok (.iload_n 1, 1) := by decide +kernel
theorem dX11_makeRow_5 : decode cX11_makeRow 5 = .ok (.invokevirtual 157, 3) := by decide +kernel
theorem dX11_makeRow_8 : decode cX11_makeRow 8 = .ok (.ifCond .ne 9, 3) := by decide +kernel
theorem dX11_makeRow_11 : decode cX11_makeRow 11 = .ok (.aload_n 0, 1) := by decide +kernel
theorem dX11_makeRow_12 : decode cX11_makeRow 12 = .ok (.iconst (-1), 1) := by decide +kernel
theorem dX11_makeRow_13 : decode cX11_makeRow 13 = .ok (.invokevirtual 108, 3) := by decide +kernel
theorem dX11_makeRow_16 : decode cX11_makeRow 16 = .ok (.ireturn, 1) := by decide +kernel
theorem dX11_makeRow_17 : decode cX11_makeRow 17 = .ok (.aload_n 0, 1) := by decide +kernel
theorem dX11_makeRow_18 : decode cX11_makeRow 18 = .ok (.aload_n 0, 1) := by decide +kernel
theorem dX11_makeRow_19 : decode cX11_makeRow 19 = .ok (.getfield 37, 3) := by decide +kernel
theorem dX11_makeRow_22 : decode cX11_makeRow 22 = .ok (.getfield 170, 3) := by decide +kernel
theorem dX11_makeRow_25 : decode cX11_makeRow 25 = .ok (.iload_n 1, 1) := by decide +kernel
theorem dX11_makeRow_26 : decode cX11_makeRow 26 = .ok (.aaload, 1) := by decide +kernel
theorem dX11_makeRow_27 : decode cX11_makeRow 27 = .ok (.aload_n 0, 1) := by decide +kernel
theorem dX11_makeRow_28 : decode cX11_makeRow 28 = .ok (.getfield 100, 3) := by decide +kernel
theorem dX11_makeRow_31 : decode cX11_makeRow 31 = .ok (.iaload, 1) := by decide +kernel
theorem dX11_makeRow_32 : decode cX11_makeRow 32 = .ok (.putfield 100, 3) := by decide +kernel
theorem dX11_makeRow_35 : decode cX11_makeRow 35 = .ok (.aload_n 0, 1) := by decide +kernel
theorem dX11_makeRow_36 : decode cX11_makeRow 36 = .ok (.invokevirtual 182, 3) := by decide +kernel
theorem dX11_makeRow_39 : decode cX11_makeRow 39 = .ok (.ireturn, 1) := by decide +kernel
theorem dX11_put_0 : decode cX11_put 0 = .ok (.iload_n 1, 1) := by decide +kernel
theorem dX11_put_1 : decode cX11_put 1 = .ok (.iconst 0, 1) := by decide +kernel
theorem dX11_put_2 : decode cX11_put 2 = .ok (.sipush 719, 3) := by decide +kernel
theorem dX11_put_5 : decode cX11_put 5 = .ok (.invokestatic 104, 3) := by decide +kernel
theorem dX11_put_8 : decode cX11_put 8 = .ok (.istore_n 2, 1) := by decide +kernel
theorem dX11_put_9 : decode cX11_put 9 = .ok (.iload_n 2, 1) := by decide +kernel
theorem dX11_put_10 : decode cX11_put 10 = .ok (.ifCond .eq 9, 3) := by decide +kernel
theorem dX11_put_13 : decode cX11_put 13 = .ok (.aload_n 0, 1) := by decide +kernel
theorem dX11_put_14 : decode cX11_put 14 = .ok (.iload_n 2, 1) := by decide +kernel
theorem dX11_put_15 : decode cX11_put 15 = .ok (.invokevirtual 108, 3) := by decide +kernel
theorem dX11_put_18 : decode cX11_put 18 = .ok (.ireturn, 1) := by decide +kernel
theorem dX11_put_19 : decode cX11_put 19 = .ok (.aload_n 0, 1) := by decide +kernel
theorem dX11_put_20 : decode cX11_put 20 = .ok (.iload_n 1, 1) := by decide +kernel
theorem dX11_put_21 : decode cX11_put 21 = .ok (.putfield 100, 3) := by decide +kernel
theorem dX11_put_24 : decode cX11_put 24 = .ok (.aload_n 0, 1) := by decide +kernel
theorem dX11_put_25 : decode cX11_put 25 = .ok (.invokevirtual 182, 3) := by decide +kernel
theorem dX11_put_28 : decode cX11_put 28 = .ok (.ireturn, 1) := by decide +kernel
theorem dX11_time_0 : decode cX11_time 0 = .ok (.aload_n 0, 1) := by decide +kernel
theorem dX11_time_1 : decode cX11_time 1 = .ok (.getfield 28, 3) := by decide +kernel
theorem dX11_time_4 : decode cX11_time 4 = .ok (.iload_n 1, 1) := by decide +kernel
theorem dX11_time_5 : decode cX11_time 5 = .ok (.invokevirtual 186, 3) := by decide +kernel
theorem dX11_time_8 : decode cX11_time 8 = .ok (.ifCond .ne 9, 3) := by decide +kernel
theorem dX11_time_11 : decode cX11_time 11 = .ok (.aload_n 0, 1) := by decide +kernel
theorem dX11_time_12 : decode cX11_time 12 = .ok (.iconst (-1), 1) := by decide +kernel
theorem dX11_time_13 : decode cX11_time 13 = .ok (.invokevirtual 108, 3) := by decide +kernel
theorem dX11_time_16 : decode cX11_time 16 = .ok (.ireturn, 1) := by decide +kernel
theorem dX11_time_17 : decode cX11_time 17 = .ok (.iload_n 2, 1) := by decide +kernel
theorem dX11_time_18 : decode cX11_time 18 = .ok (.ifCond .eq 15, 3) := by decide +kernel
theorem dX11_time_21 : decode cX11_time 21 = .ok (.iload_n 2, 1) := by decide +kernel
theorem dX11_time_22 : decode cX11_time 22 = .ok (.iconst 1, 1) := by decide +kernel
theorem dX11_time_23 : decode cX11_time 23 = .ok (.if_icmp .eq 10, 3) := by decide +kernel
theorem dX11_time_26 : decode cX11_time 26 = .ok (.aload_n 0, 1) := by decide +kernel
theorem dX11_time_27 : decode cX11_time 27 = .ok (.bipush (-2), 2) := by decide +kernel
theorem dX11_time_29 : decode cX11_time 29 = .ok (.invokevirtual 108, 3) := by decide +kernel
theorem dX11_time_32 : decode cX11_time 32 = .ok (.ireturn, 1) := by decide +kernel
theorem dX11_time_33 : decode cX11_time 33 = .ok (.iload_n 3, 1) := by decide +kernel
theorem dX11_time_34 : decode cX11_time 34 = .ok (.iload_n 2, 1) := by decide +kernel
theorem dX11_time_35 : decode cX11_time 35 = .ok (.ifCond .ne 7, 3) := by decide +kernel
theorem dX11_time_38 : decode cX11_time 38 = .ok (.iconst 1, 1) := by decide +kernel
theorem dX11_time_39 : decode cX11_time 39 = .ok (.goto 4, 3) := by decide +kernel
theorem dX11_time_42 : decode cX11_time 42 = .ok (.iconst 0, 1) := by decide +kernel
theorem dX11_time_43 : decode cX11_time 43 = .ok (.bipush 99, 2) := by decide +kernel
theorem dX11_time_45 : decode cX11_time 45 = .ok (.invokestatic 104, 3) := by decide +kernel
theorem dX11_time_48 : decode cX11_time 48 = .ok (.istore 4, 2) := by decide +kernel
theorem dX11_time_50 : decode cX11_time 50 = .ok (.iload 4, 2) := by decide +kernel
theorem dX11_time_52 : decode cX11_time 52 = .ok (.ifCond .eq 10, 3) := by decide +kernel
theorem dX11_time_55 : decode cX11_time 55 = .ok (.aload_n 0, 1) := by decide +kernel
theorem dX11_time_56 : decode cX11_time 56 = .ok (.iload 4, 2) := by decide +kernel
theorem dX11_time_58 : decode cX11_time 58 = .ok (.invokevirtual 108, 3) := by decide +kernel
theorem dX11_time_61 : decode cX11_time 61 = .ok (.ireturn, 1) := by decide +kernel
theorem dX11_time_62 : decode cX11_time 62 = .ok (.aload_n 0, 1) := by decide +kernel
theorem dX11_time_63 : decode cX11_time 63 = .ok (.getfield 44, 3) := by decide +kernel
theorem dX11_time_66 : decode cX11_time 66 = .ok (.getfield 187, 3) := by decide +kernel
theorem dX11_time_69 : decode cX11_time 69 = .ok (.iload_n 2, 1) := by decide +kernel
theorem dX11_time_70 : decode cX11_time 70 = .ok (.aaload, 1) := by decide +kernel
theorem dX11_time_71 : decode cX11_time 71 = .ok (.iload_n 1, 1) := by decide +kernel
theorem dX11_time_72 : decode cX11_time 72 = .ok (.iload_n 3, 1) := by decide +kernel
theorem dX11_time_73 : decode cX11_time 73 = .ok (.invokestatic 190, 3) := by decide +kernel
theorem dX11_time_76 : decode cX11_time 76 = .ok (.ireturn, 1) := by decide +kernel
theorem dX11_after_0 : decode cX11_after 0 = .ok (.aload_n 0, 1) := by decide +kernel
theorem dX11_after_1 : decode cX11_after 1 = .ok (.getfield 28, 3) := by decide +kernel
theorem dX11_after_4 : decode cX11_after 4 = .ok (.iload_n 1, 1) := by decide +kernel
theorem dX11_after_5 : decode cX11_after 5 = .ok (.invokevirtual 186, 3) := by decide +kernel
theorem dX11_after_8 : decode cX11_after 8 = .ok (.ifCond .eq 14, 3) := by decide +kernel
theorem dX11_after_11 : decode cX11_after 11 = .ok (.aload_n 0, 1) := by decide +kernel
theorem dX11_after_12 : decode cX11_after 12 = .ok (.getfield 28, 3) := by decide +kernel
theorem dX11_after_15 : decode cX11_after 15 = .ok (.iload_n 2, 1) := by decide +kernel
theorem dX11_after_16 : decode cX11_after 16 = .ok (.invokevirtual 186, 3) := by decide +kernel
theorem dX11_after_19 : decode cX11_after 19 = .ok (.ifCond .ne 12, 3) := by decide +kernel
theorem dX11_after_22 : decode cX11_after 22 = .ok (.ldc 194, 2) := by decide +kernel
theorem dX11_after_24 : decode cX11_after 24 = .ok (.aload_n 0, 1) := by decide +kernel
theorem dX11_after_25 : decode cX11_after 25 = .ok (.iconst (-1), 1) := by decide +kernel
theorem dX11_after_26 : decode cX11_after 26 = .ok (.invokevirtual 108, 3) := by decide +kernel
theorem dX11_after_29 : decode cX11_after 29 = .ok (.isub, 1) := by decide +kernel
theorem dX11_after_30 : decode cX11_after 30 = .ok (.ireturn, 1) := by decide +kernel
theorem dX11_after_31 : decode cX11_after 31 = .ok (.iload_n 3, 1) := by decide +kernel
theorem dX11_after_32 : decode cX11_after 32 = .ok (.bipush (-9), 2) := by decide +kernel
theorem dX11_after_34 : decode cX11_after 34 = .ok (.bipush 99, 2) := by decide +kernel
theorem dX11_after_36 : decode cX11_after 36 = .ok (.invokestatic 104, 3) := by decide +kernel
theorem dX11_after_39 : decode cX11_after 39 = .ok (.istore 4, 2) := by decide +kernel
theorem dX11_after_41 : decode cX11_after 41 = .ok (.iload 4, 2) := by decide +kernel
theorem dX11_after_43 : decode cX11_after 43 = .ok (.ifCond .eq 13, 3) := by decide +kernel
theorem dX11_after_46 : decode cX11_after 46 = .ok (.ldc 194, 2) := by decide +kernel
theorem dX11_after_48 : decode cX11_after 48 = .ok (.aload_n 0, 1) := by decide +kernel
theorem dX11_after_49 : decode cX11_after 49 = .ok (.iload 4, 2) := by decide +kernel
theorem dX11_after_51 : decode cX11_after 51 = .ok (.invokevirtual 108, 3) := by decide +kernel
theorem dX11_after_54 : decode cX11_after 54 = .ok (.isub, 1) := by decide +kernel
theorem dX11_after_55 : decode cX11_after 55 = .ok (.ireturn, 1) := by decide +kernel
theorem dX11_after_56 : decode cX11_after 56 = .ok (.aload_n 0, 1) := by decide +kernel
theorem dX11_after_57 : decode cX11_after 57 = .ok (.getfield 44, 3) := by decide +kernel
theorem dX11_after_60 : decode cX11_after 60 = .ok (.getfield 195, 3) := by decide +kernel
theorem dX11_after_63 : decode cX11_after 63 = .ok (.iload_n 1, 1) := by decide +kernel
theorem dX11_after_64 : decode cX11_after 64 = .ok (.aaload, 1) := by decide +kernel
theorem dX11_after_65 : decode cX11_after 65 = .ok (.iload_n 2, 1) := by decide +kernel
theorem dX11_after_66 : decode cX11_after 66 = .ok (.iload_n 3, 1) := by decide +kernel
theorem dX11_after_67 : decode cX11_after 67 = .ok (.invokestatic 190, 3) := by decide +kernel
theorem dX11_after_70 : decode cX11_after 70 = .ok (.ireturn, 1) := by decide +kernel
theorem dX11_locks_0 : decode cX11_locks 0 = .ok (.iload_n 1, 1) := by decide +kernel
theorem dX11_locks_1 : decode cX11_locks 1 = .ok (.ifCond .eq 15, 3) := by decide +kernel
theorem dX11_locks_4 : decode cX11_locks 4 = .ok (.iload_n 1, 1) := by decide +kernel
theorem dX11_locks_5 : decode cX11_locks 5 = .ok (.iconst 1, 1) := by decide +kernel
theorem dX11_locks_6 : decode cX11_locks 6 = .ok (.if_icmp .eq 10, 3) := by decide +kernel
theorem dX11_locks_9 : decode cX11_locks 9 = .ok (.aload_n 0, 1) := by decide +kernel
theorem dX11_locks_10 : decode cX11_locks 10 = .ok (.bipush (-2), 2) := by decide +kernel
theorem dX11_locks_12 : decode cX11_locks 12 = .ok (.invokevirtual 108, 3) := by decide +kernel
theorem dX11_locks_15 : decode cX11_locks 15 = .ok (.ireturn, 1) := by decide +kernel
theorem dX11_locks_16 : decode cX11_locks 16 = .ok (.iload_n 2, 1) := by decide +kernel
theorem dX11_locks_17 : decode cX11_locks 17 = .ok (.iconst 0, 1) := by decide +kernel
theorem dX11_locks_18 : decode cX11_locks 18 = .ok (.iload_n 1, 1) := by decide +kernel
theorem dX11_locks_19 : decode cX11_locks 19 = .ok (.ifCond .ne 8, 3) := by decide +kernel
theorem dX11_locks_22 : decode cX11_locks 22 = .ok (.bipush 100, 2) := by decide +kernel
theorem dX11_locks_24 : decode cX11_locks 24 = .ok (.goto 5, 3) := by decide +kernel
theorem dX11_locks_27 : decode cX11_locks 27 = .ok (.bipush 99, 2) := by decide +kernel
theorem dX11_locks_29 : decode cX11_locks 29 = .ok (.invokestatic 104, 3) := by decide +kernel
theorem dX11_locks_32 : decode cX11_locks 32 = .ok (.istore_n 3, 1) := by decide +kernel
theorem dX11_locks_33 : decode cX11_locks 33 = .ok (.iload_n 3, 1) := by decide +kernel
theorem dX11_locks_34 : decode cX11_locks 34 = .ok (.ifCond .eq 9, 3) := by decide +kernel
theorem dX11_locks_37 : decode cX11_locks 37 = .ok (.aload_n 0, 1) := by decide +kernel
theorem dX11_locks_38 : decode cX11_locks 38 = .ok (.iload_n 3, 1) := by decide +kernel
theorem dX11_locks_39 : decode cX11_locks 39 = .ok (.invokevirtual 108, 3) := by decide +kernel
theorem dX11_locks_42 : decode cX11_locks 42 = .ok (.ireturn, 1) := by decide +kernel
theorem dX11_locks_43 : decode cX11_locks 43 = .ok (.aload_n 0, 1) := by decide +kernel
theorem dX11_locks_44 : decode cX11_locks 44 = .ok (.getfield 44, 3) := by decide +kernel
theorem dX11_locks_47 : decode cX11_locks 47 = .ok (.getfield 198, 3) := by decide +kernel
theorem dX11_locks_50 : decode cX11_locks 50 = .ok (.iload_n 1, 1) := by decide +kernel
theorem dX11_locks_51 : decode cX11_locks 51 = .ok (.iload_n 2, 1) := by decide +kernel
theorem dX11_locks_52 : decode cX11_locks 52 = .ok (.invokestatic 190, 3) := by decide +kernel
theorem dX11_locks_55 : decode cX11_locks 55 = .ok (.ireturn, 1) := by decide +kernel
theorem dX11_kind_0 : decode cX11_kind 0 = .ok (.aload_n 0, 1) := by decide +kernel
theorem dX11_kind_1 : decode cX11_kind 1 = .ok (.getfield 37, 3) := by decide +kernel
theorem dX11_kind_4 : decode cX11_kind 4 = .ok (.iload_n 1, 1) := by decide +kernel
theorem dX11_kind_5 : decode cX11_kind 5 = .ok (.invokevirtual 157, 3) := by decide +kernel
theorem dX11_kind_8 : decode cX11_kind 8 = .ok (.ifCond .ne 9, 3) := by decide +kernel
theorem dX11_kind_11 : decode cX11_kind 11 = .ok (.aload_n 0, 1) := by decide +kernel
theorem dX11_kind_12 : decode cX11_kind 12 = .ok (.iconst (-1), 1) := by decide +kernel
theorem dX11_kind_13 : decode cX11_kind 13 = .ok (.invokevirtual 108, 3) := by decide +kernel
theorem dX11_kind_16 : decode cX11_kind 16 = .ok (.ireturn, 1) := by decide +kernel
theorem dX11_kind_17 : decode cX11_kind 17 = .ok (.aload_n 0, 1) := by decide +kernel
theorem dX11_kind_18 : decode cX11_kind 18 = .ok (.getfield 37, 3) := by decide +kernel
theorem dX11_kind_21 : decode cX11_kind 21 = .ok (.iload_n 1, 1) := by decide +kernel
theorem dX11_kind_22 : decode cX11_kind 22 = .ok (.iload_n 2, 1) := by decide +kernel
theorem dX11_kind_23 : decode cX11_kind 23 = .ok (.invokevirtual 163, 3) := by decide +kernel
theorem dX11_kind_26 : decode cX11_kind 26 = .ok (.ifCond .eq 33, 3) := by decide +kernel
theorem dX11_kind_29 : decode cX11_kind 29 = .ok (.aload_n 0, 1) := by decide +kernel
theorem dX11_kind_30 : decode cX11_kind 30 = .ok (.getfield 44, 3) := by decide +kernel
theorem dX11_kind_33 : decode cX11_kind 33 = .ok (.aload_n 0, 1) := by decide +kernel
theorem dX11_kind_34 : decode cX11_kind 34 = .ok (.getfield 37, 3) := by decide +kernel
theorem dX11_kind_37 : decode cX11_kind 37 = .ok (.getfield 138, 3) := by decide +kernel
theorem dX11_kind_40 : decode cX11_kind 40 = .ok (.iload_n 1, 1) := by decide +kernel
theorem dX11_kind_41 : decode cX11_kind 41 = .ok (.aaload, 1) := by decide +kernel
theorem dX11_kind_42 : decode cX11_kind 42 = .ok (.iload_n 2, 1) := by decide +kernel
theorem dX11_kind_43 : decode cX11_kind 43 = .ok (.iaload, 1) := by decide +kernel
theorem dX11_kind_44 : decode cX11_kind 44 = .ok (.aload_n 0, 1) := by decide +kernel
theorem dX11_kind_45 : decode cX11_kind 45 = .ok (.getfield 37, 3) := by decide +kernel
theorem dX11_kind_48 : decode cX11_kind 48 = .ok (.iload_n 1, 1) := by decide +kernel
theorem dX11_kind_49 : decode cX11_kind 49 = .ok (.iload_n 2, 1) := by decide +kernel
theorem dX11_kind_50 : decode cX11_kind 50 = .ok (.invokevirtual 201, 3) := by decide +kernel
theorem dX11_kind_53 : decode cX11_kind 53 = .ok (.invokevirtual 204, 3) := by decide +kernel
theorem dX11_kind_56 : decode cX11_kind 56 = .ok (.goto 5, 3) := by decide +kernel
theorem dX11_kind_59 : decode cX11_kind 59 = .ok (.bipush (-9), 2) := by decide +kernel
theorem dX11_kind_61 : decode cX11_kind 61 = .ok (.ireturn, 1) := by decide +kernel
theorem dX11_seconds_0 : decode cX11_seconds 0 = .ok (.aload_n 0, 1) := by decide +kernel
theorem dX11_seconds_1 : decode cX11_seconds 1 = .ok (.getfield 37, 3) := by decide +kernel
theorem dX11_seconds_4 : decode cX11_seconds 4 = .ok (.iload_n 1, 1) := by decide +kernel
theorem dX11_seconds_5 : decode cX11_seconds 5 = .ok (.invokevirtual 157, 3) := by decide +kernel
theorem dX11_seconds_8 : decode cX11_seconds 8 = .ok (.ifCond .ne 9, 3) := by decide +kernel
theorem dX11_seconds_11 : decode cX11_seconds 11 = .ok (.aload_n 0, 1) := by decide +kernel
theorem dX11_seconds_12 : decode cX11_seconds 12 = .ok (.iconst (-1), 1) := by decide +kernel
theorem dX11_seconds_13 : decode cX11_seconds 13 = .ok (.invokevirtual 108, 3) := by decide +kernel
theorem dX11_seconds_16 : decode cX11_seconds 16 = .ok (.ireturn, 1) := by decide +kernel
theorem dX11_seconds_17 : decode cX11_seconds 17 = .ok (.aload_n 0, 1) := by decide +kernel
theorem dX11_seconds_18 : decode cX11_seconds 18 = .ok (.getfield 44, 3) := by decide +kernel
theorem dX11_seconds_21 : decode cX11_seconds 21 = .ok (.aload_n 0, 1) := by decide +kernel
theorem dX11_seconds_22 : decode cX11_seconds 22 = .ok (.getfield 37, 3) := by decide +kernel
theorem dX11_seconds_25 : decode cX11_seconds 25 = .ok (.iload_n 1, 1) := by decide +kernel
theorem dX11_seconds_26 : decode cX11_seconds 26 = .ok (.invokevirtual 207, 3) := by decide +kernel
theorem dX11_seconds_29 : decode cX11_seconds 29 = .ok (.ireturn, 1) := by decide +kernel
theorem dX11_mean_0 : decode cX11_mean 0 = .ok (.aload_n 0, 1) := by decide +kernel
theorem dX11_mean_1 : decode cX11_mean 1 = .ok (.getfield 37, 3) := by decide +kernel
theorem dX11_mean_4 : decode cX11_mean 4 = .ok (.iload_n 1, 1) := by decide +kernel
theorem dX11_mean_5 : decode cX11_mean 5 = .ok (.invokevirtual 157, 3) := by decide +kernel
theorem dX11_mean_8 : decode cX11_mean 8 = .ok (.ifCond .ne 9, 3) := by decide +kernel
theorem dX11_mean_11 : decode cX11_mean 11 = .ok (.aload_n 0, 1) := by decide +kernel
theorem dX11_mean_12 : decode cX11_mean 12 = .ok (.iconst (-1), 1) := by decide +kernel
theorem dX11_mean_13 : decode cX11_mean 13 = .ok (.invokevirtual 108, 3) := by decide +kernel
theorem dX11_mean_16 : decode cX11_mean 16 = .ok (.ireturn, 1) := by decide +kernel
theorem dX11_mean_17 : decode cX11_mean 17 = .ok (.bipush 100, 2) := by decide +kernel
theorem dX11_mean_19 : decode cX11_mean 19 = .ok (.aload_n 0, 1) := by decide +kernel
theorem dX11_mean_20 : decode cX11_mean 20 = .ok (.getfield 44, 3) := by decide +kernel
theorem dX11_mean_23 : decode cX11_mean 23 = .ok (.aload_n 0, 1) := by decide +kernel
theorem dX11_mean_24 : decode cX11_mean 24 = .ok (.getfield 37, 3) := by decide +kernel
theorem dX11_mean_27 : decode cX11_mean 27 = .ok (.iload_n 1, 1) := by decide +kernel
theorem dX11_mean_28 : decode cX11_mean 28 = .ok (.invokevirtual 207, 3) := by decide +kernel
theorem dX11_mean_31 : decode cX11_mean 31 = .ok (.imul, 1) := by decide +kernel
theorem dX11_mean_32 : decode cX11_mean 32 = .ok (.aload_n 0, 1) := by decide +kernel
theorem dX11_mean_33 : decode cX11_mean 33 = .ok (.getfield 37, 3) := by decide +kernel
theorem dX11_mean_36 : decode cX11_mean 36 = .ok (.getfield 160, 3) := by decide +kernel
theorem dX11_mean_39 : decode cX11_mean 39 = .ok (.iload_n 1, 1) := by decide +kernel
theorem dX11_mean_40 : decode cX11_mean 40 = .ok (.iaload, 1) := by decide +kernel
theorem dX11_mean_41 : decode cX11_mean 41 = .ok (.aload_n 0, 1) := by decide +kernel
theorem dX11_mean_42 : decode cX11_mean 42 = .ok (.getfield 44, 3) := by decide +kernel
theorem dX11_mean_45 : decode cX11_mean 45 = .ok (.getfield 198, 3) := by decide +kernel
theorem dX11_mean_48 : decode cX11_mean 48 = .ok (.iconst 0, 1) := by decide +kernel
theorem dX11_mean_49 : decode cX11_mean 49 = .ok (.iaload, 1) := by decide +kernel
theorem dX11_mean_50 : decode cX11_mean 50 = .ok (.imul, 1) := by decide +kernel
theorem dX11_mean_51 : decode cX11_mean 51 = .ok (.aload_n 0, 1) := by decide +kernel
theorem dX11_mean_52 : decode cX11_mean 52 = .ok (.getfield 44, 3) := by decide +kernel
theorem dX11_mean_55 : decode cX11_mean 55 = .ok (.getfield 198, 3) := by decide +kernel
theorem dX11_mean_58 : decode cX11_mean 58 = .ok (.iconst 1, 1) := by decide +kernel
theorem dX11_mean_59 : decode cX11_mean 59 = .ok (.iaload, 1) := by decide +kernel
theorem dX11_mean_60 : decode cX11_mean 60 = .ok (.imul, 1) := by decide +kernel
theorem dX11_mean_61 : decode cX11_mean 61 = .ok (.iadd, 1) := by decide +kernel
theorem dX11_mean_62 : decode cX11_mean 62 = .ok (.ireturn, 1) := by decide +kernel
theorem dX11_drawn_0 : decode cX11_drawn 0 = .ok (.aload_n 0, 1) := by decide +kernel
theorem dX11_drawn_1 : decode cX11_drawn 1 = .ok (.getfield 37, 3) := by decide +kernel
theorem dX11_drawn_4 : decode cX11_drawn 4 = .ok (.iload_n 1, 1) := by decide +kernel
theorem dX11_drawn_5 : decode cX11_drawn 5 = .ok (.invokevirtual 157, 3) := by decide +kernel
theorem dX11_drawn_8 : decode cX11_drawn 8 = .ok (.ifCond .ne 9, 3) := by decide +kernel
theorem dX11_drawn_11 : decode cX11_drawn 11 = .ok (.aload_n 0, 1) := by decide +kernel
theorem dX11_drawn_12 : decode cX11_drawn 12 = .ok (.iconst (-1), 1) := by decide +kernel
theorem dX11_drawn_13 : decode cX11_drawn 13 = .ok (.invokevirtual 108, 3) := by decide +kernel
theorem dX11_drawn_16 : decode cX11_drawn 16 = .ok (.ireturn, 1) := by decide +kernel
theorem dX11_drawn_17 : decode cX11_drawn 17 = .ok (.aload_n 0, 1) := by decide +kernel
theorem dX11_drawn_18 : decode cX11_drawn 18 = .ok (.getfield 44, 3) := by decide +kernel
theorem dX11_drawn_21 : decode cX11_drawn 21 = .ok (.aload_n 0, 1) := by decide +kernel
theorem dX11_drawn_22 : decode cX11_drawn 22 = .ok (.getfield 37, 3) := by decide +kernel
theorem dX11_drawn_25 : decode cX11_drawn 25 = .ok (.iload_n 1, 1) := by decide +kernel
theorem dX11_drawn_26 : decode cX11_drawn 26 = .ok (.invokevirtual 207, 3) := by decide +kernel
theorem dX11_drawn_29 : decode cX11_drawn 29 = .ok (.aload_n 0, 1) := by decide +kernel
theorem dX11_drawn_30 : decode cX11_drawn 30 = .ok (.getfield 44, 3) := by decide +kernel
theorem dX11_drawn_33 : decode cX11_drawn 33 = .ok (.aload_n 0, 1) := by decide +kernel
theorem dX11_drawn_34 : decode cX11_drawn 34 = .ok (.getfield 37, 3) := by decide +kernel
theorem dX11_drawn_37 : decode cX11_drawn 37 = .ok (.getfield 160, 3) := by decide +kernel
theorem dX11_drawn_40 : decode cX11_drawn 40 = .ok (.iload_n 1, 1) := by decide +kernel
theorem dX11_drawn_41 : decode cX11_drawn 41 = .ok (.iaload, 1) := by decide +kernel
theorem dX11_drawn_42 : decode cX11_drawn 42 = .ok (.iload_n 2, 1) := by decide +kernel
theorem dX11_drawn_43 : decode cX11_drawn 43 = .ok (.invokevirtual 211, 3) := by decide +kernel
theorem dX11_drawn_46 : decode cX11_drawn 46 = .ok (.aload_n 0, 1) := by decide +kernel
theorem dX11_drawn_47 : decode cX11_drawn 47 = .ok (.getfield 44, 3) := by decide +kernel
theorem dX11_drawn_50 : decode cX11_drawn 50 = .ok (.getfield 198, 3) := by decide +kernel
theorem dX11_drawn_53 : decode cX11_drawn 53 = .ok (.iconst 1, 1) := by decide +kernel
theorem dX11_drawn_54 : decode cX11_drawn 54 = .ok (.iaload, 1) := by decide +kernel
theorem dX11_drawn_55 : decode cX11_drawn 55 = .ok (.imul, 1) := by decide +kernel
theorem dX11_drawn_56 : decode cX11_drawn 56 = .ok (.iadd, 1) := by decide +kernel
theorem dX11_drawn_57 : decode cX11_drawn 57 = .ok (.ireturn, 1) := by decide +kernel
theorem dX11_better_0 : decode cX11_better 0 = .ok (.aload_n 0, 1) := by decide +kernel
theorem dX11_better_1 : decode cX11_better 1 = .ok (.getfield 37, 3) := by decide +kernel
theorem dX11_better_4 : decode cX11_better 4 = .ok (.iload_n 1, 1) := by decide +kernel
theorem dX11_better_5 : decode cX11_better 5 = .ok (.invokevirtual 157, 3) := by decide +kernel
theorem dX11_better_8 : decode cX11_better 8 = .ok (.ifCond .ne 9, 3) := by decide +kernel
theorem dX11_better_11 : decode cX11_better 11 = .ok (.aload_n 0, 1) := by decide +kernel
theorem dX11_better_12 : decode cX11_better 12 = .ok (.iconst (-1), 1) := by decide +kernel
theorem dX11_better_13 : decode cX11_better 13 = .ok (.invokevirtual 108, 3) := by decide +kernel
theorem dX11_better_16 : decode cX11_better 16 = .ok (.ireturn, 1) := by decide +kernel
theorem dX11_better_17 : decode cX11_better 17 = .ok (.iload_n 2, 1) := by decide +kernel
theorem dX11_better_18 : decode cX11_better 18 = .ok (.iconst 1, 1) := by decide +kernel
theorem dX11_better_19 : decode cX11_better 19 = .ok (.iconst 5, 1) := by decide +kernel
theorem dX11_better_20 : decode cX11_better 20 = .ok (.invokestatic 104, 3) := by decide +kernel
theorem dX11_better_23 : decode cX11_better 23 = .ok (.istore_n 3, 1) := by decide +kernel
theorem dX11_better_24 : decode cX11_better 24 = .ok (.iload_n 3, 1) := by decide +kernel
theorem dX11_better_25 : decode cX11_better 25 = .ok (.ifCond .eq 9, 3) := by decide +kernel
theorem dX11_better_28 : decode cX11_better 28 = .ok (.aload_n 0, 1) := by decide +kernel
theorem dX11_better_29 : decode cX11_better 29 = .ok (.iload_n 3, 1) := by decide +kernel
theorem dX11_better_30 : decode cX11_better 30 = .ok (.invokevirtual 108, 3) := by decide +kernel
theorem dX11_better_33 : decode cX11_better 33 = .ok (.ireturn, 1) := by decide +kernel
theorem dX11_better_34 : decode cX11_better 34 = .ok (.aload_n 0, 1) := by decide +kernel
theorem dX11_better_35 : decode cX11_better 35 = .ok (.getfield 53, 3) := by decide +kernel
theorem dX11_better_38 : decode cX11_better 38 = .ok (.aload_n 0, 1) := by decide +kernel
theorem dX11_better_39 : decode cX11_better 39 = .ok (.getfield 37, 3) := by decide +kernel
theorem dX11_better_42 : decode cX11_better 42 = .ok (.iload_n 1, 1) := by decide +kernel
theorem dX11_better_43 : decode cX11_better 43 = .ok (.invokevirtual 214, 3) := by decide +kernel
theorem dX11_better_46 : decode cX11_better 46 = .ok (.iload_n 2, 1) := by decide +kernel
theorem dX11_better_47 : decode cX11_better 47 = .ok (.invokevirtual 217, 3) := by decide +kernel
theorem dX11_better_50 : decode cX11_better 50 = .ok (.istore 4, 2) := by decide +kernel
theorem dX11_better_52 : decode cX11_better 52 = .ok (.iload 4, 2) := by decide +kernel
theorem dX11_better_54 : decode cX11_better 54 = .ok (.bipush (-9), 2) := by decide +kernel
theorem dX11_better_56 : decode cX11_better 56 = .ok (.if_icmp .ne 12, 3) := by decide +kernel
theorem dX11_better_59 : decode cX11_better 59 = .ok (.aload_n 0, 1) := by decide +kernel
theorem dX11_better_60 : decode cX11_better 60 = .ok (.bipush (-3), 2) := by decide +kernel
theorem dX11_better_62 : decode cX11_better 62 = .ok (.invokevirtual 108, 3) := by decide +kernel
theorem dX11_better_65 : decode cX11_better 65 = .ok (.goto 5, 3) := by decide +kernel
theorem dX11_better_68 : decode cX11_better 68 = .ok (.iload 4, 2) := by decide +kernel
theorem dX11_better_70 : decode cX11_better 70 = .ok (.ireturn, 1) := by decide +kernel
theorem dX11_found_0 : decode cX11_found 0 = .ok (.iload_n 1, 1) := by decide +kernel
theorem dX11_found_1 : decode cX11_found 1 = .ok (.iconst (-1), 1) := by decide +kernel
theorem dX11_found_2 : decode cX11_found 2 = .ok (.if_icmp .ne 11, 3) := by decide +kernel
theorem dX11_found_5 : decode cX11_found 5 = .ok (.aload_n 0, 1) := by decide +kernel
theorem dX11_found_6 : decode cX11_found 6 = .ok (.getfield 53, 3) := by decide +kernel
theorem dX11_found_9 : decode cX11_found 9 = .ok (.getfield 220, 3) := by decide +kernel
theorem dX11_found_12 : decode cX11_found 12 = .ok (.ireturn, 1) := by decide +kernel
theorem dX11_found_13 : decode cX11_found 13 = .ok (.iload_n 1, 1) := by decide +kernel
theorem dX11_found_14 : decode cX11_found 14 = .ok (.ifCond .lt 26, 3) := by decide +kernel
theorem dX11_found_17 : decode cX11_found 17 = .ok (.iload_n 1, 1) := by decide +kernel
theorem dX11_found_18 : decode cX11_found 18 = .ok (.aload_n 0, 1) := by decide +kernel
theorem dX11_found_19 : decode cX11_found 19 = .ok (.getfield 53, 3) := by decide +kernel
theorem dX11_found_22 : decode cX11_found 22 = .ok (.getfield 220, 3) := by decide +kernel
theorem dX11_found_25 : decode cX11_found 25 = .ok (.if_icmp .ge 15, 3) := by decide +kernel
theorem dX11_found_28 : decode cX11_found 28 = .ok (.aload_n 0, 1) := by decide +kernel
theorem dX11_found_29 : decode cX11_found 29 = .ok (.getfield 53, 3) := by decide +kernel
theorem dX11_found_32 : decode cX11_found 32 = .ok (.getfield 223, 3) := by decide +kernel
theorem dX11_found_35 : decode cX11_found 35 = .ok (.iload_n 1, 1) := by decide +kernel
theorem dX11_found_36 : decode cX11_found 36 = .ok (.iaload, 1) := by decide +kernel
theorem dX11_found_37 : decode cX11_found 37 = .ok (.goto 5, 3) := by decide +kernel
theorem dX11_found_40 : decode cX11_found 40 = .ok (.bipush (-9), 2) := by decide +kernel
theorem dX11_found_42 : decode cX11_found 42 = .ok (.ireturn, 1) := by decide +kernel
theorem dX11_fewest_0 : decode cX11_fewest 0 = .ok (.aload_n 0, 1) := by decide +kernel
theorem dX11_fewest_1 : decode cX11_fewest 1 = .ok (.getfield 28, 3) := by decide +kernel
theorem dX11_fewest_4 : decode cX11_fewest 4 = .ok (.getfield 226, 3) := by decide +kernel
theorem dX11_fewest_7 : decode cX11_fewest 7 = .ok (.aload_n 0, 1) := by decide +kernel
theorem dX11_fewest_8 : decode cX11_fewest 8 = .ok (.getfield 100, 3) := by decide +kernel
theorem dX11_fewest_11 : decode cX11_fewest 11 = .ok (.iaload, 1) := by decide +kernel
theorem dX11_fewest_12 : decode cX11_fewest 12 = .ok (.ireturn, 1) := by decide +kernel
theorem dX11_first_0 : decode cX11_first 0 = .ok (.aload_n 0, 1) := by decide +kernel
theorem dX11_first_1 : decode cX11_first 1 = .ok (.getfield 28, 3) := by decide +kernel
theorem dX11_first_4 : decode cX11_first 4 = .ok (.aload_n 0, 1) := by decide +kernel
theorem dX11_first_5 : decode cX11_first 5 = .ok (.getfield 100, 3) := by decide +kernel
theorem dX11_first_8 : decode cX11_first 8 = .ok (.invokevirtual 229, 3) := by decide +kernel
theorem dX11_first_11 : decode cX11_first 11 = .ok (.ireturn, 1) := by decide +kernel
theorem dX11_step_0 : decode cX11_step 0 = .ok (.iload_n 1, 1) := by decide +kernel
theorem dX11_step_1 : decode cX11_step 1 = .ok (.ifCond .lt 20, 3) := by decide +kernel
theorem dX11_step_4 : decode cX11_step 4 = .ok (.iload_n 1, 1) := by decide +kernel
theorem dX11_step_5 : decode cX11_step 5 = .ok (.bipush 64, 2) := by decide +kernel
theorem dX11_step_7 : decode cX11_step 7 = .ok (.if_icmp .ge 14, 3) := by decide +kernel
theorem dX11_step_10 : decode cX11_step 10 = .ok (.iload_n 2, 1) := by decide +kernel
theorem dX11_step_11 : decode cX11_step 11 = .ok (.ifCond .lt 10, 3) := by decide +kernel
theorem dX11_step_14 : decode cX11_step 14 = .ok (.iload_n 2, 1) := by decide +kernel
theorem dX11_step_15 : decode cX11_step 15 = .ok (.sipush 1024, 3) := by decide +kernel
theorem dX11_step_18 : decode cX11_step 18 = .ok (.if_icmp .lt 9, 3) := by decide +kernel
theorem dX11_step_21 : decode cX11_step 21 = .ok (.aload_n 0, 1) := by decide +kernel
theorem dX11_step_22 : decode cX11_step 22 = .ok (.iconst (-1), 1) := by decide +kernel
theorem dX11_step_23 : decode cX11_step 23 = .ok (.invokevirtual 108, 3) := by decide +kernel
theorem dX11_step_26 : decode cX11_step 26 = .ok (.ireturn, 1) := by decide +kernel
theorem dX11_step_27 : decode cX11_step 27 = .ok (.aload_n 0, 1) := by decide +kernel
theorem dX11_step_28 : decode cX11_step 28 = .ok (.getfield 62, 3) := by decide +kernel
theorem dX11_step_31 : decode cX11_step 31 = .ok (.getfield 232, 3) := by decide +kernel
theorem dX11_step_34 : decode cX11_step 34 = .ok (.iconst 4, 1) := by decide +kernel
theorem dX11_step_35 : decode cX11_step 35 = .ok (.if_icmp .lt 10, 3) := by decide +kernel
theorem dX11_step_38 : decode cX11_step 38 = .ok (.aload_n 0, 1) := by decide +kernel
theorem dX11_step_39 : decode cX11_step 39 = .ok (.bipush (-6), 2) := by decide +kernel
theorem dX11_step_41 : decode cX11_step 41 = .ok (.invokevirtual 108, 3) := by decide +kernel
theorem dX11_step_44 : decode cX11_step 44 = .ok (.ireturn, 1) := by decide +kernel
theorem dX11_step_45 : decode cX11_step 45 = .ok (.aload_n 0, 1) := by decide +kernel
theorem dX11_step_46 : decode cX11_step 46 = .ok (.getfield 62, 3) := by decide +kernel
theorem dX11_step_49 : decode cX11_step 49 = .ok (.iload_n 1, 1) := by decide +kernel
theorem dX11_step_50 : decode cX11_step 50 = .ok (.iload_n 2, 1) := by decide +kernel
theorem dX11_step_51 : decode cX11_step 51 = .ok (.invokevirtual 233, 3) := by decide +kernel
theorem dX11_step_54 : decode cX11_step 54 = .ok (.aload_n 0, 1) := by decide +kernel
theorem dX11_step_55 : decode cX11_step 55 = .ok (.getfield 62, 3) := by decide +kernel
theorem dX11_step_58 : decode cX11_step 58 = .ok (.getfield 232, 3) := by decide +kernel
theorem dX11_step_61 : decode cX11_step 61 = .ok (.iconst 1, 1) := by decide +kernel
theorem dX11_step_62 : decode cX11_step 62 = .ok (.isub, 1) := by decide +kernel
theorem dX11_step_63 : decode cX11_step 63 = .ok (.ireturn, 1) := by decide +kernel
theorem dX11_tried_0 : decode cX11_tried 0 = .ok (.aload_n 0, 1) := by decide +kernel
theorem dX11_tried_1 : decode cX11_tried 1 = .ok (.getfield 62, 3) := by decide +kernel
theorem dX11_tried_4 : decode cX11_tried 4 = .ok (.aload_n 0, 1) := by decide +kernel
theorem dX11_tried_5 : decode cX11_tried 5 = .ok (.getfield 100, 3) := by decide +kernel
theorem dX11_tried_8 : decode cX11_tried 8 = .ok (.aload_n 0, 1) := by decide +kernel
theorem dX11_tried_9 : decode cX11_tried 9 = .ok (.getfield 69, 3) := by decide +kernel
theorem dX11_tried_12 : decode cX11_tried 12 = .ok (.invokevirtual 236, 3) := by decide +kernel
theorem dX11_tried_15 : decode cX11_tried 15 = .ok (.aload_n 0, 1) := by decide +kernel
theorem dX11_tried_16 : decode cX11_tried 16 = .ok (.getfield 69, 3) := by decide +kernel
theorem dX11_tried_19 : decode cX11_tried 19 = .ok (.getfield 240, 3) := by decide +kernel
theorem dX11_tried_22 : decode cX11_tried 22 = .ok (.ireturn, 1) := by decide +kernel
theorem dX11_triedRow_0 : decode cX11_triedRow 0 = .ok (.aload_n 0, 1) := by decide +kernel
theorem dX11_triedRow_1 : decode cX11_triedRow 1 = .ok (.getfield 62, 3) := by decide +kernel
theorem dX11_triedRow_4 : decode cX11_triedRow 4 = .ok (.iload_n 1, 1) := by decide +kernel
theorem dX11_triedRow_5 : decode cX11_triedRow 5 = .ok (.invokevirtual 243, 3) := by decide +kernel
theorem dX11_triedRow_8 : decode cX11_triedRow 8 = .ok (.ifCond .ne 9, 3) := by decide +kernel
theorem dX11_triedRow_11 : decode cX11_triedRow 11 = .ok (.aload_n 0, 1) := by decide +kernel
theorem dX11_triedRow_12 : decode cX11_triedRow 12 = .ok (.iconst (-1), 1) := by decide +kernel
theorem dX11_triedRow_13 : decode cX11_triedRow 13 = .ok (.invokevirtual 108, 3) := by decide +kernel
theorem dX11_triedRow_16 : decode cX11_triedRow 16 = .ok (.ireturn, 1) := by decide +kernel
theorem dX11_triedRow_17 : decode cX11_triedRow 17 = .ok (.aload_n 0, 1) := by decide +kernel
theorem dX11_triedRow_18 : decode cX11_triedRow 18 = .ok (.getfield 62, 3) := by decide +kernel
theorem dX11_triedRow_21 : decode cX11_triedRow 21 = .ok (.aload_n 0, 1) := by decide +kernel
theorem dX11_triedRow_22 : decode cX11_triedRow 22 = .ok (.getfield 100, 3) := by decide +kernel
theorem dX11_triedRow_25 : decode cX11_triedRow 25 = .ok (.aload_n 0, 1) := by decide +kernel
theorem dX11_triedRow_26 : decode cX11_triedRow 26 = .ok (.getfield 69, 3) := by decide +kernel
theorem dX11_triedRow_29 : decode cX11_triedRow 29 = .ok (.invokevirtual 236, 3) := by decide +kernel
theorem dX11_triedRow_32 : decode cX11_triedRow 32 = .ok (.aload_n 0, 1) := by decide +kernel
theorem dX11_triedRow_33 : decode cX11_triedRow 33 = .ok (.getfield 69, 3) := by decide +kernel
theorem dX11_triedRow_36 : decode cX11_triedRow 36 = .ok (.getfield 244, 3) := by decide +kernel
theorem dX11_triedRow_39 : decode cX11_triedRow 39 = .ok (.iload_n 1, 1) := by decide +kernel
theorem dX11_triedRow_40 : decode cX11_triedRow 40 = .ok (.iaload, 1) := by decide +kernel
theorem dX11_triedRow_41 : decode cX11_triedRow 41 = .ok (.ireturn, 1) := by decide +kernel
theorem dX11_solves_0 : decode cX11_solves 0 = .ok (.aload_n 0, 1) := by decide +kernel
theorem dX11_solves_1 : decode cX11_solves 1 = .ok (.getfield 62, 3) := by decide +kernel
theorem dX11_solves_4 : decode cX11_solves 4 = .ok (.aload_n 0, 1) := by decide +kernel
theorem dX11_solves_5 : decode cX11_solves 5 = .ok (.getfield 69, 3) := by decide +kernel
theorem dX11_solves_8 : decode cX11_solves 8 = .ok (.invokevirtual 247, 3) := by decide +kernel
theorem dX11_solves_11 : decode cX11_solves 11 = .ok (.ireturn, 1) := by decide +kernel
theorem dX11_lacks_0 : decode cX11_lacks 0 = .ok (.iconst 0, 1) := by decide +kernel
theorem dX11_lacks_1 : decode cX11_lacks 1 = .ok (.istore_n 1, 1) := by decide +kernel
theorem dX11_lacks_2 : decode cX11_lacks 2 = .ok (.iload_n 1, 1) := by decide +kernel
theorem dX11_lacks_3 : decode cX11_lacks 3 = .ok (.sipush 720, 3) := by decide +kernel
theorem dX11_lacks_6 : decode cX11_lacks 6 = .ok (.if_icmp .ge 33, 3) := by decide +kernel
theorem dX11_lacks_9 : decode cX11_lacks 9 = .ok (.aload_n 0, 1) := by decide +kernel
theorem dX11_lacks_10 : decode cX11_lacks 10 = .ok (.getfield 62, 3) := by decide +kernel
theorem dX11_lacks_13 : decode cX11_lacks 13 = .ok (.iload_n 1, 1) := by decide +kernel
theorem dX11_lacks_14 : decode cX11_lacks 14 = .ok (.aload_n 0, 1) := by decide +kernel
theorem dX11_lacks_15 : decode cX11_lacks 15 = .ok (.getfield 69, 3) := by decide +kernel
theorem dX11_lacks_18 : decode cX11_lacks 18 = .ok (.invokevirtual 236, 3) := by decide +kernel
theorem dX11_lacks_21 : decode cX11_lacks 21 = .ok (.aload_n 0, 1) := by decide +kernel
theorem dX11_lacks_22 : decode cX11_lacks 22 = .ok (.getfield 69, 3) := by decide +kernel
theorem dX11_lacks_25 : decode cX11_lacks 25 = .ok (.invokevirtual 251, 3) := by decide +kernel
theorem dX11_lacks_28 : decode cX11_lacks 28 = .ok (.ifCond .ne 5, 3) := by decide +kernel
theorem dX11_lacks_31 : decode cX11_lacks 31 = .ok (.iload_n 1, 1) := by decide +kernel
theorem dX11_lacks_32 : decode cX11_lacks 32 = .ok (.ireturn, 1) := by decide +kernel
theorem dX11_lacks_33 : decode cX11_lacks 33 = .ok (.iinc 1 1, 3) := by decide +kernel
theorem dX11_lacks_36 : decode cX11_lacks 36 = .ok (.goto (-34), 3) := by decide +kernel
theorem dX11_lacks_39 : decode cX11_lacks 39 = .ok (.bipush (-9), 2) := by decide +kernel
theorem dX11_lacks_41 : decode cX11_lacks 41 = .ok (.ireturn, 1) := by decide +kernel
theorem dX11_luck_0 : decode cX11_luck 0 = .ok (.aload_n 0, 1) := by decide +kernel
theorem dX11_luck_1 : decode cX11_luck 1 = .ok (.getfield 62, 3) := by decide +kernel
theorem dX11_luck_4 : decode cX11_luck 4 = .ok (.iload_n 1, 1) := by decide +kernel
theorem dX11_luck_5 : decode cX11_luck 5 = .ok (.invokevirtual 243, 3) := by decide +kernel
theorem dX11_luck_8 : decode cX11_luck 8 = .ok (.ifCond .ne 9, 3) := by decide +kernel
theorem dX11_luck_11 : decode cX11_luck 11 = .ok (.aload_n 0, 1) := by decide +kernel
theorem dX11_luck_12 : decode cX11_luck 12 = .ok (.iconst (-1), 1) := by decide +kernel
theorem dX11_luck_13 : decode cX11_luck 13 = .ok (.invokevirtual 108, 3) := by decide +kernel
theorem dX11_luck_16 : decode cX11_luck 16 = .ok (.ireturn, 1) := by decide +kernel
theorem dX11_luck_17 : decode cX11_luck 17 = .ok (.iload_n 2, 1) := by decide +kernel
theorem dX11_luck_18 : decode cX11_luck 18 = .ok (.ifCond .eq 15, 3) := by decide +kernel
theorem dX11_luck_21 : decode cX11_luck 21 = .ok (.iload_n 2, 1) := by decide +kernel
theorem dX11_luck_22 : decode cX11_luck 22 = .ok (.iconst 1, 1) := by decide +kernel
theorem dX11_luck_23 : decode cX11_luck 23 = .ok (.if_icmp .eq 10, 3) := by decide +kernel
theorem dX11_luck_26 : decode cX11_luck 26 = .ok (.aload_n 0, 1) := by decide +kernel
theorem dX11_luck_27 : decode cX11_luck 27 = .ok (.bipush (-2), 2) := by decide +kernel
theorem dX11_luck_29 : decode cX11_luck 29 = .ok (.invokevirtual 108, 3) := by decide +kernel
theorem dX11_luck_32 : decode cX11_luck 32 = .ok (.ireturn, 1) := by decide +kernel
theorem dX11_luck_33 : decode cX11_luck 33 = .ok (.iconst 0, 1) := by decide +kernel
theorem dX11_luck_34 : decode cX11_luck 34 = .ok (.istore_n 3, 1) := by decide +kernel
theorem dX11_luck_35 : decode cX11_luck 35 = .ok (.iconst 0, 1) := by decide +kernel
theorem dX11_luck_36 : decode cX11_luck 36 = .ok (.istore 4, 2) := by decide +kernel
theorem dX11_luck_38 : decode cX11_luck 38 = .ok (.iconst 0, 1) := by decide +kernel
theorem dX11_luck_39 : decode cX11_luck 39 = .ok (.istore 5, 2) := by decide +kernel
theorem dX11_luck_41 : decode cX11_luck 41 = .ok (.iload 5, 2) := by decide +kernel
theorem dX11_luck_43 : decode cX11_luck 43 = .ok (.sipush 720, 3) := by decide +kernel
theorem dX11_luck_46 : decode cX11_luck 46 = .ok (.if_icmp .ge 57, 3) := by decide +kernel
theorem dX11_luck_49 : decode cX11_luck 49 = .ok (.aload_n 0, 1) := by decide +kernel
theorem dX11_luck_50 : decode cX11_luck 50 = .ok (.getfield 62, 3) := by decide +kernel
theorem dX11_luck_53 : decode cX11_luck 53 = .ok (.iload 5, 2) := by decide +kernel
theorem dX11_luck_55 : decode cX11_luck 55 = .ok (.aload_n 0, 1) := by decide +kernel
theorem dX11_luck_56 : decode cX11_luck 56 = .ok (.getfield 69, 3) := by decide +kernel
theorem dX11_luck_59 : decode cX11_luck 59 = .ok (.invokevirtual 236, 3) := by decide +kernel
theorem dX11_luck_62 : decode cX11_luck 62 = .ok (.aload_n 0, 1) := by decide +kernel
theorem dX11_luck_63 : decode cX11_luck 63 = .ok (.getfield 69, 3) := by decide +kernel
theorem dX11_luck_66 : decode cX11_luck 66 = .ok (.iload_n 1, 1) := by decide +kernel
theorem dX11_luck_67 : decode cX11_luck 67 = .ok (.invokevirtual 254, 3) := by decide +kernel
theorem dX11_luck_70 : decode cX11_luck 70 = .ok (.ifCond .eq 27, 3) := by decide +kernel
theorem dX11_luck_73 : decode cX11_luck 73 = .ok (.iinc 3 1, 3) := by decide +kernel
theorem dX11_luck_76 : decode cX11_luck 76 = .ok (.iload 4, 2) := by decide +kernel
theorem dX11_luck_78 : decode cX11_luck 78 = .ok (.aload_n 0, 1) := by decide +kernel
theorem dX11_luck_79 : decode cX11_luck 79 = .ok (.getfield 69, 3) := by decide +kernel
theorem dX11_luck_82 : decode cX11_luck 82 = .ok (.iload_n 1, 1) := by decide +kernel
theorem dX11_luck_83 : decode cX11_luck 83 = .ok (.invokevirtual 257, 3) := by decide +kernel
theorem dX11_luck_86 : decode cX11_luck 86 = .ok (.ifCond .eq 7, 3) := by decide +kernel
theorem dX11_luck_89 : decode cX11_luck 89 = .ok (.iconst 1, 1) := by decide +kernel
theorem dX11_luck_90 : decode cX11_luck 90 = .ok (.goto 4, 3) := by decide +kernel
theorem dX11_luck_93 : decode cX11_luck 93 = .ok (.iconst 0, 1) := by decide +kernel
theorem dX11_luck_94 : decode cX11_luck 94 = .ok (.iadd, 1) := by decide +kernel
theorem dX11_luck_95 : decode cX11_luck 95 = .ok (.istore 4, 2) := by decide +kernel
theorem dX11_luck_97 : decode cX11_luck 97 = .ok (.iinc 5 1, 3) := by decide +kernel
theorem dX11_luck_100 : decode cX11_luck 100 = .ok (.goto (-59), 3) := by decide +kernel
theorem dX11_luck_103 : decode cX11_luck 103 = .ok (.iload 4, 2) := by decide +kernel
theorem dX11_luck_105 : decode cX11_luck 105 = .ok (.iload_n 3, 1) := by decide +kernel
theorem dX11_luck_106 : decode cX11_luck 106 = .ok (.iload_n 2, 1) := by decide +kernel
theorem dX11_luck_107 : decode cX11_luck 107 = .ok (.invokestatic 260, 3) := by decide +kernel
theorem dX11_luck_110 : decode cX11_luck 110 = .ok (.ireturn, 1) := by decide +kernel
theorem dX11_see_0 : decode cX11_see 0 = .ok (.aload_n 0, 1) := by decide +kernel
theorem dX11_see_1 : decode cX11_see 1 = .ok (.getfield 62, 3) := by decide +kernel
theorem dX11_see_4 : decode cX11_see 4 = .ok (.iload_n 1, 1) := by decide +kernel
theorem dX11_see_5 : decode cX11_see 5 = .ok (.invokevirtual 243, 3) := by decide +kernel
theorem dX11_see_8 : decode cX11_see 8 = .ok (.ifCond .ne 9, 3) := by decide +kernel
theorem dX11_see_11 : decode cX11_see 11 = .ok (.aload_n 0, 1) := by decide +kernel
theorem dX11_see_12 : decode cX11_see 12 = .ok (.iconst (-1), 1) := by decide +kernel
theorem dX11_see_13 : decode cX11_see 13 = .ok (.invokevirtual 108, 3) := by decide +kernel
theorem dX11_see_16 : decode cX11_see 16 = .ok (.ireturn, 1) := by decide +kernel
theorem dX11_see_17 : decode cX11_see 17 = .ok (.iload_n 2, 1) := by decide +kernel
theorem dX11_see_18 : decode cX11_see 18 = .ok (.iconst 0, 1) := by decide +kernel
theorem dX11_see_19 : decode cX11_see 19 = .ok (.bipush 99, 2) := by decide +kernel
theorem dX11_see_21 : decode cX11_see 21 = .ok (.invokestatic 104, 3) := by decide +kernel
theorem dX11_see_24 : decode cX11_see 24 = .ok (.istore_n 3, 1) := by decide +kernel
theorem dX11_see_25 : decode cX11_see 25 = .ok (.iload_n 3, 1) := by decide +kernel
theorem dX11_see_26 : decode cX11_see 26 = .ok (.ifCond .eq 9, 3) := by decide +kernel
theorem dX11_see_29 : decode cX11_see 29 = .ok (.aload_n 0, 1) := by decide +kernel
theorem dX11_see_30 : decode cX11_see 30 = .ok (.iload_n 3, 1) := by decide +kernel
theorem dX11_see_31 : decode cX11_see 31 = .ok (.invokevirtual 108, 3) := by decide +kernel
theorem dX11_see_34 : decode cX11_see 34 = .ok (.ireturn, 1) := by decide +kernel
theorem dX11_see_35 : decode cX11_see 35 = .ok (.aload_n 0, 1) := by decide +kernel
theorem dX11_see_36 : decode cX11_see 36 = .ok (.getfield 62, 3) := by decide +kernel
theorem dX11_see_39 : decode cX11_see 39 = .ok (.getfield 263, 3) := by decide +kernel
theorem dX11_see_42 : decode cX11_see 42 = .ok (.iload_n 1, 1) := by decide +kernel
theorem dX11_see_43 : decode cX11_see 43 = .ok (.iload_n 2, 1) := by decide +kernel
theorem dX11_see_44 : decode cX11_see 44 = .ok (.invokestatic 190, 3) := by decide +kernel
theorem dX11_see_47 : decode cX11_see 47 = .ok (.ireturn, 1) := by decide +kernel
theorem dX11_sum_0 : decode cX11_sum 0 = .ok (.iload_n 1, 1) := by decide +kernel
theorem dX11_sum_1 : decode cX11_sum 1 = .ok (.bipush 50, 2) := by decide +kernel
theorem dX11_sum_3 : decode cX11_sum 3 = .ok (.sipush 300, 3) := by decide +kernel
theorem dX11_sum_6 : decode cX11_sum 6 = .ok (.invokestatic 104, 3) := by decide +kernel
theorem dX11_sum_9 : decode cX11_sum 9 = .ok (.istore_n 2, 1) := by decide +kernel
theorem dX11_sum_10 : decode cX11_sum 10 = .ok (.iload_n 2, 1) := by decide +kernel
theorem dX11_sum_11 : decode cX11_sum 11 = .ok (.ifCond .eq 9, 3) := by decide +kernel
theorem dX11_sum_14 : decode cX11_sum 14 = .ok (.aload_n 0, 1) := by decide +kernel
theorem dX11_sum_15 : decode cX11_sum 15 = .ok (.iload_n 2, 1) := by decide +kernel
theorem dX11_sum_16 : decode cX11_sum 16 = .ok (.invokevirtual 108, 3) := by decide +kernel
theorem dX11_sum_19 : decode cX11_sum 19 = .ok (.ireturn, 1) := by decide +kernel
theorem dX11_sum_20 : decode cX11_sum 20 = .ok (.aload_n 0, 1) := by decide +kernel
theorem dX11_sum_21 : decode cX11_sum 21 = .ok (.getfield 62, 3) := by decide +kernel
theorem dX11_sum_24 : decode cX11_sum 24 = .ok (.aload_n 0, 1) := by decide +kernel
theorem dX11_sum_25 : decode cX11_sum 25 = .ok (.getfield 100, 3) := by decide +kernel
theorem dX11_sum_28 : decode cX11_sum 28 = .ok (.aload_n 0, 1) := by decide +kernel
theorem dX11_sum_29 : decode cX11_sum 29 = .ok (.getfield 69, 3) := by decide +kernel
theorem dX11_sum_32 : decode cX11_sum 32 = .ok (.invokevirtual 236, 3) := by decide +kernel
theorem dX11_sum_35 : decode cX11_sum 35 = .ok (.aload_n 0, 1) := by decide +kernel
theorem dX11_sum_36 : decode cX11_sum 36 = .ok (.getfield 62, 3) := by decide +kernel
theorem dX11_sum_39 : decode cX11_sum 39 = .ok (.aload_n 0, 1) := by decide +kernel
theorem dX11_sum_40 : decode cX11_sum 40 = .ok (.getfield 69, 3) := by decide +kernel
theorem dX11_sum_43 : decode cX11_sum 43 = .ok (.iload_n 1, 1) := by decide +kernel
theorem dX11_sum_44 : decode cX11_sum 44 = .ok (.invokevirtual 266, 3) := by decide +kernel
theorem dX11_sum_47 : decode cX11_sum 47 = .ok (.ireturn, 1) := by decide +kernel
theorem dX11_bestPace_0 : decode cX11_bestPace 0 = .ok (.aload_n 0, 1) := by decide +kernel
theorem dX11_bestPace_1 : decode cX11_bestPace 1 = .ok (.getfield 62, 3) := by decide +kernel
theorem dX11_bestPace_4 : decode cX11_bestPace 4 = .ok (.aload_n 0, 1) := by decide +kernel
theorem dX11_bestPace_5 : decode cX11_bestPace 5 = .ok (.getfield 100, 3) := by decide +kernel
theorem dX11_bestPace_8 : decode cX11_bestPace 8 = .ok (.aload_n 0, 1) := by decide +kernel
theorem dX11_bestPace_9 : decode cX11_bestPace 9 = .ok (.getfield 69, 3) := by decide +kernel
theorem dX11_bestPace_12 : decode cX11_bestPace 12 = .ok (.invokevirtual 236, 3) := by decide +kernel
theorem dX11_bestPace_15 : decode cX11_bestPace 15 = .ok (.aload_n 0, 1) := by decide +kernel
theorem dX11_bestPace_16 : decode cX11_bestPace 16 = .ok (.getfield 69, 3) := by decide +kernel
theorem dX11_bestPace_19 : decode cX11_bestPace 19 = .ok (.getfield 240, 3) := by decide +kernel
theorem dX11_bestPace_22 : decode cX11_bestPace 22 = .ok (.bipush (-9), 2) := by decide +kernel
theorem dX11_bestPace_24 : decode cX11_bestPace 24 = .ok (.if_icmp .eq 6, 3) := by decide +kernel
theorem dX11_bestPace_27 : decode cX11_bestPace 27 = .ok (.bipush (-9), 2) := by decide +kernel
theorem dX11_bestPace_29 : decode cX11_bestPace 29 = .ok (.ireturn, 1) := by decide +kernel
theorem dX11_bestPace_30 : decode cX11_bestPace 30 = .ok (.bipush 50, 2) := by decide +kernel
theorem dX11_bestPace_32 : decode cX11_bestPace 32 = .ok (.istore_n 1, 1) := by decide +kernel
theorem dX11_bestPace_33 : decode cX11_bestPace 33 = .ok (.aload_n 0, 1) := by decide +kernel
theorem dX11_bestPace_34 : decode cX11_bestPace 34 = .ok (.getfield 62, 3) := by decide +kernel
theorem dX11_bestPace_37 : decode cX11_bestPace 37 = .ok (.aload_n 0, 1) := by decide +kernel
theorem dX11_bestPace_38 : decode cX11_bestPace 38 = .ok (.getfield 69, 3) := by decide +kernel
theorem dX11_bestPace_41 : decode cX11_bestPace 41 = .ok (.iload_n 1, 1) := by decide +kernel
theorem dX11_bestPace_42 : decode cX11_bestPace 42 = .ok (.invokevirtual 266, 3) := by decide +kernel
theorem dX11_bestPace_45 : decode cX11_bestPace 45 = .ok (.istore_n 2, 1) := by decide +kernel
theorem dX11_bestPace_46 : decode cX11_bestPace 46 = .ok (.bipush 60, 2) := by decide +kernel
theorem dX11_bestPace_48 : decode cX11_bestPace 48 = .ok (.istore_n 3, 1) := by decide +kernel
theorem dX11_bestPace_49 : decode cX11_bestPace 49 = .ok (.iload_n 3, 1) := by decide +kernel
theorem dX11_bestPace_50 : decode cX11_bestPace 50 = .ok (.sipush 300, 3) := by decide +kernel
theorem dX11_bestPace_53 : decode cX11_bestPace 53 = .ok (.if_icmp .gt 34, 3) := by decide +kernel
theorem dX11_bestPace_56 : decode cX11_bestPace 56 = .ok (.aload_n 0, 1) := by decide +kernel
theorem dX11_bestPace_57 : decode cX11_bestPace 57 = .ok (.getfield 62, 3) := by decide +kernel
theorem dX11_bestPace_60 : decode cX11_bestPace 60 = .ok (.aload_n 0, 1) := by decide +kernel
theorem dX11_bestPace_61 : decode cX11_bestPace 61 = .ok (.getfield 69, 3) := by decide +kernel
theorem dX11_bestPace_64 : decode cX11_bestPace 64 = .ok (.iload_n 3, 1) := by decide +kernel
theorem dX11_bestPace_65 : decode cX11_bestPace 65 = .ok (.invokevirtual 266, 3) := by decide +kernel
theorem dX11_bestPace_68 : decode cX11_bestPace 68 = .ok (.istore 4, 2) := by decide +kernel
theorem dX11_bestPace_70 : decode cX11_bestPace 70 = .ok (.iload 4, 2) := by decide +kernel
theorem dX11_bestPace_72 : decode cX11_bestPace 72 = .ok (.iload_n 2, 1) := by decide +kernel
theorem dX11_bestPace_73 : decode cX11_bestPace 73 = .ok (.if_icmp .gt 8, 3) := by decide +kernel
theorem dX11_bestPace_76 : decode cX11_bestPace 76 = .ok (.iload 4, 2) := by decide +kernel
theorem dX11_bestPace_78 : decode cX11_bestPace 78 = .ok (.istore_n 2, 1) := by decide +kernel
theorem dX11_bestPace_79 : decode cX11_bestPace 79 = .ok (.iload_n 3, 1) := by decide +kernel
theorem dX11_bestPace_80 : decode cX11_bestPace 80 = .ok (.istore_n 1, 1) := by decide +kernel
theorem dX11_bestPace_81 : decode cX11_bestPace 81 = .ok (.iinc 3 10, 3) := by decide +kernel
theorem dX11_bestPace_84 : decode cX11_bestPace 84 = .ok (.goto (-35), 3) := by decide +kernel
theorem dX11_bestPace_87 : decode cX11_bestPace 87 = .ok (.iload_n 1, 1) := by decide +kernel
theorem dX11_bestPace_88 : decode cX11_bestPace 88 = .ok (.ireturn, 1) := by decide +kernel
theorem dX11_learn_0 : decode cX11_learn 0 = .ok (.aload_n 0, 1) := by decide +kernel
theorem dX11_learn_1 : decode cX11_learn 1 = .ok (.getfield 62, 3) := by decide +kernel
theorem dX11_learn_4 : decode cX11_learn 4 = .ok (.iload_n 1, 1) := by decide +kernel
theorem dX11_learn_5 : decode cX11_learn 5 = .ok (.invokevirtual 243, 3) := by decide +kernel
theorem dX11_learn_8 : decode cX11_learn 8 = .ok (.ifCond .ne 9, 3) := by decide +kernel
theorem dX11_learn_11 : decode cX11_learn 11 = .ok (.aload_n 0, 1) := by decide +kernel
theorem dX11_learn_12 : decode cX11_learn 12 = .ok (.iconst (-1), 1) := by decide +kernel
theorem dX11_learn_13 : decode cX11_learn 13 = .ok (.invokevirtual 108, 3) := by decide +kernel
theorem dX11_learn_16 : decode cX11_learn 16 = .ok (.ireturn, 1) := by decide +kernel
theorem dX11_learn_17 : decode cX11_learn 17 = .ok (.aload_n 0, 1) := by decide +kernel
theorem dX11_learn_18 : decode cX11_learn 18 = .ok (.getfield 62, 3) := by decide +kernel
theorem dX11_learn_21 : decode cX11_learn 21 = .ok (.getfield 270, 3) := by decide +kernel
theorem dX11_learn_24 : decode cX11_learn 24 = .ok (.iload_n 1, 1) := by decide +kernel
theorem dX11_learn_25 : decode cX11_learn 25 = .ok (.iaload, 1) := by decide +kernel
theorem dX11_learn_26 : decode cX11_learn 26 = .ok (.istore_n 2, 1) := by decide +kernel
theorem dX11_learn_27 : decode cX11_learn 27 = .ok (.aload_n 0, 1) := by decide +kernel
theorem dX11_learn_28 : decode cX11_learn 28 = .ok (.getfield 62, 3) := by decide +kernel
theorem dX11_learn_31 : decode cX11_learn 31 = .ok (.aload_n 0, 1) := by decide +kernel
theorem dX11_learn_32 : decode cX11_learn 32 = .ok (.getfield 69, 3) := by decide +kernel
theorem dX11_learn_35 : decode cX11_learn 35 = .ok (.invokevirtual 247, 3) := by decide +kernel
theorem dX11_learn_38 : decode cX11_learn 38 = .ok (.istore_n 3, 1) := by decide +kernel
theorem dX11_learn_39 : decode cX11_learn 39 = .ok (.bipush (-9), 2) := by decide +kernel
theorem dX11_learn_41 : decode cX11_learn 41 = .ok (.istore 4, 2) := by decide +kernel
theorem dX11_learn_43 : decode cX11_learn 43 = .ok (.iconst 0, 1) := by decide +kernel
theorem dX11_learn_44 : decode cX11_learn 44 = .ok (.istore 5, 2) := by decide +kernel
theorem dX11_learn_46 : decode cX11_learn 46 = .ok (.iload 5, 2) := by decide +kernel
theorem dX11_learn_48 : decode cX11_learn 48 = .ok (.aload_n 0, 1) := by decide +kernel
theorem dX11_learn_49 : decode cX11_learn 49 = .ok (.getfield 37, 3) := by decide +kernel
theorem dX11_learn_52 : decode cX11_learn 52 = .ok (.getfield 137, 3) := by decide +kernel
theorem dX11_learn_55 : decode cX11_learn 55 = .ok (.if_icmp .ge 59, 3) := by decide +kernel
theorem dX11_learn_58 : decode cX11_learn 58 = .ok (.iload_n 2, 1) := by decide +kernel
theorem dX11_learn_59 : decode cX11_learn 59 = .ok (.iload 5, 2) := by decide +kernel
theorem dX11_learn_61 : decode cX11_learn 61 = .ok (.ishr, 1) := by decide +kernel
theorem dX11_learn_62 : decode cX11_learn 62 = .ok (.iconst 1, 1) := by decide +kernel
theorem dX11_learn_63 : decode cX11_learn 63 = .ok (.iand, 1) := by decide +kernel
theorem dX11_learn_64 : decode cX11_learn 64 = .ok (.ifCond .ne 44, 3) := by decide +kernel
theorem dX11_learn_67 : decode cX11_learn 67 = .ok (.aload_n 0, 1) := by decide +kernel
theorem dX11_learn_68 : decode cX11_learn 68 = .ok (.getfield 62, 3) := by decide +kernel
theorem dX11_learn_71 : decode cX11_learn 71 = .ok (.getfield 270, 3) := by decide +kernel
theorem dX11_learn_74 : decode cX11_learn 74 = .ok (.iload_n 1, 1) := by decide +kernel
theorem dX11_learn_75 : decode cX11_learn 75 = .ok (.iload_n 2, 1) := by decide +kernel
theorem dX11_learn_76 : decode cX11_learn 76 = .ok (.iconst 1, 1) := by decide +kernel
theorem dX11_learn_77 : decode cX11_learn 77 = .ok (.iload 5, 2) := by decide +kernel
theorem dX11_learn_79 : decode cX11_learn 79 = .ok (.ishl, 1) := by decide +kernel
theorem dX11_learn_80 : decode cX11_learn 80 = .ok (.ior, 1) := by decide +kernel
theorem dX11_learn_81 : decode cX11_learn 81 = .ok (.iastore, 1) := by decide +kernel
theorem dX11_learn_82 : decode cX11_learn 82 = .ok (.aload_n 0, 1) := by decide +kernel
theorem dX11_learn_83 : decode cX11_learn 83 = .ok (.getfield 62, 3) := by decide +kernel
theorem dX11_learn_86 : decode cX11_learn 86 = .ok (.aload_n 0, 1) := by decide +kernel
theorem dX11_learn_87 : decode cX11_learn 87 = .ok (.getfield 69, 3) := by decide +kernel
theorem dX11_learn_90 : decode cX11_learn 90 = .ok (.invokevirtual 247, 3) := by decide +kernel
theorem dX11_learn_93 : decode cX11_learn 93 = .ok (.istore 6, 2) := by decide +kernel
theorem dX11_learn_95 : decode cX11_learn 95 = .ok (.iload 6, 2) := by decide +kernel
theorem dX11_learn_97 : decode cX11_learn 97 = .ok (.iload_n 3, 1) := by decide +kernel
theorem dX11_learn_98 : decode cX11_learn 98 = .ok (.if_icmp .le 10, 3) := by decide +kernel
theorem dX11_learn_101 : decode cX11_learn 101 = .ok (.iload 6, 2) := by decide +kernel
theorem dX11_learn_103 : decode cX11_learn 103 = .ok (.istore_n 3, 1) := by decide +kernel
theorem dX11_learn_104 : decode cX11_learn 104 = .ok (.iload 5, 2) := by decide +kernel
theorem dX11_learn_106 : decode cX11_learn 106 = .ok (.istore 4, 2) := by decide +kernel
theorem dX11_learn_108 : decode cX11_learn 108 = .ok (.iinc 5 1, 3) := by decide +kernel
theorem dX11_learn_111 : decode cX11_learn 111 = .ok (.goto (-65), 3) := by decide +kernel
theorem dX11_learn_114 : decode cX11_learn 114 = .ok (.aload_n 0, 1) := by decide +kernel
theorem dX11_learn_115 : decode cX11_learn 115 = .ok (.getfield 62, 3) := by decide +kernel
theorem dX11_learn_118 : decode cX11_learn 118 = .ok (.getfield 270, 3) := by decide +kernel
theorem dX11_learn_121 : decode cX11_learn 121 = .ok (.iload_n 1, 1) := by decide +kernel
theorem dX11_learn_122 : decode cX11_learn 122 = .ok (.iload_n 2, 1) := by decide +kernel
theorem dX11_learn_123 : decode cX11_learn 123 = .ok (.iastore, 1) := by decide +kernel
theorem dX11_learn_124 : decode cX11_learn 124 = .ok (.iload 4, 2) := by decide +kernel
theorem dX11_learn_126 : decode cX11_learn 126 = .ok (.ireturn, 1) := by decide +kernel
theorem dX11_five_0 : decode cX11_five 0 = .ok (.iload_n 1, 1) := by decide +kernel
theorem dX11_five_1 : decode cX11_five 1 = .ok (.iconst 1, 1) := by decide +kernel
theorem dX11_five_2 : decode cX11_five 2 = .ok (.sipush 9999, 3) := by decide +kernel
theorem dX11_five_5 : decode cX11_five 5 = .ok (.invokestatic 104, 3) := by decide +kernel
theorem dX11_five_8 : decode cX11_five 8 = .ok (.istore_n 2, 1) := by decide +kernel
theorem dX11_five_9 : decode cX11_five 9 = .ok (.iload_n 2, 1) := by decide +kernel
theorem dX11_five_10 : decode cX11_five 10 = .ok (.ifCond .eq 9, 3) := by decide +kernel
theorem dX11_five_13 : decode cX11_five 13 = .ok (.aload_n 0, 1) := by decide +kernel
theorem dX11_five_14 : decode cX11_five 14 = .ok (.iload_n 2, 1) := by decide +kernel
theorem dX11_five_15 : decode cX11_five 15 = .ok (.invokevirtual 108, 3) := by decide +kernel
theorem dX11_five_18 : decode cX11_five 18 = .ok (.ireturn, 1) := by decide +kernel
theorem dX11_five_19 : decode cX11_five 19 = .ok (.aload_n 0, 1) := by decide +kernel
theorem dX11_five_20 : decode cX11_five 20 = .ok (.getfield 76, 3) := by decide +kernel
theorem dX11_five_23 : decode cX11_five 23 = .ok (.getfield 273, 3) := by decide +kernel
theorem dX11_five_26 : decode cX11_five 26 = .ok (.iconst 5, 1) := by decide +kernel
theorem dX11_five_27 : decode cX11_five 27 = .ok (.if_icmp .lt 10, 3) := by decide +kernel
theorem dX11_five_30 : decode cX11_five 30 = .ok (.aload_n 0, 1) := by decide +kernel
theorem dX11_five_31 : decode cX11_five 31 = .ok (.bipush (-6), 2) := by decide +kernel
theorem dX11_five_33 : decode cX11_five 33 = .ok (.invokevirtual 108, 3) := by decide +kernel
theorem dX11_five_36 : decode cX11_five 36 = .ok (.ireturn, 1) := by decide +kernel
theorem dX11_five_37 : decode cX11_five 37 = .ok (.aload_n 0, 1) := by decide +kernel
theorem dX11_five_38 : decode cX11_five 38 = .ok (.getfield 76, 3) := by decide +kernel
theorem dX11_five_41 : decode cX11_five 41 = .ok (.iload_n 1, 1) := by decide +kernel
theorem dX11_five_42 : decode cX11_five 42 = .ok (.invokevirtual 274, 3) := by decide +kernel
theorem dX11_five_45 : decode cX11_five 45 = .ok (.aload_n 0, 1) := by decide +kernel
theorem dX11_five_46 : decode cX11_five 46 = .ok (.getfield 76, 3) := by decide +kernel
theorem dX11_five_49 : decode cX11_five 49 = .ok (.getfield 273, 3) := by decide +kernel
theorem dX11_five_52 : decode cX11_five 52 = .ok (.ireturn, 1) := by decide +kernel
theorem dX11_middle_0 : decode cX11_middle 0 = .ok (.iload_n 1, 1) := by decide +kernel
theorem dX11_middle_1 : decode cX11_middle 1 = .ok (.ifCond .eq 15, 3) := by decide +kernel
theorem dX11_middle_4 : decode cX11_middle 4 = .ok (.iload_n 1, 1) := by decide +kernel
theorem dX11_middle_5 : decode cX11_middle 5 = .ok (.iconst 1, 1) := by decide +kernel
theorem dX11_middle_6 : decode cX11_middle 6 = .ok (.if_icmp .eq 10, 3) := by decide +kernel
theorem dX11_middle_9 : decode cX11_middle 9 = .ok (.aload_n 0, 1) := by decide +kernel
theorem dX11_middle_10 : decode cX11_middle 10 = .ok (.bipush (-2), 2) := by decide +kernel
theorem dX11_middle_12 : decode cX11_middle 12 = .ok (.invokevirtual 108, 3) := by decide +kernel
theorem dX11_middle_15 : decode cX11_middle 15 = .ok (.ireturn, 1) := by decide +kernel
theorem dX11_middle_16 : decode cX11_middle 16 = .ok (.aload_n 0, 1) := by decide +kernel
theorem dX11_middle_17 : decode cX11_middle 17 = .ok (.getfield 76, 3) := by decide +kernel
theorem dX11_middle_20 : decode cX11_middle 20 = .ok (.getfield 273, 3) := by decide +kernel
theorem dX11_middle_23 : decode cX11_middle 23 = .ok (.iconst 5, 1) := by decide +kernel
theorem dX11_middle_24 : decode cX11_middle 24 = .ok (.if_icmp .eq 10, 3) := by decide +kernel
theorem dX11_middle_27 : decode cX11_middle 27 = .ok (.aload_n 0, 1) := by decide +kernel
theorem dX11_middle_28 : decode cX11_middle 28 = .ok (.bipush (-3), 2) := by decide +kernel
theorem dX11_middle_30 : decode cX11_middle 30 = .ok (.invokevirtual 108, 3) := by decide +kernel
theorem dX11_middle_33 : decode cX11_middle 33 = .ok (.ireturn, 1) := by decide +kernel
theorem dX11_middle_34 : decode cX11_middle 34 = .ok (.aload_n 0, 1) := by decide +kernel
theorem dX11_middle_35 : decode cX11_middle 35 = .ok (.getfield 76, 3) := by decide +kernel
theorem dX11_middle_38 : decode cX11_middle 38 = .ok (.invokevirtual 276, 3) := by decide +kernel
theorem dX11_middle_41 : decode cX11_middle 41 = .ok (.istore_n 2, 1) := by decide +kernel
theorem dX11_middle_42 : decode cX11_middle 42 = .ok (.iload_n 1, 1) := by decide +kernel
theorem dX11_middle_43 : decode cX11_middle 43 = .ok (.iconst 1, 1) := by decide +kernel
theorem dX11_middle_44 : decode cX11_middle 44 = .ok (.if_icmp .ne 11, 3) := by decide +kernel
theorem dX11_middle_47 : decode cX11_middle 47 = .ok (.aload_n 0, 1) := by decide +kernel
theorem dX11_middle_48 : decode cX11_middle 48 = .ok (.getfield 76, 3) := by decide +kernel
theorem dX11_middle_51 : decode cX11_middle 51 = .ok (.iconst 0, 1) := by decide +kernel
theorem dX11_middle_52 : decode cX11_middle 52 = .ok (.putfield 273, 3) := by decide +kernel
theorem dX11_middle_55 : decode cX11_middle 55 = .ok (.iload_n 2, 1) := by decide +kernel
theorem dX11_middle_56 : decode cX11_middle 56 = .ok (.iconst 3, 1) := by decide +kernel
theorem dX11_middle_57 : decode cX11_middle 57 = .ok (.iload_n 1, 1) := by decide +kernel
theorem dX11_middle_58 : decode cX11_middle 58 = .ok (.invokestatic 260, 3) := by decide +kernel
theorem dX11_middle_61 : decode cX11_middle 61 = .ok (.ireturn, 1) := by decide +kernel
theorem dX11_need_0 : decode cX11_need 0 = .ok (.iload_n 1, 1) := by decide +kernel
theorem dX11_need_1 : decode cX11_need 1 = .ok (.iconst 1, 1) := by decide +kernel
theorem dX11_need_2 : decode cX11_need 2 = .ok (.sipush 9999, 3) := by decide +kernel
theorem dX11_need_5 : decode cX11_need 5 = .ok (.invokestatic 104, 3) := by decide +kernel
theorem dX11_need_8 : decode cX11_need 8 = .ok (.istore_n 2, 1) := by decide +kernel
theorem dX11_need_9 : decode cX11_need 9 = .ok (.iload_n 2, 1) := by decide +kernel
theorem dX11_need_10 : decode cX11_need 10 = .ok (.ifCond .eq 9, 3) := by decide +kernel
theorem dX11_need_13 : decode cX11_need 13 = .ok (.aload_n 0, 1) := by decide +kernel
theorem dX11_need_14 : decode cX11_need 14 = .ok (.iload_n 2, 1) := by decide +kernel
theorem dX11_need_15 : decode cX11_need 15 = .ok (.invokevirtual 108, 3) := by decide +kernel
theorem dX11_need_18 : decode cX11_need 18 = .ok (.ireturn, 1) := by decide +kernel
theorem dX11_need_19 : decode cX11_need 19 = .ok (.aload_n 0, 1) := by decide +kernel
theorem dX11_need_20 : decode cX11_need 20 = .ok (.getfield 76, 3) := by decide +kernel
theorem dX11_need_23 : decode cX11_need 23 = .ok (.getfield 273, 3) := by decide +kernel
theorem dX11_need_26 : decode cX11_need 26 = .ok (.iconst 4, 1) := by decide +kernel
theorem dX11_need_27 : decode cX11_need 27 = .ok (.if_icmp .eq 10, 3) := by decide +kernel
theorem dX11_need_30 : decode cX11_need 30 = .ok (.aload_n 0, 1) := by decide +kernel
theorem dX11_need_31 : decode cX11_need 31 = .ok (.bipush (-3), 2) := by decide +kernel
theorem dX11_need_33 : decode cX11_need 33 = .ok (.invokevirtual 108, 3) := by decide +kernel
theorem dX11_need_36 : decode cX11_need 36 = .ok (.ireturn, 1) := by decide +kernel
theorem dX11_need_37 : decode cX11_need 37 = .ok (.aload_n 0, 1) := by decide +kernel
theorem dX11_need_38 : decode cX11_need 38 = .ok (.getfield 76, 3) := by decide +kernel
theorem dX11_need_41 : decode cX11_need 41 = .ok (.iload_n 1, 1) := by decide +kernel
theorem dX11_need_42 : decode cX11_need 42 = .ok (.invokevirtual 279, 3) := by decide +kernel
theorem dX11_need_45 : decode cX11_need 45 = .ok (.ireturn, 1) := by decide +kernel
theorem dX11_film_0 : decode cX11_film 0 = .ok (.iload_n 1, 1) := by decide +kernel
theorem dX11_film_1 : decode cX11_film 1 = .ok (.iconst 0, 1) := by decide +kernel
theorem dX11_film_2 : decode cX11_film 2 = .ok (.bipush 127, 2) := by decide +kernel
theorem dX11_film_4 : decode cX11_film 4 = .ok (.invokestatic 104, 3) := by decide +kernel
theorem dX11_film_7 : decode cX11_film 7 = .ok (.istore_n 2, 1) := by decide +kernel
theorem dX11_film_8 : decode cX11_film 8 = .ok (.iload_n 2, 1) := by decide +kernel
theorem dX11_film_9 : decode cX11_film 9 = .ok (.ifCond .eq 9, 3) := by decide +kernel
theorem dX11_film_12 : decode cX11_film 12 = .ok (.aload_n 0, 1) := by decide +kernel
theorem dX11_film_13 : decode cX11_film 13 = .ok (.iload_n 2, 1) := by decide +kernel
theorem dX11_film_14 : decode cX11_film 14 = .ok (.invokevirtual 108, 3) := by decide +kernel
theorem dX11_film_17 : decode cX11_film 17 = .ok (.ireturn, 1) := by decide +kernel
theorem dX11_film_18 : decode cX11_film 18 = .ok (.aload_n 0, 1) := by decide +kernel
theorem dX11_film_19 : decode cX11_film 19 = .ok (.getfield 85, 3) := by decide +kernel
theorem dX11_film_22 : decode cX11_film 22 = .ok (.getfield 282, 3) := by decide +kernel
theorem dX11_film_25 : decode cX11_film 25 = .ok (.bipush 8, 2) := by decide +kernel
theorem dX11_film_27 : decode cX11_film 27 = .ok (.if_icmp .lt 10, 3) := by decide +kernel
theorem dX11_film_30 : decode cX11_film 30 = .ok (.aload_n 0, 1) := by decide +kernel
theorem dX11_film_31 : decode cX11_film 31 = .ok (.bipush (-6), 2) := by decide +kernel
theorem dX11_film_33 : decode cX11_film 33 = .ok (.invokevirtual 108, 3) := by decide +kernel
theorem dX11_film_36 : decode cX11_film 36 = .ok (.ireturn, 1) := by decide +kernel
theorem dX11_film_37 : decode cX11_film 37 = .ok (.aload_n 0, 1) := by decide +kernel
theorem dX11_film_38 : decode cX11_film 38 = .ok (.getfield 85, 3) := by decide +kernel
theorem dX11_film_41 : decode cX11_film 41 = .ok (.iload_n 1, 1) := by decide +kernel
theorem dX11_film_42 : decode cX11_film 42 = .ok (.invokevirtual 283, 3) := by decide +kernel
theorem dX11_film_45 : decode cX11_film 45 = .ok (.aload_n 0, 1) := by decide +kernel
theorem dX11_film_46 : decode cX11_film 46 = .ok (.getfield 85, 3) := by decide +kernel
theorem dX11_film_49 : decode cX11_film 49 = .ok (.getfield 282, 3) := by decide +kernel
theorem dX11_film_52 : decode cX11_film 52 = .ok (.ireturn, 1) := by decide +kernel
theorem dX11_held_0 : decode cX11_held 0 = .ok (.aload_n 0, 1) := by decide +kernel
theorem dX11_held_1 : decode cX11_held 1 = .ok (.getfield 37, 3) := by decide +kernel
theorem dX11_held_4 : decode cX11_held 4 = .ok (.iload_n 1, 1) := by decide +kernel
theorem dX11_held_5 : decode cX11_held 5 = .ok (.invokevirtual 157, 3) := by decide +kernel
theorem dX11_held_8 : decode cX11_held 8 = .ok (.ifCond .ne 9, 3) := by decide +kernel
theorem dX11_held_11 : decode cX11_held 11 = .ok (.aload_n 0, 1) := by decide +kernel
theorem dX11_held_12 : decode cX11_held 12 = .ok (.iconst (-1), 1) := by decide +kernel
theorem dX11_held_13 : decode cX11_held 13 = .ok (.invokevirtual 108, 3) := by decide +kernel
theorem dX11_held_16 : decode cX11_held 16 = .ok (.ireturn, 1) := by decide +kernel
theorem dX11_held_17 : decode cX11_held 17 = .ok (.iload_n 2, 1) := by decide +kernel
theorem dX11_held_18 : decode cX11_held 18 = .ok (.iconst 0, 1) := by decide +kernel
theorem dX11_held_19 : decode cX11_held 19 = .ok (.bipush 99, 2) := by decide +kernel
theorem dX11_held_21 : decode cX11_held 21 = .ok (.invokestatic 104, 3) := by decide +kernel
theorem dX11_held_24 : decode cX11_held 24 = .ok (.istore_n 3, 1) := by decide +kernel
theorem dX11_held_25 : decode cX11_held 25 = .ok (.iload_n 3, 1) := by decide +kernel
theorem dX11_held_26 : decode cX11_held 26 = .ok (.ifCond .eq 9, 3) := by decide +kernel
theorem dX11_held_29 : decode cX11_held 29 = .ok (.aload_n 0, 1) := by decide +kernel
theorem dX11_held_30 : decode cX11_held 30 = .ok (.iload_n 3, 1) := by decide +kernel
theorem dX11_held_31 : decode cX11_held 31 = .ok (.invokevirtual 108, 3) := by decide +kernel
theorem dX11_held_34 : decode cX11_held 34 = .ok (.ireturn, 1) := by decide +kernel
theorem dX11_held_35 : decode cX11_held 35 = .ok (.aload_n 0, 1) := by decide +kernel
theorem dX11_held_36 : decode cX11_held 36 = .ok (.getfield 85, 3) := by decide +kernel
theorem dX11_held_39 : decode cX11_held 39 = .ok (.iload_n 1, 1) := by decide +kernel
theorem dX11_held_40 : decode cX11_held 40 = .ok (.iload_n 2, 1) := by decide +kernel
theorem dX11_held_41 : decode cX11_held 41 = .ok (.invokevirtual 284, 3) := by decide +kernel
theorem dX11_held_44 : decode cX11_held 44 = .ok (.ireturn, 1) := by decide +kernel
theorem dX11_heldUp_0 : decode cX11_heldUp 0 = .ok (.aload_n 0, 1) := by decide +kernel
theorem dX11_heldUp_1 : decode cX11_heldUp 1 = .ok (.getfield 37, 3) := by decide +kernel
theorem dX11_heldUp_4 : decode cX11_heldUp 4 = .ok (.iload_n 1, 1) := by decide +kernel
theorem dX11_heldUp_5 : decode cX11_heldUp 5 = .ok (.invokevirtual 157, 3) := by decide +kernel
theorem dX11_heldUp_8 : decode cX11_heldUp 8 = .ok (.ifCond .ne 9, 3) := by decide +kernel
theorem dX11_heldUp_11 : decode cX11_heldUp 11 = .ok (.aload_n 0, 1) := by decide +kernel
theorem dX11_heldUp_12 : decode cX11_heldUp 12 = .ok (.iconst (-1), 1) := by decide +kernel
theorem dX11_heldUp_13 : decode cX11_heldUp 13 = .ok (.invokevirtual 108, 3) := by decide +kernel
theorem dX11_heldUp_16 : decode cX11_heldUp 16 = .ok (.ireturn, 1) := by decide +kernel
theorem dX11_heldUp_17 : decode cX11_heldUp 17 = .ok (.aload_n 0, 1) := by decide +kernel
theorem dX11_heldUp_18 : decode cX11_heldUp 18 = .ok (.getfield 85, 3) := by decide +kernel
theorem dX11_heldUp_21 : decode cX11_heldUp 21 = .ok (.iload_n 1, 1) := by decide +kernel
theorem dX11_heldUp_22 : decode cX11_heldUp 22 = .ok (.invokevirtual 287, 3) := by decide +kernel
theorem dX11_heldUp_25 : decode cX11_heldUp 25 = .ok (.istore_n 2, 1) := by decide +kernel
theorem dX11_heldUp_26 : decode cX11_heldUp 26 = .ok (.aload_n 0, 1) := by decide +kernel
theorem dX11_heldUp_27 : decode cX11_heldUp 27 = .ok (.getfield 85, 3) := by decide +kernel
theorem dX11_heldUp_30 : decode cX11_heldUp 30 = .ok (.iconst 0, 1) := by decide +kernel
theorem dX11_heldUp_31 : decode cX11_heldUp 31 = .ok (.putfield 282, 3) := by decide +kernel
theorem dX11_heldUp_34 : decode cX11_heldUp 34 = .ok (.iload_n 2, 1) := by decide +kernel
theorem dX11_heldUp_35 : decode cX11_heldUp 35 = .ok (.ireturn, 1) := by decide +kernel
theorem dX11_image_0 : decode cX11_image 0 = .ok (.aload_n 0, 1) := by decide +kernel
theorem dX11_image_1 : decode cX11_image 1 = .ok (.getfield 92, 3) := by decide +kernel
theorem dX11_image_4 : decode cX11_image 4 = .ok (.iconst 1, 1) := by decide +kernel
theorem dX11_image_5 : decode cX11_image 5 = .ok (.putfield 290, 3) := by decide +kernel
theorem dX11_image_8 : decode cX11_image 8 = .ok (.aload_n 0, 1) := by decide +kernel
theorem dX11_image_9 : decode cX11_image 9 = .ok (.getfield 92, 3) := by decide +kernel
theorem dX11_image_12 : decode cX11_image 12 = .ok (.aload_n 0, 1) := by decide +kernel
theorem dX11_image_13 : decode cX11_image 13 = .ok (.getfield 28, 3) := by decide +kernel
theorem dX11_image_16 : decode cX11_image 16 = .ok (.getfield 119, 3) := by decide +kernel
theorem dX11_image_19 : decode cX11_image 19 = .ok (.putfield 294, 3) := by decide +kernel
theorem dX11_image_22 : decode cX11_image 22 = .ok (.aload_n 0, 1) := by decide +kernel
theorem dX11_image_23 : decode cX11_image 23 = .ok (.getfield 92, 3) := by decide +kernel
theorem dX11_image_26 : decode cX11_image 26 = .ok (.aload_n 0, 1) := by decide +kernel
theorem dX11_image_27 : decode cX11_image 27 = .ok (.getfield 37, 3) := by decide +kernel
theorem dX11_image_30 : decode cX11_image 30 = .ok (.getfield 137, 3) := by decide +kernel
theorem dX11_image_33 : decode cX11_image 33 = .ok (.putfield 296, 3) := by decide +kernel
theorem dX11_image_36 : decode cX11_image 36 = .ok (.aload_n 0, 1) := by decide +kernel
theorem dX11_image_37 : decode cX11_image 37 = .ok (.getfield 92, 3) := by decide +kernel
theorem dX11_image_40 : decode cX11_image 40 = .ok (.aload_n 0, 1) := by decide +kernel
theorem dX11_image_41 : decode cX11_image 41 = .ok (.getfield 62, 3) := by decide +kernel
theorem dX11_image_44 : decode cX11_image 44 = .ok (.getfield 232, 3) := by decide +kernel
theorem dX11_image_47 : decode cX11_image 47 = .ok (.putfield 298, 3) := by decide +kernel
theorem dX11_image_50 : decode cX11_image 50 = .ok (.aload_n 0, 1) := by decide +kernel
theorem dX11_image_51 : decode cX11_image 51 = .ok (.getfield 92, 3) := by decide +kernel
theorem dX11_image_54 : decode cX11_image 54 = .ok (.aload_n 0, 1) := by decide +kernel
theorem dX11_image_55 : decode cX11_image 55 = .ok (.getfield 100, 3) := by decide +kernel
theorem dX11_image_58 : decode cX11_image 58 = .ok (.putfield 301, 3) := by decide +kernel
theorem dX11_image_61 : decode cX11_image 61 = .ok (.aload_n 0, 1) := by decide +kernel
theorem dX11_image_62 : decode cX11_image 62 = .ok (.getfield 92, 3) := by decide +kernel
theorem dX11_image_65 : decode cX11_image 65 = .ok (.getfield 304, 3) := by decide +kernel
theorem dX11_image_68 : decode cX11_image 68 = .ok (.aload_n 0, 1) := by decide +kernel
theorem dX11_image_69 : decode cX11_image 69 = .ok (.getfield 44, 3) := by decide +kernel
theorem dX11_image_72 : decode cX11_image 72 = .ok (.invokevirtual 305, 3) := by decide +kernel
theorem dX11_image_75 : decode cX11_image 75 = .ok (.aload_n 0, 1) := by decide +kernel
theorem dX11_image_76 : decode cX11_image 76 = .ok (.getfield 62, 3) := by decide +kernel
theorem dX11_image_79 : decode cX11_image 79 = .ok (.getfield 263, 3) := by decide +kernel
theorem dX11_image_82 : decode cX11_image 82 = .ok (.iconst 0, 1) := by decide +kernel
theorem dX11_image_83 : decode cX11_image 83 = .ok (.aload_n 0, 1) := by decide +kernel
theorem dX11_image_84 : decode cX11_image 84 = .ok (.getfield 92, 3) := by decide +kernel
theorem dX11_image_87 : decode cX11_image 87 = .ok (.getfield 309, 3) := by decide +kernel
theorem dX11_image_90 : decode cX11_image 90 = .ok (.iconst 0, 1) := by decide +kernel
theorem dX11_image_91 : decode cX11_image 91 = .ok (.iconst 4, 1) := by decide +kernel
theorem dX11_image_92 : decode cX11_image 92 = .ok (.invokestatic 310, 3) := by decide +kernel
theorem dX11_image_95 : decode cX11_image 95 = .ok (.aload_n 0, 1) := by decide +kernel
theorem dX11_image_96 : decode cX11_image 96 = .ok (.getfield 37, 3) := by decide +kernel
theorem dX11_image_99 : decode cX11_image 99 = .ok (.getfield 137, 3) := by decide +kernel
theorem dX11_image_102 : decode cX11_image 102 = .ok (.ireturn, 1) := by decide +kernel
theorem dX11_on_0 : decode cX11_on 0 = .ok (.aload_n 0, 1) := by decide +kernel
theorem dX11_on_1 : decode cX11_on 1 = .ok (.getfield 92, 3) := by decide +kernel
theorem dX11_on_4 : decode cX11_on 4 = .ok (.getfield 290, 3) := by decide +kernel
theorem dX11_on_7 : decode cX11_on 7 = .ok (.ifCond .ne 10, 3) := by decide +kernel
theorem dX11_on_10 : decode cX11_on 10 = .ok (.aload_n 0, 1) := by decide +kernel
theorem dX11_on_11 : decode cX11_on 11 = .ok (.bipush (-3), 2) := by decide +kernel
theorem dX11_on_13 : decode cX11_on 13 = .ok (.invokevirtual 108, 3) := by decide +kernel
theorem dX11_on_16 : decode cX11_on 16 = .ok (.ireturn, 1) := by decide +kernel
theorem dX11_on_17 : decode cX11_on 17 = .ok (.aload_n 0, 1) := by decide +kernel
theorem dX11_on_18 : decode cX11_on 18 = .ok (.getfield 28, 3) := by decide +kernel
theorem dX11_on_21 : decode cX11_on 21 = .ok (.aload_n 0, 1) := by decide +kernel
theorem dX11_on_22 : decode cX11_on 22 = .ok (.getfield 92, 3) := by decide +kernel
theorem dX11_on_25 : decode cX11_on 25 = .ok (.getfield 294, 3) := by decide +kernel
theorem dX11_on_28 : decode cX11_on 28 = .ok (.invokevirtual 316, 3) := by decide +kernel
theorem dX11_on_31 : decode cX11_on 31 = .ok (.aload_n 0, 1) := by decide +kernel
theorem dX11_on_32 : decode cX11_on 32 = .ok (.getfield 37, 3) := by decide +kernel
theorem dX11_on_35 : decode cX11_on 35 = .ok (.aload_n 0, 1) := by decide +kernel
theorem dX11_on_36 : decode cX11_on 36 = .ok (.getfield 92, 3) := by decide +kernel
theorem dX11_on_39 : decode cX11_on 39 = .ok (.getfield 296, 3) := by decide +kernel
theorem dX11_on_42 : decode cX11_on 42 = .ok (.putfield 137, 3) := by decide +kernel
theorem dX11_on_45 : decode cX11_on 45 = .ok (.aload_n 0, 1) := by decide +kernel
theorem dX11_on_46 : decode cX11_on 46 = .ok (.getfield 62, 3) := by decide +kernel
theorem dX11_on_49 : decode cX11_on 49 = .ok (.aload_n 0, 1) := by decide +kernel
theorem dX11_on_50 : decode cX11_on 50 = .ok (.getfield 92, 3) := by decide +kernel
theorem dX11_on_53 : decode cX11_on 53 = .ok (.getfield 298, 3) := by decide +kernel
theorem dX11_on_56 : decode cX11_on 56 = .ok (.putfield 232, 3) := by decide +kernel
theorem dX11_on_59 : decode cX11_on 59 = .ok (.aload_n 0, 1) := by decide +kernel
theorem dX11_on_60 : decode cX11_on 60 = .ok (.aload_n 0, 1) := by decide +kernel
theorem dX11_on_61 : decode cX11_on 61 = .ok (.getfield 92, 3) := by decide +kernel
theorem dX11_on_64 : decode cX11_on 64 = .ok (.getfield 301, 3) := by decide +kernel
theorem dX11_on_67 : decode cX11_on 67 = .ok (.putfield 100, 3) := by decide +kernel
theorem dX11_on_70 : decode cX11_on 70 = .ok (.aload_n 0, 1) := by decide +kernel
theorem dX11_on_71 : decode cX11_on 71 = .ok (.getfield 44, 3) := by decide +kernel
theorem dX11_on_74 : decode cX11_on 74 = .ok (.aload_n 0, 1) := by decide +kernel
theorem dX11_on_75 : decode cX11_on 75 = .ok (.getfield 92, 3) := by decide +kernel
theorem dX11_on_78 : decode cX11_on 78 = .ok (.getfield 304, 3) := by decide +kernel
theorem dX11_on_81 : decode cX11_on 81 = .ok (.invokevirtual 305, 3) := by decide +kernel
theorem dX11_on_84 : decode cX11_on 84 = .ok (.aload_n 0, 1) := by decide +kernel
theorem dX11_on_85 : decode cX11_on 85 = .ok (.getfield 92, 3) := by decide +kernel
theorem dX11_on_88 : decode cX11_on 88 = .ok (.getfield 309, 3) := by decide +kernel
theorem dX11_on_91 : decode cX11_on 91 = .ok (.iconst 0, 1) := by decide +kernel
theorem dX11_on_92 : decode cX11_on 92 = .ok (.aload_n 0, 1) := by decide +kernel
theorem dX11_on_93 : decode cX11_on 93 = .ok (.getfield 62, 3) := by decide +kernel
theorem dX11_on_96 : decode cX11_on 96 = .ok (.getfield 263, 3) := by decide +kernel
theorem dX11_on_99 : decode cX11_on 99 = .ok (.iconst 0, 1) := by decide +kernel
theorem dX11_on_100 : decode cX11_on 100 = .ok (.iconst 4, 1) := by decide +kernel
theorem dX11_on_101 : decode cX11_on 101 = .ok (.invokestatic 310, 3) := by decide +kernel
theorem dX11_on_104 : decode cX11_on 104 = .ok (.aload_n 0, 1) := by decide +kernel
theorem dX11_on_105 : decode cX11_on 105 = .ok (.getfield 37, 3) := by decide +kernel
theorem dX11_on_108 : decode cX11_on 108 = .ok (.getfield 137, 3) := by decide +kernel
theorem dX11_on_111 : decode cX11_on 111 = .ok (.ireturn, 1) := by decide +kernel
theorem dX11_count_0 : decode cX11_count 0 = .ok (.iload_n 1, 1) := by decide +kernel
theorem dX11_count_1 : decode cX11_count 1 = .ok (.tableswitch 107 0 6 #[43, 51, 59, 67, 83, 91, 99], 43) := by decide +kernel
theorem dX11_count_44 : decode cX11_count 44 = .ok (.aload_n 0, 1) := by decide +kernel
theorem dX11_count_45 : decode cX11_count 45 = .ok (.getfield 28, 3) := by decide +kernel
theorem dX11_count_48 : decode cX11_count 48 = .ok (.getfield 119, 3) := by decide +kernel
theorem dX11_count_51 : decode cX11_count 51 = .ok (.ireturn, 1) := by decide +kernel
theorem dX11_count_52 : decode cX11_count 52 = .ok (.aload_n 0, 1) := by decide +kernel
theorem dX11_count_53 : decode cX11_count 53 = .ok (.getfield 37, 3) := by decide +kernel
theorem dX11_count_56 : decode cX11_count 56 = .ok (.getfield 137, 3) := by decide +kernel
theorem dX11_count_59 : decode cX11_count 59 = .ok (.ireturn, 1) := by decide +kernel
theorem dX11_count_60 : decode cX11_count 60 = .ok (.aload_n 0, 1) := by decide +kernel
theorem dX11_count_61 : decode cX11_count 61 = .ok (.getfield 62, 3) := by decide +kernel
theorem dX11_count_64 : decode cX11_count 64 = .ok (.getfield 232, 3) := by decide +kernel
theorem dX11_count_67 : decode cX11_count 67 = .ok (.ireturn, 1) := by decide +kernel
theorem dX11_count_68 : decode cX11_count 68 = .ok (.aload_n 0, 1) := by decide +kernel
theorem dX11_count_69 : decode cX11_count 69 = .ok (.getfield 19, 3) := by decide +kernel
theorem dX11_count_72 : decode cX11_count 72 = .ok (.getfield 173, 3) := by decide +kernel
theorem dX11_count_75 : decode cX11_count 75 = .ok (.aload_n 0, 1) := by decide +kernel
theorem dX11_count_76 : decode cX11_count 76 = .ok (.getfield 100, 3) := by decide +kernel
theorem dX11_count_79 : decode cX11_count 79 = .ok (.iaload, 1) := by decide +kernel
theorem dX11_count_80 : decode cX11_count 80 = .ok (.invokestatic 319, 3) := by decide +kernel
theorem dX11_count_83 : decode cX11_count 83 = .ok (.ireturn, 1) := by decide +kernel
theorem dX11_count_84 : decode cX11_count 84 = .ok (.aload_n 0, 1) := by decide +kernel
theorem dX11_count_85 : decode cX11_count 85 = .ok (.getfield 76, 3) := by decide +kernel
theorem dX11_count_88 : decode cX11_count 88 = .ok (.getfield 273, 3) := by decide +kernel
theorem dX11_count_91 : decode cX11_count 91 = .ok (.ireturn, 1) := by decide +kernel
theorem dX11_count_92 : decode cX11_count 92 = .ok (.aload_n 0, 1) := by decide +kernel
theorem dX11_count_93 : decode cX11_count 93 = .ok (.getfield 85, 3) := by decide +kernel
theorem dX11_count_96 : decode cX11_count 96 = .ok (.getfield 282, 3) := by decide +kernel
theorem dX11_count_99 : decode cX11_count 99 = .ok (.ireturn, 1) := by decide +kernel
theorem dX11_count_100 : decode cX11_count 100 = .ok (.aload_n 0, 1) := by decide +kernel
theorem dX11_count_101 : decode cX11_count 101 = .ok (.getfield 12, 3) := by decide +kernel
theorem dX11_count_104 : decode cX11_count 104 = .ok (.getfield 112, 3) := by decide +kernel
theorem dX11_count_107 : decode cX11_count 107 = .ok (.ireturn, 1) := by decide +kernel
theorem dX11_count_108 : decode cX11_count 108 = .ok (.iload_n 1, 1) := by decide +kernel
theorem dX11_count_109 : decode cX11_count 109 = .ok (.bipush 10, 2) := by decide +kernel
theorem dX11_count_111 : decode cX11_count 111 = .ok (.if_icmp .le 21, 3) := by decide +kernel
theorem dX11_count_114 : decode cX11_count 114 = .ok (.iload_n 1, 1) := by decide +kernel
theorem dX11_count_115 : decode cX11_count 115 = .ok (.bipush 16, 2) := by decide +kernel
theorem dX11_count_117 : decode cX11_count 117 = .ok (.if_icmp .gt 15, 3) := by decide +kernel
theorem dX11_count_120 : decode cX11_count 120 = .ok (.aload_n 0, 1) := by decide +kernel
theorem dX11_count_121 : decode cX11_count 121 = .ok (.getfield 96, 3) := by decide +kernel
theorem dX11_count_124 : decode cX11_count 124 = .ok (.iload_n 1, 1) := by decide +kernel
theorem dX11_count_125 : decode cX11_count 125 = .ok (.bipush 10, 2) := by decide +kernel
theorem dX11_count_127 : decode cX11_count 127 = .ok (.isub, 1) := by decide +kernel
theorem dX11_count_128 : decode cX11_count 128 = .ok (.iaload, 1) := by decide +kernel
theorem dX11_count_129 : decode cX11_count 129 = .ok (.goto 5, 3) := by decide +kernel
theorem dX11_count_132 : decode cX11_count 132 = .ok (.bipush (-9), 2) := by decide +kernel
theorem dX11_count_134 : decode cX11_count 134 = .ok (.ireturn, 1) := by decide +kernel
theorem dX11_refuse_0 : decode cX11_refuse 0 = .ok (.iload_n 1, 1) := by decide +kernel
theorem dX11_refuse_1 : decode cX11_refuse 1 = .ok (.ineg, 1) := by decide +kernel
theorem dX11_refuse_2 : decode cX11_refuse 2 = .ok (.istore_n 2, 1) := by decide +kernel
theorem dX11_refuse_3 : decode cX11_refuse 3 = .ok (.iload_n 2, 1) := by decide +kernel
theorem dX11_refuse_4 : decode cX11_refuse 4 = .ok (.ifCond .le 19, 3) := by decide +kernel
theorem dX11_refuse_7 : decode cX11_refuse 7 = .ok (.iload_n 2, 1) := by decide +kernel
theorem dX11_refuse_8 : decode cX11_refuse 8 = .ok (.bipush 6, 2) := by decide +kernel
theorem dX11_refuse_10 : decode cX11_refuse 10 = .ok (.if_icmp .gt 13, 3) := by decide +kernel
theorem dX11_refuse_13 : decode cX11_refuse 13 = .ok (.aload_n 0, 1) := by decide +kernel
theorem dX11_refuse_14 : decode cX11_refuse 14 = .ok (.getfield 96, 3) := by decide +kernel
theorem dX11_refuse_17 : decode cX11_refuse 17 = .ok (.iload_n 2, 1) := by decide +kernel
theorem dX11_refuse_18 : decode cX11_refuse 18 = .ok (.dup2, 1) := by decide +kernel
theorem dX11_refuse_19 : decode cX11_refuse 19 = .ok (.iaload, 1) := by decide +kernel
theorem dX11_refuse_20 : decode cX11_refuse 20 = .ok (.iconst 1, 1) := by decide +kernel
theorem dX11_refuse_21 : decode cX11_refuse 21 = .ok (.iadd, 1) := by decide +kernel
theorem dX11_refuse_22 : decode cX11_refuse 22 = .ok (.iastore, 1) := by decide +kernel
theorem dX11_refuse_23 : decode cX11_refuse 23 = .ok (.iload_n 1, 1) := by decide +kernel
theorem dX11_refuse_24 : decode cX11_refuse 24 = .ok (.ireturn, 1) := by decide +kernel
theorem dX11_solvedNow_0 : decode cX11_solvedNow 0 = .ok (.aload_n 0, 1) := by decide +kernel
theorem dX11_solvedNow_1 : decode cX11_solvedNow 1 = .ok (.getfield 100, 3) := by decide +kernel
theorem dX11_solvedNow_4 : decode cX11_solvedNow 4 = .ok (.ifCond .ne 7, 3) := by decide +kernel
theorem dX11_solvedNow_7 : decode cX11_solvedNow 7 = .ok (.iconst 1, 1) := by decide +kernel
theorem dX11_solvedNow_8 : decode cX11_solvedNow 8 = .ok (.goto 4, 3) := by decide +kernel
theorem dX11_solvedNow_11 : decode cX11_solvedNow 11 = .ok (.iconst 0, 1) := by decide +kernel
theorem dX11_solvedNow_12 : decode cX11_solvedNow 12 = .ok (.ireturn, 1) := by decide +kernel
theorem dX11_isPlace_0 : decode cX11_isPlace 0 = .ok (.iload_n 0, 1) := by decide +kernel
theorem dX11_isPlace_1 : decode cX11_isPlace 1 = .ok (.ifCond .lt 13, 3) := by decide +kernel
theorem dX11_isPlace_4 : decode cX11_isPlace 4 = .ok (.iload_n 0, 1) := by decide +kernel
theorem dX11_isPlace_5 : decode cX11_isPlace 5 = .ok (.bipush 6, 2) := by decide +kernel
theorem dX11_isPlace_7 : decode cX11_isPlace 7 = .ok (.if_icmp .ge 7, 3) := by decide +kernel
theorem dX11_isPlace_10 : decode cX11_isPlace 10 = .ok (.iconst 1, 1) := by decide +kernel
theorem dX11_isPlace_11 : decode cX11_isPlace 11 = .ok (.goto 4, 3) := by decide +kernel
theorem dX11_isPlace_14 : decode cX11_isPlace 14 = .ok (.iconst 0, 1) := by decide +kernel
theorem dX11_isPlace_15 : decode cX11_isPlace 15 = .ok (.ireturn, 1) := by decide +kernel
theorem dX11_outside_0 : decode cX11_outside 0 = .ok (.iload_n 0, 1) := by decide +kernel
theorem dX11_outside_1 : decode cX11_outside 1 = .ok (.iload_n 1, 1) := by decide +kernel
theorem dX11_outside_2 : decode cX11_outside 2 = .ok (.if_icmp .ge 6, 3) := by decide +kernel
theorem dX11_outside_5 : decode cX11_outside 5 = .ok (.bipush (-4), 2) := by decide +kernel
theorem dX11_outside_7 : decode cX11_outside 7 = .ok (.ireturn, 1) := by decide +kernel
theorem dX11_outside_8 : decode cX11_outside 8 = .ok (.iload_n 0, 1) := by decide +kernel
theorem dX11_outside_9 : decode cX11_outside 9 = .ok (.iload_n 2, 1) := by decide +kernel
theorem dX11_outside_10 : decode cX11_outside 10 = .ok (.if_icmp .le 8, 3) := by decide +kernel
theorem dX11_outside_13 : decode cX11_outside 13 = .ok (.bipush (-6), 2) := by decide +kernel
theorem dX11_outside_15 : decode cX11_outside 15 = .ok (.goto 4, 3) := by decide +kernel
theorem dX11_outside_18 : decode cX11_outside 18 = .ok (.iconst 0, 1) := by decide +kernel
theorem dX11_outside_19 : decode cX11_outside 19 = .ok (.ireturn, 1) := by decide +kernel
theorem dX11_exchange_0 : decode cX11_exchange 0 = .ok (.aload_n 0, 1) := by decide +kernel
theorem dX11_exchange_1 : decode cX11_exchange 1 = .ok (.iload_n 1, 1) := by decide +kernel
theorem dX11_exchange_2 : decode cX11_exchange 2 = .ok (.iaload, 1) := by decide +kernel
theorem dX11_exchange_3 : decode cX11_exchange 3 = .ok (.istore_n 3, 1) := by decide +kernel
theorem dX11_exchange_4 : decode cX11_exchange 4 = .ok (.aload_n 0, 1) := by decide +kernel
theorem dX11_exchange_5 : decode cX11_exchange 5 = .ok (.iload_n 1, 1) := by decide +kernel
theorem dX11_exchange_6 : decode cX11_exchange 6 = .ok (.iload_n 2, 1) := by decide +kernel
theorem dX11_exchange_7 : decode cX11_exchange 7 = .ok (.iastore, 1) := by decide +kernel
theorem dX11_exchange_8 : decode cX11_exchange 8 = .ok (.iload_n 3, 1) := by decide +kernel
theorem dX11_exchange_9 : decode cX11_exchange 9 = .ok (.ireturn, 1) := by decide +kernel
theorem dX11_leastTerms_0 : decode cX11_leastTerms 0 = .ok (.iload_n 1, 1) := by decide +kernel
theorem dX11_leastTerms_1 : decode cX11_leastTerms 1 = .ok (.istore_n 3, 1) := by decide +kernel
theorem dX11_leastTerms_2 : decode cX11_leastTerms 2 = .ok (.iload_n 3, 1) := by decide +kernel
theorem dX11_leastTerms_3 : decode cX11_leastTerms 3 = .ok (.iconst 1, 1) := by decide +kernel
theorem dX11_leastTerms_4 : decode cX11_leastTerms 4 = .ok (.if_icmp .le 21, 3) := by decide +kernel
theorem dX11_leastTerms_7 : decode cX11_leastTerms 7 = .ok (.iload_n 0, 1) := by decide +kernel
theorem dX11_leastTerms_8 : decode cX11_leastTerms 8 = .ok (.iload_n 3, 1) := by decide +kernel
theorem dX11_leastTerms_9 : decode cX11_leastTerms 9 = .ok (.irem, 1) := by decide +kernel
theorem dX11_leastTerms_10 : decode cX11_leastTerms 10 = .ok (.ifCond .ne 9, 3) := by decide +kernel
theorem dX11_leastTerms_13 : decode cX11_leastTerms 13 = .ok (.iload_n 1, 1) := by decide +kernel
theorem dX11_leastTerms_14 : decode cX11_leastTerms 14 = .ok (.iload_n 3, 1) := by decide +kernel
theorem dX11_leastTerms_15 : decode cX11_leastTerms 15 = .ok (.irem, 1) := by decide +kernel
theorem dX11_leastTerms_16 : decode cX11_leastTerms 16 = .ok (.ifCond .eq 9, 3) := by decide +kernel
theorem dX11_leastTerms_19 : decode cX11_leastTerms 19 = .ok (.iinc 3 (-1), 3) := by decide +kernel
theorem dX11_leastTerms_22 : decode cX11_leastTerms 22 = .ok (.goto (-20), 3) := by decide +kernel
theorem dX11_leastTerms_25 : decode cX11_leastTerms 25 = .ok (.iload_n 3, 1) := by decide +kernel
theorem dX11_leastTerms_26 : decode cX11_leastTerms 26 = .ok (.iconst 1, 1) := by decide +kernel
theorem dX11_leastTerms_27 : decode cX11_leastTerms 27 = .ok (.if_icmp .ge 5, 3) := by decide +kernel
theorem dX11_leastTerms_30 : decode cX11_leastTerms 30 = .ok (.iload_n 2, 1) := by decide +kernel
theorem dX11_leastTerms_31 : decode cX11_leastTerms 31 = .ok (.ireturn, 1) := by decide +kernel
theorem dX11_leastTerms_32 : decode cX11_leastTerms 32 = .ok (.iload_n 2, 1) := by decide +kernel
theorem dX11_leastTerms_33 : decode cX11_leastTerms 33 = .ok (.ifCond .ne 9, 3) := by decide +kernel
theorem dX11_leastTerms_36 : decode cX11_leastTerms 36 = .ok (.iload_n 0, 1) := by decide +kernel
theorem dX11_leastTerms_37 : decode cX11_leastTerms 37 = .ok (.iload_n 3, 1) := by decide +kernel
theorem dX11_leastTerms_38 : decode cX11_leastTerms 38 = .ok (.idiv, 1) := by decide +kernel
theorem dX11_leastTerms_39 : decode cX11_leastTerms 39 = .ok (.goto 6, 3) := by decide +kernel
theorem dX11_leastTerms_42 : decode cX11_leastTerms 42 = .ok (.iload_n 1, 1) := by decide +kernel
theorem dX11_leastTerms_43 : decode cX11_leastTerms 43 = .ok (.iload_n 3, 1) := by decide +kernel
theorem dX11_leastTerms_44 : decode cX11_leastTerms 44 = .ok (.idiv, 1) := by decide +kernel
theorem dX11_leastTerms_45 : decode cX11_leastTerms 45 = .ok (.ireturn, 1) := by decide +kernel
theorem dX12_init_0 : decode cX12_init 0 = .ok (.aload_n 0, 1) := by decide +kernel
theorem dX12_init_1 : decode cX12_init 1 = .ok (.invokespecial 1, 3) := by decide +kernel
theorem dX12_init_4 : decode cX12_init 4 = .ok (.aload_n 0, 1) := by decide +kernel
theorem dX12_init_5 : decode cX12_init 5 = .ok (.bipush 7, 2) := by decide +kernel
theorem dX12_init_7 : decode cX12_init 7 = .ok (.newarray .int, 2) := by decide +kernel
theorem dX12_init_9 : decode cX12_init 9 = .ok (.putfield 7, 3) := by decide +kernel
theorem dX12_init_12 : decode cX12_init 12 = .ok (.aload_n 0, 1) := by decide +kernel
theorem dX12_init_13 : decode cX12_init 13 = .ok (.sipush 197, 3) := by decide +kernel
theorem dX12_init_16 : decode cX12_init 16 = .ok (.newarray .int, 2) := by decide +kernel
theorem dX12_init_18 : decode cX12_init 18 = .ok (.putfield 13, 3) := by decide +kernel
theorem dX12_init_21 : decode cX12_init 21 = .ok (.aload_n 0, 1) := by decide +kernel
theorem dX12_init_22 : decode cX12_init 22 = .ok (.sipush 197, 3) := by decide +kernel
theorem dX12_init_25 : decode cX12_init 25 = .ok (.newarray .int, 2) := by decide +kernel
theorem dX12_init_27 : decode cX12_init 27 = .ok (.putfield 16, 3) := by decide +kernel
theorem dX12_init_30 : decode cX12_init 30 = .ok (.aload_n 0, 1) := by decide +kernel
theorem dX12_init_31 : decode cX12_init 31 = .ok (.bipush 16, 2) := by decide +kernel
theorem dX12_init_33 : decode cX12_init 33 = .ok (.newarray .int, 2) := by decide +kernel
theorem dX12_init_35 : decode cX12_init 35 = .ok (.putfield 19, 3) := by decide +kernel
theorem dX12_init_38 : decode cX12_init 38 = .ok (.aload_n 0, 1) := by decide +kernel
theorem dX12_init_39 : decode cX12_init 39 = .ok (.bipush 9, 2) := by decide +kernel
theorem dX12_init_41 : decode cX12_init 41 = .ok (.newarray .int, 2) := by decide +kernel
theorem dX12_init_43 : decode cX12_init 43 = .ok (.putfield 22, 3) := by decide +kernel
theorem dX12_init_46 : decode cX12_init 46 = .ok (.aload_n 0, 1) := by decide +kernel
theorem dX12_init_47 : decode cX12_init 47 = .ok (.bipush 6, 2) := by decide +kernel
theorem dX12_init_49 : decode cX12_init 49 = .ok (.newarray .int, 2) := by decide +kernel
theorem dX12_init_51 : decode cX12_init 51 = .ok (.putfield 25, 3) := by decide +kernel
theorem dX12_init_54 : decode cX12_init 54 = .ok (.aload_n 0, 1) := by decide +kernel
theorem dX12_init_55 : decode cX12_init 55 = .ok (.bipush 6, 2) := by decide +kernel
theorem dX12_init_57 : decode cX12_init 57 = .ok (.newarray .int, 2) := by decide +kernel
theorem dX12_init_59 : decode cX12_init 59 = .ok (.putfield 28, 3) := by decide +kernel
theorem dX12_init_62 : decode cX12_init 62 = .ok (.aload_n 0, 1) := by decide +kernel
theorem dX12_init_63 : decode cX12_init 63 = .ok (.bipush 6, 2) := by decide +kernel
theorem dX12_init_65 : decode cX12_init 65 = .ok (.newarray .int, 2) := by decide +kernel
theorem dX12_init_67 : decode cX12_init 67 = .ok (.putfield 31, 3) := by decide +kernel
theorem dX12_init_70 : decode cX12_init 70 = .ok (.aload_n 0, 1) := by decide +kernel
theorem dX12_init_71 : decode cX12_init 71 = .ok (.bipush 6, 2) := by decide +kernel
theorem dX12_init_73 : decode cX12_init 73 = .ok (.newarray .int, 2) := by decide +kernel
theorem dX12_init_75 : decode cX12_init 75 = .ok (.putfield 34, 3) := by decide +kernel
theorem dX12_init_78 : decode cX12_init 78 = .ok (.aload_n 0, 1) := by decide +kernel
theorem dX12_init_79 : decode cX12_init 79 = .ok (.bipush 36, 2) := by decide +kernel
theorem dX12_init_81 : decode cX12_init 81 = .ok (.newarray .int, 2) := by decide +kernel
theorem dX12_init_83 : decode cX12_init 83 = .ok (.putfield 37, 3) := by decide +kernel
theorem dX12_init_86 : decode cX12_init 86 = .ok (.aload_n 0, 1) := by decide +kernel
theorem dX12_init_87 : decode cX12_init 87 = .ok (.sipush 720, 3) := by decide +kernel
theorem dX12_init_90 : decode cX12_init 90 = .ok (.newarray .int, 2) := by decide +kernel
theorem dX12_init_92 : decode cX12_init 92 = .ok (.putfield 40, 3) := by decide +kernel
theorem dX12_init_95 : decode cX12_init 95 = .ok (.aload_n 0, 1) := by decide +kernel
theorem dX12_init_96 : decode cX12_init 96 = .ok (.bipush 6, 2) := by decide +kernel
theorem dX12_init_98 : decode cX12_init 98 = .ok (.newarray .int, 2) := by decide +kernel
theorem dX12_init_100 : decode cX12_init 100 = .ok (.putfield 43, 3) := by decide +kernel
theorem dX12_init_103 : decode cX12_init 103 = .ok (.aload_n 0, 1) := by decide +kernel
theorem dX12_init_104 : decode cX12_init 104 = .ok (.bipush 6, 2) := by decide +kernel
theorem dX12_init_106 : decode cX12_init 106 = .ok (.newarray .int, 2) := by decide +kernel
theorem dX12_init_108 : decode cX12_init 108 = .ok (.putfield 46, 3) := by decide +kernel
theorem dX12_init_111 : decode cX12_init 111 = .ok (.aload_n 0, 1) := by decide +kernel
theorem dX12_init_112 : decode cX12_init 112 = .ok (.bipush 6, 2) := by decide +kernel
theorem dX12_init_114 : decode cX12_init 114 = .ok (.newarray .int, 2) := by decide +kernel
theorem dX12_init_116 : decode cX12_init 116 = .ok (.putfield 49, 3) := by decide +kernel
theorem dX12_init_119 : decode cX12_init 119 = .ok (.aload_n 0, 1) := by decide +kernel
theorem dX12_init_120 : decode cX12_init 120 = .ok (.iconst 4, 1) := by decide +kernel
theorem dX12_init_121 : decode cX12_init 121 = .ok (.newarray .int, 2) := by decide +kernel
theorem dX12_init_123 : decode cX12_init 123 = .ok (.putfield 52, 3) := by decide +kernel
theorem dX12_init_126 : decode cX12_init 126 = .ok (.aload_n 0, 1) := by decide +kernel
theorem dX12_init_127 : decode cX12_init 127 = .ok (.iconst 5, 1) := by decide +kernel
theorem dX12_init_128 : decode cX12_init 128 = .ok (.newarray .int, 2) := by decide +kernel
theorem dX12_init_130 : decode cX12_init 130 = .ok (.putfield 55, 3) := by decide +kernel
theorem dX12_init_133 : decode cX12_init 133 = .ok (.aload_n 0, 1) := by decide +kernel
theorem dX12_init_134 : decode cX12_init 134 = .ok (.bipush 8, 2) := by decide +kernel
theorem dX12_init_136 : decode cX12_init 136 = .ok (.newarray .int, 2) := by decide +kernel
theorem dX12_init_138 : decode cX12_init 138 = .ok (.putfield 58, 3) := by decide +kernel
theorem dX12_init_141 : decode cX12_init 141 = .ok (.aload_n 0, 1) := by decide +kernel
theorem dX12_init_142 : decode cX12_init 142 = .ok (.getfield 13, 3) := by decide +kernel
theorem dX12_init_145 : decode cX12_init 145 = .ok (.iconst 4, 1) := by decide +kernel
theorem dX12_init_146 : decode cX12_init 146 = .ok (.bipush 20, 2) := by decide +kernel
theorem dX12_init_148 : decode cX12_init 148 = .ok (.iastore, 1) := by decide +kernel
theorem dX12_init_149 : decode cX12_init 149 = .ok (.iconst 0, 1) := by decide +kernel
theorem dX12_init_150 : decode cX12_init 150 = .ok (.istore_n 1, 1) := by decide +kernel
theorem dX12_init_151 : decode cX12_init 151 = .ok (.iload_n 1, 1) := by decide +kernel
theorem dX12_init_152 : decode cX12_init 152 = .ok (.bipush 6, 2) := by decide +kernel
theorem dX12_init_154 : decode cX12_init 154 = .ok (.if_icmp .ge 29, 3) := by decide +kernel
theorem dX12_init_157 : decode cX12_init 157 = .ok (.aload_n 0, 1) := by decide +kernel
theorem dX12_init_158 : decode cX12_init 158 = .ok (.getfield 13, 3) := by decide +kernel
theorem dX12_init_161 : decode cX12_init 161 = .ok (.iconst 5, 1) := by decide +kernel
theorem dX12_init_162 : decode cX12_init 162 = .ok (.iload_n 1, 1) := by decide +kernel
theorem dX12_init_163 : decode cX12_init 163 = .ok (.iadd, 1) := by decide +kernel
theorem dX12_init_164 : decode cX12_init 164 = .ok (.iload_n 1, 1) := by decide +kernel
theorem dX12_init_165 : decode cX12_init 165 = .ok (.iastore, 1) := by decide +kernel
theorem dX12_init_166 : decode cX12_init 166 = .ok (.aload_n 0, 1) := by decide +kernel
theorem dX12_init_167 : decode cX12_init 167 = .ok (.getfield 13, 3) := by decide +kernel
theorem dX12_init_170 : decode cX12_init 170 = .ok (.bipush 47, 2) := by decide +kernel
theorem dX12_init_172 : decode cX12_init 172 = .ok (.iload_n 1, 1) := by decide +kernel
theorem dX12_init_173 : decode cX12_init 173 = .ok (.iadd, 1) := by decide +kernel
theorem dX12_init_174 : decode cX12_init 174 = .ok (.bipush 10, 2) := by decide +kernel
theorem dX12_init_176 : decode cX12_init 176 = .ok (.iastore, 1) := by decide +kernel
theorem dX12_init_177 : decode cX12_init 177 = .ok (.iinc 1 1, 3) := by decide +kernel
theorem dX12_init_180 : decode cX12_init 180 = .ok (.goto (-29), 3) := by decide +kernel
theorem dX12_init_183 : decode cX12_init 183 = .ok (.return_, 1) := by decide +kernel
theorem dX12_refuse_0 : decode cX12_refuse 0 = .ok (.aload_n 0, 1) := by decide +kernel
theorem dX12_refuse_1 : decode cX12_refuse 1 = .ok (.getfield 7, 3) := by decide +kernel
theorem dX12_refuse_4 : decode cX12_refuse 4 = .ok (.iload_n 1, 1) := by decide +kernel
theorem dX12_refuse_5 : decode cX12_refuse 5 = .ok (.ineg, 1) := by decide +kernel
theorem dX12_refuse_6 : decode cX12_refuse 6 = .ok (.dup2, 1) := by decide +kernel
theorem dX12_refuse_7 : decode cX12_refuse 7 = .ok (.iaload, 1) := by decide +kernel
theorem dX12_refuse_8 : decode cX12_refuse 8 = .ok (.iconst 1, 1) := by decide +kernel
theorem dX12_refuse_9 : decode cX12_refuse 9 = .ok (.iadd, 1) := by decide +kernel
theorem dX12_refuse_10 : decode cX12_refuse 10 = .ok (.iastore, 1) := by decide +kernel
theorem dX12_refuse_11 : decode cX12_refuse 11 = .ok (.iload_n 1, 1) := by decide +kernel
theorem dX12_refuse_12 : decode cX12_refuse 12 = .ok (.ireturn, 1) := by decide +kernel
theorem dX12_isIn_0 : decode cX12_isIn 0 = .ok (.iload_n 0, 1) := by decide +kernel
theorem dX12_isIn_1 : decode cX12_isIn 1 = .ok (.ifCond .lt 12, 3) := by decide +kernel
theorem dX12_isIn_4 : decode cX12_isIn 4 = .ok (.iload_n 0, 1) := by decide +kernel
theorem dX12_isIn_5 : decode cX12_isIn 5 = .ok (.iload_n 1, 1) := by decide +kernel
theorem dX12_isIn_6 : decode cX12_isIn 6 = .ok (.if_icmp .ge 7, 3) := by decide +kernel
theorem dX12_isIn_9 : decode cX12_isIn 9 = .ok (.iconst 1, 1) := by decide +kernel
theorem dX12_isIn_10 : decode cX12_isIn 10 = .ok (.goto 4, 3) := by decide +kernel
theorem dX12_isIn_13 : decode cX12_isIn 13 = .ok (.iconst 0, 1) := by decide +kernel
theorem dX12_isIn_14 : decode cX12_isIn 14 = .ok (.ireturn, 1) := by decide +kernel
theorem dX12_within_0 : decode cX12_within 0 = .ok (.iload_n 0, 1) := by decide +kernel
theorem dX12_within_1 : decode cX12_within 1 = .ok (.iload_n 1, 1) := by decide +kernel
theorem dX12_within_2 : decode cX12_within 2 = .ok (.if_icmp .ge 8, 3) := by decide +kernel
theorem dX12_within_5 : decode cX12_within 5 = .ok (.bipush (-4), 2) := by decide +kernel
theorem dX12_within_7 : decode cX12_within 7 = .ok (.goto 14, 3) := by decide +kernel
theorem dX12_within_10 : decode cX12_within 10 = .ok (.iload_n 0, 1) := by decide +kernel
theorem dX12_within_11 : decode cX12_within 11 = .ok (.iload_n 2, 1) := by decide +kernel
theorem dX12_within_12 : decode cX12_within 12 = .ok (.if_icmp .le 8, 3) := by decide +kernel
theorem dX12_within_15 : decode cX12_within 15 = .ok (.bipush (-6), 2) := by decide +kernel
theorem dX12_within_17 : decode cX12_within 17 = .ok (.goto 4, 3) := by decide +kernel
theorem dX12_within_20 : decode cX12_within 20 = .ok (.iconst 0, 1) := by decide +kernel
theorem dX12_within_21 : decode cX12_within 21 = .ok (.ireturn, 1) := by decide +kernel
theorem dX12_isMove_0 : decode cX12_isMove 0 = .ok (.iload_n 1, 1) := by decide +kernel
theorem dX12_isMove_1 : decode cX12_isMove 1 = .ok (.iconst 2, 1) := by decide +kernel
theorem dX12_isMove_2 : decode cX12_isMove 2 = .ok (.aload_n 0, 1) := by decide +kernel
theorem dX12_isMove_3 : decode cX12_isMove 3 = .ok (.getfield 13, 3) := by decide +kernel
theorem dX12_isMove_6 : decode cX12_isMove 6 = .ok (.iconst 0, 1) := by decide +kernel
theorem dX12_isMove_7 : decode cX12_isMove 7 = .ok (.iaload, 1) := by decide +kernel
theorem dX12_isMove_8 : decode cX12_isMove 8 = .ok (.imul, 1) := by decide +kernel
theorem dX12_isMove_9 : decode cX12_isMove 9 = .ok (.invokestatic 61, 3) := by decide +kernel
theorem dX12_isMove_12 : decode cX12_isMove 12 = .ok (.ireturn, 1) := by decide +kernel
theorem dX12_isRow_0 : decode cX12_isRow 0 = .ok (.iload_n 1, 1) := by decide +kernel
theorem dX12_isRow_1 : decode cX12_isRow 1 = .ok (.aload_n 0, 1) := by decide +kernel
theorem dX12_isRow_2 : decode cX12_isRow 2 = .ok (.getfield 13, 3) := by decide +kernel
theorem dX12_isRow_5 : decode cX12_isRow 5 = .ok (.iconst 1, 1) := by decide +kernel
theorem dX12_isRow_6 : decode cX12_isRow 6 = .ok (.iaload, 1) := by decide +kernel
theorem dX12_isRow_7 : decode cX12_isRow 7 = .ok (.invokestatic 61, 3) := by decide +kernel
theorem dX12_isRow_10 : decode cX12_isRow 10 = .ok (.ireturn, 1) := by decide +kernel
theorem dX12_isStep_0 : decode cX12_isStep 0 = .ok (.iload_n 1, 1) := by decide +kernel
theorem dX12_isStep_1 : decode cX12_isStep 1 = .ok (.aload_n 0, 1) := by decide +kernel
theorem dX12_isStep_2 : decode cX12_isStep 2 = .ok (.getfield 13, 3) := by decide +kernel
theorem dX12_isStep_5 : decode cX12_isStep 5 = .ok (.iconst 2, 1) := by decide +kernel
theorem dX12_isStep_6 : decode cX12_isStep 6 = .ok (.iaload, 1) := by decide +kernel
theorem dX12_isStep_7 : decode cX12_isStep 7 = .ok (.invokestatic 61, 3) := by decide +kernel
theorem dX12_isStep_10 : decode cX12_isStep 10 = .ok (.ireturn, 1) := by decide +kernel
theorem dX12_isPlace_0 : decode cX12_isPlace 0 = .ok (.iload_n 0, 1) := by decide +kernel
theorem dX12_isPlace_1 : decode cX12_isPlace 1 = .ok (.bipush 6, 2) := by decide +kernel
theorem dX12_isPlace_3 : decode cX12_isPlace 3 = .ok (.invokestatic 61, 3) := by decide +kernel
theorem dX12_isPlace_6 : decode cX12_isPlace 6 = .ok (.ireturn, 1) := by decide +kernel
theorem dX12_feed_0 : decode cX12_feed 0 = .ok (.iload_n 1, 1) := by decide +kernel
theorem dX12_feed_1 : decode cX12_feed 1 = .ok (.iconst 1, 1) := by decide +kernel
theorem dX12_feed_2 : decode cX12_feed 2 = .ok (.if_icmp .ge 10, 3) := by decide +kernel
theorem dX12_feed_5 : decode cX12_feed 5 = .ok (.aload_n 0, 1) := by decide +kernel
theorem dX12_feed_6 : decode cX12_feed 6 = .ok (.bipush (-4), 2) := by decide +kernel
theorem dX12_feed_8 : decode cX12_feed 8 = .ok (.invokevirtual 65, 3) := by decide +kernel
theorem dX12_feed_11 : decode cX12_feed 11 = .ok (.ireturn, 1) := by decide +kernel
theorem dX12_feed_12 : decode cX12_feed 12 = .ok (.iload_n 1, 1) := by decide +kernel
theorem dX12_feed_13 : decode cX12_feed 13 = .ok (.bipush 8, 2) := by decide +kernel
theorem dX12_feed_15 : decode cX12_feed 15 = .ok (.if_icmp .gt 14, 3) := by decide +kernel
theorem dX12_feed_18 : decode cX12_feed 18 = .ok (.aload_n 0, 1) := by decide +kernel
theorem dX12_feed_19 : decode cX12_feed 19 = .ok (.getfield 69, 3) := by decide +kernel
theorem dX12_feed_22 : decode cX12_feed 22 = .ok (.iload_n 1, 1) := by decide +kernel
theorem dX12_feed_23 : decode cX12_feed 23 = .ok (.iadd, 1) := by decide +kernel
theorem dX12_feed_24 : decode cX12_feed 24 = .ok (.bipush 16, 2) := by decide +kernel
theorem dX12_feed_26 : decode cX12_feed 26 = .ok (.if_icmp .le 10, 3) := by decide +kernel
theorem dX12_feed_29 : decode cX12_feed 29 = .ok (.aload_n 0, 1) := by decide +kernel
theorem dX12_feed_30 : decode cX12_feed 30 = .ok (.bipush (-6), 2) := by decide +kernel
theorem dX12_feed_32 : decode cX12_feed 32 = .ok (.invokevirtual 65, 3) := by decide +kernel
theorem dX12_feed_35 : decode cX12_feed 35 = .ok (.ireturn, 1) := by decide +kernel
theorem dX12_feed_36 : decode cX12_feed 36 = .ok (.iconst 0, 1) := by decide +kernel
theorem dX12_feed_37 : decode cX12_feed 37 = .ok (.istore 4, 2) := by decide +kernel
theorem dX12_feed_39 : decode cX12_feed 39 = .ok (.iload 4, 2) := by decide +kernel
theorem dX12_feed_41 : decode cX12_feed 41 = .ok (.iload_n 1, 1) := by decide +kernel
theorem dX12_feed_42 : decode cX12_feed 42 = .ok (.if_icmp .ge 40, 3) := by decide +kernel
theorem dX12_feed_45 : decode cX12_feed 45 = .ok (.aload_n 0, 1) := by decide +kernel
theorem dX12_feed_46 : decode cX12_feed 46 = .ok (.getfield 19, 3) := by decide +kernel
theorem dX12_feed_49 : decode cX12_feed 49 = .ok (.aload_n 0, 1) := by decide +kernel
theorem dX12_feed_50 : decode cX12_feed 50 = .ok (.getfield 69, 3) := by decide +kernel
theorem dX12_feed_53 : decode cX12_feed 53 = .ok (.lload_n 2, 1) := by decide +kernel
theorem dX12_feed_54 : decode cX12_feed 54 = .ok (.bipush 8, 2) := by decide +kernel
theorem dX12_feed_56 : decode cX12_feed 56 = .ok (.iload 4, 2) := by decide +kernel
theorem dX12_feed_58 : decode cX12_feed 58 = .ok (.imul, 1) := by decide +kernel
theorem dX12_feed_59 : decode cX12_feed 59 = .ok (.lshr, 1) := by decide +kernel
theorem dX12_feed_60 : decode cX12_feed 60 = .ok (.ldc2_w 73, 3) := by decide +kernel
theorem dX12_feed_63 : decode cX12_feed 63 = .ok (.land, 1) := by decide +kernel
theorem dX12_feed_64 : decode cX12_feed 64 = .ok (.l2i, 1) := by decide +kernel
theorem dX12_feed_65 : decode cX12_feed 65 = .ok (.iastore, 1) := by decide +kernel
theorem dX12_feed_66 : decode cX12_feed 66 = .ok (.aload_n 0, 1) := by decide +kernel
theorem dX12_feed_67 : decode cX12_feed 67 = .ok (.dup, 1) := by decide +kernel
theorem dX12_feed_68 : decode cX12_feed 68 = .ok (.getfield 69, 3) := by decide +kernel
theorem dX12_feed_71 : decode cX12_feed 71 = .ok (.iconst 1, 1) := by decide +kernel
theorem dX12_feed_72 : decode cX12_feed 72 = .ok (.iadd, 1) := by decide +kernel
theorem dX12_feed_73 : decode cX12_feed 73 = .ok (.putfield 69, 3) := by decide +kernel
theorem dX12_feed_76 : decode cX12_feed 76 = .ok (.iinc 4 1, 3) := by decide +kernel
theorem dX12_feed_79 : decode cX12_feed 79 = .ok (.goto (-40), 3) := by decide +kernel
theorem dX12_feed_82 : decode cX12_feed 82 = .ok (.aload_n 0, 1) := by decide +kernel
theorem dX12_feed_83 : decode cX12_feed 83 = .ok (.getfield 69, 3) := by decide +kernel
theorem dX12_feed_86 : decode cX12_feed 86 = .ok (.ireturn, 1) := by decide +kernel
theorem dX12_sign_0 : decode cX12_sign 0 = .ok (.aload_n 0, 1) := by decide +kernel
theorem dX12_sign_1 : decode cX12_sign 1 = .ok (.getfield 75, 3) := by decide +kernel
theorem dX12_sign_4 : decode cX12_sign 4 = .ok (.aload_n 0, 1) := by decide +kernel
theorem dX12_sign_5 : decode cX12_sign 5 = .ok (.getfield 69, 3) := by decide +kernel
theorem dX12_sign_8 : decode cX12_sign 8 = .ok (.if_icmp .lt 7, 3) := by decide +kernel
theorem dX12_sign_11 : decode cX12_sign 11 = .ok (.iconst (-1), 1) := by decide +kernel
theorem dX12_sign_12 : decode cX12_sign 12 = .ok (.goto 12, 3) := by decide +kernel
theorem dX12_sign_15 : decode cX12_sign 15 = .ok (.aload_n 0, 1) := by decide +kernel
theorem dX12_sign_16 : decode cX12_sign 16 = .ok (.getfield 19, 3) := by decide +kernel
theorem dX12_sign_19 : decode cX12_sign 19 = .ok (.aload_n 0, 1) := by decide +kernel
theorem dX12_sign_20 : decode cX12_sign 20 = .ok (.getfield 75, 3) := by decide +kernel
theorem dX12_sign_23 : decode cX12_sign 23 = .ok (.iaload, 1) := by decide +kernel
theorem dX12_sign_24 : decode cX12_sign 24 = .ok (.ireturn, 1) := by decide +kernel
theorem dX12_readsRing_0 : decode cX12_readsRing 0 = .ok (.aload_n 0, 1) := by decide +kernel
theorem dX12_readsRing_1 : decode cX12_readsRing 1 = .ok (.invokevirtual 78, 3) := by decide +kernel
theorem dX12_readsRing_4 : decode cX12_readsRing 4 = .ok (.bipush 40, 2) := by decide +kernel
theorem dX12_readsRing_6 : decode cX12_readsRing 6 = .ok (.if_icmp .eq 5, 3) := by decide +kernel
theorem dX12_readsRing_9 : decode cX12_readsRing 9 = .ok (.iconst 0, 1) := by decide +kernel
theorem dX12_readsRing_10 : decode cX12_readsRing 10 = .ok (.ireturn, 1) := by decide +kernel
theorem dX12_readsRing_11 : decode cX12_readsRing 11 = .ok (.aload_n 0, 1) := by decide +kernel
theorem dX12_readsRing_12 : decode cX12_readsRing 12 = .ok (.dup, 1) := by decide +kernel
theorem dX12_readsRing_13 : decode cX12_readsRing 13 = .ok (.getfield 75, 3) := by decide +kernel
theorem dX12_readsRing_16 : decode cX12_readsRing 16 = .ok (.iconst 1, 1) := by decide +kernel
theorem dX12_readsRing_17 : decode cX12_readsRing 17 = .ok (.iadd, 1) := by decide +kernel
theorem dX12_readsRing_18 : decode cX12_readsRing 18 = .ok (.putfield 75, 3) := by decide +kernel
theorem dX12_readsRing_21 : decode cX12_readsRing 21 = .ok (.bipush (-9), 2) := by decide +kernel
theorem dX12_readsRing_23 : decode cX12_readsRing 23 = .ok (.istore_n 1, 1) := by decide +kernel
theorem dX12_readsRing_24 : decode cX12_readsRing 24 = .ok (.bipush (-9), 2) := by decide +kernel
theorem dX12_readsRing_26 : decode cX12_readsRing 26 = .ok (.istore_n 2, 1) := by decide +kernel
theorem dX12_readsRing_27 : decode cX12_readsRing 27 = .ok (.iconst 0, 1) := by decide +kernel
theorem dX12_readsRing_28 : decode cX12_readsRing 28 = .ok (.istore_n 3, 1) := by decide +kernel
theorem dX12_readsRing_29 : decode cX12_readsRing 29 = .ok (.aload_n 0, 1) := by decide +kernel
theorem dX12_readsRing_30 : decode cX12_readsRing 30 = .ok (.invokevirtual 78, 3) := by decide +kernel
theorem dX12_readsRing_33 : decode cX12_readsRing 33 = .ok (.bipush 97, 2) := by decide +kernel
theorem dX12_readsRing_35 : decode cX12_readsRing 35 = .ok (.if_icmp .lt 86, 3) := by decide +kernel
theorem dX12_readsRing_38 : decode cX12_readsRing 38 = .ok (.aload_n 0, 1) := by decide +kernel
theorem dX12_readsRing_39 : decode cX12_readsRing 39 = .ok (.invokevirtual 78, 3) := by decide +kernel
theorem dX12_readsRing_42 : decode cX12_readsRing 42 = .ok (.bipush 102, 2) := by decide +kernel
theorem dX12_readsRing_44 : decode cX12_readsRing 44 = .ok (.if_icmp .gt 77, 3) := by decide +kernel
theorem dX12_readsRing_47 : decode cX12_readsRing 47 = .ok (.aload_n 0, 1) := by decide +kernel
theorem dX12_readsRing_48 : decode cX12_readsRing 48 = .ok (.invokevirtual 78, 3) := by decide +kernel
theorem dX12_readsRing_51 : decode cX12_readsRing 51 = .ok (.bipush 97, 2) := by decide +kernel
theorem dX12_readsRing_53 : decode cX12_readsRing 53 = .ok (.isub, 1) := by decide +kernel
theorem dX12_readsRing_54 : decode cX12_readsRing 54 = .ok (.istore 4, 2) := by decide +kernel
theorem dX12_readsRing_56 : decode cX12_readsRing 56 = .ok (.aload_n 0, 1) := by decide +kernel
theorem dX12_readsRing_57 : decode cX12_readsRing 57 = .ok (.getfield 82, 3) := by decide +kernel
theorem dX12_readsRing_60 : decode cX12_readsRing 60 = .ok (.iload 4, 2) := by decide +kernel
theorem dX12_readsRing_62 : decode cX12_readsRing 62 = .ok (.ishr, 1) := by decide +kernel
theorem dX12_readsRing_63 : decode cX12_readsRing 63 = .ok (.iconst 1, 1) := by decide +kernel
theorem dX12_readsRing_64 : decode cX12_readsRing 64 = .ok (.iand, 1) := by decide +kernel
theorem dX12_readsRing_65 : decode cX12_readsRing 65 = .ok (.iconst 1, 1) := by decide +kernel
theorem dX12_readsRing_66 : decode cX12_readsRing 66 = .ok (.if_icmp .ne 5, 3) := by decide +kernel
theorem dX12_readsRing_69 : decode cX12_readsRing 69 = .ok (.iconst 0, 1) := by decide +kernel
theorem dX12_readsRing_70 : decode cX12_readsRing 70 = .ok (.ireturn, 1) := by decide +kernel
theorem dX12_readsRing_71 : decode cX12_readsRing 71 = .ok (.aload_n 0, 1) := by decide +kernel
theorem dX12_readsRing_72 : decode cX12_readsRing 72 = .ok (.dup, 1) := by decide +kernel
theorem dX12_readsRing_73 : decode cX12_readsRing 73 = .ok (.getfield 82, 3) := by decide +kernel
theorem dX12_readsRing_76 : decode cX12_readsRing 76 = .ok (.iconst 1, 1) := by decide +kernel
theorem dX12_readsRing_77 : decode cX12_readsRing 77 = .ok (.iload 4, 2) := by decide +kernel
theorem dX12_readsRing_79 : decode cX12_readsRing 79 = .ok (.ishl, 1) := by decide +kernel
theorem dX12_readsRing_80 : decode cX12_readsRing 80 = .ok (.ior, 1) := by decide +kernel
theorem dX12_readsRing_81 : decode cX12_readsRing 81 = .ok (.putfield 82, 3) := by decide +kernel
theorem dX12_readsRing_84 : decode cX12_readsRing 84 = .ok (.iload_n 3, 1) := by decide +kernel
theorem dX12_readsRing_85 : decode cX12_readsRing 85 = .ok (.ifCond .ne 9, 3) := by decide +kernel
theorem dX12_readsRing_88 : decode cX12_readsRing 88 = .ok (.iload 4, 2) := by decide +kernel
theorem dX12_readsRing_90 : decode cX12_readsRing 90 = .ok (.istore_n 1, 1) := by decide +kernel
theorem dX12_readsRing_91 : decode cX12_readsRing 91 = .ok (.goto 11, 3) := by decide +kernel
theorem dX12_readsRing_94 : decode cX12_readsRing 94 = .ok (.aload_n 0, 1) := by decide +kernel
theorem dX12_readsRing_95 : decode cX12_readsRing 95 = .ok (.getfield 22, 3) := by decide +kernel
theorem dX12_readsRing_98 : decode cX12_readsRing 98 = .ok (.iload_n 2, 1) := by decide +kernel
theorem dX12_readsRing_99 : decode cX12_readsRing 99 = .ok (.iload 4, 2) := by decide +kernel
theorem dX12_readsRing_101 : decode cX12_readsRing 101 = .ok (.iastore, 1) := by decide +kernel
theorem dX12_readsRing_102 : decode cX12_readsRing 102 = .ok (.iload 4, 2) := by decide +kernel
theorem dX12_readsRing_104 : decode cX12_readsRing 104 = .ok (.istore_n 2, 1) := by decide +kernel
theorem dX12_readsRing_105 : decode cX12_readsRing 105 = .ok (.iinc 3 1, 3) := by decide +kernel
theorem dX12_readsRing_108 : decode cX12_readsRing 108 = .ok (.aload_n 0, 1) := by decide +kernel
theorem dX12_readsRing_109 : decode cX12_readsRing 109 = .ok (.dup, 1) := by decide +kernel
theorem dX12_readsRing_110 : decode cX12_readsRing 110 = .ok (.getfield 75, 3) := by decide +kernel
theorem dX12_readsRing_113 : decode cX12_readsRing 113 = .ok (.iconst 1, 1) := by decide +kernel
theorem dX12_readsRing_114 : decode cX12_readsRing 114 = .ok (.iadd, 1) := by decide +kernel
theorem dX12_readsRing_115 : decode cX12_readsRing 115 = .ok (.putfield 75, 3) := by decide +kernel
theorem dX12_readsRing_118 : decode cX12_readsRing 118 = .ok (.goto (-89), 3) := by decide +kernel
theorem dX12_readsRing_121 : decode cX12_readsRing 121 = .ok (.aload_n 0, 1) := by decide +kernel
theorem dX12_readsRing_122 : decode cX12_readsRing 122 = .ok (.invokevirtual 78, 3) := by decide +kernel
theorem dX12_readsRing_125 : decode cX12_readsRing 125 = .ok (.bipush 41, 2) := by decide +kernel
theorem dX12_readsRing_127 : decode cX12_readsRing 127 = .ok (.if_icmp .ne 8, 3) := by decide +kernel
theorem dX12_readsRing_130 : decode cX12_readsRing 130 = .ok (.iload_n 3, 1) := by decide +kernel
theorem dX12_readsRing_131 : decode cX12_readsRing 131 = .ok (.iconst 2, 1) := by decide +kernel
theorem dX12_readsRing_132 : decode cX12_readsRing 132 = .ok (.if_icmp .ge 5, 3) := by decide +kernel
theorem dX12_readsRing_135 : decode cX12_readsRing 135 = .ok (.iconst 0, 1) := by decide +kernel
theorem dX12_readsRing_136 : decode cX12_readsRing 136 = .ok (.ireturn, 1) := by decide +kernel
theorem dX12_readsRing_137 : decode cX12_readsRing 137 = .ok (.aload_n 0, 1) := by decide +kernel
theorem dX12_readsRing_138 : decode cX12_readsRing 138 = .ok (.getfield 22, 3) := by decide +kernel
theorem dX12_readsRing_141 : decode cX12_readsRing 141 = .ok (.iload_n 2, 1) := by decide +kernel
theorem dX12_readsRing_142 : decode cX12_readsRing 142 = .ok (.iload_n 1, 1) := by decide +kernel
theorem dX12_readsRing_143 : decode cX12_readsRing 143 = .ok (.iastore, 1) := by decide +kernel
theorem dX12_readsRing_144 : decode cX12_readsRing 144 = .ok (.aload_n 0, 1) := by decide +kernel
theorem dX12_readsRing_145 : decode cX12_readsRing 145 = .ok (.dup, 1) := by decide +kernel
theorem dX12_readsRing_146 : decode cX12_readsRing 146 = .ok (.getfield 75, 3) := by decide +kernel
theorem dX12_readsRing_149 : decode cX12_readsRing 149 = .ok (.iconst 1, 1) := by decide +kernel
theorem dX12_readsRing_150 : decode cX12_readsRing 150 = .ok (.iadd, 1) := by decide +kernel
theorem dX12_readsRing_151 : decode cX12_readsRing 151 = .ok (.putfield 75, 3) := by decide +kernel
theorem dX12_readsRing_154 : decode cX12_readsRing 154 = .ok (.iconst 1, 1) := by decide +kernel
theorem dX12_readsRing_155 : decode cX12_readsRing 155 = .ok (.ireturn, 1) := by decide +kernel
theorem dX12_readsTurn_0 : decode cX12_readsTurn 0 = .ok (.aload_n 0, 1) := by decide +kernel
theorem dX12_readsTurn_1 : decode cX12_readsTurn 1 = .ok (.iconst 0, 1) := by decide +kernel
theorem dX12_readsTurn_2 : decode cX12_readsTurn 2 = .ok (.putfield 75, 3) := by decide +kernel
theorem dX12_readsTurn_5 : decode cX12_readsTurn 5 = .ok (.aload_n 0, 1) := by decide +kernel
theorem dX12_readsTurn_6 : decode cX12_readsTurn 6 = .ok (.iconst 0, 1) := by decide +kernel
theorem dX12_readsTurn_7 : decode cX12_readsTurn 7 = .ok (.putfield 82, 3) := by decide +kernel
theorem dX12_readsTurn_10 : decode cX12_readsTurn 10 = .ok (.iconst 0, 1) := by decide +kernel
theorem dX12_readsTurn_11 : decode cX12_readsTurn 11 = .ok (.istore_n 1, 1) := by decide +kernel
theorem dX12_readsTurn_12 : decode cX12_readsTurn 12 = .ok (.iload_n 1, 1) := by decide +kernel
theorem dX12_readsTurn_13 : decode cX12_readsTurn 13 = .ok (.bipush 6, 2) := by decide +kernel
theorem dX12_readsTurn_15 : decode cX12_readsTurn 15 = .ok (.if_icmp .ge 16, 3) := by decide +kernel
theorem dX12_readsTurn_18 : decode cX12_readsTurn 18 = .ok (.aload_n 0, 1) := by decide +kernel
theorem dX12_readsTurn_19 : decode cX12_readsTurn 19 = .ok (.getfield 22, 3) := by decide +kernel
theorem dX12_readsTurn_22 : decode cX12_readsTurn 22 = .ok (.iload_n 1, 1) := by decide +kernel
theorem dX12_readsTurn_23 : decode cX12_readsTurn 23 = .ok (.iload_n 1, 1) := by decide +kernel
theorem dX12_readsTurn_24 : decode cX12_readsTurn 24 = .ok (.iastore, 1) := by decide +kernel
theorem dX12_readsTurn_25 : decode cX12_readsTurn 25 = .ok (.iinc 1 1, 3) := by decide +kernel
theorem dX12_readsTurn_28 : decode cX12_readsTurn 28 = .ok (.goto (-16), 3) := by decide +kernel
theorem dX12_readsTurn_31 : decode cX12_readsTurn 31 = .ok (.aload_n 0, 1) := by decide +kernel
theorem dX12_readsTurn_32 : decode cX12_readsTurn 32 = .ok (.invokevirtual 85, 3) := by decide +kernel
theorem dX12_readsTurn_35 : decode cX12_readsTurn 35 = .ok (.ifCond .ne 5, 3) := by decide +kernel
theorem dX12_readsTurn_38 : decode cX12_readsTurn 38 = .ok (.iconst 0, 1) := by decide +kernel
theorem dX12_readsTurn_39 : decode cX12_readsTurn 39 = .ok (.ireturn, 1) := by decide +kernel
theorem dX12_readsTurn_40 : decode cX12_readsTurn 40 = .ok (.aload_n 0, 1) := by decide +kernel
theorem dX12_readsTurn_41 : decode cX12_readsTurn 41 = .ok (.getfield 75, 3) := by decide +kernel
theorem dX12_readsTurn_44 : decode cX12_readsTurn 44 = .ok (.aload_n 0, 1) := by decide +kernel
theorem dX12_readsTurn_45 : decode cX12_readsTurn 45 = .ok (.getfield 69, 3) := by decide +kernel
theorem dX12_readsTurn_48 : decode cX12_readsTurn 48 = .ok (.if_icmp .lt (-17), 3) := by decide +kernel
theorem dX12_readsTurn_51 : decode cX12_readsTurn 51 = .ok (.iconst 1, 1) := by decide +kernel
theorem dX12_readsTurn_52 : decode cX12_readsTurn 52 = .ok (.ireturn, 1) := by decide +kernel
theorem dX12_turn_0 : decode cX12_turn 0 = .ok (.aload_n 0, 1) := by decide +kernel
theorem dX12_turn_1 : decode cX12_turn 1 = .ok (.getfield 13, 3) := by decide +kernel
theorem dX12_turn_4 : decode cX12_turn 4 = .ok (.iconst 0, 1) := by decide +kernel
theorem dX12_turn_5 : decode cX12_turn 5 = .ok (.iaload, 1) := by decide +kernel
theorem dX12_turn_6 : decode cX12_turn 6 = .ok (.bipush 6, 2) := by decide +kernel
theorem dX12_turn_8 : decode cX12_turn 8 = .ok (.if_icmp .ne 10, 3) := by decide +kernel
theorem dX12_turn_11 : decode cX12_turn 11 = .ok (.aload_n 0, 1) := by decide +kernel
theorem dX12_turn_12 : decode cX12_turn 12 = .ok (.bipush (-6), 2) := by decide +kernel
theorem dX12_turn_14 : decode cX12_turn 14 = .ok (.invokevirtual 65, 3) := by decide +kernel
theorem dX12_turn_17 : decode cX12_turn 17 = .ok (.ireturn, 1) := by decide +kernel
theorem dX12_turn_18 : decode cX12_turn 18 = .ok (.aload_n 0, 1) := by decide +kernel
theorem dX12_turn_19 : decode cX12_turn 19 = .ok (.invokevirtual 89, 3) := by decide +kernel
theorem dX12_turn_22 : decode cX12_turn 22 = .ok (.istore_n 1, 1) := by decide +kernel
theorem dX12_turn_23 : decode cX12_turn 23 = .ok (.aload_n 0, 1) := by decide +kernel
theorem dX12_turn_24 : decode cX12_turn 24 = .ok (.iconst 0, 1) := by decide +kernel
theorem dX12_turn_25 : decode cX12_turn 25 = .ok (.putfield 69, 3) := by decide +kernel
theorem dX12_turn_28 : decode cX12_turn 28 = .ok (.iload_n 1, 1) := by decide +kernel
theorem dX12_turn_29 : decode cX12_turn 29 = .ok (.ifCond .ne 11, 3) := by decide +kernel
theorem dX12_turn_32 : decode cX12_turn 32 = .ok (.bipush (-20), 2) := by decide +kernel
theorem dX12_turn_34 : decode cX12_turn 34 = .ok (.aload_n 0, 1) := by decide +kernel
theorem dX12_turn_35 : decode cX12_turn 35 = .ok (.getfield 75, 3) := by decide +kernel
theorem dX12_turn_38 : decode cX12_turn 38 = .ok (.isub, 1) := by decide +kernel
theorem dX12_turn_39 : decode cX12_turn 39 = .ok (.ireturn, 1) := by decide +kernel
theorem dX12_turn_40 : decode cX12_turn 40 = .ok (.iconst 0, 1) := by decide +kernel
theorem dX12_turn_41 : decode cX12_turn 41 = .ok (.istore_n 2, 1) := by decide +kernel
theorem dX12_turn_42 : decode cX12_turn 42 = .ok (.iload_n 2, 1) := by decide +kernel
theorem dX12_turn_43 : decode cX12_turn 43 = .ok (.bipush 6, 2) := by decide +kernel
theorem dX12_turn_45 : decode cX12_turn 45 = .ok (.if_icmp .ge 34, 3) := by decide +kernel
theorem dX12_turn_48 : decode cX12_turn 48 = .ok (.aload_n 0, 1) := by decide +kernel
theorem dX12_turn_49 : decode cX12_turn 49 = .ok (.getfield 13, 3) := by decide +kernel
theorem dX12_turn_52 : decode cX12_turn 52 = .ok (.bipush 11, 2) := by decide +kernel
theorem dX12_turn_54 : decode cX12_turn 54 = .ok (.bipush 6, 2) := by decide +kernel
theorem dX12_turn_56 : decode cX12_turn 56 = .ok (.aload_n 0, 1) := by decide +kernel
theorem dX12_turn_57 : decode cX12_turn 57 = .ok (.getfield 13, 3) := by decide +kernel
theorem dX12_turn_60 : decode cX12_turn 60 = .ok (.iconst 0, 1) := by decide +kernel
theorem dX12_turn_61 : decode cX12_turn 61 = .ok (.iaload, 1) := by decide +kernel
theorem dX12_turn_62 : decode cX12_turn 62 = .ok (.imul, 1) := by decide +kernel
theorem dX12_turn_63 : decode cX12_turn 63 = .ok (.iadd, 1) := by decide +kernel
theorem dX12_turn_64 : decode cX12_turn 64 = .ok (.iload_n 2, 1) := by decide +kernel
theorem dX12_turn_65 : decode cX12_turn 65 = .ok (.iadd, 1) := by decide +kernel
theorem dX12_turn_66 : decode cX12_turn 66 = .ok (.aload_n 0, 1) := by decide +kernel
theorem dX12_turn_67 : decode cX12_turn 67 = .ok (.getfield 22, 3) := by decide +kernel
theorem dX12_turn_70 : decode cX12_turn 70 = .ok (.iload_n 2, 1) := by decide +kernel
theorem dX12_turn_71 : decode cX12_turn 71 = .ok (.iaload, 1) := by decide +kernel
theorem dX12_turn_72 : decode cX12_turn 72 = .ok (.iastore, 1) := by decide +kernel
theorem dX12_turn_73 : decode cX12_turn 73 = .ok (.iinc 2 1, 3) := by decide +kernel
theorem dX12_turn_76 : decode cX12_turn 76 = .ok (.goto (-34), 3) := by decide +kernel
theorem dX12_turn_79 : decode cX12_turn 79 = .ok (.aload_n 0, 1) := by decide +kernel
theorem dX12_turn_80 : decode cX12_turn 80 = .ok (.getfield 13, 3) := by decide +kernel
theorem dX12_turn_83 : decode cX12_turn 83 = .ok (.iconst 0, 1) := by decide +kernel
theorem dX12_turn_84 : decode cX12_turn 84 = .ok (.dup2, 1) := by decide +kernel
theorem dX12_turn_85 : decode cX12_turn 85 = .ok (.iaload, 1) := by decide +kernel
theorem dX12_turn_86 : decode cX12_turn 86 = .ok (.iconst 1, 1) := by decide +kernel
theorem dX12_turn_87 : decode cX12_turn 87 = .ok (.iadd, 1) := by decide +kernel
theorem dX12_turn_88 : decode cX12_turn 88 = .ok (.iastore, 1) := by decide +kernel
theorem dX12_turn_89 : decode cX12_turn 89 = .ok (.aload_n 0, 1) := by decide +kernel
theorem dX12_turn_90 : decode cX12_turn 90 = .ok (.getfield 13, 3) := by decide +kernel
theorem dX12_turn_93 : decode cX12_turn 93 = .ok (.iconst 0, 1) := by decide +kernel
theorem dX12_turn_94 : decode cX12_turn 94 = .ok (.iaload, 1) := by decide +kernel
theorem dX12_turn_95 : decode cX12_turn 95 = .ok (.iconst 1, 1) := by decide +kernel
theorem dX12_turn_96 : decode cX12_turn 96 = .ok (.isub, 1) := by decide +kernel
theorem dX12_turn_97 : decode cX12_turn 97 = .ok (.ireturn, 1) := by decide +kernel
theorem dX12_readsRow_0 : decode cX12_readsRow 0 = .ok (.aload_n 0, 1) := by decide +kernel
theorem dX12_readsRow_1 : decode cX12_readsRow 1 = .ok (.iconst 0, 1) := by decide +kernel
theorem dX12_readsRow_2 : decode cX12_readsRow 2 = .ok (.putfield 75, 3) := by decide +kernel
theorem dX12_readsRow_5 : decode cX12_readsRow 5 = .ok (.iconst 0, 1) := by decide +kernel
theorem dX12_readsRow_6 : decode cX12_readsRow 6 = .ok (.istore_n 1, 1) := by decide +kernel
theorem dX12_readsRow_7 : decode cX12_readsRow 7 = .ok (.aload_n 0, 1) := by decide +kernel
theorem dX12_readsRow_8 : decode cX12_readsRow 8 = .ok (.invokevirtual 78, 3) := by decide +kernel
theorem dX12_readsRow_11 : decode cX12_readsRow 11 = .ok (.bipush 48, 2) := by decide +kernel
theorem dX12_readsRow_13 : decode cX12_readsRow 13 = .ok (.isub, 1) := by decide +kernel
theorem dX12_readsRow_14 : decode cX12_readsRow 14 = .ok (.istore_n 2, 1) := by decide +kernel
theorem dX12_readsRow_15 : decode cX12_readsRow 15 = .ok (.aload_n 0, 1) := by decide +kernel
theorem dX12_readsRow_16 : decode cX12_readsRow 16 = .ok (.invokevirtual 78, 3) := by decide +kernel
theorem dX12_readsRow_19 : decode cX12_readsRow 19 = .ok (.bipush 48, 2) := by decide +kernel
theorem dX12_readsRow_21 : decode cX12_readsRow 21 = .ok (.if_icmp .lt 22, 3) := by decide +kernel
theorem dX12_readsRow_24 : decode cX12_readsRow 24 = .ok (.iload_n 2, 1) := by decide +kernel
theorem dX12_readsRow_25 : decode cX12_readsRow 25 = .ok (.aload_n 0, 1) := by decide +kernel
theorem dX12_readsRow_26 : decode cX12_readsRow 26 = .ok (.getfield 13, 3) := by decide +kernel
theorem dX12_readsRow_29 : decode cX12_readsRow 29 = .ok (.iconst 0, 1) := by decide +kernel
theorem dX12_readsRow_30 : decode cX12_readsRow 30 = .ok (.iaload, 1) := by decide +kernel
theorem dX12_readsRow_31 : decode cX12_readsRow 31 = .ok (.invokestatic 61, 3) := by decide +kernel
theorem dX12_readsRow_34 : decode cX12_readsRow 34 = .ok (.ifCond .eq 9, 3) := by decide +kernel
theorem dX12_readsRow_37 : decode cX12_readsRow 37 = .ok (.iload_n 1, 1) := by decide +kernel
theorem dX12_readsRow_38 : decode cX12_readsRow 38 = .ok (.bipush 8, 2) := by decide +kernel
theorem dX12_readsRow_40 : decode cX12_readsRow 40 = .ok (.if_icmp .ne 5, 3) := by decide +kernel
theorem dX12_readsRow_43 : decode cX12_readsRow 43 = .ok (.iconst 0, 1) := by decide +kernel
theorem dX12_readsRow_44 : decode cX12_readsRow 44 = .ok (.ireturn, 1) := by decide +kernel
theorem dX12_readsRow_45 : decode cX12_readsRow 45 = .ok (.aload_n 0, 1) := by decide +kernel
theorem dX12_readsRow_46 : decode cX12_readsRow 46 = .ok (.dup, 1) := by decide +kernel
theorem dX12_readsRow_47 : decode cX12_readsRow 47 = .ok (.getfield 75, 3) := by decide +kernel
theorem dX12_readsRow_50 : decode cX12_readsRow 50 = .ok (.iconst 1, 1) := by decide +kernel
theorem dX12_readsRow_51 : decode cX12_readsRow 51 = .ok (.iadd, 1) := by decide +kernel
theorem dX12_readsRow_52 : decode cX12_readsRow 52 = .ok (.putfield 75, 3) := by decide +kernel
theorem dX12_readsRow_55 : decode cX12_readsRow 55 = .ok (.aload_n 0, 1) := by decide +kernel
theorem dX12_readsRow_56 : decode cX12_readsRow 56 = .ok (.invokevirtual 78, 3) := by decide +kernel
theorem dX12_readsRow_59 : decode cX12_readsRow 59 = .ok (.bipush 39, 2) := by decide +kernel
theorem dX12_readsRow_61 : decode cX12_readsRow 61 = .ok (.if_icmp .ne 7, 3) := by decide +kernel
theorem dX12_readsRow_64 : decode cX12_readsRow 64 = .ok (.iconst 1, 1) := by decide +kernel
theorem dX12_readsRow_65 : decode cX12_readsRow 65 = .ok (.goto 4, 3) := by decide +kernel
theorem dX12_readsRow_68 : decode cX12_readsRow 68 = .ok (.iconst 0, 1) := by decide +kernel
theorem dX12_readsRow_69 : decode cX12_readsRow 69 = .ok (.istore_n 3, 1) := by decide +kernel
theorem dX12_readsRow_70 : decode cX12_readsRow 70 = .ok (.aload_n 0, 1) := by decide +kernel
theorem dX12_readsRow_71 : decode cX12_readsRow 71 = .ok (.dup, 1) := by decide +kernel
theorem dX12_readsRow_72 : decode cX12_readsRow 72 = .ok (.getfield 75, 3) := by decide +kernel
theorem dX12_readsRow_75 : decode cX12_readsRow 75 = .ok (.iload_n 3, 1) := by decide +kernel
theorem dX12_readsRow_76 : decode cX12_readsRow 76 = .ok (.ifCond .eq 7, 3) := by decide +kernel
theorem dX12_readsRow_79 : decode cX12_readsRow 79 = .ok (.iconst 1, 1) := by decide +kernel
theorem dX12_readsRow_80 : decode cX12_readsRow 80 = .ok (.goto 4, 3) := by decide +kernel
theorem dX12_readsRow_83 : decode cX12_readsRow 83 = .ok (.iconst 0, 1) := by decide +kernel
theorem dX12_readsRow_84 : decode cX12_readsRow 84 = .ok (.iadd, 1) := by decide +kernel
theorem dX12_readsRow_85 : decode cX12_readsRow 85 = .ok (.putfield 75, 3) := by decide +kernel
theorem dX12_readsRow_88 : decode cX12_readsRow 88 = .ok (.iinc 1 1, 3) := by decide +kernel
theorem dX12_readsRow_91 : decode cX12_readsRow 91 = .ok (.aload_n 0, 1) := by decide +kernel
theorem dX12_readsRow_92 : decode cX12_readsRow 92 = .ok (.getfield 22, 3) := by decide +kernel
theorem dX12_readsRow_95 : decode cX12_readsRow 95 = .ok (.iload_n 1, 1) := by decide +kernel
theorem dX12_readsRow_96 : decode cX12_readsRow 96 = .ok (.iconst 2, 1) := by decide +kernel
theorem dX12_readsRow_97 : decode cX12_readsRow 97 = .ok (.iload_n 2, 1) := by decide +kernel
theorem dX12_readsRow_98 : decode cX12_readsRow 98 = .ok (.imul, 1) := by decide +kernel
theorem dX12_readsRow_99 : decode cX12_readsRow 99 = .ok (.iload_n 3, 1) := by decide +kernel
theorem dX12_readsRow_100 : decode cX12_readsRow 100 = .ok (.ifCond .eq 7, 3) := by decide +kernel
theorem dX12_readsRow_103 : decode cX12_readsRow 103 = .ok (.iconst 1, 1) := by decide +kernel
theorem dX12_readsRow_104 : decode cX12_readsRow 104 = .ok (.goto 4, 3) := by decide +kernel
theorem dX12_readsRow_107 : decode cX12_readsRow 107 = .ok (.iconst 0, 1) := by decide +kernel
theorem dX12_readsRow_108 : decode cX12_readsRow 108 = .ok (.iadd, 1) := by decide +kernel
theorem dX12_readsRow_109 : decode cX12_readsRow 109 = .ok (.iastore, 1) := by decide +kernel
theorem dX12_readsRow_110 : decode cX12_readsRow 110 = .ok (.aload_n 0, 1) := by decide +kernel
theorem dX12_readsRow_111 : decode cX12_readsRow 111 = .ok (.getfield 75, 3) := by decide +kernel
theorem dX12_readsRow_114 : decode cX12_readsRow 114 = .ok (.aload_n 0, 1) := by decide +kernel
theorem dX12_readsRow_115 : decode cX12_readsRow 115 = .ok (.getfield 69, 3) := by decide +kernel
theorem dX12_readsRow_118 : decode cX12_readsRow 118 = .ok (.if_icmp .lt (-111), 3) := by decide +kernel
theorem dX12_readsRow_121 : decode cX12_readsRow 121 = .ok (.aload_n 0, 1) := by decide +kernel
theorem dX12_readsRow_122 : decode cX12_readsRow 122 = .ok (.getfield 22, 3) := by decide +kernel
theorem dX12_readsRow_125 : decode cX12_readsRow 125 = .ok (.iconst 0, 1) := by decide +kernel
theorem dX12_readsRow_126 : decode cX12_readsRow 126 = .ok (.iload_n 1, 1) := by decide +kernel
theorem dX12_readsRow_127 : decode cX12_readsRow 127 = .ok (.iastore, 1) := by decide +kernel
theorem dX12_readsRow_128 : decode cX12_readsRow 128 = .ok (.iconst 1, 1) := by decide +kernel
theorem dX12_readsRow_129 : decode cX12_readsRow 129 = .ok (.ireturn, 1) := by decide +kernel
theorem dX12_row_0 : decode cX12_row 0 = .ok (.aload_n 0, 1) := by decide +kernel
theorem dX12_row_1 : decode cX12_row 1 = .ok (.getfield 13, 3) := by decide +kernel
theorem dX12_row_4 : decode cX12_row 4 = .ok (.iconst 1, 1) := by decide +kernel
theorem dX12_row_5 : decode cX12_row 5 = .ok (.iaload, 1) := by decide +kernel
theorem dX12_row_6 : decode cX12_row 6 = .ok (.bipush 10, 2) := by decide +kernel
theorem dX12_row_8 : decode cX12_row 8 = .ok (.if_icmp .ne 10, 3) := by decide +kernel
theorem dX12_row_11 : decode cX12_row 11 = .ok (.aload_n 0, 1) := by decide +kernel
theorem dX12_row_12 : decode cX12_row 12 = .ok (.bipush (-6), 2) := by decide +kernel
theorem dX12_row_14 : decode cX12_row 14 = .ok (.invokevirtual 65, 3) := by decide +kernel
theorem dX12_row_17 : decode cX12_row 17 = .ok (.ireturn, 1) := by decide +kernel
theorem dX12_row_18 : decode cX12_row 18 = .ok (.aload_n 0, 1) := by decide +kernel
theorem dX12_row_19 : decode cX12_row 19 = .ok (.invokevirtual 92, 3) := by decide +kernel
theorem dX12_row_22 : decode cX12_row 22 = .ok (.istore_n 1, 1) := by decide +kernel
theorem dX12_row_23 : decode cX12_row 23 = .ok (.aload_n 0, 1) := by decide +kernel
theorem dX12_row_24 : decode cX12_row 24 = .ok (.iconst 0, 1) := by decide +kernel
theorem dX12_row_25 : decode cX12_row 25 = .ok (.putfield 69, 3) := by decide +kernel
theorem dX12_row_28 : decode cX12_row 28 = .ok (.iload_n 1, 1) := by decide +kernel
theorem dX12_row_29 : decode cX12_row 29 = .ok (.ifCond .ne 11, 3) := by decide +kernel
theorem dX12_row_32 : decode cX12_row 32 = .ok (.bipush (-20), 2) := by decide +kernel
theorem dX12_row_34 : decode cX12_row 34 = .ok (.aload_n 0, 1) := by decide +kernel
theorem dX12_row_35 : decode cX12_row 35 = .ok (.getfield 75, 3) := by decide +kernel
theorem dX12_row_38 : decode cX12_row 38 = .ok (.isub, 1) := by decide +kernel
theorem dX12_row_39 : decode cX12_row 39 = .ok (.ireturn, 1) := by decide +kernel
theorem dX12_row_40 : decode cX12_row 40 = .ok (.iconst 0, 1) := by decide +kernel
theorem dX12_row_41 : decode cX12_row 41 = .ok (.istore_n 2, 1) := by decide +kernel
theorem dX12_row_42 : decode cX12_row 42 = .ok (.iload_n 2, 1) := by decide +kernel
theorem dX12_row_43 : decode cX12_row 43 = .ok (.aload_n 0, 1) := by decide +kernel
theorem dX12_row_44 : decode cX12_row 44 = .ok (.getfield 22, 3) := by decide +kernel
theorem dX12_row_47 : decode cX12_row 47 = .ok (.iconst 0, 1) := by decide +kernel
theorem dX12_row_48 : decode cX12_row 48 = .ok (.iaload, 1) := by decide +kernel
theorem dX12_row_49 : decode cX12_row 49 = .ok (.if_icmp .gt 34, 3) := by decide +kernel
theorem dX12_row_52 : decode cX12_row 52 = .ok (.aload_n 0, 1) := by decide +kernel
theorem dX12_row_53 : decode cX12_row 53 = .ok (.getfield 13, 3) := by decide +kernel
theorem dX12_row_56 : decode cX12_row 56 = .ok (.bipush 95, 2) := by decide +kernel
theorem dX12_row_58 : decode cX12_row 58 = .ok (.bipush 9, 2) := by decide +kernel
theorem dX12_row_60 : decode cX12_row 60 = .ok (.aload_n 0, 1) := by decide +kernel
theorem dX12_row_61 : decode cX12_row 61 = .ok (.getfield 13, 3) := by decide +kernel
theorem dX12_row_64 : decode cX12_row 64 = .ok (.iconst 1, 1) := by decide +kernel
theorem dX12_row_65 : decode cX12_row 65 = .ok (.iaload, 1) := by decide +kernel
theorem dX12_row_66 : decode cX12_row 66 = .ok (.imul, 1) := by decide +kernel
theorem dX12_row_67 : decode cX12_row 67 = .ok (.iadd, 1) := by decide +kernel
theorem dX12_row_68 : decode cX12_row 68 = .ok (.iload_n 2, 1) := by decide +kernel
theorem dX12_row_69 : decode cX12_row 69 = .ok (.iadd, 1) := by decide +kernel
theorem dX12_row_70 : decode cX12_row 70 = .ok (.aload_n 0, 1) := by decide +kernel
theorem dX12_row_71 : decode cX12_row 71 = .ok (.getfield 22, 3) := by decide +kernel
theorem dX12_row_74 : decode cX12_row 74 = .ok (.iload_n 2, 1) := by decide +kernel
theorem dX12_row_75 : decode cX12_row 75 = .ok (.iaload, 1) := by decide +kernel
theorem dX12_row_76 : decode cX12_row 76 = .ok (.iastore, 1) := by decide +kernel
theorem dX12_row_77 : decode cX12_row 77 = .ok (.iinc 2 1, 3) := by decide +kernel
theorem dX12_row_80 : decode cX12_row 80 = .ok (.goto (-38), 3) := by decide +kernel
theorem dX12_row_83 : decode cX12_row 83 = .ok (.aload_n 0, 1) := by decide +kernel
theorem dX12_row_84 : decode cX12_row 84 = .ok (.getfield 13, 3) := by decide +kernel
theorem dX12_row_87 : decode cX12_row 87 = .ok (.iconst 1, 1) := by decide +kernel
theorem dX12_row_88 : decode cX12_row 88 = .ok (.dup2, 1) := by decide +kernel
theorem dX12_row_89 : decode cX12_row 89 = .ok (.iaload, 1) := by decide +kernel
theorem dX12_row_90 : decode cX12_row 90 = .ok (.iconst 1, 1) := by decide +kernel
theorem dX12_row_91 : decode cX12_row 91 = .ok (.iadd, 1) := by decide +kernel
theorem dX12_row_92 : decode cX12_row 92 = .ok (.iastore, 1) := by decide +kernel
theorem dX12_row_93 : decode cX12_row 93 = .ok (.aload_n 0, 1) := by decide +kernel
theorem dX12_row_94 : decode cX12_row 94 = .ok (.getfield 13, 3) := by decide +kernel
theorem dX12_row_97 : decode cX12_row 97 = .ok (.iconst 1, 1) := by decide +kernel
theorem dX12_row_98 : decode cX12_row 98 = .ok (.iaload, 1) := by decide +kernel
theorem dX12_row_99 : decode cX12_row 99 = .ok (.iconst 1, 1) := by decide +kernel
theorem dX12_row_100 : decode cX12_row 100 = .ok (.isub, 1) := by decide +kernel
theorem dX12_row_101 : decode cX12_row 101 = .ok (.ireturn, 1) := by decide +kernel
theorem dX12_goesTo_0 : decode cX12_goesTo 0 = .ok (.bipush 11, 2) := by decide +kernel
theorem dX12_goesTo_2 : decode cX12_goesTo 2 = .ok (.bipush 6, 2) := by decide +kernel
theorem dX12_goesTo_4 : decode cX12_goesTo 4 = .ok (.iload_n 1, 1) := by decide +kernel
theorem dX12_goesTo_5 : decode cX12_goesTo 5 = .ok (.iconst 2, 1) := by decide +kernel
theorem dX12_goesTo_6 : decode cX12_goesTo 6 = .ok (.idiv, 1) := by decide +kernel
theorem dX12_goesTo_7 : decode cX12_goesTo 7 = .ok (.imul, 1) := by decide +kernel
theorem dX12_goesTo_8 : decode cX12_goesTo 8 = .ok (.iadd, 1) := by decide +kernel
theorem dX12_goesTo_9 : decode cX12_goesTo 9 = .ok (.istore_n 3, 1) := by decide +kernel
theorem dX12_goesTo_10 : decode cX12_goesTo 10 = .ok (.iload_n 1, 1) := by decide +kernel
theorem dX12_goesTo_11 : decode cX12_goesTo 11 = .ok (.iconst 2, 1) := by decide +kernel
theorem dX12_goesTo_12 : decode cX12_goesTo 12 = .ok (.irem, 1) := by decide +kernel
theorem dX12_goesTo_13 : decode cX12_goesTo 13 = .ok (.ifCond .ne 12, 3) := by decide +kernel
theorem dX12_goesTo_16 : decode cX12_goesTo 16 = .ok (.aload_n 0, 1) := by decide +kernel
theorem dX12_goesTo_17 : decode cX12_goesTo 17 = .ok (.getfield 13, 3) := by decide +kernel
theorem dX12_goesTo_20 : decode cX12_goesTo 20 = .ok (.iload_n 3, 1) := by decide +kernel
theorem dX12_goesTo_21 : decode cX12_goesTo 21 = .ok (.iload_n 2, 1) := by decide +kernel
theorem dX12_goesTo_22 : decode cX12_goesTo 22 = .ok (.iadd, 1) := by decide +kernel
theorem dX12_goesTo_23 : decode cX12_goesTo 23 = .ok (.iaload, 1) := by decide +kernel
theorem dX12_goesTo_24 : decode cX12_goesTo 24 = .ok (.ireturn, 1) := by decide +kernel
theorem dX12_goesTo_25 : decode cX12_goesTo 25 = .ok (.iconst 0, 1) := by decide +kernel
theorem dX12_goesTo_26 : decode cX12_goesTo 26 = .ok (.istore 4, 2) := by decide +kernel
theorem dX12_goesTo_28 : decode cX12_goesTo 28 = .ok (.iload 4, 2) := by decide +kernel
theorem dX12_goesTo_30 : decode cX12_goesTo 30 = .ok (.bipush 6, 2) := by decide +kernel
theorem dX12_goesTo_32 : decode cX12_goesTo 32 = .ok (.if_icmp .ge 25, 3) := by decide +kernel
theorem dX12_goesTo_35 : decode cX12_goesTo 35 = .ok (.aload_n 0, 1) := by decide +kernel
theorem dX12_goesTo_36 : decode cX12_goesTo 36 = .ok (.getfield 13, 3) := by decide +kernel
theorem dX12_goesTo_39 : decode cX12_goesTo 39 = .ok (.iload_n 3, 1) := by decide +kernel
theorem dX12_goesTo_40 : decode cX12_goesTo 40 = .ok (.iload 4, 2) := by decide +kernel
theorem dX12_goesTo_42 : decode cX12_goesTo 42 = .ok (.iadd, 1) := by decide +kernel
theorem dX12_goesTo_43 : decode cX12_goesTo 43 = .ok (.iaload, 1) := by decide +kernel
theorem dX12_goesTo_44 : decode cX12_goesTo 44 = .ok (.iload_n 2, 1) := by decide +kernel
theorem dX12_goesTo_45 : decode cX12_goesTo 45 = .ok (.if_icmp .ne 6, 3) := by decide +kernel
theorem dX12_goesTo_48 : decode cX12_goesTo 48 = .ok (.iload 4, 2) := by decide +kernel
theorem dX12_goesTo_50 : decode cX12_goesTo 50 = .ok (.ireturn, 1) := by decide +kernel
theorem dX12_goesTo_51 : decode cX12_goesTo 51 = .ok (.iinc 4 1, 3) := by decide +kernel
theorem dX12_goesTo_54 : decode cX12_goesTo 54 = .ok (.goto (-26), 3) := by decide +kernel
theorem dX12_goesTo_57 : decode cX12_goesTo 57 = .ok (.iload_n 2, 1) := by decide +kernel
theorem dX12_goesTo_58 : decode cX12_goesTo 58 = .ok (.ireturn, 1) := by decide +kernel
theorem dX12_goes_0 : decode cX12_goes 0 = .ok (.aload_n 0, 1) := by decide +kernel
theorem dX12_goes_1 : decode cX12_goes 1 = .ok (.iload_n 1, 1) := by decide +kernel
theorem dX12_goes_2 : decode cX12_goes 2 = .ok (.invokevirtual 95, 3) := by decide +kernel
theorem dX12_goes_5 : decode cX12_goes 5 = .ok (.ifCond .eq 19, 3) := by decide +kernel
theorem dX12_goes_8 : decode cX12_goes 8 = .ok (.iload_n 2, 1) := by decide +kernel
theorem dX12_goes_9 : decode cX12_goes 9 = .ok (.invokestatic 99, 3) := by decide +kernel
theorem dX12_goes_12 : decode cX12_goes 12 = .ok (.ifCond .eq 12, 3) := by decide +kernel
theorem dX12_goes_15 : decode cX12_goes 15 = .ok (.aload_n 0, 1) := by decide +kernel
theorem dX12_goes_16 : decode cX12_goes 16 = .ok (.iload_n 1, 1) := by decide +kernel
theorem dX12_goes_17 : decode cX12_goes 17 = .ok (.iload_n 2, 1) := by decide +kernel
theorem dX12_goes_18 : decode cX12_goes 18 = .ok (.invokevirtual 102, 3) := by decide +kernel
theorem dX12_goes_21 : decode cX12_goes 21 = .ok (.goto 8, 3) := by decide +kernel
theorem dX12_goes_24 : decode cX12_goes 24 = .ok (.aload_n 0, 1) := by decide +kernel
theorem dX12_goes_25 : decode cX12_goes 25 = .ok (.iconst (-1), 1) := by decide +kernel
theorem dX12_goes_26 : decode cX12_goes 26 = .ok (.invokevirtual 65, 3) := by decide +kernel
theorem dX12_goes_29 : decode cX12_goes 29 = .ok (.ireturn, 1) := by decide +kernel
theorem dX12_size_0 : decode cX12_size 0 = .ok (.aload_n 0, 1) := by decide +kernel
theorem dX12_size_1 : decode cX12_size 1 = .ok (.getfield 13, 3) := by decide +kernel
theorem dX12_size_4 : decode cX12_size 4 = .ok (.bipush 95, 2) := by decide +kernel
theorem dX12_size_6 : decode cX12_size 6 = .ok (.bipush 9, 2) := by decide +kernel
theorem dX12_size_8 : decode cX12_size 8 = .ok (.iload_n 1, 1) := by decide +kernel
theorem dX12_size_9 : decode cX12_size 9 = .ok (.imul, 1) := by decide +kernel
theorem dX12_size_10 : decode cX12_size 10 = .ok (.iadd, 1) := by decide +kernel
theorem dX12_size_11 : decode cX12_size 11 = .ok (.iaload, 1) := by decide +kernel
theorem dX12_size_12 : decode cX12_size 12 = .ok (.ireturn, 1) := by decide +kernel
theorem dX12_moveOf_0 : decode cX12_moveOf 0 = .ok (.aload_n 0, 1) := by decide +kernel
theorem dX12_moveOf_1 : decode cX12_moveOf 1 = .ok (.getfield 13, 3) := by decide +kernel
theorem dX12_moveOf_4 : decode cX12_moveOf 4 = .ok (.bipush 95, 2) := by decide +kernel
theorem dX12_moveOf_6 : decode cX12_moveOf 6 = .ok (.bipush 9, 2) := by decide +kernel
theorem dX12_moveOf_8 : decode cX12_moveOf 8 = .ok (.iload_n 1, 1) := by decide +kernel
theorem dX12_moveOf_9 : decode cX12_moveOf 9 = .ok (.imul, 1) := by decide +kernel
theorem dX12_moveOf_10 : decode cX12_moveOf 10 = .ok (.iadd, 1) := by decide +kernel
theorem dX12_moveOf_11 : decode cX12_moveOf 11 = .ok (.iconst 1, 1) := by decide +kernel
theorem dX12_moveOf_12 : decode cX12_moveOf 12 = .ok (.iadd, 1) := by decide +kernel
theorem dX12_moveOf_13 : decode cX12_moveOf 13 = .ok (.iload_n 2, 1) := by decide +kernel
theorem dX12_moveOf_14 : decode cX12_moveOf 14 = .ok (.iadd, 1) := by decide +kernel
theorem dX12_moveOf_15 : decode cX12_moveOf 15 = .ok (.iaload, 1) := by decide +kernel
theorem dX12_moveOf_16 : decode cX12_moveOf 16 = .ok (.ireturn, 1) := by decide +kernel
theorem dX12_rowOf_0 : decode cX12_rowOf 0 = .ok (.aload_n 0, 1) := by decide +kernel
theorem dX12_rowOf_1 : decode cX12_rowOf 1 = .ok (.iload_n 1, 1) := by decide +kernel
theorem dX12_rowOf_2 : decode cX12_rowOf 2 = .ok (.invokevirtual 106, 3) := by decide +kernel
theorem dX12_rowOf_5 : decode cX12_rowOf 5 = .ok (.ifCond .ne 11, 3) := by decide +kernel
theorem dX12_rowOf_8 : decode cX12_rowOf 8 = .ok (.aload_n 0, 1) := by decide +kernel
theorem dX12_rowOf_9 : decode cX12_rowOf 9 = .ok (.iconst (-1), 1) := by decide +kernel
theorem dX12_rowOf_10 : decode cX12_rowOf 10 = .ok (.invokevirtual 65, 3) := by decide +kernel
theorem dX12_rowOf_13 : decode cX12_rowOf 13 = .ok (.goto 39, 3) := by decide +kernel
theorem dX12_rowOf_16 : decode cX12_rowOf 16 = .ok (.iload_n 2, 1) := by decide +kernel
theorem dX12_rowOf_17 : decode cX12_rowOf 17 = .ok (.iconst (-1), 1) := by decide +kernel
theorem dX12_rowOf_18 : decode cX12_rowOf 18 = .ok (.if_icmp .ne 11, 3) := by decide +kernel
theorem dX12_rowOf_21 : decode cX12_rowOf 21 = .ok (.aload_n 0, 1) := by decide +kernel
theorem dX12_rowOf_22 : decode cX12_rowOf 22 = .ok (.iload_n 1, 1) := by decide +kernel
theorem dX12_rowOf_23 : decode cX12_rowOf 23 = .ok (.invokevirtual 109, 3) := by decide +kernel
theorem dX12_rowOf_26 : decode cX12_rowOf 26 = .ok (.goto 26, 3) := by decide +kernel
theorem dX12_rowOf_29 : decode cX12_rowOf 29 = .ok (.iload_n 2, 1) := by decide +kernel
theorem dX12_rowOf_30 : decode cX12_rowOf 30 = .ok (.aload_n 0, 1) := by decide +kernel
theorem dX12_rowOf_31 : decode cX12_rowOf 31 = .ok (.iload_n 1, 1) := by decide +kernel
theorem dX12_rowOf_32 : decode cX12_rowOf 32 = .ok (.invokevirtual 109, 3) := by decide +kernel
theorem dX12_rowOf_35 : decode cX12_rowOf 35 = .ok (.invokestatic 61, 3) := by decide +kernel
theorem dX12_rowOf_38 : decode cX12_rowOf 38 = .ok (.ifCond .eq 12, 3) := by decide +kernel
theorem dX12_rowOf_41 : decode cX12_rowOf 41 = .ok (.aload_n 0, 1) := by decide +kernel
theorem dX12_rowOf_42 : decode cX12_rowOf 42 = .ok (.iload_n 1, 1) := by decide +kernel
theorem dX12_rowOf_43 : decode cX12_rowOf 43 = .ok (.iload_n 2, 1) := by decide +kernel
theorem dX12_rowOf_44 : decode cX12_rowOf 44 = .ok (.invokevirtual 112, 3) := by decide +kernel
theorem dX12_rowOf_47 : decode cX12_rowOf 47 = .ok (.goto 5, 3) := by decide +kernel
theorem dX12_rowOf_50 : decode cX12_rowOf 50 = .ok (.bipush (-9), 2) := by decide +kernel
theorem dX12_rowOf_52 : decode cX12_rowOf 52 = .ok (.ireturn, 1) := by decide +kernel
theorem dX12_doesTo_0 : decode cX12_doesTo 0 = .ok (.iload_n 2, 1) := by decide +kernel
theorem dX12_doesTo_1 : decode cX12_doesTo 1 = .ok (.istore_n 3, 1) := by decide +kernel
theorem dX12_doesTo_2 : decode cX12_doesTo 2 = .ok (.iconst 0, 1) := by decide +kernel
theorem dX12_doesTo_3 : decode cX12_doesTo 3 = .ok (.istore 4, 2) := by decide +kernel
theorem dX12_doesTo_5 : decode cX12_doesTo 5 = .ok (.iload 4, 2) := by decide +kernel
theorem dX12_doesTo_7 : decode cX12_doesTo 7 = .ok (.aload_n 0, 1) := by decide +kernel
theorem dX12_doesTo_8 : decode cX12_doesTo 8 = .ok (.iload_n 1, 1) := by decide +kernel
theorem dX12_doesTo_9 : decode cX12_doesTo 9 = .ok (.invokevirtual 109, 3) := by decide +kernel
theorem dX12_doesTo_12 : decode cX12_doesTo 12 = .ok (.if_icmp .ge 22, 3) := by decide +kernel
theorem dX12_doesTo_15 : decode cX12_doesTo 15 = .ok (.aload_n 0, 1) := by decide +kernel
theorem dX12_doesTo_16 : decode cX12_doesTo 16 = .ok (.aload_n 0, 1) := by decide +kernel
theorem dX12_doesTo_17 : decode cX12_doesTo 17 = .ok (.iload_n 1, 1) := by decide +kernel
theorem dX12_doesTo_18 : decode cX12_doesTo 18 = .ok (.iload 4, 2) := by decide +kernel
theorem dX12_doesTo_20 : decode cX12_doesTo 20 = .ok (.invokevirtual 112, 3) := by decide +kernel
theorem dX12_doesTo_23 : decode cX12_doesTo 23 = .ok (.iload_n 3, 1) := by decide +kernel
theorem dX12_doesTo_24 : decode cX12_doesTo 24 = .ok (.invokevirtual 102, 3) := by decide +kernel
theorem dX12_doesTo_27 : decode cX12_doesTo 27 = .ok (.istore_n 3, 1) := by decide +kernel
theorem dX12_doesTo_28 : decode cX12_doesTo 28 = .ok (.iinc 4 1, 3) := by decide +kernel
theorem dX12_doesTo_31 : decode cX12_doesTo 31 = .ok (.goto (-26), 3) := by decide +kernel
theorem dX12_doesTo_34 : decode cX12_doesTo 34 = .ok (.iload_n 3, 1) := by decide +kernel
theorem dX12_doesTo_35 : decode cX12_doesTo 35 = .ok (.ireturn, 1) := by decide +kernel
theorem dX12_does_0 : decode cX12_does 0 = .ok (.aload_n 0, 1) := by decide +kernel
theorem dX12_does_1 : decode cX12_does 1 = .ok (.iload_n 1, 1) := by decide +kernel
theorem dX12_does_2 : decode cX12_does 2 = .ok (.invokevirtual 106, 3) := by decide +kernel
theorem dX12_does_5 : decode cX12_does 5 = .ok (.ifCond .eq 19, 3) := by decide +kernel
theorem dX12_does_8 : decode cX12_does 8 = .ok (.iload_n 2, 1) := by decide +kernel
theorem dX12_does_9 : decode cX12_does 9 = .ok (.invokestatic 99, 3) := by decide +kernel
theorem dX12_does_12 : decode cX12_does 12 = .ok (.ifCond .eq 12, 3) := by decide +kernel
theorem dX12_does_15 : decode cX12_does 15 = .ok (.aload_n 0, 1) := by decide +kernel
theorem dX12_does_16 : decode cX12_does 16 = .ok (.iload_n 1, 1) := by decide +kernel
theorem dX12_does_17 : decode cX12_does 17 = .ok (.iload_n 2, 1) := by decide +kernel
theorem dX12_does_18 : decode cX12_does 18 = .ok (.invokevirtual 115, 3) := by decide +kernel
theorem dX12_does_21 : decode cX12_does 21 = .ok (.goto 8, 3) := by decide +kernel
theorem dX12_does_24 : decode cX12_does 24 = .ok (.aload_n 0, 1) := by decide +kernel
theorem dX12_does_25 : decode cX12_does 25 = .ok (.iconst (-1), 1) := by decide +kernel
theorem dX12_does_26 : decode cX12_does 26 = .ok (.invokevirtual 65, 3) := by decide +kernel
theorem dX12_does_29 : decode cX12_does 29 = .ok (.ireturn, 1) := by decide +kernel
theorem dX12_order_0 : decode cX12_order 0 = .ok (.aload_n 0, 1) := by decide +kernel
theorem dX12_order_1 : decode cX12_order 1 = .ok (.iload_n 1, 1) := by decide +kernel
theorem dX12_order_2 : decode cX12_order 2 = .ok (.invokevirtual 106, 3) := by decide +kernel
theorem dX12_order_5 : decode cX12_order 5 = .ok (.ifCond .ne 9, 3) := by decide +kernel
theorem dX12_order_8 : decode cX12_order 8 = .ok (.aload_n 0, 1) := by decide +kernel
theorem dX12_order_9 : decode cX12_order 9 = .ok (.iconst (-1), 1) := by decide +kernel
theorem dX12_order_10 : decode cX12_order 10 = .ok (.invokevirtual 65, 3) := by decide +kernel
theorem dX12_order_13 : decode cX12_order 13 = .ok (.ireturn, 1) := by decide +kernel
theorem dX12_order_14 : decode cX12_order 14 = .ok (.iconst 0, 1) := by decide +kernel
theorem dX12_order_15 : decode cX12_order 15 = .ok (.istore_n 2, 1) := by decide +kernel
theorem dX12_order_16 : decode cX12_order 16 = .ok (.iconst 0, 1) := by decide +kernel
theorem dX12_order_17 : decode cX12_order 17 = .ok (.istore_n 3, 1) := by decide +kernel
theorem dX12_order_18 : decode cX12_order 18 = .ok (.iconst 0, 1) := by decide +kernel
theorem dX12_order_19 : decode cX12_order 19 = .ok (.istore 4, 2) := by decide +kernel
theorem dX12_order_21 : decode cX12_order 21 = .ok (.iload 4, 2) := by decide +kernel
theorem dX12_order_23 : decode cX12_order 23 = .ok (.bipush 6, 2) := by decide +kernel
theorem dX12_order_25 : decode cX12_order 25 = .ok (.if_icmp .ge 18, 3) := by decide +kernel
theorem dX12_order_28 : decode cX12_order 28 = .ok (.aload_n 0, 1) := by decide +kernel
theorem dX12_order_29 : decode cX12_order 29 = .ok (.getfield 22, 3) := by decide +kernel
theorem dX12_order_32 : decode cX12_order 32 = .ok (.iload 4, 2) := by decide +kernel
theorem dX12_order_34 : decode cX12_order 34 = .ok (.iload 4, 2) := by decide +kernel
theorem dX12_order_36 : decode cX12_order 36 = .ok (.iastore, 1) := by decide +kernel
theorem dX12_order_37 : decode cX12_order 37 = .ok (.iinc 4 1, 3) := by decide +kernel
theorem dX12_order_40 : decode cX12_order 40 = .ok (.goto (-19), 3) := by decide +kernel
theorem dX12_order_43 : decode cX12_order 43 = .ok (.iload_n 3, 1) := by decide +kernel
theorem dX12_order_44 : decode cX12_order 44 = .ok (.ifCond .ne 68, 3) := by decide +kernel
theorem dX12_order_47 : decode cX12_order 47 = .ok (.iconst 1, 1) := by decide +kernel
theorem dX12_order_48 : decode cX12_order 48 = .ok (.istore_n 3, 1) := by decide +kernel
theorem dX12_order_49 : decode cX12_order 49 = .ok (.iconst 0, 1) := by decide +kernel
theorem dX12_order_50 : decode cX12_order 50 = .ok (.istore 4, 2) := by decide +kernel
theorem dX12_order_52 : decode cX12_order 52 = .ok (.iload 4, 2) := by decide +kernel
theorem dX12_order_54 : decode cX12_order 54 = .ok (.bipush 6, 2) := by decide +kernel
theorem dX12_order_56 : decode cX12_order 56 = .ok (.if_icmp .ge 50, 3) := by decide +kernel
theorem dX12_order_59 : decode cX12_order 59 = .ok (.aload_n 0, 1) := by decide +kernel
theorem dX12_order_60 : decode cX12_order 60 = .ok (.getfield 22, 3) := by decide +kernel
theorem dX12_order_63 : decode cX12_order 63 = .ok (.iload 4, 2) := by decide +kernel
theorem dX12_order_65 : decode cX12_order 65 = .ok (.aload_n 0, 1) := by decide +kernel
theorem dX12_order_66 : decode cX12_order 66 = .ok (.iload_n 1, 1) := by decide +kernel
theorem dX12_order_67 : decode cX12_order 67 = .ok (.aload_n 0, 1) := by decide +kernel
theorem dX12_order_68 : decode cX12_order 68 = .ok (.getfield 22, 3) := by decide +kernel
theorem dX12_order_71 : decode cX12_order 71 = .ok (.iload 4, 2) := by decide +kernel
theorem dX12_order_73 : decode cX12_order 73 = .ok (.iaload, 1) := by decide +kernel
theorem dX12_order_74 : decode cX12_order 74 = .ok (.invokevirtual 115, 3) := by decide +kernel
theorem dX12_order_77 : decode cX12_order 77 = .ok (.iastore, 1) := by decide +kernel
theorem dX12_order_78 : decode cX12_order 78 = .ok (.iload_n 3, 1) := by decide +kernel
theorem dX12_order_79 : decode cX12_order 79 = .ok (.ifCond .eq 19, 3) := by decide +kernel
theorem dX12_order_82 : decode cX12_order 82 = .ok (.aload_n 0, 1) := by decide +kernel
theorem dX12_order_83 : decode cX12_order 83 = .ok (.getfield 22, 3) := by decide +kernel
theorem dX12_order_86 : decode cX12_order 86 = .ok (.iload 4, 2) := by decide +kernel
theorem dX12_order_88 : decode cX12_order 88 = .ok (.iaload, 1) := by decide +kernel
theorem dX12_order_89 : decode cX12_order 89 = .ok (.iload 4, 2) := by decide +kernel
theorem dX12_order_91 : decode cX12_order 91 = .ok (.if_icmp .ne 7, 3) := by decide +kernel
theorem dX12_order_94 : decode cX12_order 94 = .ok (.iconst 1, 1) := by decide +kernel
theorem dX12_order_95 : decode cX12_order 95 = .ok (.goto 4, 3) := by decide +kernel
theorem dX12_order_98 : decode cX12_order 98 = .ok (.iconst 0, 1) := by decide +kernel
theorem dX12_order_99 : decode cX12_order 99 = .ok (.istore_n 3, 1) := by decide +kernel
theorem dX12_order_100 : decode cX12_order 100 = .ok (.iinc 4 1, 3) := by decide +kernel
theorem dX12_order_103 : decode cX12_order 103 = .ok (.goto (-51), 3) := by decide +kernel
theorem dX12_order_106 : decode cX12_order 106 = .ok (.iinc 2 1, 3) := by decide +kernel
theorem dX12_order_109 : decode cX12_order 109 = .ok (.goto (-66), 3) := by decide +kernel
theorem dX12_order_112 : decode cX12_order 112 = .ok (.iload_n 2, 1) := by decide +kernel
theorem dX12_order_113 : decode cX12_order 113 = .ok (.ireturn, 1) := by decide +kernel
theorem dX12_keeps_0 : decode cX12_keeps 0 = .ok (.aload_n 0, 1) := by decide +kernel
theorem dX12_keeps_1 : decode cX12_keeps 1 = .ok (.iload_n 1, 1) := by decide +kernel
theorem dX12_keeps_2 : decode cX12_keeps 2 = .ok (.invokevirtual 106, 3) := by decide +kernel
theorem dX12_keeps_5 : decode cX12_keeps 5 = .ok (.ifCond .ne 9, 3) := by decide +kernel
theorem dX12_keeps_8 : decode cX12_keeps 8 = .ok (.aload_n 0, 1) := by decide +kernel
theorem dX12_keeps_9 : decode cX12_keeps 9 = .ok (.iconst (-1), 1) := by decide +kernel
theorem dX12_keeps_10 : decode cX12_keeps 10 = .ok (.invokevirtual 65, 3) := by decide +kernel
theorem dX12_keeps_13 : decode cX12_keeps 13 = .ok (.ireturn, 1) := by decide +kernel
theorem dX12_keeps_14 : decode cX12_keeps 14 = .ok (.iconst 0, 1) := by decide +kernel
theorem dX12_keeps_15 : decode cX12_keeps 15 = .ok (.istore_n 2, 1) := by decide +kernel
theorem dX12_keeps_16 : decode cX12_keeps 16 = .ok (.iconst 0, 1) := by decide +kernel
theorem dX12_keeps_17 : decode cX12_keeps 17 = .ok (.istore_n 3, 1) := by decide +kernel
theorem dX12_keeps_18 : decode cX12_keeps 18 = .ok (.iload_n 3, 1) := by decide +kernel
theorem dX12_keeps_19 : decode cX12_keeps 19 = .ok (.bipush 6, 2) := by decide +kernel
theorem dX12_keeps_21 : decode cX12_keeps 21 = .ok (.if_icmp .ge 29, 3) := by decide +kernel
theorem dX12_keeps_24 : decode cX12_keeps 24 = .ok (.iload_n 2, 1) := by decide +kernel
theorem dX12_keeps_25 : decode cX12_keeps 25 = .ok (.aload_n 0, 1) := by decide +kernel
theorem dX12_keeps_26 : decode cX12_keeps 26 = .ok (.iload_n 1, 1) := by decide +kernel
theorem dX12_keeps_27 : decode cX12_keeps 27 = .ok (.iload_n 3, 1) := by decide +kernel
theorem dX12_keeps_28 : decode cX12_keeps 28 = .ok (.invokevirtual 115, 3) := by decide +kernel
theorem dX12_keeps_31 : decode cX12_keeps 31 = .ok (.iload_n 3, 1) := by decide +kernel
theorem dX12_keeps_32 : decode cX12_keeps 32 = .ok (.if_icmp .ne 9, 3) := by decide +kernel
theorem dX12_keeps_35 : decode cX12_keeps 35 = .ok (.iconst 1, 1) := by decide +kernel
theorem dX12_keeps_36 : decode cX12_keeps 36 = .ok (.iload_n 3, 1) := by decide +kernel
theorem dX12_keeps_37 : decode cX12_keeps 37 = .ok (.ishl, 1) := by decide +kernel
theorem dX12_keeps_38 : decode cX12_keeps 38 = .ok (.goto 4, 3) := by decide +kernel
theorem dX12_keeps_41 : decode cX12_keeps 41 = .ok (.iconst 0, 1) := by decide +kernel
theorem dX12_keeps_42 : decode cX12_keeps 42 = .ok (.ior, 1) := by decide +kernel
theorem dX12_keeps_43 : decode cX12_keeps 43 = .ok (.istore_n 2, 1) := by decide +kernel
theorem dX12_keeps_44 : decode cX12_keeps 44 = .ok (.iinc 3 1, 3) := by decide +kernel
theorem dX12_keeps_47 : decode cX12_keeps 47 = .ok (.goto (-29), 3) := by decide +kernel
theorem dX12_keeps_50 : decode cX12_keeps 50 = .ok (.iload_n 2, 1) := by decide +kernel
theorem dX12_keeps_51 : decode cX12_keeps 51 = .ok (.ireturn, 1) := by decide +kernel
theorem dX12_now_0 : decode cX12_now 0 = .ok (.iload_n 1, 1) := by decide +kernel
theorem dX12_now_1 : decode cX12_now 1 = .ok (.invokestatic 99, 3) := by decide +kernel
theorem dX12_now_4 : decode cX12_now 4 = .ok (.ifCond .eq 14, 3) := by decide +kernel
theorem dX12_now_7 : decode cX12_now 7 = .ok (.aload_n 0, 1) := by decide +kernel
theorem dX12_now_8 : decode cX12_now 8 = .ok (.getfield 13, 3) := by decide +kernel
theorem dX12_now_11 : decode cX12_now 11 = .ok (.iconst 5, 1) := by decide +kernel
theorem dX12_now_12 : decode cX12_now 12 = .ok (.iload_n 1, 1) := by decide +kernel
theorem dX12_now_13 : decode cX12_now 13 = .ok (.iadd, 1) := by decide +kernel
theorem dX12_now_14 : decode cX12_now 14 = .ok (.iaload, 1) := by decide +kernel
theorem dX12_now_15 : decode cX12_now 15 = .ok (.goto 8, 3) := by decide +kernel
theorem dX12_now_18 : decode cX12_now 18 = .ok (.aload_n 0, 1) := by decide +kernel
theorem dX12_now_19 : decode cX12_now 19 = .ok (.iconst (-1), 1) := by decide +kernel
theorem dX12_now_20 : decode cX12_now 20 = .ok (.invokevirtual 65, 3) := by decide +kernel
theorem dX12_now_23 : decode cX12_now 23 = .ok (.ireturn, 1) := by decide +kernel
theorem dX12_makes_0 : decode cX12_makes 0 = .ok (.iconst 0, 1) := by decide +kernel
theorem dX12_makes_1 : decode cX12_makes 1 = .ok (.istore 4, 2) := by decide +kernel
theorem dX12_makes_3 : decode cX12_makes 3 = .ok (.iload 4, 2) := by decide +kernel
theorem dX12_makes_5 : decode cX12_makes 5 = .ok (.bipush 6, 2) := by decide +kernel
theorem dX12_makes_7 : decode cX12_makes 7 = .ok (.if_icmp .ge 27, 3) := by decide +kernel
theorem dX12_makes_10 : decode cX12_makes 10 = .ok (.aload_n 0, 1) := by decide +kernel
theorem dX12_makes_11 : decode cX12_makes 11 = .ok (.getfield 25, 3) := by decide +kernel
theorem dX12_makes_14 : decode cX12_makes 14 = .ok (.aload_n 0, 1) := by decide +kernel
theorem dX12_makes_15 : decode cX12_makes 15 = .ok (.iload_n 3, 1) := by decide +kernel
theorem dX12_makes_16 : decode cX12_makes 16 = .ok (.iload 4, 2) := by decide +kernel
theorem dX12_makes_18 : decode cX12_makes 18 = .ok (.invokevirtual 102, 3) := by decide +kernel
theorem dX12_makes_21 : decode cX12_makes 21 = .ok (.aload_n 1, 1) := by decide +kernel
theorem dX12_makes_22 : decode cX12_makes 22 = .ok (.iload_n 2, 1) := by decide +kernel
theorem dX12_makes_23 : decode cX12_makes 23 = .ok (.iload 4, 2) := by decide +kernel
theorem dX12_makes_25 : decode cX12_makes 25 = .ok (.iadd, 1) := by decide +kernel
theorem dX12_makes_26 : decode cX12_makes 26 = .ok (.iaload, 1) := by decide +kernel
theorem dX12_makes_27 : decode cX12_makes 27 = .ok (.iastore, 1) := by decide +kernel
theorem dX12_makes_28 : decode cX12_makes 28 = .ok (.iinc 4 1, 3) := by decide +kernel
theorem dX12_makes_31 : decode cX12_makes 31 = .ok (.goto (-28), 3) := by decide +kernel
theorem dX12_makes_34 : decode cX12_makes 34 = .ok (.iconst 0, 1) := by decide +kernel
theorem dX12_makes_35 : decode cX12_makes 35 = .ok (.istore 4, 2) := by decide +kernel
theorem dX12_makes_37 : decode cX12_makes 37 = .ok (.iload 4, 2) := by decide +kernel
theorem dX12_makes_39 : decode cX12_makes 39 = .ok (.bipush 6, 2) := by decide +kernel
theorem dX12_makes_41 : decode cX12_makes 41 = .ok (.if_icmp .ge 22, 3) := by decide +kernel
theorem dX12_makes_44 : decode cX12_makes 44 = .ok (.aload_n 1, 1) := by decide +kernel
theorem dX12_makes_45 : decode cX12_makes 45 = .ok (.iload_n 2, 1) := by decide +kernel
theorem dX12_makes_46 : decode cX12_makes 46 = .ok (.iload 4, 2) := by decide +kernel
theorem dX12_makes_48 : decode cX12_makes 48 = .ok (.iadd, 1) := by decide +kernel
theorem dX12_makes_49 : decode cX12_makes 49 = .ok (.aload_n 0, 1) := by decide +kernel
theorem dX12_makes_50 : decode cX12_makes 50 = .ok (.getfield 25, 3) := by decide +kernel
theorem dX12_makes_53 : decode cX12_makes 53 = .ok (.iload 4, 2) := by decide +kernel
theorem dX12_makes_55 : decode cX12_makes 55 = .ok (.iaload, 1) := by decide +kernel
theorem dX12_makes_56 : decode cX12_makes 56 = .ok (.iastore, 1) := by decide +kernel
theorem dX12_makes_57 : decode cX12_makes 57 = .ok (.iinc 4 1, 3) := by decide +kernel
theorem dX12_makes_60 : decode cX12_makes 60 = .ok (.goto (-23), 3) := by decide +kernel
theorem dX12_makes_63 : decode cX12_makes 63 = .ok (.return_, 1) := by decide +kernel
theorem dX12_makesRow_0 : decode cX12_makesRow 0 = .ok (.iconst 0, 1) := by decide +kernel
theorem dX12_makesRow_1 : decode cX12_makesRow 1 = .ok (.istore 4, 2) := by decide +kernel
theorem dX12_makesRow_3 : decode cX12_makesRow 3 = .ok (.iload 4, 2) := by decide +kernel
theorem dX12_makesRow_5 : decode cX12_makesRow 5 = .ok (.aload_n 0, 1) := by decide +kernel
theorem dX12_makesRow_6 : decode cX12_makesRow 6 = .ok (.iload_n 3, 1) := by decide +kernel
theorem dX12_makesRow_7 : decode cX12_makesRow 7 = .ok (.invokevirtual 109, 3) := by decide +kernel
theorem dX12_makesRow_10 : decode cX12_makesRow 10 = .ok (.if_icmp .ge 22, 3) := by decide +kernel
theorem dX12_makesRow_13 : decode cX12_makesRow 13 = .ok (.aload_n 0, 1) := by decide +kernel
theorem dX12_makesRow_14 : decode cX12_makesRow 14 = .ok (.aload_n 1, 1) := by decide +kernel
theorem dX12_makesRow_15 : decode cX12_makesRow 15 = .ok (.iload_n 2, 1) := by decide +kernel
theorem dX12_makesRow_16 : decode cX12_makesRow 16 = .ok (.aload_n 0, 1) := by decide +kernel
theorem dX12_makesRow_17 : decode cX12_makesRow 17 = .ok (.iload_n 3, 1) := by decide +kernel
theorem dX12_makesRow_18 : decode cX12_makesRow 18 = .ok (.iload 4, 2) := by decide +kernel
theorem dX12_makesRow_20 : decode cX12_makesRow 20 = .ok (.invokevirtual 112, 3) := by decide +kernel
theorem dX12_makesRow_23 : decode cX12_makesRow 23 = .ok (.invokevirtual 118, 3) := by decide +kernel
theorem dX12_makesRow_26 : decode cX12_makesRow 26 = .ok (.iinc 4 1, 3) := by decide +kernel
theorem dX12_makesRow_29 : decode cX12_makesRow 29 = .ok (.goto (-26), 3) := by decide +kernel
theorem dX12_makesRow_32 : decode cX12_makesRow 32 = .ok (.return_, 1) := by decide +kernel
theorem dX12_isSolved_0 : decode cX12_isSolved 0 = .ok (.iconst 0, 1) := by decide +kernel
theorem dX12_isSolved_1 : decode cX12_isSolved 1 = .ok (.istore_n 2, 1) := by decide +kernel
theorem dX12_isSolved_2 : decode cX12_isSolved 2 = .ok (.iload_n 2, 1) := by decide +kernel
theorem dX12_isSolved_3 : decode cX12_isSolved 3 = .ok (.bipush 6, 2) := by decide +kernel
theorem dX12_isSolved_5 : decode cX12_isSolved 5 = .ok (.if_icmp .ge 20, 3) := by decide +kernel
theorem dX12_isSolved_8 : decode cX12_isSolved 8 = .ok (.aload_n 0, 1) := by decide +kernel
theorem dX12_isSolved_9 : decode cX12_isSolved 9 = .ok (.iload_n 1, 1) := by decide +kernel
theorem dX12_isSolved_10 : decode cX12_isSolved 10 = .ok (.iload_n 2, 1) := by decide +kernel
theorem dX12_isSolved_11 : decode cX12_isSolved 11 = .ok (.iadd, 1) := by decide +kernel
theorem dX12_isSolved_12 : decode cX12_isSolved 12 = .ok (.iaload, 1) := by decide +kernel
theorem dX12_isSolved_13 : decode cX12_isSolved 13 = .ok (.iload_n 2, 1) := by decide +kernel
theorem dX12_isSolved_14 : decode cX12_isSolved 14 = .ok (.if_icmp .eq 5, 3) := by decide +kernel
theorem dX12_isSolved_17 : decode cX12_isSolved 17 = .ok (.iconst 0, 1) := by decide +kernel
theorem dX12_isSolved_18 : decode cX12_isSolved 18 = .ok (.ireturn, 1) := by decide +kernel
theorem dX12_isSolved_19 : decode cX12_isSolved 19 = .ok (.iinc 2 1, 3) := by decide +kernel
theorem dX12_isSolved_22 : decode cX12_isSolved 22 = .ok (.goto (-20), 3) := by decide +kernel
theorem dX12_isSolved_25 : decode cX12_isSolved 25 = .ok (.iconst 1, 1) := by decide +kernel
theorem dX12_isSolved_26 : decode cX12_isSolved 26 = .ok (.ireturn, 1) := by decide +kernel
theorem dX12_make_0 : decode cX12_make 0 = .ok (.aload_n 0, 1) := by decide +kernel
theorem dX12_make_1 : decode cX12_make 1 = .ok (.iload_n 1, 1) := by decide +kernel
theorem dX12_make_2 : decode cX12_make 2 = .ok (.invokevirtual 95, 3) := by decide +kernel
theorem dX12_make_5 : decode cX12_make 5 = .ok (.ifCond .ne 9, 3) := by decide +kernel
theorem dX12_make_8 : decode cX12_make 8 = .ok (.aload_n 0, 1) := by decide +kernel
theorem dX12_make_9 : decode cX12_make 9 = .ok (.iconst (-1), 1) := by decide +kernel
theorem dX12_make_10 : decode cX12_make 10 = .ok (.invokevirtual 65, 3) := by decide +kernel
theorem dX12_make_13 : decode cX12_make 13 = .ok (.ireturn, 1) := by decide +kernel
theorem dX12_make_14 : decode cX12_make 14 = .ok (.aload_n 0, 1) := by decide +kernel
theorem dX12_make_15 : decode cX12_make 15 = .ok (.aload_n 0, 1) := by decide +kernel
theorem dX12_make_16 : decode cX12_make 16 = .ok (.getfield 13, 3) := by decide +kernel
theorem dX12_make_19 : decode cX12_make 19 = .ok (.iconst 5, 1) := by decide +kernel
theorem dX12_make_20 : decode cX12_make 20 = .ok (.iload_n 1, 1) := by decide +kernel
theorem dX12_make_21 : decode cX12_make 21 = .ok (.invokevirtual 118, 3) := by decide +kernel
theorem dX12_make_24 : decode cX12_make 24 = .ok (.aload_n 0, 1) := by decide +kernel
theorem dX12_make_25 : decode cX12_make 25 = .ok (.getfield 13, 3) := by decide +kernel
theorem dX12_make_28 : decode cX12_make 28 = .ok (.iconst 5, 1) := by decide +kernel
theorem dX12_make_29 : decode cX12_make 29 = .ok (.invokestatic 122, 3) := by decide +kernel
theorem dX12_make_32 : decode cX12_make 32 = .ok (.ifCond .eq 7, 3) := by decide +kernel
theorem dX12_make_35 : decode cX12_make 35 = .ok (.iconst 1, 1) := by decide +kernel
theorem dX12_make_36 : decode cX12_make 36 = .ok (.goto 4, 3) := by decide +kernel
theorem dX12_make_39 : decode cX12_make 39 = .ok (.iconst 0, 1) := by decide +kernel
theorem dX12_make_40 : decode cX12_make 40 = .ok (.ireturn, 1) := by decide +kernel
theorem dX12_makeRow_0 : decode cX12_makeRow 0 = .ok (.aload_n 0, 1) := by decide +kernel
theorem dX12_makeRow_1 : decode cX12_makeRow 1 = .ok (.iload_n 1, 1) := by decide +kernel
theorem dX12_makeRow_2 : decode cX12_makeRow 2 = .ok (.invokevirtual 106, 3) := by decide +kernel
theorem dX12_makeRow_5 : decode cX12_makeRow 5 = .ok (.ifCond .ne 9, 3) := by decide +kernel
theorem dX12_makeRow_8 : decode cX12_makeRow 8 = .ok (.aload_n 0, 1) := by decide +kernel
theorem dX12_makeRow_9 : decode cX12_makeRow 9 = .ok (.iconst (-1), 1) := by decide +kernel
theorem dX12_makeRow_10 : decode cX12_makeRow 10 = .ok (.invokevirtual 65, 3) := by decide +kernel
theorem dX12_makeRow_13 : decode cX12_makeRow 13 = .ok (.ireturn, 1) := by decide +kernel
theorem dX12_makeRow_14 : decode cX12_makeRow 14 = .ok (.aload_n 0, 1) := by decide +kernel
theorem dX12_makeRow_15 : decode cX12_makeRow 15 = .ok (.aload_n 0, 1) := by decide +kernel
theorem dX12_makeRow_16 : decode cX12_makeRow 16 = .ok (.getfield 13, 3) := by decide +kernel
theorem dX12_makeRow_19 : decode cX12_makeRow 19 = .ok (.iconst 5, 1) := by decide +kernel
theorem dX12_makeRow_20 : decode cX12_makeRow 20 = .ok (.iload_n 1, 1) := by decide +kernel
theorem dX12_makeRow_21 : decode cX12_makeRow 21 = .ok (.invokevirtual 126, 3) := by decide +kernel
theorem dX12_makeRow_24 : decode cX12_makeRow 24 = .ok (.aload_n 0, 1) := by decide +kernel
theorem dX12_makeRow_25 : decode cX12_makeRow 25 = .ok (.getfield 13, 3) := by decide +kernel
theorem dX12_makeRow_28 : decode cX12_makeRow 28 = .ok (.iconst 5, 1) := by decide +kernel
theorem dX12_makeRow_29 : decode cX12_makeRow 29 = .ok (.invokestatic 122, 3) := by decide +kernel
theorem dX12_makeRow_32 : decode cX12_makeRow 32 = .ok (.ifCond .eq 7, 3) := by decide +kernel
theorem dX12_makeRow_35 : decode cX12_makeRow 35 = .ok (.iconst 1, 1) := by decide +kernel
theorem dX12_makeRow_36 : decode cX12_makeRow 36 = .ok (.goto 4, 3) := by decide +kernel
theorem dX12_makeRow_39 : decode cX12_makeRow 39 = .ok (.iconst 0, 1) := by decide +kernel
theorem dX12_makeRow_40 : decode cX12_makeRow 40 = .ok (.ireturn, 1) := by decide +kernel
theorem dX12_puts_0 : decode cX12_puts 0 = .ok (.iload_n 2, 1) := by decide +kernel
theorem dX12_puts_1 : decode cX12_puts 1 = .ok (.istore_n 3, 1) := by decide +kernel
theorem dX12_puts_2 : decode cX12_puts 2 = .ok (.bipush 120, 2) := by decide +kernel
theorem dX12_puts_4 : decode cX12_puts 4 = .ok (.istore 4, 2) := by decide +kernel
theorem dX12_puts_6 : decode cX12_puts 6 = .ok (.bipush 63, 2) := by decide +kernel
theorem dX12_puts_8 : decode cX12_puts 8 = .ok (.istore 5, 2) := by decide +kernel
theorem dX12_puts_10 : decode cX12_puts 10 = .ok (.iconst 0, 1) := by decide +kernel
theorem dX12_puts_11 : decode cX12_puts 11 = .ok (.istore 6, 2) := by decide +kernel
theorem dX12_puts_13 : decode cX12_puts 13 = .ok (.iload 6, 2) := by decide +kernel
theorem dX12_puts_15 : decode cX12_puts 15 = .ok (.bipush 6, 2) := by decide +kernel
theorem dX12_puts_17 : decode cX12_puts 17 = .ok (.if_icmp .ge 103, 3) := by decide +kernel
theorem dX12_puts_20 : decode cX12_puts 20 = .ok (.iload_n 3, 1) := by decide +kernel
theorem dX12_puts_21 : decode cX12_puts 21 = .ok (.iload 4, 2) := by decide +kernel
theorem dX12_puts_23 : decode cX12_puts 23 = .ok (.idiv, 1) := by decide +kernel
theorem dX12_puts_24 : decode cX12_puts 24 = .ok (.istore 7, 2) := by decide +kernel
theorem dX12_puts_26 : decode cX12_puts 26 = .ok (.iload_n 3, 1) := by decide +kernel
theorem dX12_puts_27 : decode cX12_puts 27 = .ok (.iload 4, 2) := by decide +kernel
theorem dX12_puts_29 : decode cX12_puts 29 = .ok (.irem, 1) := by decide +kernel
theorem dX12_puts_30 : decode cX12_puts 30 = .ok (.istore_n 3, 1) := by decide +kernel
theorem dX12_puts_31 : decode cX12_puts 31 = .ok (.iload 6, 2) := by decide +kernel
theorem dX12_puts_33 : decode cX12_puts 33 = .ok (.iconst 5, 1) := by decide +kernel
theorem dX12_puts_34 : decode cX12_puts 34 = .ok (.if_icmp .ge 13, 3) := by decide +kernel
theorem dX12_puts_37 : decode cX12_puts 37 = .ok (.iload 4, 2) := by decide +kernel
theorem dX12_puts_39 : decode cX12_puts 39 = .ok (.iconst 5, 1) := by decide +kernel
theorem dX12_puts_40 : decode cX12_puts 40 = .ok (.iload 6, 2) := by decide +kernel
theorem dX12_puts_42 : decode cX12_puts 42 = .ok (.isub, 1) := by decide +kernel
theorem dX12_puts_43 : decode cX12_puts 43 = .ok (.idiv, 1) := by decide +kernel
theorem dX12_puts_44 : decode cX12_puts 44 = .ok (.goto 4, 3) := by decide +kernel
theorem dX12_puts_47 : decode cX12_puts 47 = .ok (.iconst 1, 1) := by decide +kernel
theorem dX12_puts_48 : decode cX12_puts 48 = .ok (.istore 4, 2) := by decide +kernel
theorem dX12_puts_50 : decode cX12_puts 50 = .ok (.iconst 0, 1) := by decide +kernel
theorem dX12_puts_51 : decode cX12_puts 51 = .ok (.istore 8, 2) := by decide +kernel
theorem dX12_puts_53 : decode cX12_puts 53 = .ok (.iload 5, 2) := by decide +kernel
theorem dX12_puts_55 : decode cX12_puts 55 = .ok (.iload 8, 2) := by decide +kernel
theorem dX12_puts_57 : decode cX12_puts 57 = .ok (.ishr, 1) := by decide +kernel
theorem dX12_puts_58 : decode cX12_puts 58 = .ok (.iconst 1, 1) := by decide +kernel
theorem dX12_puts_59 : decode cX12_puts 59 = .ok (.iand, 1) := by decide +kernel
theorem dX12_puts_60 : decode cX12_puts 60 = .ok (.ifCond .eq 8, 3) := by decide +kernel
theorem dX12_puts_63 : decode cX12_puts 63 = .ok (.iload 7, 2) := by decide +kernel
theorem dX12_puts_65 : decode cX12_puts 65 = .ok (.ifCond .le 30, 3) := by decide +kernel
theorem dX12_puts_68 : decode cX12_puts 68 = .ok (.iload 7, 2) := by decide +kernel
theorem dX12_puts_70 : decode cX12_puts 70 = .ok (.iload 5, 2) := by decide +kernel
theorem dX12_puts_72 : decode cX12_puts 72 = .ok (.iload 8, 2) := by decide +kernel
theorem dX12_puts_74 : decode cX12_puts 74 = .ok (.ishr, 1) := by decide +kernel
theorem dX12_puts_75 : decode cX12_puts 75 = .ok (.iconst 1, 1) := by decide +kernel
theorem dX12_puts_76 : decode cX12_puts 76 = .ok (.iand, 1) := by decide +kernel
theorem dX12_puts_77 : decode cX12_puts 77 = .ok (.iconst 1, 1) := by decide +kernel
theorem dX12_puts_78 : decode cX12_puts 78 = .ok (.if_icmp .ne 7, 3) := by decide +kernel
theorem dX12_puts_81 : decode cX12_puts 81 = .ok (.iconst 1, 1) := by decide +kernel
theorem dX12_puts_82 : decode cX12_puts 82 = .ok (.goto 4, 3) := by decide +kernel
theorem dX12_puts_85 : decode cX12_puts 85 = .ok (.iconst 0, 1) := by decide +kernel
theorem dX12_puts_86 : decode cX12_puts 86 = .ok (.isub, 1) := by decide +kernel
theorem dX12_puts_87 : decode cX12_puts 87 = .ok (.istore 7, 2) := by decide +kernel
theorem dX12_puts_89 : decode cX12_puts 89 = .ok (.iinc 8 1, 3) := by decide +kernel
theorem dX12_puts_92 : decode cX12_puts 92 = .ok (.goto (-39), 3) := by decide +kernel
theorem dX12_puts_95 : decode cX12_puts 95 = .ok (.aload_n 0, 1) := by decide +kernel
theorem dX12_puts_96 : decode cX12_puts 96 = .ok (.iload_n 1, 1) := by decide +kernel
theorem dX12_puts_97 : decode cX12_puts 97 = .ok (.iload 6, 2) := by decide +kernel
theorem dX12_puts_99 : decode cX12_puts 99 = .ok (.iadd, 1) := by decide +kernel
theorem dX12_puts_100 : decode cX12_puts 100 = .ok (.iload 8, 2) := by decide +kernel
theorem dX12_puts_102 : decode cX12_puts 102 = .ok (.iastore, 1) := by decide +kernel
theorem dX12_puts_103 : decode cX12_puts 103 = .ok (.iload 5, 2) := by decide +kernel
theorem dX12_puts_105 : decode cX12_puts 105 = .ok (.iconst 1, 1) := by decide +kernel
theorem dX12_puts_106 : decode cX12_puts 106 = .ok (.iload 8, 2) := by decide +kernel
theorem dX12_puts_108 : decode cX12_puts 108 = .ok (.ishl, 1) := by decide +kernel
theorem dX12_puts_109 : decode cX12_puts 109 = .ok (.iconst (-1), 1) := by decide +kernel
theorem dX12_puts_110 : decode cX12_puts 110 = .ok (.ixor, 1) := by decide +kernel
theorem dX12_puts_111 : decode cX12_puts 111 = .ok (.iand, 1) := by decide +kernel
theorem dX12_puts_112 : decode cX12_puts 112 = .ok (.istore 5, 2) := by decide +kernel
theorem dX12_puts_114 : decode cX12_puts 114 = .ok (.iinc 6 1, 3) := by decide +kernel
theorem dX12_puts_117 : decode cX12_puts 117 = .ok (.goto (-104), 3) := by decide +kernel
theorem dX12_puts_120 : decode cX12_puts 120 = .ok (.return_, 1) := by decide +kernel
theorem dX12_numberOf_0 : decode cX12_numberOf 0 = .ok (.iconst 0, 1) := by decide +kernel
theorem dX12_numberOf_1 : decode cX12_numberOf 1 = .ok (.istore_n 2, 1) := by decide +kernel
theorem dX12_numberOf_2 : decode cX12_numberOf 2 = .ok (.iconst 0, 1) := by decide +kernel
theorem dX12_numberOf_3 : decode cX12_numberOf 3 = .ok (.istore_n 3, 1) := by decide +kernel
theorem dX12_numberOf_4 : decode cX12_numberOf 4 = .ok (.iload_n 3, 1) := by decide +kernel
theorem dX12_numberOf_5 : decode cX12_numberOf 5 = .ok (.bipush 6, 2) := by decide +kernel
theorem dX12_numberOf_7 : decode cX12_numberOf 7 = .ok (.if_icmp .ge 64, 3) := by decide +kernel
theorem dX12_numberOf_10 : decode cX12_numberOf 10 = .ok (.iconst 0, 1) := by decide +kernel
theorem dX12_numberOf_11 : decode cX12_numberOf 11 = .ok (.istore 4, 2) := by decide +kernel
theorem dX12_numberOf_13 : decode cX12_numberOf 13 = .ok (.iload_n 3, 1) := by decide +kernel
theorem dX12_numberOf_14 : decode cX12_numberOf 14 = .ok (.iconst 1, 1) := by decide +kernel
theorem dX12_numberOf_15 : decode cX12_numberOf 15 = .ok (.iadd, 1) := by decide +kernel
theorem dX12_numberOf_16 : decode cX12_numberOf 16 = .ok (.istore 5, 2) := by decide +kernel
theorem dX12_numberOf_18 : decode cX12_numberOf 18 = .ok (.iload 5, 2) := by decide +kernel
theorem dX12_numberOf_20 : decode cX12_numberOf 20 = .ok (.bipush 6, 2) := by decide +kernel
theorem dX12_numberOf_22 : decode cX12_numberOf 22 = .ok (.if_icmp .ge 33, 3) := by decide +kernel
theorem dX12_numberOf_25 : decode cX12_numberOf 25 = .ok (.iload 4, 2) := by decide +kernel
theorem dX12_numberOf_27 : decode cX12_numberOf 27 = .ok (.aload_n 0, 1) := by decide +kernel
theorem dX12_numberOf_28 : decode cX12_numberOf 28 = .ok (.iload_n 1, 1) := by decide +kernel
theorem dX12_numberOf_29 : decode cX12_numberOf 29 = .ok (.iload 5, 2) := by decide +kernel
theorem dX12_numberOf_31 : decode cX12_numberOf 31 = .ok (.iadd, 1) := by decide +kernel
theorem dX12_numberOf_32 : decode cX12_numberOf 32 = .ok (.iaload, 1) := by decide +kernel
theorem dX12_numberOf_33 : decode cX12_numberOf 33 = .ok (.aload_n 0, 1) := by decide +kernel
theorem dX12_numberOf_34 : decode cX12_numberOf 34 = .ok (.iload_n 1, 1) := by decide +kernel
theorem dX12_numberOf_35 : decode cX12_numberOf 35 = .ok (.iload_n 3, 1) := by decide +kernel
theorem dX12_numberOf_36 : decode cX12_numberOf 36 = .ok (.iadd, 1) := by decide +kernel
theorem dX12_numberOf_37 : decode cX12_numberOf 37 = .ok (.iaload, 1) := by decide +kernel
theorem dX12_numberOf_38 : decode cX12_numberOf 38 = .ok (.if_icmp .ge 7, 3) := by decide +kernel
theorem dX12_numberOf_41 : decode cX12_numberOf 41 = .ok (.iconst 1, 1) := by decide +kernel
theorem dX12_numberOf_42 : decode cX12_numberOf 42 = .ok (.goto 4, 3) := by decide +kernel
theorem dX12_numberOf_45 : decode cX12_numberOf 45 = .ok (.iconst 0, 1) := by decide +kernel
theorem dX12_numberOf_46 : decode cX12_numberOf 46 = .ok (.iadd, 1) := by decide +kernel
theorem dX12_numberOf_47 : decode cX12_numberOf 47 = .ok (.istore 4, 2) := by decide +kernel
theorem dX12_numberOf_49 : decode cX12_numberOf 49 = .ok (.iinc 5 1, 3) := by decide +kernel
theorem dX12_numberOf_52 : decode cX12_numberOf 52 = .ok (.goto (-34), 3) := by decide +kernel
theorem dX12_numberOf_55 : decode cX12_numberOf 55 = .ok (.iload_n 2, 1) := by decide +kernel
theorem dX12_numberOf_56 : decode cX12_numberOf 56 = .ok (.bipush 6, 2) := by decide +kernel
theorem dX12_numberOf_58 : decode cX12_numberOf 58 = .ok (.iload_n 3, 1) := by decide +kernel
theorem dX12_numberOf_59 : decode cX12_numberOf 59 = .ok (.isub, 1) := by decide +kernel
theorem dX12_numberOf_60 : decode cX12_numberOf 60 = .ok (.imul, 1) := by decide +kernel
theorem dX12_numberOf_61 : decode cX12_numberOf 61 = .ok (.iload 4, 2) := by decide +kernel
theorem dX12_numberOf_63 : decode cX12_numberOf 63 = .ok (.iadd, 1) := by decide +kernel
theorem dX12_numberOf_64 : decode cX12_numberOf 64 = .ok (.istore_n 2, 1) := by decide +kernel
theorem dX12_numberOf_65 : decode cX12_numberOf 65 = .ok (.iinc 3 1, 3) := by decide +kernel
theorem dX12_numberOf_68 : decode cX12_numberOf 68 = .ok (.goto (-64), 3) := by decide +kernel
theorem dX12_numberOf_71 : decode cX12_numberOf 71 = .ok (.iload_n 2, 1) := by decide +kernel
theorem dX12_numberOf_72 : decode cX12_numberOf 72 = .ok (.ireturn, 1) := by decide +kernel
theorem dX12_put_0 : decode cX12_put 0 = .ok (.iload_n 1, 1) := by decide +kernel
theorem dX12_put_1 : decode cX12_put 1 = .ok (.iconst 0, 1) := by decide +kernel
theorem dX12_put_2 : decode cX12_put 2 = .ok (.sipush 719, 3) := by decide +kernel
theorem dX12_put_5 : decode cX12_put 5 = .ok (.invokestatic 129, 3) := by decide +kernel
theorem dX12_put_8 : decode cX12_put 8 = .ok (.istore_n 2, 1) := by decide +kernel
theorem dX12_put_9 : decode cX12_put 9 = .ok (.iload_n 2, 1) := by decide +kernel
theorem dX12_put_10 : decode cX12_put 10 = .ok (.ifCond .eq 9, 3) := by decide +kernel
theorem dX12_put_13 : decode cX12_put 13 = .ok (.aload_n 0, 1) := by decide +kernel
theorem dX12_put_14 : decode cX12_put 14 = .ok (.iload_n 2, 1) := by decide +kernel
theorem dX12_put_15 : decode cX12_put 15 = .ok (.invokevirtual 65, 3) := by decide +kernel
theorem dX12_put_18 : decode cX12_put 18 = .ok (.ireturn, 1) := by decide +kernel
theorem dX12_put_19 : decode cX12_put 19 = .ok (.aload_n 0, 1) := by decide +kernel
theorem dX12_put_20 : decode cX12_put 20 = .ok (.getfield 13, 3) := by decide +kernel
theorem dX12_put_23 : decode cX12_put 23 = .ok (.iconst 5, 1) := by decide +kernel
theorem dX12_put_24 : decode cX12_put 24 = .ok (.iload_n 1, 1) := by decide +kernel
theorem dX12_put_25 : decode cX12_put 25 = .ok (.invokestatic 133, 3) := by decide +kernel
theorem dX12_put_28 : decode cX12_put 28 = .ok (.iload_n 1, 1) := by decide +kernel
theorem dX12_put_29 : decode cX12_put 29 = .ok (.ifCond .ne 7, 3) := by decide +kernel
theorem dX12_put_32 : decode cX12_put 32 = .ok (.iconst 1, 1) := by decide +kernel
theorem dX12_put_33 : decode cX12_put 33 = .ok (.goto 4, 3) := by decide +kernel
theorem dX12_put_36 : decode cX12_put 36 = .ok (.iconst 0, 1) := by decide +kernel
theorem dX12_put_37 : decode cX12_put 37 = .ok (.ireturn, 1) := by decide +kernel
theorem dX12_time_0 : decode cX12_time 0 = .ok (.iload_n 1, 1) := by decide +kernel
theorem dX12_time_1 : decode cX12_time 1 = .ok (.aload_n 0, 1) := by decide +kernel
theorem dX12_time_2 : decode cX12_time 2 = .ok (.getfield 13, 3) := by decide +kernel
theorem dX12_time_5 : decode cX12_time 5 = .ok (.iconst 0, 1) := by decide +kernel
theorem dX12_time_6 : decode cX12_time 6 = .ok (.iaload, 1) := by decide +kernel
theorem dX12_time_7 : decode cX12_time 7 = .ok (.invokestatic 61, 3) := by decide +kernel
theorem dX12_time_10 : decode cX12_time 10 = .ok (.ifCond .ne 9, 3) := by decide +kernel
theorem dX12_time_13 : decode cX12_time 13 = .ok (.aload_n 0, 1) := by decide +kernel
theorem dX12_time_14 : decode cX12_time 14 = .ok (.iconst (-1), 1) := by decide +kernel
theorem dX12_time_15 : decode cX12_time 15 = .ok (.invokevirtual 65, 3) := by decide +kernel
theorem dX12_time_18 : decode cX12_time 18 = .ok (.ireturn, 1) := by decide +kernel
theorem dX12_time_19 : decode cX12_time 19 = .ok (.iload_n 2, 1) := by decide +kernel
theorem dX12_time_20 : decode cX12_time 20 = .ok (.iconst 2, 1) := by decide +kernel
theorem dX12_time_21 : decode cX12_time 21 = .ok (.invokestatic 61, 3) := by decide +kernel
theorem dX12_time_24 : decode cX12_time 24 = .ok (.ifCond .ne 10, 3) := by decide +kernel
theorem dX12_time_27 : decode cX12_time 27 = .ok (.aload_n 0, 1) := by decide +kernel
theorem dX12_time_28 : decode cX12_time 28 = .ok (.bipush (-2), 2) := by decide +kernel
theorem dX12_time_30 : decode cX12_time 30 = .ok (.invokevirtual 65, 3) := by decide +kernel
theorem dX12_time_33 : decode cX12_time 33 = .ok (.ireturn, 1) := by decide +kernel
theorem dX12_time_34 : decode cX12_time 34 = .ok (.iload_n 3, 1) := by decide +kernel
theorem dX12_time_35 : decode cX12_time 35 = .ok (.iconst 1, 1) := by decide +kernel
theorem dX12_time_36 : decode cX12_time 36 = .ok (.iload_n 2, 1) := by decide +kernel
theorem dX12_time_37 : decode cX12_time 37 = .ok (.isub, 1) := by decide +kernel
theorem dX12_time_38 : decode cX12_time 38 = .ok (.bipush 99, 2) := by decide +kernel
theorem dX12_time_40 : decode cX12_time 40 = .ok (.invokestatic 129, 3) := by decide +kernel
theorem dX12_time_43 : decode cX12_time 43 = .ok (.istore 4, 2) := by decide +kernel
theorem dX12_time_45 : decode cX12_time 45 = .ok (.iload 4, 2) := by decide +kernel
theorem dX12_time_47 : decode cX12_time 47 = .ok (.ifCond .eq 10, 3) := by decide +kernel
theorem dX12_time_50 : decode cX12_time 50 = .ok (.aload_n 0, 1) := by decide +kernel
theorem dX12_time_51 : decode cX12_time 51 = .ok (.iload 4, 2) := by decide +kernel
theorem dX12_time_53 : decode cX12_time 53 = .ok (.invokevirtual 65, 3) := by decide +kernel
theorem dX12_time_56 : decode cX12_time 56 = .ok (.ireturn, 1) := by decide +kernel
theorem dX12_time_57 : decode cX12_time 57 = .ok (.iload_n 2, 1) := by decide +kernel
theorem dX12_time_58 : decode cX12_time 58 = .ok (.ifCond .ne 8, 3) := by decide +kernel
theorem dX12_time_61 : decode cX12_time 61 = .ok (.bipush 47, 2) := by decide +kernel
theorem dX12_time_63 : decode cX12_time 63 = .ok (.goto 5, 3) := by decide +kernel
theorem dX12_time_66 : decode cX12_time 66 = .ok (.bipush 53, 2) := by decide +kernel
theorem dX12_time_68 : decode cX12_time 68 = .ok (.iload_n 1, 1) := by decide +kernel
theorem dX12_time_69 : decode cX12_time 69 = .ok (.iadd, 1) := by decide +kernel
theorem dX12_time_70 : decode cX12_time 70 = .ok (.istore 5, 2) := by decide +kernel
theorem dX12_time_72 : decode cX12_time 72 = .ok (.aload_n 0, 1) := by decide +kernel
theorem dX12_time_73 : decode cX12_time 73 = .ok (.getfield 13, 3) := by decide +kernel
theorem dX12_time_76 : decode cX12_time 76 = .ok (.iload 5, 2) := by decide +kernel
theorem dX12_time_78 : decode cX12_time 78 = .ok (.iaload, 1) := by decide +kernel
theorem dX12_time_79 : decode cX12_time 79 = .ok (.istore 6, 2) := by decide +kernel
theorem dX12_time_81 : decode cX12_time 81 = .ok (.aload_n 0, 1) := by decide +kernel
theorem dX12_time_82 : decode cX12_time 82 = .ok (.getfield 13, 3) := by decide +kernel
theorem dX12_time_85 : decode cX12_time 85 = .ok (.iload 5, 2) := by decide +kernel
theorem dX12_time_87 : decode cX12_time 87 = .ok (.iload_n 3, 1) := by decide +kernel
theorem dX12_time_88 : decode cX12_time 88 = .ok (.iastore, 1) := by decide +kernel
theorem dX12_time_89 : decode cX12_time 89 = .ok (.iload 6, 2) := by decide +kernel
theorem dX12_time_91 : decode cX12_time 91 = .ok (.ireturn, 1) := by decide +kernel
theorem dX12_after_0 : decode cX12_after 0 = .ok (.iload_n 1, 1) := by decide +kernel
theorem dX12_after_1 : decode cX12_after 1 = .ok (.aload_n 0, 1) := by decide +kernel
theorem dX12_after_2 : decode cX12_after 2 = .ok (.getfield 13, 3) := by decide +kernel
theorem dX12_after_5 : decode cX12_after 5 = .ok (.iconst 0, 1) := by decide +kernel
theorem dX12_after_6 : decode cX12_after 6 = .ok (.iaload, 1) := by decide +kernel
theorem dX12_after_7 : decode cX12_after 7 = .ok (.invokestatic 61, 3) := by decide +kernel
theorem dX12_after_10 : decode cX12_after 10 = .ok (.ifCond .eq 27, 3) := by decide +kernel
theorem dX12_after_13 : decode cX12_after 13 = .ok (.iload_n 2, 1) := by decide +kernel
theorem dX12_after_14 : decode cX12_after 14 = .ok (.aload_n 0, 1) := by decide +kernel
theorem dX12_after_15 : decode cX12_after 15 = .ok (.getfield 13, 3) := by decide +kernel
theorem dX12_after_18 : decode cX12_after 18 = .ok (.iconst 0, 1) := by decide +kernel
theorem dX12_after_19 : decode cX12_after 19 = .ok (.iaload, 1) := by decide +kernel
theorem dX12_after_20 : decode cX12_after 20 = .ok (.invokestatic 61, 3) := by decide +kernel
theorem dX12_after_23 : decode cX12_after 23 = .ok (.ifCond .eq 14, 3) := by decide +kernel
theorem dX12_after_26 : decode cX12_after 26 = .ok (.iload_n 3, 1) := by decide +kernel
theorem dX12_after_27 : decode cX12_after 27 = .ok (.bipush (-9), 2) := by decide +kernel
theorem dX12_after_29 : decode cX12_after 29 = .ok (.bipush 99, 2) := by decide +kernel
theorem dX12_after_31 : decode cX12_after 31 = .ok (.invokestatic 129, 3) := by decide +kernel
theorem dX12_after_34 : decode cX12_after 34 = .ok (.goto 4, 3) := by decide +kernel
theorem dX12_after_37 : decode cX12_after 37 = .ok (.iconst (-1), 1) := by decide +kernel
theorem dX12_after_38 : decode cX12_after 38 = .ok (.istore 4, 2) := by decide +kernel
theorem dX12_after_40 : decode cX12_after 40 = .ok (.iload 4, 2) := by decide +kernel
theorem dX12_after_42 : decode cX12_after 42 = .ok (.ifCond .eq 13, 3) := by decide +kernel
theorem dX12_after_45 : decode cX12_after 45 = .ok (.ldc 136, 2) := by decide +kernel
theorem dX12_after_47 : decode cX12_after 47 = .ok (.aload_n 0, 1) := by decide +kernel
theorem dX12_after_48 : decode cX12_after 48 = .ok (.iload 4, 2) := by decide +kernel
theorem dX12_after_50 : decode cX12_after 50 = .ok (.invokevirtual 65, 3) := by decide +kernel
theorem dX12_after_53 : decode cX12_after 53 = .ok (.isub, 1) := by decide +kernel
theorem dX12_after_54 : decode cX12_after 54 = .ok (.ireturn, 1) := by decide +kernel
theorem dX12_after_55 : decode cX12_after 55 = .ok (.aload_n 0, 1) := by decide +kernel
theorem dX12_after_56 : decode cX12_after 56 = .ok (.getfield 13, 3) := by decide +kernel
theorem dX12_after_59 : decode cX12_after 59 = .ok (.bipush 59, 2) := by decide +kernel
theorem dX12_after_61 : decode cX12_after 61 = .ok (.bipush 6, 2) := by decide +kernel
theorem dX12_after_63 : decode cX12_after 63 = .ok (.iload_n 1, 1) := by decide +kernel
theorem dX12_after_64 : decode cX12_after 64 = .ok (.imul, 1) := by decide +kernel
theorem dX12_after_65 : decode cX12_after 65 = .ok (.iadd, 1) := by decide +kernel
theorem dX12_after_66 : decode cX12_after 66 = .ok (.iload_n 2, 1) := by decide +kernel
theorem dX12_after_67 : decode cX12_after 67 = .ok (.iadd, 1) := by decide +kernel
theorem dX12_after_68 : decode cX12_after 68 = .ok (.iaload, 1) := by decide +kernel
theorem dX12_after_69 : decode cX12_after 69 = .ok (.istore 5, 2) := by decide +kernel
theorem dX12_after_71 : decode cX12_after 71 = .ok (.aload_n 0, 1) := by decide +kernel
theorem dX12_after_72 : decode cX12_after 72 = .ok (.getfield 13, 3) := by decide +kernel
theorem dX12_after_75 : decode cX12_after 75 = .ok (.bipush 59, 2) := by decide +kernel
theorem dX12_after_77 : decode cX12_after 77 = .ok (.bipush 6, 2) := by decide +kernel
theorem dX12_after_79 : decode cX12_after 79 = .ok (.iload_n 1, 1) := by decide +kernel
theorem dX12_after_80 : decode cX12_after 80 = .ok (.imul, 1) := by decide +kernel
theorem dX12_after_81 : decode cX12_after 81 = .ok (.iadd, 1) := by decide +kernel
theorem dX12_after_82 : decode cX12_after 82 = .ok (.iload_n 2, 1) := by decide +kernel
theorem dX12_after_83 : decode cX12_after 83 = .ok (.iadd, 1) := by decide +kernel
theorem dX12_after_84 : decode cX12_after 84 = .ok (.iload_n 3, 1) := by decide +kernel
theorem dX12_after_85 : decode cX12_after 85 = .ok (.iastore, 1) := by decide +kernel
theorem dX12_after_86 : decode cX12_after 86 = .ok (.iload 5, 2) := by decide +kernel
theorem dX12_after_88 : decode cX12_after 88 = .ok (.ireturn, 1) := by decide +kernel
theorem dX12_locks_0 : decode cX12_locks 0 = .ok (.iload_n 1, 1) := by decide +kernel
theorem dX12_locks_1 : decode cX12_locks 1 = .ok (.iconst 2, 1) := by decide +kernel
theorem dX12_locks_2 : decode cX12_locks 2 = .ok (.invokestatic 61, 3) := by decide +kernel
theorem dX12_locks_5 : decode cX12_locks 5 = .ok (.ifCond .ne 10, 3) := by decide +kernel
theorem dX12_locks_8 : decode cX12_locks 8 = .ok (.aload_n 0, 1) := by decide +kernel
theorem dX12_locks_9 : decode cX12_locks 9 = .ok (.bipush (-2), 2) := by decide +kernel
theorem dX12_locks_11 : decode cX12_locks 11 = .ok (.invokevirtual 65, 3) := by decide +kernel
theorem dX12_locks_14 : decode cX12_locks 14 = .ok (.ireturn, 1) := by decide +kernel
theorem dX12_locks_15 : decode cX12_locks 15 = .ok (.iload_n 2, 1) := by decide +kernel
theorem dX12_locks_16 : decode cX12_locks 16 = .ok (.iconst 0, 1) := by decide +kernel
theorem dX12_locks_17 : decode cX12_locks 17 = .ok (.iload_n 1, 1) := by decide +kernel
theorem dX12_locks_18 : decode cX12_locks 18 = .ok (.ifCond .ne 8, 3) := by decide +kernel
theorem dX12_locks_21 : decode cX12_locks 21 = .ok (.bipush 100, 2) := by decide +kernel
theorem dX12_locks_23 : decode cX12_locks 23 = .ok (.goto 5, 3) := by decide +kernel
theorem dX12_locks_26 : decode cX12_locks 26 = .ok (.bipush 99, 2) := by decide +kernel
theorem dX12_locks_28 : decode cX12_locks 28 = .ok (.invokestatic 129, 3) := by decide +kernel
theorem dX12_locks_31 : decode cX12_locks 31 = .ok (.istore_n 3, 1) := by decide +kernel
theorem dX12_locks_32 : decode cX12_locks 32 = .ok (.iload_n 3, 1) := by decide +kernel
theorem dX12_locks_33 : decode cX12_locks 33 = .ok (.ifCond .eq 9, 3) := by decide +kernel
theorem dX12_locks_36 : decode cX12_locks 36 = .ok (.aload_n 0, 1) := by decide +kernel
theorem dX12_locks_37 : decode cX12_locks 37 = .ok (.iload_n 3, 1) := by decide +kernel
theorem dX12_locks_38 : decode cX12_locks 38 = .ok (.invokevirtual 65, 3) := by decide +kernel
theorem dX12_locks_41 : decode cX12_locks 41 = .ok (.ireturn, 1) := by decide +kernel
theorem dX12_locks_42 : decode cX12_locks 42 = .ok (.aload_n 0, 1) := by decide +kernel
theorem dX12_locks_43 : decode cX12_locks 43 = .ok (.getfield 13, 3) := by decide +kernel
theorem dX12_locks_46 : decode cX12_locks 46 = .ok (.iconst 3, 1) := by decide +kernel
theorem dX12_locks_47 : decode cX12_locks 47 = .ok (.iload_n 1, 1) := by decide +kernel
theorem dX12_locks_48 : decode cX12_locks 48 = .ok (.iadd, 1) := by decide +kernel
theorem dX12_locks_49 : decode cX12_locks 49 = .ok (.iaload, 1) := by decide +kernel
theorem dX12_locks_50 : decode cX12_locks 50 = .ok (.istore 4, 2) := by decide +kernel
theorem dX12_locks_52 : decode cX12_locks 52 = .ok (.aload_n 0, 1) := by decide +kernel
theorem dX12_locks_53 : decode cX12_locks 53 = .ok (.getfield 13, 3) := by decide +kernel
theorem dX12_locks_56 : decode cX12_locks 56 = .ok (.iconst 3, 1) := by decide +kernel
theorem dX12_locks_57 : decode cX12_locks 57 = .ok (.iload_n 1, 1) := by decide +kernel
theorem dX12_locks_58 : decode cX12_locks 58 = .ok (.iadd, 1) := by decide +kernel
theorem dX12_locks_59 : decode cX12_locks 59 = .ok (.iload_n 2, 1) := by decide +kernel
theorem dX12_locks_60 : decode cX12_locks 60 = .ok (.iastore, 1) := by decide +kernel
theorem dX12_locks_61 : decode cX12_locks 61 = .ok (.iload 4, 2) := by decide +kernel
theorem dX12_locks_63 : decode cX12_locks 63 = .ok (.ireturn, 1) := by decide +kernel
theorem dX12_afterOf_0 : decode cX12_afterOf 0 = .ok (.aload_n 0, 1) := by decide +kernel
theorem dX12_afterOf_1 : decode cX12_afterOf 1 = .ok (.getfield 13, 3) := by decide +kernel
theorem dX12_afterOf_4 : decode cX12_afterOf 4 = .ok (.bipush 59, 2) := by decide +kernel
theorem dX12_afterOf_6 : decode cX12_afterOf 6 = .ok (.bipush 6, 2) := by decide +kernel
theorem dX12_afterOf_8 : decode cX12_afterOf 8 = .ok (.iload_n 1, 1) := by decide +kernel
theorem dX12_afterOf_9 : decode cX12_afterOf 9 = .ok (.iconst 2, 1) := by decide +kernel
theorem dX12_afterOf_10 : decode cX12_afterOf 10 = .ok (.idiv, 1) := by decide +kernel
theorem dX12_afterOf_11 : decode cX12_afterOf 11 = .ok (.imul, 1) := by decide +kernel
theorem dX12_afterOf_12 : decode cX12_afterOf 12 = .ok (.iadd, 1) := by decide +kernel
theorem dX12_afterOf_13 : decode cX12_afterOf 13 = .ok (.iload_n 2, 1) := by decide +kernel
theorem dX12_afterOf_14 : decode cX12_afterOf 14 = .ok (.iconst 2, 1) := by decide +kernel
theorem dX12_afterOf_15 : decode cX12_afterOf 15 = .ok (.idiv, 1) := by decide +kernel
theorem dX12_afterOf_16 : decode cX12_afterOf 16 = .ok (.iadd, 1) := by decide +kernel
theorem dX12_afterOf_17 : decode cX12_afterOf 17 = .ok (.iaload, 1) := by decide +kernel
theorem dX12_afterOf_18 : decode cX12_afterOf 18 = .ok (.ireturn, 1) := by decide +kernel
theorem dX12_takes_0 : decode cX12_takes 0 = .ok (.aload_n 0, 1) := by decide +kernel
theorem dX12_takes_1 : decode cX12_takes 1 = .ok (.getfield 13, 3) := by decide +kernel
theorem dX12_takes_4 : decode cX12_takes 4 = .ok (.bipush 47, 2) := by decide +kernel
theorem dX12_takes_6 : decode cX12_takes 6 = .ok (.iload_n 2, 1) := by decide +kernel
theorem dX12_takes_7 : decode cX12_takes 7 = .ok (.iconst 2, 1) := by decide +kernel
theorem dX12_takes_8 : decode cX12_takes 8 = .ok (.idiv, 1) := by decide +kernel
theorem dX12_takes_9 : decode cX12_takes 9 = .ok (.iadd, 1) := by decide +kernel
theorem dX12_takes_10 : decode cX12_takes 10 = .ok (.iaload, 1) := by decide +kernel
theorem dX12_takes_11 : decode cX12_takes 11 = .ok (.iload_n 2, 1) := by decide +kernel
theorem dX12_takes_12 : decode cX12_takes 12 = .ok (.iconst 2, 1) := by decide +kernel
theorem dX12_takes_13 : decode cX12_takes 13 = .ok (.irem, 1) := by decide +kernel
theorem dX12_takes_14 : decode cX12_takes 14 = .ok (.iconst 1, 1) := by decide +kernel
theorem dX12_takes_15 : decode cX12_takes 15 = .ok (.if_icmp .ne 17, 3) := by decide +kernel
theorem dX12_takes_18 : decode cX12_takes 18 = .ok (.aload_n 0, 1) := by decide +kernel
theorem dX12_takes_19 : decode cX12_takes 19 = .ok (.getfield 13, 3) := by decide +kernel
theorem dX12_takes_22 : decode cX12_takes 22 = .ok (.bipush 53, 2) := by decide +kernel
theorem dX12_takes_24 : decode cX12_takes 24 = .ok (.iload_n 2, 1) := by decide +kernel
theorem dX12_takes_25 : decode cX12_takes 25 = .ok (.iconst 2, 1) := by decide +kernel
theorem dX12_takes_26 : decode cX12_takes 26 = .ok (.idiv, 1) := by decide +kernel
theorem dX12_takes_27 : decode cX12_takes 27 = .ok (.iadd, 1) := by decide +kernel
theorem dX12_takes_28 : decode cX12_takes 28 = .ok (.iaload, 1) := by decide +kernel
theorem dX12_takes_29 : decode cX12_takes 29 = .ok (.goto 4, 3) := by decide +kernel
theorem dX12_takes_32 : decode cX12_takes 32 = .ok (.iconst 0, 1) := by decide +kernel
theorem dX12_takes_33 : decode cX12_takes 33 = .ok (.iadd, 1) := by decide +kernel
theorem dX12_takes_34 : decode cX12_takes 34 = .ok (.iload_n 1, 1) := by decide +kernel
theorem dX12_takes_35 : decode cX12_takes 35 = .ok (.ifCond .ge 7, 3) := by decide +kernel
theorem dX12_takes_38 : decode cX12_takes 38 = .ok (.iconst 0, 1) := by decide +kernel
theorem dX12_takes_39 : decode cX12_takes 39 = .ok (.goto 9, 3) := by decide +kernel
theorem dX12_takes_42 : decode cX12_takes 42 = .ok (.aload_n 0, 1) := by decide +kernel
theorem dX12_takes_43 : decode cX12_takes 43 = .ok (.iload_n 1, 1) := by decide +kernel
theorem dX12_takes_44 : decode cX12_takes 44 = .ok (.iload_n 2, 1) := by decide +kernel
theorem dX12_takes_45 : decode cX12_takes 45 = .ok (.invokevirtual 137, 3) := by decide +kernel
theorem dX12_takes_48 : decode cX12_takes 48 = .ok (.iadd, 1) := by decide +kernel
theorem dX12_takes_49 : decode cX12_takes 49 = .ok (.istore_n 3, 1) := by decide +kernel
theorem dX12_takes_50 : decode cX12_takes 50 = .ok (.iload_n 3, 1) := by decide +kernel
theorem dX12_takes_51 : decode cX12_takes 51 = .ok (.iconst 1, 1) := by decide +kernel
theorem dX12_takes_52 : decode cX12_takes 52 = .ok (.if_icmp .ge 7, 3) := by decide +kernel
theorem dX12_takes_55 : decode cX12_takes 55 = .ok (.iconst 1, 1) := by decide +kernel
theorem dX12_takes_56 : decode cX12_takes 56 = .ok (.goto 4, 3) := by decide +kernel
theorem dX12_takes_59 : decode cX12_takes 59 = .ok (.iload_n 3, 1) := by decide +kernel
theorem dX12_takes_60 : decode cX12_takes 60 = .ok (.ireturn, 1) := by decide +kernel
theorem dX12_takesOf_0 : decode cX12_takesOf 0 = .ok (.aload_n 0, 1) := by decide +kernel
theorem dX12_takesOf_1 : decode cX12_takesOf 1 = .ok (.iload_n 2, 1) := by decide +kernel
theorem dX12_takesOf_2 : decode cX12_takesOf 2 = .ok (.ifCond .ne 8, 3) := by decide +kernel
theorem dX12_takesOf_5 : decode cX12_takesOf 5 = .ok (.bipush (-9), 2) := by decide +kernel
theorem dX12_takesOf_7 : decode cX12_takesOf 7 = .ok (.goto 11, 3) := by decide +kernel
theorem dX12_takesOf_10 : decode cX12_takesOf 10 = .ok (.aload_n 0, 1) := by decide +kernel
theorem dX12_takesOf_11 : decode cX12_takesOf 11 = .ok (.iload_n 1, 1) := by decide +kernel
theorem dX12_takesOf_12 : decode cX12_takesOf 12 = .ok (.iload_n 2, 1) := by decide +kernel
theorem dX12_takesOf_13 : decode cX12_takesOf 13 = .ok (.iconst 1, 1) := by decide +kernel
theorem dX12_takesOf_14 : decode cX12_takesOf 14 = .ok (.isub, 1) := by decide +kernel
theorem dX12_takesOf_15 : decode cX12_takesOf 15 = .ok (.invokevirtual 112, 3) := by decide +kernel
theorem dX12_takesOf_18 : decode cX12_takesOf 18 = .ok (.aload_n 0, 1) := by decide +kernel
theorem dX12_takesOf_19 : decode cX12_takesOf 19 = .ok (.iload_n 1, 1) := by decide +kernel
theorem dX12_takesOf_20 : decode cX12_takesOf 20 = .ok (.iload_n 2, 1) := by decide +kernel
theorem dX12_takesOf_21 : decode cX12_takesOf 21 = .ok (.invokevirtual 112, 3) := by decide +kernel
theorem dX12_takesOf_24 : decode cX12_takesOf 24 = .ok (.invokevirtual 140, 3) := by decide +kernel
theorem dX12_takesOf_27 : decode cX12_takesOf 27 = .ok (.ireturn, 1) := by decide +kernel
theorem dX12_kind_0 : decode cX12_kind 0 = .ok (.aload_n 0, 1) := by decide +kernel
theorem dX12_kind_1 : decode cX12_kind 1 = .ok (.iload_n 1, 1) := by decide +kernel
theorem dX12_kind_2 : decode cX12_kind 2 = .ok (.invokevirtual 106, 3) := by decide +kernel
theorem dX12_kind_5 : decode cX12_kind 5 = .ok (.ifCond .ne 9, 3) := by decide +kernel
theorem dX12_kind_8 : decode cX12_kind 8 = .ok (.aload_n 0, 1) := by decide +kernel
theorem dX12_kind_9 : decode cX12_kind 9 = .ok (.iconst (-1), 1) := by decide +kernel
theorem dX12_kind_10 : decode cX12_kind 10 = .ok (.invokevirtual 65, 3) := by decide +kernel
theorem dX12_kind_13 : decode cX12_kind 13 = .ok (.ireturn, 1) := by decide +kernel
theorem dX12_kind_14 : decode cX12_kind 14 = .ok (.iload_n 2, 1) := by decide +kernel
theorem dX12_kind_15 : decode cX12_kind 15 = .ok (.aload_n 0, 1) := by decide +kernel
theorem dX12_kind_16 : decode cX12_kind 16 = .ok (.iload_n 1, 1) := by decide +kernel
theorem dX12_kind_17 : decode cX12_kind 17 = .ok (.invokevirtual 109, 3) := by decide +kernel
theorem dX12_kind_20 : decode cX12_kind 20 = .ok (.invokestatic 61, 3) := by decide +kernel
theorem dX12_kind_23 : decode cX12_kind 23 = .ok (.ifCond .ne 6, 3) := by decide +kernel
theorem dX12_kind_26 : decode cX12_kind 26 = .ok (.bipush (-9), 2) := by decide +kernel
theorem dX12_kind_28 : decode cX12_kind 28 = .ok (.ireturn, 1) := by decide +kernel
theorem dX12_kind_29 : decode cX12_kind 29 = .ok (.iload_n 2, 1) := by decide +kernel
theorem dX12_kind_30 : decode cX12_kind 30 = .ok (.ifCond .ne 5, 3) := by decide +kernel
theorem dX12_kind_33 : decode cX12_kind 33 = .ok (.iconst 0, 1) := by decide +kernel
theorem dX12_kind_34 : decode cX12_kind 34 = .ok (.ireturn, 1) := by decide +kernel
theorem dX12_kind_35 : decode cX12_kind 35 = .ok (.aload_n 0, 1) := by decide +kernel
theorem dX12_kind_36 : decode cX12_kind 36 = .ok (.iload_n 1, 1) := by decide +kernel
theorem dX12_kind_37 : decode cX12_kind 37 = .ok (.iload_n 2, 1) := by decide +kernel
theorem dX12_kind_38 : decode cX12_kind 38 = .ok (.iconst 1, 1) := by decide +kernel
theorem dX12_kind_39 : decode cX12_kind 39 = .ok (.isub, 1) := by decide +kernel
theorem dX12_kind_40 : decode cX12_kind 40 = .ok (.invokevirtual 112, 3) := by decide +kernel
theorem dX12_kind_43 : decode cX12_kind 43 = .ok (.istore_n 3, 1) := by decide +kernel
theorem dX12_kind_44 : decode cX12_kind 44 = .ok (.aload_n 0, 1) := by decide +kernel
theorem dX12_kind_45 : decode cX12_kind 45 = .ok (.iload_n 1, 1) := by decide +kernel
theorem dX12_kind_46 : decode cX12_kind 46 = .ok (.iload_n 2, 1) := by decide +kernel
theorem dX12_kind_47 : decode cX12_kind 47 = .ok (.invokevirtual 112, 3) := by decide +kernel
theorem dX12_kind_50 : decode cX12_kind 50 = .ok (.istore 4, 2) := by decide +kernel
theorem dX12_kind_52 : decode cX12_kind 52 = .ok (.iload_n 3, 1) := by decide +kernel
theorem dX12_kind_53 : decode cX12_kind 53 = .ok (.iconst 2, 1) := by decide +kernel
theorem dX12_kind_54 : decode cX12_kind 54 = .ok (.idiv, 1) := by decide +kernel
theorem dX12_kind_55 : decode cX12_kind 55 = .ok (.iload 4, 2) := by decide +kernel
theorem dX12_kind_57 : decode cX12_kind 57 = .ok (.iconst 2, 1) := by decide +kernel
theorem dX12_kind_58 : decode cX12_kind 58 = .ok (.idiv, 1) := by decide +kernel
theorem dX12_kind_59 : decode cX12_kind 59 = .ok (.if_icmp .ne 11, 3) := by decide +kernel
theorem dX12_kind_62 : decode cX12_kind 62 = .ok (.iload_n 3, 1) := by decide +kernel
theorem dX12_kind_63 : decode cX12_kind 63 = .ok (.iload 4, 2) := by decide +kernel
theorem dX12_kind_65 : decode cX12_kind 65 = .ok (.if_icmp .eq 5, 3) := by decide +kernel
theorem dX12_kind_68 : decode cX12_kind 68 = .ok (.iconst 3, 1) := by decide +kernel
theorem dX12_kind_69 : decode cX12_kind 69 = .ok (.ireturn, 1) := by decide +kernel
theorem dX12_kind_70 : decode cX12_kind 70 = .ok (.aload_n 0, 1) := by decide +kernel
theorem dX12_kind_71 : decode cX12_kind 71 = .ok (.iload_n 3, 1) := by decide +kernel
theorem dX12_kind_72 : decode cX12_kind 72 = .ok (.iload 4, 2) := by decide +kernel
theorem dX12_kind_74 : decode cX12_kind 74 = .ok (.invokevirtual 137, 3) := by decide +kernel
theorem dX12_kind_77 : decode cX12_kind 77 = .ok (.istore 5, 2) := by decide +kernel
theorem dX12_kind_79 : decode cX12_kind 79 = .ok (.iload 5, 2) := by decide +kernel
theorem dX12_kind_81 : decode cX12_kind 81 = .ok (.ifCond .ge 7, 3) := by decide +kernel
theorem dX12_kind_84 : decode cX12_kind 84 = .ok (.iconst 1, 1) := by decide +kernel
theorem dX12_kind_85 : decode cX12_kind 85 = .ok (.goto 13, 3) := by decide +kernel
theorem dX12_kind_88 : decode cX12_kind 88 = .ok (.iload 5, 2) := by decide +kernel
theorem dX12_kind_90 : decode cX12_kind 90 = .ok (.ifCond .le 7, 3) := by decide +kernel
theorem dX12_kind_93 : decode cX12_kind 93 = .ok (.iconst 2, 1) := by decide +kernel
theorem dX12_kind_94 : decode cX12_kind 94 = .ok (.goto 4, 3) := by decide +kernel
theorem dX12_kind_97 : decode cX12_kind 97 = .ok (.iconst 0, 1) := by decide +kernel
theorem dX12_kind_98 : decode cX12_kind 98 = .ok (.ireturn, 1) := by decide +kernel
theorem dX12_secondsOf_0 : decode cX12_secondsOf 0 = .ok (.iconst 0, 1) := by decide +kernel
theorem dX12_secondsOf_1 : decode cX12_secondsOf 1 = .ok (.istore_n 2, 1) := by decide +kernel
theorem dX12_secondsOf_2 : decode cX12_secondsOf 2 = .ok (.iconst 0, 1) := by decide +kernel
theorem dX12_secondsOf_3 : decode cX12_secondsOf 3 = .ok (.istore_n 3, 1) := by decide +kernel
theorem dX12_secondsOf_4 : decode cX12_secondsOf 4 = .ok (.iload_n 3, 1) := by decide +kernel
theorem dX12_secondsOf_5 : decode cX12_secondsOf 5 = .ok (.aload_n 0, 1) := by decide +kernel
theorem dX12_secondsOf_6 : decode cX12_secondsOf 6 = .ok (.iload_n 1, 1) := by decide +kernel
theorem dX12_secondsOf_7 : decode cX12_secondsOf 7 = .ok (.invokevirtual 109, 3) := by decide +kernel
theorem dX12_secondsOf_10 : decode cX12_secondsOf 10 = .ok (.if_icmp .ge 18, 3) := by decide +kernel
theorem dX12_secondsOf_13 : decode cX12_secondsOf 13 = .ok (.iload_n 2, 1) := by decide +kernel
theorem dX12_secondsOf_14 : decode cX12_secondsOf 14 = .ok (.aload_n 0, 1) := by decide +kernel
theorem dX12_secondsOf_15 : decode cX12_secondsOf 15 = .ok (.iload_n 1, 1) := by decide +kernel
theorem dX12_secondsOf_16 : decode cX12_secondsOf 16 = .ok (.iload_n 3, 1) := by decide +kernel
theorem dX12_secondsOf_17 : decode cX12_secondsOf 17 = .ok (.invokevirtual 143, 3) := by decide +kernel
theorem dX12_secondsOf_20 : decode cX12_secondsOf 20 = .ok (.iadd, 1) := by decide +kernel
theorem dX12_secondsOf_21 : decode cX12_secondsOf 21 = .ok (.istore_n 2, 1) := by decide +kernel
theorem dX12_secondsOf_22 : decode cX12_secondsOf 22 = .ok (.iinc 3 1, 3) := by decide +kernel
theorem dX12_secondsOf_25 : decode cX12_secondsOf 25 = .ok (.goto (-21), 3) := by decide +kernel
theorem dX12_secondsOf_28 : decode cX12_secondsOf 28 = .ok (.iload_n 2, 1) := by decide +kernel
theorem dX12_secondsOf_29 : decode cX12_secondsOf 29 = .ok (.ireturn, 1) := by decide +kernel
theorem dX12_seconds_0 : decode cX12_seconds 0 = .ok (.aload_n 0, 1) := by decide +kernel
theorem dX12_seconds_1 : decode cX12_seconds 1 = .ok (.iload_n 1, 1) := by decide +kernel
theorem dX12_seconds_2 : decode cX12_seconds 2 = .ok (.invokevirtual 106, 3) := by decide +kernel
theorem dX12_seconds_5 : decode cX12_seconds 5 = .ok (.ifCond .eq 11, 3) := by decide +kernel
theorem dX12_seconds_8 : decode cX12_seconds 8 = .ok (.aload_n 0, 1) := by decide +kernel
theorem dX12_seconds_9 : decode cX12_seconds 9 = .ok (.iload_n 1, 1) := by decide +kernel
theorem dX12_seconds_10 : decode cX12_seconds 10 = .ok (.invokevirtual 146, 3) := by decide +kernel
theorem dX12_seconds_13 : decode cX12_seconds 13 = .ok (.goto 8, 3) := by decide +kernel
theorem dX12_seconds_16 : decode cX12_seconds 16 = .ok (.aload_n 0, 1) := by decide +kernel
theorem dX12_seconds_17 : decode cX12_seconds 17 = .ok (.iconst (-1), 1) := by decide +kernel
theorem dX12_seconds_18 : decode cX12_seconds 18 = .ok (.invokevirtual 65, 3) := by decide +kernel
theorem dX12_seconds_21 : decode cX12_seconds 21 = .ok (.ireturn, 1) := by decide +kernel
theorem dX12_mean_0 : decode cX12_mean 0 = .ok (.aload_n 0, 1) := by decide +kernel
theorem dX12_mean_1 : decode cX12_mean 1 = .ok (.iload_n 1, 1) := by decide +kernel
theorem dX12_mean_2 : decode cX12_mean 2 = .ok (.invokevirtual 106, 3) := by decide +kernel
theorem dX12_mean_5 : decode cX12_mean 5 = .ok (.ifCond .eq 34, 3) := by decide +kernel
theorem dX12_mean_8 : decode cX12_mean 8 = .ok (.bipush 100, 2) := by decide +kernel
theorem dX12_mean_10 : decode cX12_mean 10 = .ok (.aload_n 0, 1) := by decide +kernel
theorem dX12_mean_11 : decode cX12_mean 11 = .ok (.iload_n 1, 1) := by decide +kernel
theorem dX12_mean_12 : decode cX12_mean 12 = .ok (.invokevirtual 146, 3) := by decide +kernel
theorem dX12_mean_15 : decode cX12_mean 15 = .ok (.imul, 1) := by decide +kernel
theorem dX12_mean_16 : decode cX12_mean 16 = .ok (.aload_n 0, 1) := by decide +kernel
theorem dX12_mean_17 : decode cX12_mean 17 = .ok (.iload_n 1, 1) := by decide +kernel
theorem dX12_mean_18 : decode cX12_mean 18 = .ok (.invokevirtual 109, 3) := by decide +kernel
theorem dX12_mean_21 : decode cX12_mean 21 = .ok (.aload_n 0, 1) := by decide +kernel
theorem dX12_mean_22 : decode cX12_mean 22 = .ok (.getfield 13, 3) := by decide +kernel
theorem dX12_mean_25 : decode cX12_mean 25 = .ok (.iconst 3, 1) := by decide +kernel
theorem dX12_mean_26 : decode cX12_mean 26 = .ok (.iaload, 1) := by decide +kernel
theorem dX12_mean_27 : decode cX12_mean 27 = .ok (.imul, 1) := by decide +kernel
theorem dX12_mean_28 : decode cX12_mean 28 = .ok (.aload_n 0, 1) := by decide +kernel
theorem dX12_mean_29 : decode cX12_mean 29 = .ok (.getfield 13, 3) := by decide +kernel
theorem dX12_mean_32 : decode cX12_mean 32 = .ok (.iconst 4, 1) := by decide +kernel
theorem dX12_mean_33 : decode cX12_mean 33 = .ok (.iaload, 1) := by decide +kernel
theorem dX12_mean_34 : decode cX12_mean 34 = .ok (.imul, 1) := by decide +kernel
theorem dX12_mean_35 : decode cX12_mean 35 = .ok (.iadd, 1) := by decide +kernel
theorem dX12_mean_36 : decode cX12_mean 36 = .ok (.goto 8, 3) := by decide +kernel
theorem dX12_mean_39 : decode cX12_mean 39 = .ok (.aload_n 0, 1) := by decide +kernel
theorem dX12_mean_40 : decode cX12_mean 40 = .ok (.iconst (-1), 1) := by decide +kernel
theorem dX12_mean_41 : decode cX12_mean 41 = .ok (.invokevirtual 65, 3) := by decide +kernel
theorem dX12_mean_44 : decode cX12_mean 44 = .ok (.ireturn, 1) := by decide +kernel
theorem dX12_drawn_0 : decode cX12_drawn 0 = .ok (.aload_n 0, 1) := by decide +kernel
theorem dX12_drawn_1 : decode cX12_drawn 1 = .ok (.iload_n 1, 1) := by decide +kernel
theorem dX12_drawn_2 : decode cX12_drawn 2 = .ok (.invokevirtual 106, 3) := by decide +kernel
theorem dX12_drawn_5 : decode cX12_drawn 5 = .ok (.ifCond .ne 9, 3) := by decide +kernel
theorem dX12_drawn_8 : decode cX12_drawn 8 = .ok (.aload_n 0, 1) := by decide +kernel
theorem dX12_drawn_9 : decode cX12_drawn 9 = .ok (.iconst (-1), 1) := by decide +kernel
theorem dX12_drawn_10 : decode cX12_drawn 10 = .ok (.invokevirtual 65, 3) := by decide +kernel
theorem dX12_drawn_13 : decode cX12_drawn 13 = .ok (.ireturn, 1) := by decide +kernel
theorem dX12_drawn_14 : decode cX12_drawn 14 = .ok (.iload_n 2, 1) := by decide +kernel
theorem dX12_drawn_15 : decode cX12_drawn 15 = .ok (.istore_n 3, 1) := by decide +kernel
theorem dX12_drawn_16 : decode cX12_drawn 16 = .ok (.aload_n 0, 1) := by decide +kernel
theorem dX12_drawn_17 : decode cX12_drawn 17 = .ok (.iload_n 1, 1) := by decide +kernel
theorem dX12_drawn_18 : decode cX12_drawn 18 = .ok (.invokevirtual 146, 3) := by decide +kernel
theorem dX12_drawn_21 : decode cX12_drawn 21 = .ok (.istore 4, 2) := by decide +kernel
theorem dX12_drawn_23 : decode cX12_drawn 23 = .ok (.iconst 0, 1) := by decide +kernel
theorem dX12_drawn_24 : decode cX12_drawn 24 = .ok (.istore 5, 2) := by decide +kernel
theorem dX12_drawn_26 : decode cX12_drawn 26 = .ok (.iload 5, 2) := by decide +kernel
theorem dX12_drawn_28 : decode cX12_drawn 28 = .ok (.aload_n 0, 1) := by decide +kernel
theorem dX12_drawn_29 : decode cX12_drawn 29 = .ok (.iload_n 1, 1) := by decide +kernel
theorem dX12_drawn_30 : decode cX12_drawn 30 = .ok (.invokevirtual 109, 3) := by decide +kernel
theorem dX12_drawn_33 : decode cX12_drawn 33 = .ok (.if_icmp .ge 52, 3) := by decide +kernel
theorem dX12_drawn_36 : decode cX12_drawn 36 = .ok (.iload_n 3, 1) := by decide +kernel
theorem dX12_drawn_37 : decode cX12_drawn 37 = .ok (.ldc 149, 2) := by decide +kernel
theorem dX12_drawn_39 : decode cX12_drawn 39 = .ok (.imul, 1) := by decide +kernel
theorem dX12_drawn_40 : decode cX12_drawn 40 = .ok (.ldc 150, 2) := by decide +kernel
theorem dX12_drawn_42 : decode cX12_drawn 42 = .ok (.iadd, 1) := by decide +kernel
theorem dX12_drawn_43 : decode cX12_drawn 43 = .ok (.istore_n 3, 1) := by decide +kernel
theorem dX12_drawn_44 : decode cX12_drawn 44 = .ok (.iload 4, 2) := by decide +kernel
theorem dX12_drawn_46 : decode cX12_drawn 46 = .ok (.iload_n 3, 1) := by decide +kernel
theorem dX12_drawn_47 : decode cX12_drawn 47 = .ok (.ldc 151, 2) := by decide +kernel
theorem dX12_drawn_49 : decode cX12_drawn 49 = .ok (.iand, 1) := by decide +kernel
theorem dX12_drawn_50 : decode cX12_drawn 50 = .ok (.sipush 256, 3) := by decide +kernel
theorem dX12_drawn_53 : decode cX12_drawn 53 = .ok (.idiv, 1) := by decide +kernel
theorem dX12_drawn_54 : decode cX12_drawn 54 = .ok (.bipush 100, 2) := by decide +kernel
theorem dX12_drawn_56 : decode cX12_drawn 56 = .ok (.irem, 1) := by decide +kernel
theorem dX12_drawn_57 : decode cX12_drawn 57 = .ok (.aload_n 0, 1) := by decide +kernel
theorem dX12_drawn_58 : decode cX12_drawn 58 = .ok (.getfield 13, 3) := by decide +kernel
theorem dX12_drawn_61 : decode cX12_drawn 61 = .ok (.iconst 3, 1) := by decide +kernel
theorem dX12_drawn_62 : decode cX12_drawn 62 = .ok (.iaload, 1) := by decide +kernel
theorem dX12_drawn_63 : decode cX12_drawn 63 = .ok (.if_icmp .ge 12, 3) := by decide +kernel
theorem dX12_drawn_66 : decode cX12_drawn 66 = .ok (.aload_n 0, 1) := by decide +kernel
theorem dX12_drawn_67 : decode cX12_drawn 67 = .ok (.getfield 13, 3) := by decide +kernel
theorem dX12_drawn_70 : decode cX12_drawn 70 = .ok (.iconst 4, 1) := by decide +kernel
theorem dX12_drawn_71 : decode cX12_drawn 71 = .ok (.iaload, 1) := by decide +kernel
theorem dX12_drawn_72 : decode cX12_drawn 72 = .ok (.goto 4, 3) := by decide +kernel
theorem dX12_drawn_75 : decode cX12_drawn 75 = .ok (.iconst 0, 1) := by decide +kernel
theorem dX12_drawn_76 : decode cX12_drawn 76 = .ok (.iadd, 1) := by decide +kernel
theorem dX12_drawn_77 : decode cX12_drawn 77 = .ok (.istore 4, 2) := by decide +kernel
theorem dX12_drawn_79 : decode cX12_drawn 79 = .ok (.iinc 5 1, 3) := by decide +kernel
theorem dX12_drawn_82 : decode cX12_drawn 82 = .ok (.goto (-56), 3) := by decide +kernel
theorem dX12_drawn_85 : decode cX12_drawn 85 = .ok (.iload 4, 2) := by decide +kernel
theorem dX12_drawn_87 : decode cX12_drawn 87 = .ok (.ireturn, 1) := by decide +kernel
theorem dX12_tries_0 : decode cX12_tries 0 = .ok (.iload_n 1, 1) := by decide +kernel
theorem dX12_tries_1 : decode cX12_tries 1 = .ok (.ifCond .le 131, 3) := by decide +kernel
theorem dX12_tries_4 : decode cX12_tries 4 = .ok (.iconst 1, 1) := by decide +kernel
theorem dX12_tries_5 : decode cX12_tries 5 = .ok (.istore 4, 2) := by decide +kernel
theorem dX12_tries_7 : decode cX12_tries 7 = .ok (.iconst 0, 1) := by decide +kernel
theorem dX12_tries_8 : decode cX12_tries 8 = .ok (.istore 5, 2) := by decide +kernel
theorem dX12_tries_10 : decode cX12_tries 10 = .ok (.iload 5, 2) := by decide +kernel
theorem dX12_tries_12 : decode cX12_tries 12 = .ok (.bipush 6, 2) := by decide +kernel
theorem dX12_tries_14 : decode cX12_tries 14 = .ok (.if_icmp .ge 43, 3) := by decide +kernel
theorem dX12_tries_17 : decode cX12_tries 17 = .ok (.iload 4, 2) := by decide +kernel
theorem dX12_tries_19 : decode cX12_tries 19 = .ok (.ifCond .eq 29, 3) := by decide +kernel
theorem dX12_tries_22 : decode cX12_tries 22 = .ok (.aload_n 0, 1) := by decide +kernel
theorem dX12_tries_23 : decode cX12_tries 23 = .ok (.getfield 37, 3) := by decide +kernel
theorem dX12_tries_26 : decode cX12_tries 26 = .ok (.bipush 6, 2) := by decide +kernel
theorem dX12_tries_28 : decode cX12_tries 28 = .ok (.iload_n 1, 1) := by decide +kernel
theorem dX12_tries_29 : decode cX12_tries 29 = .ok (.imul, 1) := by decide +kernel
theorem dX12_tries_30 : decode cX12_tries 30 = .ok (.iload 5, 2) := by decide +kernel
theorem dX12_tries_32 : decode cX12_tries 32 = .ok (.iadd, 1) := by decide +kernel
theorem dX12_tries_33 : decode cX12_tries 33 = .ok (.iaload, 1) := by decide +kernel
theorem dX12_tries_34 : decode cX12_tries 34 = .ok (.aload_n 0, 1) := by decide +kernel
theorem dX12_tries_35 : decode cX12_tries 35 = .ok (.getfield 34, 3) := by decide +kernel
theorem dX12_tries_38 : decode cX12_tries 38 = .ok (.iload 5, 2) := by decide +kernel
theorem dX12_tries_40 : decode cX12_tries 40 = .ok (.iaload, 1) := by decide +kernel
theorem dX12_tries_41 : decode cX12_tries 41 = .ok (.if_icmp .ne 7, 3) := by decide +kernel
theorem dX12_tries_44 : decode cX12_tries 44 = .ok (.iconst 1, 1) := by decide +kernel
theorem dX12_tries_45 : decode cX12_tries 45 = .ok (.goto 4, 3) := by decide +kernel
theorem dX12_tries_48 : decode cX12_tries 48 = .ok (.iconst 0, 1) := by decide +kernel
theorem dX12_tries_49 : decode cX12_tries 49 = .ok (.istore 4, 2) := by decide +kernel
theorem dX12_tries_51 : decode cX12_tries 51 = .ok (.iinc 5 1, 3) := by decide +kernel
theorem dX12_tries_54 : decode cX12_tries 54 = .ok (.goto (-44), 3) := by decide +kernel
theorem dX12_tries_57 : decode cX12_tries 57 = .ok (.iload 4, 2) := by decide +kernel
theorem dX12_tries_59 : decode cX12_tries 59 = .ok (.ifCond .eq 73, 3) := by decide +kernel
theorem dX12_tries_62 : decode cX12_tries 62 = .ok (.aload_n 0, 1) := by decide +kernel
theorem dX12_tries_63 : decode cX12_tries 63 = .ok (.getfield 152, 3) := by decide +kernel
theorem dX12_tries_66 : decode cX12_tries 66 = .ok (.ifCond .eq 27, 3) := by decide +kernel
theorem dX12_tries_69 : decode cX12_tries 69 = .ok (.iload_n 3, 1) := by decide +kernel
theorem dX12_tries_70 : decode cX12_tries 70 = .ok (.aload_n 0, 1) := by decide +kernel
theorem dX12_tries_71 : decode cX12_tries 71 = .ok (.getfield 155, 3) := by decide +kernel
theorem dX12_tries_74 : decode cX12_tries 74 = .ok (.if_icmp .lt 19, 3) := by decide +kernel
theorem dX12_tries_77 : decode cX12_tries 77 = .ok (.iload_n 3, 1) := by decide +kernel
theorem dX12_tries_78 : decode cX12_tries 78 = .ok (.aload_n 0, 1) := by decide +kernel
theorem dX12_tries_79 : decode cX12_tries 79 = .ok (.getfield 155, 3) := by decide +kernel
theorem dX12_tries_82 : decode cX12_tries 82 = .ok (.if_icmp .ne 50, 3) := by decide +kernel
theorem dX12_tries_85 : decode cX12_tries 85 = .ok (.iload_n 1, 1) := by decide +kernel
theorem dX12_tries_86 : decode cX12_tries 86 = .ok (.aload_n 0, 1) := by decide +kernel
theorem dX12_tries_87 : decode cX12_tries 87 = .ok (.getfield 152, 3) := by decide +kernel
theorem dX12_tries_90 : decode cX12_tries 90 = .ok (.if_icmp .ge 42, 3) := by decide +kernel
theorem dX12_tries_93 : decode cX12_tries 93 = .ok (.aload_n 0, 1) := by decide +kernel
theorem dX12_tries_94 : decode cX12_tries 94 = .ok (.iload_n 1, 1) := by decide +kernel
theorem dX12_tries_95 : decode cX12_tries 95 = .ok (.putfield 152, 3) := by decide +kernel
theorem dX12_tries_98 : decode cX12_tries 98 = .ok (.aload_n 0, 1) := by decide +kernel
theorem dX12_tries_99 : decode cX12_tries 99 = .ok (.iload_n 3, 1) := by decide +kernel
theorem dX12_tries_100 : decode cX12_tries 100 = .ok (.putfield 155, 3) := by decide +kernel
theorem dX12_tries_103 : decode cX12_tries 103 = .ok (.iconst 0, 1) := by decide +kernel
theorem dX12_tries_104 : decode cX12_tries 104 = .ok (.istore 5, 2) := by decide +kernel
theorem dX12_tries_106 : decode cX12_tries 106 = .ok (.iload 5, 2) := by decide +kernel
theorem dX12_tries_108 : decode cX12_tries 108 = .ok (.iload_n 1, 1) := by decide +kernel
theorem dX12_tries_109 : decode cX12_tries 109 = .ok (.if_icmp .ge 23, 3) := by decide +kernel
theorem dX12_tries_112 : decode cX12_tries 112 = .ok (.aload_n 0, 1) := by decide +kernel
theorem dX12_tries_113 : decode cX12_tries 113 = .ok (.getfield 28, 3) := by decide +kernel
theorem dX12_tries_116 : decode cX12_tries 116 = .ok (.iload 5, 2) := by decide +kernel
theorem dX12_tries_118 : decode cX12_tries 118 = .ok (.aload_n 0, 1) := by decide +kernel
theorem dX12_tries_119 : decode cX12_tries 119 = .ok (.getfield 31, 3) := by decide +kernel
theorem dX12_tries_122 : decode cX12_tries 122 = .ok (.iload 5, 2) := by decide +kernel
theorem dX12_tries_124 : decode cX12_tries 124 = .ok (.iaload, 1) := by decide +kernel
theorem dX12_tries_125 : decode cX12_tries 125 = .ok (.iastore, 1) := by decide +kernel
theorem dX12_tries_126 : decode cX12_tries 126 = .ok (.iinc 5 1, 3) := by decide +kernel
theorem dX12_tries_129 : decode cX12_tries 129 = .ok (.goto (-23), 3) := by decide +kernel
theorem dX12_tries_132 : decode cX12_tries 132 = .ok (.iload_n 1, 1) := by decide +kernel
theorem dX12_tries_133 : decode cX12_tries 133 = .ok (.iload_n 2, 1) := by decide +kernel
theorem dX12_tries_134 : decode cX12_tries 134 = .ok (.if_icmp .eq 18, 3) := by decide +kernel
theorem dX12_tries_137 : decode cX12_tries 137 = .ok (.aload_n 0, 1) := by decide +kernel
theorem dX12_tries_138 : decode cX12_tries 138 = .ok (.getfield 152, 3) := by decide +kernel
theorem dX12_tries_141 : decode cX12_tries 141 = .ok (.ifCond .le 12, 3) := by decide +kernel
theorem dX12_tries_144 : decode cX12_tries 144 = .ok (.iload_n 3, 1) := by decide +kernel
theorem dX12_tries_145 : decode cX12_tries 145 = .ok (.aload_n 0, 1) := by decide +kernel
theorem dX12_tries_146 : decode cX12_tries 146 = .ok (.getfield 155, 3) := by decide +kernel
theorem dX12_tries_149 : decode cX12_tries 149 = .ok (.if_icmp .lt 4, 3) := by decide +kernel
theorem dX12_tries_152 : decode cX12_tries 152 = .ok (.return_, 1) := by decide +kernel
theorem dX12_tries_153 : decode cX12_tries 153 = .ok (.iconst 0, 1) := by decide +kernel
theorem dX12_tries_154 : decode cX12_tries 154 = .ok (.istore 4, 2) := by decide +kernel
theorem dX12_tries_156 : decode cX12_tries 156 = .ok (.iload 4, 2) := by decide +kernel
theorem dX12_tries_158 : decode cX12_tries 158 = .ok (.iconst 2, 1) := by decide +kernel
theorem dX12_tries_159 : decode cX12_tries 159 = .ok (.aload_n 0, 1) := by decide +kernel
theorem dX12_tries_160 : decode cX12_tries 160 = .ok (.getfield 13, 3) := by decide +kernel
theorem dX12_tries_163 : decode cX12_tries 163 = .ok (.iconst 0, 1) := by decide +kernel
theorem dX12_tries_164 : decode cX12_tries 164 = .ok (.iaload, 1) := by decide +kernel
theorem dX12_tries_165 : decode cX12_tries 165 = .ok (.imul, 1) := by decide +kernel
theorem dX12_tries_166 : decode cX12_tries 166 = .ok (.if_icmp .ge 99, 3) := by decide +kernel
theorem dX12_tries_169 : decode cX12_tries 169 = .ok (.iconst 0, 1) := by decide +kernel
theorem dX12_tries_170 : decode cX12_tries 170 = .ok (.istore 5, 2) := by decide +kernel
theorem dX12_tries_172 : decode cX12_tries 172 = .ok (.iload 5, 2) := by decide +kernel
theorem dX12_tries_174 : decode cX12_tries 174 = .ok (.bipush 6, 2) := by decide +kernel
theorem dX12_tries_176 : decode cX12_tries 176 = .ok (.if_icmp .ge 42, 3) := by decide +kernel
theorem dX12_tries_179 : decode cX12_tries 179 = .ok (.aload_n 0, 1) := by decide +kernel
theorem dX12_tries_180 : decode cX12_tries 180 = .ok (.getfield 37, 3) := by decide +kernel
theorem dX12_tries_183 : decode cX12_tries 183 = .ok (.bipush 6, 2) := by decide +kernel
theorem dX12_tries_185 : decode cX12_tries 185 = .ok (.iload_n 1, 1) := by decide +kernel
theorem dX12_tries_186 : decode cX12_tries 186 = .ok (.imul, 1) := by decide +kernel
theorem dX12_tries_187 : decode cX12_tries 187 = .ok (.bipush 6, 2) := by decide +kernel
theorem dX12_tries_189 : decode cX12_tries 189 = .ok (.iadd, 1) := by decide +kernel
theorem dX12_tries_190 : decode cX12_tries 190 = .ok (.iload 5, 2) := by decide +kernel
theorem dX12_tries_192 : decode cX12_tries 192 = .ok (.iadd, 1) := by decide +kernel
theorem dX12_tries_193 : decode cX12_tries 193 = .ok (.aload_n 0, 1) := by decide +kernel
theorem dX12_tries_194 : decode cX12_tries 194 = .ok (.iload 4, 2) := by decide +kernel
theorem dX12_tries_196 : decode cX12_tries 196 = .ok (.aload_n 0, 1) := by decide +kernel
theorem dX12_tries_197 : decode cX12_tries 197 = .ok (.getfield 37, 3) := by decide +kernel
theorem dX12_tries_200 : decode cX12_tries 200 = .ok (.bipush 6, 2) := by decide +kernel
theorem dX12_tries_202 : decode cX12_tries 202 = .ok (.iload_n 1, 1) := by decide +kernel
theorem dX12_tries_203 : decode cX12_tries 203 = .ok (.imul, 1) := by decide +kernel
theorem dX12_tries_204 : decode cX12_tries 204 = .ok (.iload 5, 2) := by decide +kernel
theorem dX12_tries_206 : decode cX12_tries 206 = .ok (.iadd, 1) := by decide +kernel
theorem dX12_tries_207 : decode cX12_tries 207 = .ok (.iaload, 1) := by decide +kernel
theorem dX12_tries_208 : decode cX12_tries 208 = .ok (.invokevirtual 102, 3) := by decide +kernel
theorem dX12_tries_211 : decode cX12_tries 211 = .ok (.iastore, 1) := by decide +kernel
theorem dX12_tries_212 : decode cX12_tries 212 = .ok (.iinc 5 1, 3) := by decide +kernel
theorem dX12_tries_215 : decode cX12_tries 215 = .ok (.goto (-43), 3) := by decide +kernel
theorem dX12_tries_218 : decode cX12_tries 218 = .ok (.aload_n 0, 1) := by decide +kernel
theorem dX12_tries_219 : decode cX12_tries 219 = .ok (.getfield 31, 3) := by decide +kernel
theorem dX12_tries_222 : decode cX12_tries 222 = .ok (.iload_n 1, 1) := by decide +kernel
theorem dX12_tries_223 : decode cX12_tries 223 = .ok (.iload 4, 2) := by decide +kernel
theorem dX12_tries_225 : decode cX12_tries 225 = .ok (.iastore, 1) := by decide +kernel
theorem dX12_tries_226 : decode cX12_tries 226 = .ok (.aload_n 0, 1) := by decide +kernel
theorem dX12_tries_227 : decode cX12_tries 227 = .ok (.iload_n 1, 1) := by decide +kernel
theorem dX12_tries_228 : decode cX12_tries 228 = .ok (.iconst 1, 1) := by decide +kernel
theorem dX12_tries_229 : decode cX12_tries 229 = .ok (.iadd, 1) := by decide +kernel
theorem dX12_tries_230 : decode cX12_tries 230 = .ok (.iload_n 2, 1) := by decide +kernel
theorem dX12_tries_231 : decode cX12_tries 231 = .ok (.iload_n 3, 1) := by decide +kernel
theorem dX12_tries_232 : decode cX12_tries 232 = .ok (.aload_n 0, 1) := by decide +kernel
theorem dX12_tries_233 : decode cX12_tries 233 = .ok (.iload_n 1, 1) := by decide +kernel
theorem dX12_tries_234 : decode cX12_tries 234 = .ok (.ifCond .ne 8, 3) := by decide +kernel
theorem dX12_tries_237 : decode cX12_tries 237 = .ok (.bipush (-9), 2) := by decide +kernel
theorem dX12_tries_239 : decode cX12_tries 239 = .ok (.goto 11, 3) := by decide +kernel
theorem dX12_tries_242 : decode cX12_tries 242 = .ok (.aload_n 0, 1) := by decide +kernel
theorem dX12_tries_243 : decode cX12_tries 243 = .ok (.getfield 31, 3) := by decide +kernel
theorem dX12_tries_246 : decode cX12_tries 246 = .ok (.iload_n 1, 1) := by decide +kernel
theorem dX12_tries_247 : decode cX12_tries 247 = .ok (.iconst 1, 1) := by decide +kernel
theorem dX12_tries_248 : decode cX12_tries 248 = .ok (.isub, 1) := by decide +kernel
theorem dX12_tries_249 : decode cX12_tries 249 = .ok (.iaload, 1) := by decide +kernel
theorem dX12_tries_250 : decode cX12_tries 250 = .ok (.iload 4, 2) := by decide +kernel
theorem dX12_tries_252 : decode cX12_tries 252 = .ok (.invokevirtual 140, 3) := by decide +kernel
theorem dX12_tries_255 : decode cX12_tries 255 = .ok (.iadd, 1) := by decide +kernel
theorem dX12_tries_256 : decode cX12_tries 256 = .ok (.invokevirtual 158, 3) := by decide +kernel
theorem dX12_tries_259 : decode cX12_tries 259 = .ok (.iinc 4 1, 3) := by decide +kernel
theorem dX12_tries_262 : decode cX12_tries 262 = .ok (.goto (-106), 3) := by decide +kernel
theorem dX12_tries_265 : decode cX12_tries 265 = .ok (.return_, 1) := by decide +kernel
theorem dX12_better_0 : decode cX12_better 0 = .ok (.aload_n 0, 1) := by decide +kernel
theorem dX12_better_1 : decode cX12_better 1 = .ok (.iload_n 1, 1) := by decide +kernel
theorem dX12_better_2 : decode cX12_better 2 = .ok (.invokevirtual 106, 3) := by decide +kernel
theorem dX12_better_5 : decode cX12_better 5 = .ok (.ifCond .eq 12, 3) := by decide +kernel
theorem dX12_better_8 : decode cX12_better 8 = .ok (.iload_n 2, 1) := by decide +kernel
theorem dX12_better_9 : decode cX12_better 9 = .ok (.iconst 1, 1) := by decide +kernel
theorem dX12_better_10 : decode cX12_better 10 = .ok (.iconst 5, 1) := by decide +kernel
theorem dX12_better_11 : decode cX12_better 11 = .ok (.invokestatic 129, 3) := by decide +kernel
theorem dX12_better_14 : decode cX12_better 14 = .ok (.goto 4, 3) := by decide +kernel
theorem dX12_better_17 : decode cX12_better 17 = .ok (.iconst (-1), 1) := by decide +kernel
theorem dX12_better_18 : decode cX12_better 18 = .ok (.istore_n 3, 1) := by decide +kernel
theorem dX12_better_19 : decode cX12_better 19 = .ok (.iload_n 3, 1) := by decide +kernel
theorem dX12_better_20 : decode cX12_better 20 = .ok (.ifCond .eq 9, 3) := by decide +kernel
theorem dX12_better_23 : decode cX12_better 23 = .ok (.aload_n 0, 1) := by decide +kernel
theorem dX12_better_24 : decode cX12_better 24 = .ok (.iload_n 3, 1) := by decide +kernel
theorem dX12_better_25 : decode cX12_better 25 = .ok (.invokevirtual 65, 3) := by decide +kernel
theorem dX12_better_28 : decode cX12_better 28 = .ok (.ireturn, 1) := by decide +kernel
theorem dX12_better_29 : decode cX12_better 29 = .ok (.iconst 0, 1) := by decide +kernel
theorem dX12_better_30 : decode cX12_better 30 = .ok (.istore 4, 2) := by decide +kernel
theorem dX12_better_32 : decode cX12_better 32 = .ok (.iload 4, 2) := by decide +kernel
theorem dX12_better_34 : decode cX12_better 34 = .ok (.bipush 6, 2) := by decide +kernel
theorem dX12_better_36 : decode cX12_better 36 = .ok (.if_icmp .ge 32, 3) := by decide +kernel
theorem dX12_better_39 : decode cX12_better 39 = .ok (.aload_n 0, 1) := by decide +kernel
theorem dX12_better_40 : decode cX12_better 40 = .ok (.getfield 34, 3) := by decide +kernel
theorem dX12_better_43 : decode cX12_better 43 = .ok (.iload 4, 2) := by decide +kernel
theorem dX12_better_45 : decode cX12_better 45 = .ok (.aload_n 0, 1) := by decide +kernel
theorem dX12_better_46 : decode cX12_better 46 = .ok (.iload_n 1, 1) := by decide +kernel
theorem dX12_better_47 : decode cX12_better 47 = .ok (.iload 4, 2) := by decide +kernel
theorem dX12_better_49 : decode cX12_better 49 = .ok (.invokevirtual 115, 3) := by decide +kernel
theorem dX12_better_52 : decode cX12_better 52 = .ok (.iastore, 1) := by decide +kernel
theorem dX12_better_53 : decode cX12_better 53 = .ok (.aload_n 0, 1) := by decide +kernel
theorem dX12_better_54 : decode cX12_better 54 = .ok (.getfield 37, 3) := by decide +kernel
theorem dX12_better_57 : decode cX12_better 57 = .ok (.iload 4, 2) := by decide +kernel
theorem dX12_better_59 : decode cX12_better 59 = .ok (.iload 4, 2) := by decide +kernel
theorem dX12_better_61 : decode cX12_better 61 = .ok (.iastore, 1) := by decide +kernel
theorem dX12_better_62 : decode cX12_better 62 = .ok (.iinc 4 1, 3) := by decide +kernel
theorem dX12_better_65 : decode cX12_better 65 = .ok (.goto (-33), 3) := by decide +kernel
theorem dX12_better_68 : decode cX12_better 68 = .ok (.aload_n 0, 1) := by decide +kernel
theorem dX12_better_69 : decode cX12_better 69 = .ok (.iconst 0, 1) := by decide +kernel
theorem dX12_better_70 : decode cX12_better 70 = .ok (.putfield 152, 3) := by decide +kernel
theorem dX12_better_73 : decode cX12_better 73 = .ok (.aload_n 0, 1) := by decide +kernel
theorem dX12_better_74 : decode cX12_better 74 = .ok (.iconst 0, 1) := by decide +kernel
theorem dX12_better_75 : decode cX12_better 75 = .ok (.iload_n 2, 1) := by decide +kernel
theorem dX12_better_76 : decode cX12_better 76 = .ok (.iconst 0, 1) := by decide +kernel
theorem dX12_better_77 : decode cX12_better 77 = .ok (.invokevirtual 158, 3) := by decide +kernel
theorem dX12_better_80 : decode cX12_better 80 = .ok (.aload_n 0, 1) := by decide +kernel
theorem dX12_better_81 : decode cX12_better 81 = .ok (.getfield 152, 3) := by decide +kernel
theorem dX12_better_84 : decode cX12_better 84 = .ok (.ifCond .ne 10, 3) := by decide +kernel
theorem dX12_better_87 : decode cX12_better 87 = .ok (.aload_n 0, 1) := by decide +kernel
theorem dX12_better_88 : decode cX12_better 88 = .ok (.bipush (-3), 2) := by decide +kernel
theorem dX12_better_90 : decode cX12_better 90 = .ok (.invokevirtual 65, 3) := by decide +kernel
theorem dX12_better_93 : decode cX12_better 93 = .ok (.ireturn, 1) := by decide +kernel
theorem dX12_better_94 : decode cX12_better 94 = .ok (.aload_n 0, 1) := by decide +kernel
theorem dX12_better_95 : decode cX12_better 95 = .ok (.aload_n 0, 1) := by decide +kernel
theorem dX12_better_96 : decode cX12_better 96 = .ok (.getfield 152, 3) := by decide +kernel
theorem dX12_better_99 : decode cX12_better 99 = .ok (.putfield 162, 3) := by decide +kernel
theorem dX12_better_102 : decode cX12_better 102 = .ok (.aload_n 0, 1) := by decide +kernel
theorem dX12_better_103 : decode cX12_better 103 = .ok (.getfield 155, 3) := by decide +kernel
theorem dX12_better_106 : decode cX12_better 106 = .ok (.ireturn, 1) := by decide +kernel
theorem dX12_found_0 : decode cX12_found 0 = .ok (.iload_n 1, 1) := by decide +kernel
theorem dX12_found_1 : decode cX12_found 1 = .ok (.iconst (-1), 1) := by decide +kernel
theorem dX12_found_2 : decode cX12_found 2 = .ok (.if_icmp .ne 10, 3) := by decide +kernel
theorem dX12_found_5 : decode cX12_found 5 = .ok (.aload_n 0, 1) := by decide +kernel
theorem dX12_found_6 : decode cX12_found 6 = .ok (.getfield 162, 3) := by decide +kernel
theorem dX12_found_9 : decode cX12_found 9 = .ok (.goto 25, 3) := by decide +kernel
theorem dX12_found_12 : decode cX12_found 12 = .ok (.iload_n 1, 1) := by decide +kernel
theorem dX12_found_13 : decode cX12_found 13 = .ok (.aload_n 0, 1) := by decide +kernel
theorem dX12_found_14 : decode cX12_found 14 = .ok (.getfield 162, 3) := by decide +kernel
theorem dX12_found_17 : decode cX12_found 17 = .ok (.invokestatic 61, 3) := by decide +kernel
theorem dX12_found_20 : decode cX12_found 20 = .ok (.ifCond .eq 12, 3) := by decide +kernel
theorem dX12_found_23 : decode cX12_found 23 = .ok (.aload_n 0, 1) := by decide +kernel
theorem dX12_found_24 : decode cX12_found 24 = .ok (.getfield 28, 3) := by decide +kernel
theorem dX12_found_27 : decode cX12_found 27 = .ok (.iload_n 1, 1) := by decide +kernel
theorem dX12_found_28 : decode cX12_found 28 = .ok (.iaload, 1) := by decide +kernel
theorem dX12_found_29 : decode cX12_found 29 = .ok (.goto 5, 3) := by decide +kernel
theorem dX12_found_32 : decode cX12_found 32 = .ok (.bipush (-9), 2) := by decide +kernel
theorem dX12_found_34 : decode cX12_found 34 = .ok (.ireturn, 1) := by decide +kernel
theorem dX12_findFar_0 : decode cX12_findFar 0 = .ok (.iconst 0, 1) := by decide +kernel
theorem dX12_findFar_1 : decode cX12_findFar 1 = .ok (.istore_n 1, 1) := by decide +kernel
theorem dX12_findFar_2 : decode cX12_findFar 2 = .ok (.iload_n 1, 1) := by decide +kernel
theorem dX12_findFar_3 : decode cX12_findFar 3 = .ok (.sipush 720, 3) := by decide +kernel
theorem dX12_findFar_6 : decode cX12_findFar 6 = .ok (.if_icmp .ge 25, 3) := by decide +kernel
theorem dX12_findFar_9 : decode cX12_findFar 9 = .ok (.aload_n 0, 1) := by decide +kernel
theorem dX12_findFar_10 : decode cX12_findFar 10 = .ok (.getfield 40, 3) := by decide +kernel
theorem dX12_findFar_13 : decode cX12_findFar 13 = .ok (.iload_n 1, 1) := by decide +kernel
theorem dX12_findFar_14 : decode cX12_findFar 14 = .ok (.iload_n 1, 1) := by decide +kernel
theorem dX12_findFar_15 : decode cX12_findFar 15 = .ok (.ifCond .ne 7, 3) := by decide +kernel
theorem dX12_findFar_18 : decode cX12_findFar 18 = .ok (.iconst 0, 1) := by decide +kernel
theorem dX12_findFar_19 : decode cX12_findFar 19 = .ok (.goto 5, 3) := by decide +kernel
theorem dX12_findFar_22 : decode cX12_findFar 22 = .ok (.bipush (-9), 2) := by decide +kernel
theorem dX12_findFar_24 : decode cX12_findFar 24 = .ok (.iastore, 1) := by decide +kernel
theorem dX12_findFar_25 : decode cX12_findFar 25 = .ok (.iinc 1 1, 3) := by decide +kernel
theorem dX12_findFar_28 : decode cX12_findFar 28 = .ok (.goto (-26), 3) := by decide +kernel
theorem dX12_findFar_31 : decode cX12_findFar 31 = .ok (.iconst 1, 1) := by decide +kernel
theorem dX12_findFar_32 : decode cX12_findFar 32 = .ok (.istore_n 1, 1) := by decide +kernel
theorem dX12_findFar_33 : decode cX12_findFar 33 = .ok (.iconst 0, 1) := by decide +kernel
theorem dX12_findFar_34 : decode cX12_findFar 34 = .ok (.istore_n 2, 1) := by decide +kernel
theorem dX12_findFar_35 : decode cX12_findFar 35 = .ok (.iload_n 1, 1) := by decide +kernel
theorem dX12_findFar_36 : decode cX12_findFar 36 = .ok (.ifCond .eq 116, 3) := by decide +kernel
theorem dX12_findFar_39 : decode cX12_findFar 39 = .ok (.iconst 0, 1) := by decide +kernel
theorem dX12_findFar_40 : decode cX12_findFar 40 = .ok (.istore_n 1, 1) := by decide +kernel
theorem dX12_findFar_41 : decode cX12_findFar 41 = .ok (.iconst 0, 1) := by decide +kernel
theorem dX12_findFar_42 : decode cX12_findFar 42 = .ok (.istore_n 3, 1) := by decide +kernel
theorem dX12_findFar_43 : decode cX12_findFar 43 = .ok (.iload_n 3, 1) := by decide +kernel
theorem dX12_findFar_44 : decode cX12_findFar 44 = .ok (.sipush 720, 3) := by decide +kernel
theorem dX12_findFar_47 : decode cX12_findFar 47 = .ok (.if_icmp .ge 99, 3) := by decide +kernel
theorem dX12_findFar_50 : decode cX12_findFar 50 = .ok (.aload_n 0, 1) := by decide +kernel
theorem dX12_findFar_51 : decode cX12_findFar 51 = .ok (.getfield 40, 3) := by decide +kernel
theorem dX12_findFar_54 : decode cX12_findFar 54 = .ok (.iload_n 3, 1) := by decide +kernel
theorem dX12_findFar_55 : decode cX12_findFar 55 = .ok (.iaload, 1) := by decide +kernel
theorem dX12_findFar_56 : decode cX12_findFar 56 = .ok (.iload_n 2, 1) := by decide +kernel
theorem dX12_findFar_57 : decode cX12_findFar 57 = .ok (.if_icmp .eq 6, 3) := by decide +kernel
theorem dX12_findFar_60 : decode cX12_findFar 60 = .ok (.goto 80, 3) := by decide +kernel
theorem dX12_findFar_63 : decode cX12_findFar 63 = .ok (.iconst 0, 1) := by decide +kernel
theorem dX12_findFar_64 : decode cX12_findFar 64 = .ok (.istore 4, 2) := by decide +kernel
theorem dX12_findFar_66 : decode cX12_findFar 66 = .ok (.iload 4, 2) := by decide +kernel
theorem dX12_findFar_68 : decode cX12_findFar 68 = .ok (.iconst 2, 1) := by decide +kernel
theorem dX12_findFar_69 : decode cX12_findFar 69 = .ok (.aload_n 0, 1) := by decide +kernel
theorem dX12_findFar_70 : decode cX12_findFar 70 = .ok (.getfield 13, 3) := by decide +kernel
theorem dX12_findFar_73 : decode cX12_findFar 73 = .ok (.iconst 0, 1) := by decide +kernel
theorem dX12_findFar_74 : decode cX12_findFar 74 = .ok (.iaload, 1) := by decide +kernel
theorem dX12_findFar_75 : decode cX12_findFar 75 = .ok (.imul, 1) := by decide +kernel
theorem dX12_findFar_76 : decode cX12_findFar 76 = .ok (.if_icmp .ge 64, 3) := by decide +kernel
theorem dX12_findFar_79 : decode cX12_findFar 79 = .ok (.aload_n 0, 1) := by decide +kernel
theorem dX12_findFar_80 : decode cX12_findFar 80 = .ok (.getfield 43, 3) := by decide +kernel
theorem dX12_findFar_83 : decode cX12_findFar 83 = .ok (.iconst 0, 1) := by decide +kernel
theorem dX12_findFar_84 : decode cX12_findFar 84 = .ok (.iload_n 3, 1) := by decide +kernel
theorem dX12_findFar_85 : decode cX12_findFar 85 = .ok (.invokestatic 133, 3) := by decide +kernel
theorem dX12_findFar_88 : decode cX12_findFar 88 = .ok (.aload_n 0, 1) := by decide +kernel
theorem dX12_findFar_89 : decode cX12_findFar 89 = .ok (.aload_n 0, 1) := by decide +kernel
theorem dX12_findFar_90 : decode cX12_findFar 90 = .ok (.getfield 43, 3) := by decide +kernel
theorem dX12_findFar_93 : decode cX12_findFar 93 = .ok (.iconst 0, 1) := by decide +kernel
theorem dX12_findFar_94 : decode cX12_findFar 94 = .ok (.iload 4, 2) := by decide +kernel
theorem dX12_findFar_96 : decode cX12_findFar 96 = .ok (.invokevirtual 118, 3) := by decide +kernel
theorem dX12_findFar_99 : decode cX12_findFar 99 = .ok (.aload_n 0, 1) := by decide +kernel
theorem dX12_findFar_100 : decode cX12_findFar 100 = .ok (.getfield 43, 3) := by decide +kernel
theorem dX12_findFar_103 : decode cX12_findFar 103 = .ok (.iconst 0, 1) := by decide +kernel
theorem dX12_findFar_104 : decode cX12_findFar 104 = .ok (.invokestatic 165, 3) := by decide +kernel
theorem dX12_findFar_107 : decode cX12_findFar 107 = .ok (.istore 5, 2) := by decide +kernel
theorem dX12_findFar_109 : decode cX12_findFar 109 = .ok (.aload_n 0, 1) := by decide +kernel
theorem dX12_findFar_110 : decode cX12_findFar 110 = .ok (.getfield 40, 3) := by decide +kernel
theorem dX12_findFar_113 : decode cX12_findFar 113 = .ok (.iload 5, 2) := by decide +kernel
theorem dX12_findFar_115 : decode cX12_findFar 115 = .ok (.iaload, 1) := by decide +kernel
theorem dX12_findFar_116 : decode cX12_findFar 116 = .ok (.ifCond .lt 6, 3) := by decide +kernel
theorem dX12_findFar_119 : decode cX12_findFar 119 = .ok (.goto 15, 3) := by decide +kernel
theorem dX12_findFar_122 : decode cX12_findFar 122 = .ok (.aload_n 0, 1) := by decide +kernel
theorem dX12_findFar_123 : decode cX12_findFar 123 = .ok (.getfield 40, 3) := by decide +kernel
theorem dX12_findFar_126 : decode cX12_findFar 126 = .ok (.iload 5, 2) := by decide +kernel
theorem dX12_findFar_128 : decode cX12_findFar 128 = .ok (.iload_n 2, 1) := by decide +kernel
theorem dX12_findFar_129 : decode cX12_findFar 129 = .ok (.iconst 1, 1) := by decide +kernel
theorem dX12_findFar_130 : decode cX12_findFar 130 = .ok (.iadd, 1) := by decide +kernel
theorem dX12_findFar_131 : decode cX12_findFar 131 = .ok (.iastore, 1) := by decide +kernel
theorem dX12_findFar_132 : decode cX12_findFar 132 = .ok (.iconst 1, 1) := by decide +kernel
theorem dX12_findFar_133 : decode cX12_findFar 133 = .ok (.istore_n 1, 1) := by decide +kernel
theorem dX12_findFar_134 : decode cX12_findFar 134 = .ok (.iinc 4 1, 3) := by decide +kernel
theorem dX12_findFar_137 : decode cX12_findFar 137 = .ok (.goto (-71), 3) := by decide +kernel
theorem dX12_findFar_140 : decode cX12_findFar 140 = .ok (.iinc 3 1, 3) := by decide +kernel
theorem dX12_findFar_143 : decode cX12_findFar 143 = .ok (.goto (-100), 3) := by decide +kernel
theorem dX12_findFar_146 : decode cX12_findFar 146 = .ok (.iinc 2 1, 3) := by decide +kernel
theorem dX12_findFar_149 : decode cX12_findFar 149 = .ok (.goto (-114), 3) := by decide +kernel
theorem dX12_findFar_152 : decode cX12_findFar 152 = .ok (.return_, 1) := by decide +kernel
theorem dX12_fewest_0 : decode cX12_fewest 0 = .ok (.aload_n 0, 1) := by decide +kernel
theorem dX12_fewest_1 : decode cX12_fewest 1 = .ok (.invokevirtual 169, 3) := by decide +kernel
theorem dX12_fewest_4 : decode cX12_fewest 4 = .ok (.aload_n 0, 1) := by decide +kernel
theorem dX12_fewest_5 : decode cX12_fewest 5 = .ok (.getfield 40, 3) := by decide +kernel
theorem dX12_fewest_8 : decode cX12_fewest 8 = .ok (.aload_n 0, 1) := by decide +kernel
theorem dX12_fewest_9 : decode cX12_fewest 9 = .ok (.getfield 13, 3) := by decide +kernel
theorem dX12_fewest_12 : decode cX12_fewest 12 = .ok (.iconst 5, 1) := by decide +kernel
theorem dX12_fewest_13 : decode cX12_fewest 13 = .ok (.invokestatic 165, 3) := by decide +kernel
theorem dX12_fewest_16 : decode cX12_fewest 16 = .ok (.iaload, 1) := by decide +kernel
theorem dX12_fewest_17 : decode cX12_fewest 17 = .ok (.ireturn, 1) := by decide +kernel
theorem dX12_first_0 : decode cX12_first 0 = .ok (.aload_n 0, 1) := by decide +kernel
theorem dX12_first_1 : decode cX12_first 1 = .ok (.invokevirtual 169, 3) := by decide +kernel
theorem dX12_first_4 : decode cX12_first 4 = .ok (.aload_n 0, 1) := by decide +kernel
theorem dX12_first_5 : decode cX12_first 5 = .ok (.getfield 40, 3) := by decide +kernel
theorem dX12_first_8 : decode cX12_first 8 = .ok (.aload_n 0, 1) := by decide +kernel
theorem dX12_first_9 : decode cX12_first 9 = .ok (.getfield 13, 3) := by decide +kernel
theorem dX12_first_12 : decode cX12_first 12 = .ok (.iconst 5, 1) := by decide +kernel
theorem dX12_first_13 : decode cX12_first 13 = .ok (.invokestatic 165, 3) := by decide +kernel
theorem dX12_first_16 : decode cX12_first 16 = .ok (.iaload, 1) := by decide +kernel
theorem dX12_first_17 : decode cX12_first 17 = .ok (.istore_n 1, 1) := by decide +kernel
theorem dX12_first_18 : decode cX12_first 18 = .ok (.iload_n 1, 1) := by decide +kernel
theorem dX12_first_19 : decode cX12_first 19 = .ok (.iconst 1, 1) := by decide +kernel
theorem dX12_first_20 : decode cX12_first 20 = .ok (.if_icmp .ge 6, 3) := by decide +kernel
theorem dX12_first_23 : decode cX12_first 23 = .ok (.bipush (-9), 2) := by decide +kernel
theorem dX12_first_25 : decode cX12_first 25 = .ok (.ireturn, 1) := by decide +kernel
theorem dX12_first_26 : decode cX12_first 26 = .ok (.iconst 0, 1) := by decide +kernel
theorem dX12_first_27 : decode cX12_first 27 = .ok (.istore_n 2, 1) := by decide +kernel
theorem dX12_first_28 : decode cX12_first 28 = .ok (.iload_n 2, 1) := by decide +kernel
theorem dX12_first_29 : decode cX12_first 29 = .ok (.iconst 2, 1) := by decide +kernel
theorem dX12_first_30 : decode cX12_first 30 = .ok (.aload_n 0, 1) := by decide +kernel
theorem dX12_first_31 : decode cX12_first 31 = .ok (.getfield 13, 3) := by decide +kernel
theorem dX12_first_34 : decode cX12_first 34 = .ok (.iconst 0, 1) := by decide +kernel
theorem dX12_first_35 : decode cX12_first 35 = .ok (.iaload, 1) := by decide +kernel
theorem dX12_first_36 : decode cX12_first 36 = .ok (.imul, 1) := by decide +kernel
theorem dX12_first_37 : decode cX12_first 37 = .ok (.if_icmp .ge 68, 3) := by decide +kernel
theorem dX12_first_40 : decode cX12_first 40 = .ok (.iconst 0, 1) := by decide +kernel
theorem dX12_first_41 : decode cX12_first 41 = .ok (.istore_n 3, 1) := by decide +kernel
theorem dX12_first_42 : decode cX12_first 42 = .ok (.iload_n 3, 1) := by decide +kernel
theorem dX12_first_43 : decode cX12_first 43 = .ok (.bipush 6, 2) := by decide +kernel
theorem dX12_first_45 : decode cX12_first 45 = .ok (.if_icmp .ge 23, 3) := by decide +kernel
theorem dX12_first_48 : decode cX12_first 48 = .ok (.aload_n 0, 1) := by decide +kernel
theorem dX12_first_49 : decode cX12_first 49 = .ok (.getfield 43, 3) := by decide +kernel
theorem dX12_first_52 : decode cX12_first 52 = .ok (.iload_n 3, 1) := by decide +kernel
theorem dX12_first_53 : decode cX12_first 53 = .ok (.aload_n 0, 1) := by decide +kernel
theorem dX12_first_54 : decode cX12_first 54 = .ok (.getfield 13, 3) := by decide +kernel
theorem dX12_first_57 : decode cX12_first 57 = .ok (.iconst 5, 1) := by decide +kernel
theorem dX12_first_58 : decode cX12_first 58 = .ok (.iload_n 3, 1) := by decide +kernel
theorem dX12_first_59 : decode cX12_first 59 = .ok (.iadd, 1) := by decide +kernel
theorem dX12_first_60 : decode cX12_first 60 = .ok (.iaload, 1) := by decide +kernel
theorem dX12_first_61 : decode cX12_first 61 = .ok (.iastore, 1) := by decide +kernel
theorem dX12_first_62 : decode cX12_first 62 = .ok (.iinc 3 1, 3) := by decide +kernel
theorem dX12_first_65 : decode cX12_first 65 = .ok (.goto (-23), 3) := by decide +kernel
theorem dX12_first_68 : decode cX12_first 68 = .ok (.aload_n 0, 1) := by decide +kernel
theorem dX12_first_69 : decode cX12_first 69 = .ok (.aload_n 0, 1) := by decide +kernel
theorem dX12_first_70 : decode cX12_first 70 = .ok (.getfield 43, 3) := by decide +kernel
theorem dX12_first_73 : decode cX12_first 73 = .ok (.iconst 0, 1) := by decide +kernel
theorem dX12_first_74 : decode cX12_first 74 = .ok (.iload_n 2, 1) := by decide +kernel
theorem dX12_first_75 : decode cX12_first 75 = .ok (.invokevirtual 118, 3) := by decide +kernel
theorem dX12_first_78 : decode cX12_first 78 = .ok (.aload_n 0, 1) := by decide +kernel
theorem dX12_first_79 : decode cX12_first 79 = .ok (.getfield 40, 3) := by decide +kernel
theorem dX12_first_82 : decode cX12_first 82 = .ok (.aload_n 0, 1) := by decide +kernel
theorem dX12_first_83 : decode cX12_first 83 = .ok (.getfield 43, 3) := by decide +kernel
theorem dX12_first_86 : decode cX12_first 86 = .ok (.iconst 0, 1) := by decide +kernel
theorem dX12_first_87 : decode cX12_first 87 = .ok (.invokestatic 165, 3) := by decide +kernel
theorem dX12_first_90 : decode cX12_first 90 = .ok (.iaload, 1) := by decide +kernel
theorem dX12_first_91 : decode cX12_first 91 = .ok (.iload_n 1, 1) := by decide +kernel
theorem dX12_first_92 : decode cX12_first 92 = .ok (.iconst 1, 1) := by decide +kernel
theorem dX12_first_93 : decode cX12_first 93 = .ok (.isub, 1) := by decide +kernel
theorem dX12_first_94 : decode cX12_first 94 = .ok (.if_icmp .ne 5, 3) := by decide +kernel
theorem dX12_first_97 : decode cX12_first 97 = .ok (.iload_n 2, 1) := by decide +kernel
theorem dX12_first_98 : decode cX12_first 98 = .ok (.ireturn, 1) := by decide +kernel
theorem dX12_first_99 : decode cX12_first 99 = .ok (.iinc 2 1, 3) := by decide +kernel
theorem dX12_first_102 : decode cX12_first 102 = .ok (.goto (-74), 3) := by decide +kernel
theorem dX12_first_105 : decode cX12_first 105 = .ok (.bipush (-9), 2) := by decide +kernel
theorem dX12_first_107 : decode cX12_first 107 = .ok (.ireturn, 1) := by decide +kernel
theorem dX12_step_0 : decode cX12_step 0 = .ok (.iload_n 1, 1) := by decide +kernel
theorem dX12_step_1 : decode cX12_step 1 = .ok (.bipush 64, 2) := by decide +kernel
theorem dX12_step_3 : decode cX12_step 3 = .ok (.invokestatic 61, 3) := by decide +kernel
theorem dX12_step_6 : decode cX12_step 6 = .ok (.ifCond .eq 13, 3) := by decide +kernel
theorem dX12_step_9 : decode cX12_step 9 = .ok (.iload_n 2, 1) := by decide +kernel
theorem dX12_step_10 : decode cX12_step 10 = .ok (.sipush 1024, 3) := by decide +kernel
theorem dX12_step_13 : decode cX12_step 13 = .ok (.invokestatic 61, 3) := by decide +kernel
theorem dX12_step_16 : decode cX12_step 16 = .ok (.ifCond .ne 9, 3) := by decide +kernel
theorem dX12_step_19 : decode cX12_step 19 = .ok (.aload_n 0, 1) := by decide +kernel
theorem dX12_step_20 : decode cX12_step 20 = .ok (.iconst (-1), 1) := by decide +kernel
theorem dX12_step_21 : decode cX12_step 21 = .ok (.invokevirtual 65, 3) := by decide +kernel
theorem dX12_step_24 : decode cX12_step 24 = .ok (.ireturn, 1) := by decide +kernel
theorem dX12_step_25 : decode cX12_step 25 = .ok (.aload_n 0, 1) := by decide +kernel
theorem dX12_step_26 : decode cX12_step 26 = .ok (.getfield 13, 3) := by decide +kernel
theorem dX12_step_29 : decode cX12_step 29 = .ok (.iconst 2, 1) := by decide +kernel
theorem dX12_step_30 : decode cX12_step 30 = .ok (.iaload, 1) := by decide +kernel
theorem dX12_step_31 : decode cX12_step 31 = .ok (.iconst 4, 1) := by decide +kernel
theorem dX12_step_32 : decode cX12_step 32 = .ok (.if_icmp .ne 10, 3) := by decide +kernel
theorem dX12_step_35 : decode cX12_step 35 = .ok (.aload_n 0, 1) := by decide +kernel
theorem dX12_step_36 : decode cX12_step 36 = .ok (.bipush (-6), 2) := by decide +kernel
theorem dX12_step_38 : decode cX12_step 38 = .ok (.invokevirtual 65, 3) := by decide +kernel
theorem dX12_step_41 : decode cX12_step 41 = .ok (.ireturn, 1) := by decide +kernel
theorem dX12_step_42 : decode cX12_step 42 = .ok (.sipush 185, 3) := by decide +kernel
theorem dX12_step_45 : decode cX12_step 45 = .ok (.iconst 3, 1) := by decide +kernel
theorem dX12_step_46 : decode cX12_step 46 = .ok (.aload_n 0, 1) := by decide +kernel
theorem dX12_step_47 : decode cX12_step 47 = .ok (.getfield 13, 3) := by decide +kernel
theorem dX12_step_50 : decode cX12_step 50 = .ok (.iconst 2, 1) := by decide +kernel
theorem dX12_step_51 : decode cX12_step 51 = .ok (.iaload, 1) := by decide +kernel
theorem dX12_step_52 : decode cX12_step 52 = .ok (.imul, 1) := by decide +kernel
theorem dX12_step_53 : decode cX12_step 53 = .ok (.iadd, 1) := by decide +kernel
theorem dX12_step_54 : decode cX12_step 54 = .ok (.istore_n 3, 1) := by decide +kernel
theorem dX12_step_55 : decode cX12_step 55 = .ok (.aload_n 0, 1) := by decide +kernel
theorem dX12_step_56 : decode cX12_step 56 = .ok (.getfield 13, 3) := by decide +kernel
theorem dX12_step_59 : decode cX12_step 59 = .ok (.iload_n 3, 1) := by decide +kernel
theorem dX12_step_60 : decode cX12_step 60 = .ok (.iload_n 1, 1) := by decide +kernel
theorem dX12_step_61 : decode cX12_step 61 = .ok (.iastore, 1) := by decide +kernel
theorem dX12_step_62 : decode cX12_step 62 = .ok (.aload_n 0, 1) := by decide +kernel
theorem dX12_step_63 : decode cX12_step 63 = .ok (.getfield 13, 3) := by decide +kernel
theorem dX12_step_66 : decode cX12_step 66 = .ok (.iload_n 3, 1) := by decide +kernel
theorem dX12_step_67 : decode cX12_step 67 = .ok (.iconst 1, 1) := by decide +kernel
theorem dX12_step_68 : decode cX12_step 68 = .ok (.iadd, 1) := by decide +kernel
theorem dX12_step_69 : decode cX12_step 69 = .ok (.iload_n 2, 1) := by decide +kernel
theorem dX12_step_70 : decode cX12_step 70 = .ok (.iastore, 1) := by decide +kernel
theorem dX12_step_71 : decode cX12_step 71 = .ok (.aload_n 0, 1) := by decide +kernel
theorem dX12_step_72 : decode cX12_step 72 = .ok (.getfield 13, 3) := by decide +kernel
theorem dX12_step_75 : decode cX12_step 75 = .ok (.iload_n 3, 1) := by decide +kernel
theorem dX12_step_76 : decode cX12_step 76 = .ok (.iconst 2, 1) := by decide +kernel
theorem dX12_step_77 : decode cX12_step 77 = .ok (.iadd, 1) := by decide +kernel
theorem dX12_step_78 : decode cX12_step 78 = .ok (.iconst 0, 1) := by decide +kernel
theorem dX12_step_79 : decode cX12_step 79 = .ok (.iastore, 1) := by decide +kernel
theorem dX12_step_80 : decode cX12_step 80 = .ok (.aload_n 0, 1) := by decide +kernel
theorem dX12_step_81 : decode cX12_step 81 = .ok (.getfield 13, 3) := by decide +kernel
theorem dX12_step_84 : decode cX12_step 84 = .ok (.iconst 2, 1) := by decide +kernel
theorem dX12_step_85 : decode cX12_step 85 = .ok (.dup2, 1) := by decide +kernel
theorem dX12_step_86 : decode cX12_step 86 = .ok (.iaload, 1) := by decide +kernel
theorem dX12_step_87 : decode cX12_step 87 = .ok (.iconst 1, 1) := by decide +kernel
theorem dX12_step_88 : decode cX12_step 88 = .ok (.iadd, 1) := by decide +kernel
theorem dX12_step_89 : decode cX12_step 89 = .ok (.iastore, 1) := by decide +kernel
theorem dX12_step_90 : decode cX12_step 90 = .ok (.aload_n 0, 1) := by decide +kernel
theorem dX12_step_91 : decode cX12_step 91 = .ok (.getfield 13, 3) := by decide +kernel
theorem dX12_step_94 : decode cX12_step 94 = .ok (.iconst 2, 1) := by decide +kernel
theorem dX12_step_95 : decode cX12_step 95 = .ok (.iaload, 1) := by decide +kernel
theorem dX12_step_96 : decode cX12_step 96 = .ok (.iconst 1, 1) := by decide +kernel
theorem dX12_step_97 : decode cX12_step 97 = .ok (.isub, 1) := by decide +kernel
theorem dX12_step_98 : decode cX12_step 98 = .ok (.ireturn, 1) := by decide +kernel
theorem dX12_stepOf_0 : decode cX12_stepOf 0 = .ok (.aload_n 0, 1) := by decide +kernel
theorem dX12_stepOf_1 : decode cX12_stepOf 1 = .ok (.getfield 13, 3) := by decide +kernel
theorem dX12_stepOf_4 : decode cX12_stepOf 4 = .ok (.sipush 185, 3) := by decide +kernel
theorem dX12_stepOf_7 : decode cX12_stepOf 7 = .ok (.iconst 3, 1) := by decide +kernel
theorem dX12_stepOf_8 : decode cX12_stepOf 8 = .ok (.iload_n 1, 1) := by decide +kernel
theorem dX12_stepOf_9 : decode cX12_stepOf 9 = .ok (.imul, 1) := by decide +kernel
theorem dX12_stepOf_10 : decode cX12_stepOf 10 = .ok (.iadd, 1) := by decide +kernel
theorem dX12_stepOf_11 : decode cX12_stepOf 11 = .ok (.iload_n 2, 1) := by decide +kernel
theorem dX12_stepOf_12 : decode cX12_stepOf 12 = .ok (.iadd, 1) := by decide +kernel
theorem dX12_stepOf_13 : decode cX12_stepOf 13 = .ok (.iaload, 1) := by decide +kernel
theorem dX12_stepOf_14 : decode cX12_stepOf 14 = .ok (.ireturn, 1) := by decide +kernel
theorem dX12_isDone_0 : decode cX12_isDone 0 = .ok (.iconst 0, 1) := by decide +kernel
theorem dX12_isDone_1 : decode cX12_isDone 1 = .ok (.istore_n 3, 1) := by decide +kernel
theorem dX12_isDone_2 : decode cX12_isDone 2 = .ok (.iconst 0, 1) := by decide +kernel
theorem dX12_isDone_3 : decode cX12_isDone 3 = .ok (.istore 4, 2) := by decide +kernel
theorem dX12_isDone_5 : decode cX12_isDone 5 = .ok (.iload 4, 2) := by decide +kernel
theorem dX12_isDone_7 : decode cX12_isDone 7 = .ok (.iload_n 2, 1) := by decide +kernel
theorem dX12_isDone_8 : decode cX12_isDone 8 = .ok (.if_icmp .gt 19, 3) := by decide +kernel
theorem dX12_isDone_11 : decode cX12_isDone 11 = .ok (.iload_n 3, 1) := by decide +kernel
theorem dX12_isDone_12 : decode cX12_isDone 12 = .ok (.aload_n 0, 1) := by decide +kernel
theorem dX12_isDone_13 : decode cX12_isDone 13 = .ok (.iload 4, 2) := by decide +kernel
theorem dX12_isDone_15 : decode cX12_isDone 15 = .ok (.iconst 0, 1) := by decide +kernel
theorem dX12_isDone_16 : decode cX12_isDone 16 = .ok (.invokevirtual 172, 3) := by decide +kernel
theorem dX12_isDone_19 : decode cX12_isDone 19 = .ok (.ior, 1) := by decide +kernel
theorem dX12_isDone_20 : decode cX12_isDone 20 = .ok (.istore_n 3, 1) := by decide +kernel
theorem dX12_isDone_21 : decode cX12_isDone 21 = .ok (.iinc 4 1, 3) := by decide +kernel
theorem dX12_isDone_24 : decode cX12_isDone 24 = .ok (.goto (-19), 3) := by decide +kernel
theorem dX12_isDone_27 : decode cX12_isDone 27 = .ok (.iconst 0, 1) := by decide +kernel
theorem dX12_isDone_28 : decode cX12_isDone 28 = .ok (.istore 4, 2) := by decide +kernel
theorem dX12_isDone_30 : decode cX12_isDone 30 = .ok (.iload 4, 2) := by decide +kernel
theorem dX12_isDone_32 : decode cX12_isDone 32 = .ok (.bipush 6, 2) := by decide +kernel
theorem dX12_isDone_34 : decode cX12_isDone 34 = .ok (.if_icmp .ge 30, 3) := by decide +kernel
theorem dX12_isDone_37 : decode cX12_isDone 37 = .ok (.iload_n 3, 1) := by decide +kernel
theorem dX12_isDone_38 : decode cX12_isDone 38 = .ok (.iload 4, 2) := by decide +kernel
theorem dX12_isDone_40 : decode cX12_isDone 40 = .ok (.ishr, 1) := by decide +kernel
theorem dX12_isDone_41 : decode cX12_isDone 41 = .ok (.iconst 1, 1) := by decide +kernel
theorem dX12_isDone_42 : decode cX12_isDone 42 = .ok (.iand, 1) := by decide +kernel
theorem dX12_isDone_43 : decode cX12_isDone 43 = .ok (.iconst 1, 1) := by decide +kernel
theorem dX12_isDone_44 : decode cX12_isDone 44 = .ok (.if_icmp .ne 14, 3) := by decide +kernel
theorem dX12_isDone_47 : decode cX12_isDone 47 = .ok (.aload_n 1, 1) := by decide +kernel
theorem dX12_isDone_48 : decode cX12_isDone 48 = .ok (.iload 4, 2) := by decide +kernel
theorem dX12_isDone_50 : decode cX12_isDone 50 = .ok (.iaload, 1) := by decide +kernel
theorem dX12_isDone_51 : decode cX12_isDone 51 = .ok (.iload 4, 2) := by decide +kernel
theorem dX12_isDone_53 : decode cX12_isDone 53 = .ok (.if_icmp .eq 5, 3) := by decide +kernel
theorem dX12_isDone_56 : decode cX12_isDone 56 = .ok (.iconst 0, 1) := by decide +kernel
theorem dX12_isDone_57 : decode cX12_isDone 57 = .ok (.ireturn, 1) := by decide +kernel
theorem dX12_isDone_58 : decode cX12_isDone 58 = .ok (.iinc 4 1, 3) := by decide +kernel
theorem dX12_isDone_61 : decode cX12_isDone 61 = .ok (.goto (-31), 3) := by decide +kernel
theorem dX12_isDone_64 : decode cX12_isDone 64 = .ok (.iconst 1, 1) := by decide +kernel
theorem dX12_isDone_65 : decode cX12_isDone 65 = .ok (.ireturn, 1) := by decide +kernel
theorem dX12_rowFor_0 : decode cX12_rowFor 0 = .ok (.iconst 0, 1) := by decide +kernel
theorem dX12_rowFor_1 : decode cX12_rowFor 1 = .ok (.istore_n 2, 1) := by decide +kernel
theorem dX12_rowFor_2 : decode cX12_rowFor 2 = .ok (.iload_n 2, 1) := by decide +kernel
theorem dX12_rowFor_3 : decode cX12_rowFor 3 = .ok (.aload_n 0, 1) := by decide +kernel
theorem dX12_rowFor_4 : decode cX12_rowFor 4 = .ok (.getfield 13, 3) := by decide +kernel
theorem dX12_rowFor_7 : decode cX12_rowFor 7 = .ok (.iconst 1, 1) := by decide +kernel
theorem dX12_rowFor_8 : decode cX12_rowFor 8 = .ok (.iaload, 1) := by decide +kernel
theorem dX12_rowFor_9 : decode cX12_rowFor 9 = .ok (.if_icmp .ge 75, 3) := by decide +kernel
theorem dX12_rowFor_12 : decode cX12_rowFor 12 = .ok (.aload_n 0, 1) := by decide +kernel
theorem dX12_rowFor_13 : decode cX12_rowFor 13 = .ok (.iload_n 1, 1) := by decide +kernel
theorem dX12_rowFor_14 : decode cX12_rowFor 14 = .ok (.iconst 1, 1) := by decide +kernel
theorem dX12_rowFor_15 : decode cX12_rowFor 15 = .ok (.invokevirtual 172, 3) := by decide +kernel
theorem dX12_rowFor_18 : decode cX12_rowFor 18 = .ok (.iload_n 2, 1) := by decide +kernel
theorem dX12_rowFor_19 : decode cX12_rowFor 19 = .ok (.ishr, 1) := by decide +kernel
theorem dX12_rowFor_20 : decode cX12_rowFor 20 = .ok (.iconst 1, 1) := by decide +kernel
theorem dX12_rowFor_21 : decode cX12_rowFor 21 = .ok (.iand, 1) := by decide +kernel
theorem dX12_rowFor_22 : decode cX12_rowFor 22 = .ok (.ifCond .ne 6, 3) := by decide +kernel
theorem dX12_rowFor_25 : decode cX12_rowFor 25 = .ok (.goto 53, 3) := by decide +kernel
theorem dX12_rowFor_28 : decode cX12_rowFor 28 = .ok (.iconst 0, 1) := by decide +kernel
theorem dX12_rowFor_29 : decode cX12_rowFor 29 = .ok (.istore_n 3, 1) := by decide +kernel
theorem dX12_rowFor_30 : decode cX12_rowFor 30 = .ok (.iload_n 3, 1) := by decide +kernel
theorem dX12_rowFor_31 : decode cX12_rowFor 31 = .ok (.bipush 6, 2) := by decide +kernel
theorem dX12_rowFor_33 : decode cX12_rowFor 33 = .ok (.if_icmp .ge 21, 3) := by decide +kernel
theorem dX12_rowFor_36 : decode cX12_rowFor 36 = .ok (.aload_n 0, 1) := by decide +kernel
theorem dX12_rowFor_37 : decode cX12_rowFor 37 = .ok (.getfield 49, 3) := by decide +kernel
theorem dX12_rowFor_40 : decode cX12_rowFor 40 = .ok (.iload_n 3, 1) := by decide +kernel
theorem dX12_rowFor_41 : decode cX12_rowFor 41 = .ok (.aload_n 0, 1) := by decide +kernel
theorem dX12_rowFor_42 : decode cX12_rowFor 42 = .ok (.getfield 46, 3) := by decide +kernel
theorem dX12_rowFor_45 : decode cX12_rowFor 45 = .ok (.iload_n 3, 1) := by decide +kernel
theorem dX12_rowFor_46 : decode cX12_rowFor 46 = .ok (.iaload, 1) := by decide +kernel
theorem dX12_rowFor_47 : decode cX12_rowFor 47 = .ok (.iastore, 1) := by decide +kernel
theorem dX12_rowFor_48 : decode cX12_rowFor 48 = .ok (.iinc 3 1, 3) := by decide +kernel
theorem dX12_rowFor_51 : decode cX12_rowFor 51 = .ok (.goto (-21), 3) := by decide +kernel
theorem dX12_rowFor_54 : decode cX12_rowFor 54 = .ok (.aload_n 0, 1) := by decide +kernel
theorem dX12_rowFor_55 : decode cX12_rowFor 55 = .ok (.aload_n 0, 1) := by decide +kernel
theorem dX12_rowFor_56 : decode cX12_rowFor 56 = .ok (.getfield 49, 3) := by decide +kernel
theorem dX12_rowFor_59 : decode cX12_rowFor 59 = .ok (.iconst 0, 1) := by decide +kernel
theorem dX12_rowFor_60 : decode cX12_rowFor 60 = .ok (.iload_n 2, 1) := by decide +kernel
theorem dX12_rowFor_61 : decode cX12_rowFor 61 = .ok (.invokevirtual 126, 3) := by decide +kernel
theorem dX12_rowFor_64 : decode cX12_rowFor 64 = .ok (.aload_n 0, 1) := by decide +kernel
theorem dX12_rowFor_65 : decode cX12_rowFor 65 = .ok (.aload_n 0, 1) := by decide +kernel
theorem dX12_rowFor_66 : decode cX12_rowFor 66 = .ok (.getfield 49, 3) := by decide +kernel
theorem dX12_rowFor_69 : decode cX12_rowFor 69 = .ok (.iload_n 1, 1) := by decide +kernel
theorem dX12_rowFor_70 : decode cX12_rowFor 70 = .ok (.invokevirtual 175, 3) := by decide +kernel
theorem dX12_rowFor_73 : decode cX12_rowFor 73 = .ok (.ifCond .eq 5, 3) := by decide +kernel
theorem dX12_rowFor_76 : decode cX12_rowFor 76 = .ok (.iload_n 2, 1) := by decide +kernel
theorem dX12_rowFor_77 : decode cX12_rowFor 77 = .ok (.ireturn, 1) := by decide +kernel
theorem dX12_rowFor_78 : decode cX12_rowFor 78 = .ok (.iinc 2 1, 3) := by decide +kernel
theorem dX12_rowFor_81 : decode cX12_rowFor 81 = .ok (.goto (-79), 3) := by decide +kernel
theorem dX12_rowFor_84 : decode cX12_rowFor 84 = .ok (.bipush (-9), 2) := by decide +kernel
theorem dX12_rowFor_86 : decode cX12_rowFor 86 = .ok (.ireturn, 1) := by decide +kernel
theorem dX12_goesOn_0 : decode cX12_goesOn 0 = .ok (.aload_n 0, 1) := by decide +kernel
theorem dX12_goesOn_1 : decode cX12_goesOn 1 = .ok (.bipush (-9), 2) := by decide +kernel
theorem dX12_goesOn_3 : decode cX12_goesOn 3 = .ok (.putfield 178, 3) := by decide +kernel
theorem dX12_goesOn_6 : decode cX12_goesOn 6 = .ok (.iconst 0, 1) := by decide +kernel
theorem dX12_goesOn_7 : decode cX12_goesOn 7 = .ok (.istore_n 1, 1) := by decide +kernel
theorem dX12_goesOn_8 : decode cX12_goesOn 8 = .ok (.iload_n 1, 1) := by decide +kernel
theorem dX12_goesOn_9 : decode cX12_goesOn 9 = .ok (.iconst 4, 1) := by decide +kernel
theorem dX12_goesOn_10 : decode cX12_goesOn 10 = .ok (.if_icmp .ge 17, 3) := by decide +kernel
theorem dX12_goesOn_13 : decode cX12_goesOn 13 = .ok (.aload_n 0, 1) := by decide +kernel
theorem dX12_goesOn_14 : decode cX12_goesOn 14 = .ok (.getfield 52, 3) := by decide +kernel
theorem dX12_goesOn_17 : decode cX12_goesOn 17 = .ok (.iload_n 1, 1) := by decide +kernel
theorem dX12_goesOn_18 : decode cX12_goesOn 18 = .ok (.bipush (-9), 2) := by decide +kernel
theorem dX12_goesOn_20 : decode cX12_goesOn 20 = .ok (.iastore, 1) := by decide +kernel
theorem dX12_goesOn_21 : decode cX12_goesOn 21 = .ok (.iinc 1 1, 3) := by decide +kernel
theorem dX12_goesOn_24 : decode cX12_goesOn 24 = .ok (.goto (-16), 3) := by decide +kernel
theorem dX12_goesOn_27 : decode cX12_goesOn 27 = .ok (.iconst 0, 1) := by decide +kernel
theorem dX12_goesOn_28 : decode cX12_goesOn 28 = .ok (.istore_n 1, 1) := by decide +kernel
theorem dX12_goesOn_29 : decode cX12_goesOn 29 = .ok (.iload_n 1, 1) := by decide +kernel
theorem dX12_goesOn_30 : decode cX12_goesOn 30 = .ok (.aload_n 0, 1) := by decide +kernel
theorem dX12_goesOn_31 : decode cX12_goesOn 31 = .ok (.getfield 13, 3) := by decide +kernel
theorem dX12_goesOn_34 : decode cX12_goesOn 34 = .ok (.iconst 2, 1) := by decide +kernel
theorem dX12_goesOn_35 : decode cX12_goesOn 35 = .ok (.iaload, 1) := by decide +kernel
theorem dX12_goesOn_36 : decode cX12_goesOn 36 = .ok (.if_icmp .ge 74, 3) := by decide +kernel
theorem dX12_goesOn_39 : decode cX12_goesOn 39 = .ok (.aload_n 0, 1) := by decide +kernel
theorem dX12_goesOn_40 : decode cX12_goesOn 40 = .ok (.getfield 178, 3) := by decide +kernel
theorem dX12_goesOn_43 : decode cX12_goesOn 43 = .ok (.ifCond .ge 67, 3) := by decide +kernel
theorem dX12_goesOn_46 : decode cX12_goesOn 46 = .ok (.aload_n 0, 1) := by decide +kernel
theorem dX12_goesOn_47 : decode cX12_goesOn 47 = .ok (.aload_n 0, 1) := by decide +kernel
theorem dX12_goesOn_48 : decode cX12_goesOn 48 = .ok (.getfield 46, 3) := by decide +kernel
theorem dX12_goesOn_51 : decode cX12_goesOn 51 = .ok (.iload_n 1, 1) := by decide +kernel
theorem dX12_goesOn_52 : decode cX12_goesOn 52 = .ok (.invokevirtual 175, 3) := by decide +kernel
theorem dX12_goesOn_55 : decode cX12_goesOn 55 = .ok (.ifCond .eq 6, 3) := by decide +kernel
theorem dX12_goesOn_58 : decode cX12_goesOn 58 = .ok (.goto 46, 3) := by decide +kernel
theorem dX12_goesOn_61 : decode cX12_goesOn 61 = .ok (.aload_n 0, 1) := by decide +kernel
theorem dX12_goesOn_62 : decode cX12_goesOn 62 = .ok (.getfield 52, 3) := by decide +kernel
theorem dX12_goesOn_65 : decode cX12_goesOn 65 = .ok (.iload_n 1, 1) := by decide +kernel
theorem dX12_goesOn_66 : decode cX12_goesOn 66 = .ok (.aload_n 0, 1) := by decide +kernel
theorem dX12_goesOn_67 : decode cX12_goesOn 67 = .ok (.iload_n 1, 1) := by decide +kernel
theorem dX12_goesOn_68 : decode cX12_goesOn 68 = .ok (.invokevirtual 181, 3) := by decide +kernel
theorem dX12_goesOn_71 : decode cX12_goesOn 71 = .ok (.iastore, 1) := by decide +kernel
theorem dX12_goesOn_72 : decode cX12_goesOn 72 = .ok (.aload_n 0, 1) := by decide +kernel
theorem dX12_goesOn_73 : decode cX12_goesOn 73 = .ok (.getfield 52, 3) := by decide +kernel
theorem dX12_goesOn_76 : decode cX12_goesOn 76 = .ok (.iload_n 1, 1) := by decide +kernel
theorem dX12_goesOn_77 : decode cX12_goesOn 77 = .ok (.iaload, 1) := by decide +kernel
theorem dX12_goesOn_78 : decode cX12_goesOn 78 = .ok (.ifCond .ge 11, 3) := by decide +kernel
theorem dX12_goesOn_81 : decode cX12_goesOn 81 = .ok (.aload_n 0, 1) := by decide +kernel
theorem dX12_goesOn_82 : decode cX12_goesOn 82 = .ok (.iload_n 1, 1) := by decide +kernel
theorem dX12_goesOn_83 : decode cX12_goesOn 83 = .ok (.putfield 178, 3) := by decide +kernel
theorem dX12_goesOn_86 : decode cX12_goesOn 86 = .ok (.goto 18, 3) := by decide +kernel
theorem dX12_goesOn_89 : decode cX12_goesOn 89 = .ok (.aload_n 0, 1) := by decide +kernel
theorem dX12_goesOn_90 : decode cX12_goesOn 90 = .ok (.aload_n 0, 1) := by decide +kernel
theorem dX12_goesOn_91 : decode cX12_goesOn 91 = .ok (.getfield 46, 3) := by decide +kernel
theorem dX12_goesOn_94 : decode cX12_goesOn 94 = .ok (.iconst 0, 1) := by decide +kernel
theorem dX12_goesOn_95 : decode cX12_goesOn 95 = .ok (.aload_n 0, 1) := by decide +kernel
theorem dX12_goesOn_96 : decode cX12_goesOn 96 = .ok (.getfield 52, 3) := by decide +kernel
theorem dX12_goesOn_99 : decode cX12_goesOn 99 = .ok (.iload_n 1, 1) := by decide +kernel
theorem dX12_goesOn_100 : decode cX12_goesOn 100 = .ok (.iaload, 1) := by decide +kernel
theorem dX12_goesOn_101 : decode cX12_goesOn 101 = .ok (.invokevirtual 126, 3) := by decide +kernel
theorem dX12_goesOn_104 : decode cX12_goesOn 104 = .ok (.iinc 1 1, 3) := by decide +kernel
theorem dX12_goesOn_107 : decode cX12_goesOn 107 = .ok (.goto (-78), 3) := by decide +kernel
theorem dX12_goesOn_110 : decode cX12_goesOn 110 = .ok (.return_, 1) := by decide +kernel
theorem dX12_triesNow_0 : decode cX12_triesNow 0 = .ok (.iconst 0, 1) := by decide +kernel
theorem dX12_triesNow_1 : decode cX12_triesNow 1 = .ok (.istore_n 1, 1) := by decide +kernel
theorem dX12_triesNow_2 : decode cX12_triesNow 2 = .ok (.iload_n 1, 1) := by decide +kernel
theorem dX12_triesNow_3 : decode cX12_triesNow 3 = .ok (.bipush 6, 2) := by decide +kernel
theorem dX12_triesNow_5 : decode cX12_triesNow 5 = .ok (.if_icmp .ge 23, 3) := by decide +kernel
theorem dX12_triesNow_8 : decode cX12_triesNow 8 = .ok (.aload_n 0, 1) := by decide +kernel
theorem dX12_triesNow_9 : decode cX12_triesNow 9 = .ok (.getfield 46, 3) := by decide +kernel
theorem dX12_triesNow_12 : decode cX12_triesNow 12 = .ok (.iload_n 1, 1) := by decide +kernel
theorem dX12_triesNow_13 : decode cX12_triesNow 13 = .ok (.aload_n 0, 1) := by decide +kernel
theorem dX12_triesNow_14 : decode cX12_triesNow 14 = .ok (.getfield 13, 3) := by decide +kernel
theorem dX12_triesNow_17 : decode cX12_triesNow 17 = .ok (.iconst 5, 1) := by decide +kernel
theorem dX12_triesNow_18 : decode cX12_triesNow 18 = .ok (.iload_n 1, 1) := by decide +kernel
theorem dX12_triesNow_19 : decode cX12_triesNow 19 = .ok (.iadd, 1) := by decide +kernel
theorem dX12_triesNow_20 : decode cX12_triesNow 20 = .ok (.iaload, 1) := by decide +kernel
theorem dX12_triesNow_21 : decode cX12_triesNow 21 = .ok (.iastore, 1) := by decide +kernel
theorem dX12_triesNow_22 : decode cX12_triesNow 22 = .ok (.iinc 1 1, 3) := by decide +kernel
theorem dX12_triesNow_25 : decode cX12_triesNow 25 = .ok (.goto (-23), 3) := by decide +kernel
theorem dX12_triesNow_28 : decode cX12_triesNow 28 = .ok (.aload_n 0, 1) := by decide +kernel
theorem dX12_triesNow_29 : decode cX12_triesNow 29 = .ok (.invokevirtual 184, 3) := by decide +kernel
theorem dX12_triesNow_32 : decode cX12_triesNow 32 = .ok (.return_, 1) := by decide +kernel
theorem dX12_tried_0 : decode cX12_tried 0 = .ok (.aload_n 0, 1) := by decide +kernel
theorem dX12_tried_1 : decode cX12_tried 1 = .ok (.invokevirtual 187, 3) := by decide +kernel
theorem dX12_tried_4 : decode cX12_tried 4 = .ok (.aload_n 0, 1) := by decide +kernel
theorem dX12_tried_5 : decode cX12_tried 5 = .ok (.getfield 178, 3) := by decide +kernel
theorem dX12_tried_8 : decode cX12_tried 8 = .ok (.ireturn, 1) := by decide +kernel
theorem dX12_triedRow_0 : decode cX12_triedRow 0 = .ok (.aload_n 0, 1) := by decide +kernel
theorem dX12_triedRow_1 : decode cX12_triedRow 1 = .ok (.iload_n 1, 1) := by decide +kernel
theorem dX12_triedRow_2 : decode cX12_triedRow 2 = .ok (.invokevirtual 190, 3) := by decide +kernel
theorem dX12_triedRow_5 : decode cX12_triedRow 5 = .ok (.ifCond .ne 9, 3) := by decide +kernel
theorem dX12_triedRow_8 : decode cX12_triedRow 8 = .ok (.aload_n 0, 1) := by decide +kernel
theorem dX12_triedRow_9 : decode cX12_triedRow 9 = .ok (.iconst (-1), 1) := by decide +kernel
theorem dX12_triedRow_10 : decode cX12_triedRow 10 = .ok (.invokevirtual 65, 3) := by decide +kernel
theorem dX12_triedRow_13 : decode cX12_triedRow 13 = .ok (.ireturn, 1) := by decide +kernel
theorem dX12_triedRow_14 : decode cX12_triedRow 14 = .ok (.aload_n 0, 1) := by decide +kernel
theorem dX12_triedRow_15 : decode cX12_triedRow 15 = .ok (.invokevirtual 187, 3) := by decide +kernel
theorem dX12_triedRow_18 : decode cX12_triedRow 18 = .ok (.aload_n 0, 1) := by decide +kernel
theorem dX12_triedRow_19 : decode cX12_triedRow 19 = .ok (.getfield 52, 3) := by decide +kernel
theorem dX12_triedRow_22 : decode cX12_triedRow 22 = .ok (.iload_n 1, 1) := by decide +kernel
theorem dX12_triedRow_23 : decode cX12_triedRow 23 = .ok (.iaload, 1) := by decide +kernel
theorem dX12_triedRow_24 : decode cX12_triedRow 24 = .ok (.ireturn, 1) := by decide +kernel
theorem dX12_solvesFrom_0 : decode cX12_solvesFrom 0 = .ok (.aload_n 0, 1) := by decide +kernel
theorem dX12_solvesFrom_1 : decode cX12_solvesFrom 1 = .ok (.getfield 46, 3) := by decide +kernel
theorem dX12_solvesFrom_4 : decode cX12_solvesFrom 4 = .ok (.iconst 0, 1) := by decide +kernel
theorem dX12_solvesFrom_5 : decode cX12_solvesFrom 5 = .ok (.iload_n 1, 1) := by decide +kernel
theorem dX12_solvesFrom_6 : decode cX12_solvesFrom 6 = .ok (.invokestatic 133, 3) := by decide +kernel
theorem dX12_solvesFrom_9 : decode cX12_solvesFrom 9 = .ok (.aload_n 0, 1) := by decide +kernel
theorem dX12_solvesFrom_10 : decode cX12_solvesFrom 10 = .ok (.invokevirtual 184, 3) := by decide +kernel
theorem dX12_solvesFrom_13 : decode cX12_solvesFrom 13 = .ok (.aload_n 0, 1) := by decide +kernel
theorem dX12_solvesFrom_14 : decode cX12_solvesFrom 14 = .ok (.getfield 178, 3) := by decide +kernel
theorem dX12_solvesFrom_17 : decode cX12_solvesFrom 17 = .ok (.ifCond .ge 18, 3) := by decide +kernel
theorem dX12_solvesFrom_20 : decode cX12_solvesFrom 20 = .ok (.aload_n 0, 1) := by decide +kernel
theorem dX12_solvesFrom_21 : decode cX12_solvesFrom 21 = .ok (.getfield 46, 3) := by decide +kernel
theorem dX12_solvesFrom_24 : decode cX12_solvesFrom 24 = .ok (.iconst 0, 1) := by decide +kernel
theorem dX12_solvesFrom_25 : decode cX12_solvesFrom 25 = .ok (.invokestatic 122, 3) := by decide +kernel
theorem dX12_solvesFrom_28 : decode cX12_solvesFrom 28 = .ok (.ifCond .eq 7, 3) := by decide +kernel
theorem dX12_solvesFrom_31 : decode cX12_solvesFrom 31 = .ok (.iconst 1, 1) := by decide +kernel
theorem dX12_solvesFrom_32 : decode cX12_solvesFrom 32 = .ok (.goto 4, 3) := by decide +kernel
theorem dX12_solvesFrom_35 : decode cX12_solvesFrom 35 = .ok (.iconst 0, 1) := by decide +kernel
theorem dX12_solvesFrom_36 : decode cX12_solvesFrom 36 = .ok (.ireturn, 1) := by decide +kernel
theorem dX12_solvesOf_0 : decode cX12_solvesOf 0 = .ok (.iconst 0, 1) := by decide +kernel
theorem dX12_solvesOf_1 : decode cX12_solvesOf 1 = .ok (.istore_n 1, 1) := by decide +kernel
theorem dX12_solvesOf_2 : decode cX12_solvesOf 2 = .ok (.iconst 0, 1) := by decide +kernel
theorem dX12_solvesOf_3 : decode cX12_solvesOf 3 = .ok (.istore_n 2, 1) := by decide +kernel
theorem dX12_solvesOf_4 : decode cX12_solvesOf 4 = .ok (.iload_n 2, 1) := by decide +kernel
theorem dX12_solvesOf_5 : decode cX12_solvesOf 5 = .ok (.sipush 720, 3) := by decide +kernel
theorem dX12_solvesOf_8 : decode cX12_solvesOf 8 = .ok (.if_icmp .ge 25, 3) := by decide +kernel
theorem dX12_solvesOf_11 : decode cX12_solvesOf 11 = .ok (.iload_n 1, 1) := by decide +kernel
theorem dX12_solvesOf_12 : decode cX12_solvesOf 12 = .ok (.aload_n 0, 1) := by decide +kernel
theorem dX12_solvesOf_13 : decode cX12_solvesOf 13 = .ok (.iload_n 2, 1) := by decide +kernel
theorem dX12_solvesOf_14 : decode cX12_solvesOf 14 = .ok (.invokevirtual 193, 3) := by decide +kernel
theorem dX12_solvesOf_17 : decode cX12_solvesOf 17 = .ok (.ifCond .eq 7, 3) := by decide +kernel
theorem dX12_solvesOf_20 : decode cX12_solvesOf 20 = .ok (.iconst 1, 1) := by decide +kernel
theorem dX12_solvesOf_21 : decode cX12_solvesOf 21 = .ok (.goto 4, 3) := by decide +kernel
theorem dX12_solvesOf_24 : decode cX12_solvesOf 24 = .ok (.iconst 0, 1) := by decide +kernel
theorem dX12_solvesOf_25 : decode cX12_solvesOf 25 = .ok (.iadd, 1) := by decide +kernel
theorem dX12_solvesOf_26 : decode cX12_solvesOf 26 = .ok (.istore_n 1, 1) := by decide +kernel
theorem dX12_solvesOf_27 : decode cX12_solvesOf 27 = .ok (.iinc 2 1, 3) := by decide +kernel
theorem dX12_solvesOf_30 : decode cX12_solvesOf 30 = .ok (.goto (-26), 3) := by decide +kernel
theorem dX12_solvesOf_33 : decode cX12_solvesOf 33 = .ok (.iload_n 1, 1) := by decide +kernel
theorem dX12_solvesOf_34 : decode cX12_solvesOf 34 = .ok (.ireturn, 1) := by decide +kernel
theorem dX12_solves_0 : decode cX12_solves 0 = .ok (.aload_n 0, 1) := by decide +kernel
theorem dX12_solves_1 : decode cX12_solves 1 = .ok (.invokevirtual 196, 3) := by decide +kernel
theorem dX12_solves_4 : decode cX12_solves 4 = .ok (.ireturn, 1) := by decide +kernel
theorem dX12_lacks_0 : decode cX12_lacks 0 = .ok (.iconst 0, 1) := by decide +kernel
theorem dX12_lacks_1 : decode cX12_lacks 1 = .ok (.istore_n 1, 1) := by decide +kernel
theorem dX12_lacks_2 : decode cX12_lacks 2 = .ok (.iload_n 1, 1) := by decide +kernel
theorem dX12_lacks_3 : decode cX12_lacks 3 = .ok (.sipush 720, 3) := by decide +kernel
theorem dX12_lacks_6 : decode cX12_lacks 6 = .ok (.if_icmp .ge 19, 3) := by decide +kernel
theorem dX12_lacks_9 : decode cX12_lacks 9 = .ok (.aload_n 0, 1) := by decide +kernel
theorem dX12_lacks_10 : decode cX12_lacks 10 = .ok (.iload_n 1, 1) := by decide +kernel
theorem dX12_lacks_11 : decode cX12_lacks 11 = .ok (.invokevirtual 193, 3) := by decide +kernel
theorem dX12_lacks_14 : decode cX12_lacks 14 = .ok (.ifCond .ne 5, 3) := by decide +kernel
theorem dX12_lacks_17 : decode cX12_lacks 17 = .ok (.iload_n 1, 1) := by decide +kernel
theorem dX12_lacks_18 : decode cX12_lacks 18 = .ok (.ireturn, 1) := by decide +kernel
theorem dX12_lacks_19 : decode cX12_lacks 19 = .ok (.iinc 1 1, 3) := by decide +kernel
theorem dX12_lacks_22 : decode cX12_lacks 22 = .ok (.goto (-20), 3) := by decide +kernel
theorem dX12_lacks_25 : decode cX12_lacks 25 = .ok (.bipush (-9), 2) := by decide +kernel
theorem dX12_lacks_27 : decode cX12_lacks 27 = .ok (.ireturn, 1) := by decide +kernel
theorem dX12_common_0 : decode cX12_common 0 = .ok (.iload_n 1, 1) := by decide +kernel
theorem dX12_common_1 : decode cX12_common 1 = .ok (.ifCond .ne 7, 3) := by decide +kernel
theorem dX12_common_4 : decode cX12_common 4 = .ok (.iload_n 0, 1) := by decide +kernel
theorem dX12_common_5 : decode cX12_common 5 = .ok (.goto 10, 3) := by decide +kernel
theorem dX12_common_8 : decode cX12_common 8 = .ok (.iload_n 1, 1) := by decide +kernel
theorem dX12_common_9 : decode cX12_common 9 = .ok (.iload_n 0, 1) := by decide +kernel
theorem dX12_common_10 : decode cX12_common 10 = .ok (.iload_n 1, 1) := by decide +kernel
theorem dX12_common_11 : decode cX12_common 11 = .ok (.irem, 1) := by decide +kernel
theorem dX12_common_12 : decode cX12_common 12 = .ok (.invokestatic 199, 3) := by decide +kernel
theorem dX12_common_15 : decode cX12_common 15 = .ok (.ireturn, 1) := by decide +kernel
theorem dX12_luck_0 : decode cX12_luck 0 = .ok (.aload_n 0, 1) := by decide +kernel
theorem dX12_luck_1 : decode cX12_luck 1 = .ok (.iload_n 1, 1) := by decide +kernel
theorem dX12_luck_2 : decode cX12_luck 2 = .ok (.invokevirtual 190, 3) := by decide +kernel
theorem dX12_luck_5 : decode cX12_luck 5 = .ok (.ifCond .ne 9, 3) := by decide +kernel
theorem dX12_luck_8 : decode cX12_luck 8 = .ok (.aload_n 0, 1) := by decide +kernel
theorem dX12_luck_9 : decode cX12_luck 9 = .ok (.iconst (-1), 1) := by decide +kernel
theorem dX12_luck_10 : decode cX12_luck 10 = .ok (.invokevirtual 65, 3) := by decide +kernel
theorem dX12_luck_13 : decode cX12_luck 13 = .ok (.ireturn, 1) := by decide +kernel
theorem dX12_luck_14 : decode cX12_luck 14 = .ok (.iload_n 2, 1) := by decide +kernel
theorem dX12_luck_15 : decode cX12_luck 15 = .ok (.iconst 2, 1) := by decide +kernel
theorem dX12_luck_16 : decode cX12_luck 16 = .ok (.invokestatic 61, 3) := by decide +kernel
theorem dX12_luck_19 : decode cX12_luck 19 = .ok (.ifCond .ne 10, 3) := by decide +kernel
theorem dX12_luck_22 : decode cX12_luck 22 = .ok (.aload_n 0, 1) := by decide +kernel
theorem dX12_luck_23 : decode cX12_luck 23 = .ok (.bipush (-2), 2) := by decide +kernel
theorem dX12_luck_25 : decode cX12_luck 25 = .ok (.invokevirtual 65, 3) := by decide +kernel
theorem dX12_luck_28 : decode cX12_luck 28 = .ok (.ireturn, 1) := by decide +kernel
theorem dX12_luck_29 : decode cX12_luck 29 = .ok (.iconst 0, 1) := by decide +kernel
theorem dX12_luck_30 : decode cX12_luck 30 = .ok (.istore_n 3, 1) := by decide +kernel
theorem dX12_luck_31 : decode cX12_luck 31 = .ok (.iconst 0, 1) := by decide +kernel
theorem dX12_luck_32 : decode cX12_luck 32 = .ok (.istore 4, 2) := by decide +kernel
theorem dX12_luck_34 : decode cX12_luck 34 = .ok (.iconst 0, 1) := by decide +kernel
theorem dX12_luck_35 : decode cX12_luck 35 = .ok (.istore 5, 2) := by decide +kernel
theorem dX12_luck_37 : decode cX12_luck 37 = .ok (.iload 5, 2) := by decide +kernel
theorem dX12_luck_39 : decode cX12_luck 39 = .ok (.sipush 720, 3) := by decide +kernel
theorem dX12_luck_42 : decode cX12_luck 42 = .ok (.if_icmp .ge 71, 3) := by decide +kernel
theorem dX12_luck_45 : decode cX12_luck 45 = .ok (.aload_n 0, 1) := by decide +kernel
theorem dX12_luck_46 : decode cX12_luck 46 = .ok (.getfield 46, 3) := by decide +kernel
theorem dX12_luck_49 : decode cX12_luck 49 = .ok (.iconst 0, 1) := by decide +kernel
theorem dX12_luck_50 : decode cX12_luck 50 = .ok (.iload 5, 2) := by decide +kernel
theorem dX12_luck_52 : decode cX12_luck 52 = .ok (.invokestatic 133, 3) := by decide +kernel
theorem dX12_luck_55 : decode cX12_luck 55 = .ok (.aload_n 0, 1) := by decide +kernel
theorem dX12_luck_56 : decode cX12_luck 56 = .ok (.invokevirtual 184, 3) := by decide +kernel
theorem dX12_luck_59 : decode cX12_luck 59 = .ok (.aload_n 0, 1) := by decide +kernel
theorem dX12_luck_60 : decode cX12_luck 60 = .ok (.getfield 178, 3) := by decide +kernel
theorem dX12_luck_63 : decode cX12_luck 63 = .ok (.ifCond .lt 14, 3) := by decide +kernel
theorem dX12_luck_66 : decode cX12_luck 66 = .ok (.aload_n 0, 1) := by decide +kernel
theorem dX12_luck_67 : decode cX12_luck 67 = .ok (.getfield 178, 3) := by decide +kernel
theorem dX12_luck_70 : decode cX12_luck 70 = .ok (.iload_n 1, 1) := by decide +kernel
theorem dX12_luck_71 : decode cX12_luck 71 = .ok (.if_icmp .ge 6, 3) := by decide +kernel
theorem dX12_luck_74 : decode cX12_luck 74 = .ok (.goto 33, 3) := by decide +kernel
theorem dX12_luck_77 : decode cX12_luck 77 = .ok (.iinc 3 1, 3) := by decide +kernel
theorem dX12_luck_80 : decode cX12_luck 80 = .ok (.iload 4, 2) := by decide +kernel
theorem dX12_luck_82 : decode cX12_luck 82 = .ok (.aload_n 0, 1) := by decide +kernel
theorem dX12_luck_83 : decode cX12_luck 83 = .ok (.getfield 178, 3) := by decide +kernel
theorem dX12_luck_86 : decode cX12_luck 86 = .ok (.iload_n 1, 1) := by decide +kernel
theorem dX12_luck_87 : decode cX12_luck 87 = .ok (.if_icmp .eq 12, 3) := by decide +kernel
theorem dX12_luck_90 : decode cX12_luck 90 = .ok (.aload_n 0, 1) := by decide +kernel
theorem dX12_luck_91 : decode cX12_luck 91 = .ok (.getfield 52, 3) := by decide +kernel
theorem dX12_luck_94 : decode cX12_luck 94 = .ok (.iload_n 1, 1) := by decide +kernel
theorem dX12_luck_95 : decode cX12_luck 95 = .ok (.iaload, 1) := by decide +kernel
theorem dX12_luck_96 : decode cX12_luck 96 = .ok (.ifCond .lt 7, 3) := by decide +kernel
theorem dX12_luck_99 : decode cX12_luck 99 = .ok (.iconst 1, 1) := by decide +kernel
theorem dX12_luck_100 : decode cX12_luck 100 = .ok (.goto 4, 3) := by decide +kernel
theorem dX12_luck_103 : decode cX12_luck 103 = .ok (.iconst 0, 1) := by decide +kernel
theorem dX12_luck_104 : decode cX12_luck 104 = .ok (.iadd, 1) := by decide +kernel
theorem dX12_luck_105 : decode cX12_luck 105 = .ok (.istore 4, 2) := by decide +kernel
theorem dX12_luck_107 : decode cX12_luck 107 = .ok (.iinc 5 1, 3) := by decide +kernel
theorem dX12_luck_110 : decode cX12_luck 110 = .ok (.goto (-73), 3) := by decide +kernel
theorem dX12_luck_113 : decode cX12_luck 113 = .ok (.iload_n 3, 1) := by decide +kernel
theorem dX12_luck_114 : decode cX12_luck 114 = .ok (.iload 4, 2) := by decide +kernel
theorem dX12_luck_116 : decode cX12_luck 116 = .ok (.if_icmp .ne 5, 3) := by decide +kernel
theorem dX12_luck_119 : decode cX12_luck 119 = .ok (.iload_n 2, 1) := by decide +kernel
theorem dX12_luck_120 : decode cX12_luck 120 = .ok (.ireturn, 1) := by decide +kernel
theorem dX12_luck_121 : decode cX12_luck 121 = .ok (.iload_n 3, 1) := by decide +kernel
theorem dX12_luck_122 : decode cX12_luck 122 = .ok (.iload_n 3, 1) := by decide +kernel
theorem dX12_luck_123 : decode cX12_luck 123 = .ok (.iload 4, 2) := by decide +kernel
theorem dX12_luck_125 : decode cX12_luck 125 = .ok (.isub, 1) := by decide +kernel
theorem dX12_luck_126 : decode cX12_luck 126 = .ok (.invokestatic 199, 3) := by decide +kernel
theorem dX12_luck_129 : decode cX12_luck 129 = .ok (.istore 5, 2) := by decide +kernel
theorem dX12_luck_131 : decode cX12_luck 131 = .ok (.iload_n 2, 1) := by decide +kernel
theorem dX12_luck_132 : decode cX12_luck 132 = .ok (.ifCond .ne 13, 3) := by decide +kernel
theorem dX12_luck_135 : decode cX12_luck 135 = .ok (.iload_n 3, 1) := by decide +kernel
theorem dX12_luck_136 : decode cX12_luck 136 = .ok (.iload 4, 2) := by decide +kernel
theorem dX12_luck_138 : decode cX12_luck 138 = .ok (.isub, 1) := by decide +kernel
theorem dX12_luck_139 : decode cX12_luck 139 = .ok (.iload 5, 2) := by decide +kernel
theorem dX12_luck_141 : decode cX12_luck 141 = .ok (.idiv, 1) := by decide +kernel
theorem dX12_luck_142 : decode cX12_luck 142 = .ok (.goto 7, 3) := by decide +kernel
theorem dX12_luck_145 : decode cX12_luck 145 = .ok (.iload_n 3, 1) := by decide +kernel
theorem dX12_luck_146 : decode cX12_luck 146 = .ok (.iload 5, 2) := by decide +kernel
theorem dX12_luck_148 : decode cX12_luck 148 = .ok (.idiv, 1) := by decide +kernel
theorem dX12_luck_149 : decode cX12_luck 149 = .ok (.ireturn, 1) := by decide +kernel
theorem dX12_see_0 : decode cX12_see 0 = .ok (.aload_n 0, 1) := by decide +kernel
theorem dX12_see_1 : decode cX12_see 1 = .ok (.iload_n 1, 1) := by decide +kernel
theorem dX12_see_2 : decode cX12_see 2 = .ok (.invokevirtual 190, 3) := by decide +kernel
theorem dX12_see_5 : decode cX12_see 5 = .ok (.ifCond .eq 13, 3) := by decide +kernel
theorem dX12_see_8 : decode cX12_see 8 = .ok (.iload_n 2, 1) := by decide +kernel
theorem dX12_see_9 : decode cX12_see 9 = .ok (.iconst 0, 1) := by decide +kernel
theorem dX12_see_10 : decode cX12_see 10 = .ok (.bipush 99, 2) := by decide +kernel
theorem dX12_see_12 : decode cX12_see 12 = .ok (.invokestatic 129, 3) := by decide +kernel
theorem dX12_see_15 : decode cX12_see 15 = .ok (.goto 4, 3) := by decide +kernel
theorem dX12_see_18 : decode cX12_see 18 = .ok (.iconst (-1), 1) := by decide +kernel
theorem dX12_see_19 : decode cX12_see 19 = .ok (.istore_n 3, 1) := by decide +kernel
theorem dX12_see_20 : decode cX12_see 20 = .ok (.iload_n 3, 1) := by decide +kernel
theorem dX12_see_21 : decode cX12_see 21 = .ok (.ifCond .eq 9, 3) := by decide +kernel
theorem dX12_see_24 : decode cX12_see 24 = .ok (.aload_n 0, 1) := by decide +kernel
theorem dX12_see_25 : decode cX12_see 25 = .ok (.iload_n 3, 1) := by decide +kernel
theorem dX12_see_26 : decode cX12_see 26 = .ok (.invokevirtual 65, 3) := by decide +kernel
theorem dX12_see_29 : decode cX12_see 29 = .ok (.ireturn, 1) := by decide +kernel
theorem dX12_see_30 : decode cX12_see 30 = .ok (.aload_n 0, 1) := by decide +kernel
theorem dX12_see_31 : decode cX12_see 31 = .ok (.iload_n 1, 1) := by decide +kernel
theorem dX12_see_32 : decode cX12_see 32 = .ok (.iconst 2, 1) := by decide +kernel
theorem dX12_see_33 : decode cX12_see 33 = .ok (.invokevirtual 172, 3) := by decide +kernel
theorem dX12_see_36 : decode cX12_see 36 = .ok (.istore 4, 2) := by decide +kernel
theorem dX12_see_38 : decode cX12_see 38 = .ok (.aload_n 0, 1) := by decide +kernel
theorem dX12_see_39 : decode cX12_see 39 = .ok (.getfield 13, 3) := by decide +kernel
theorem dX12_see_42 : decode cX12_see 42 = .ok (.sipush 185, 3) := by decide +kernel
theorem dX12_see_45 : decode cX12_see 45 = .ok (.iconst 3, 1) := by decide +kernel
theorem dX12_see_46 : decode cX12_see 46 = .ok (.iload_n 1, 1) := by decide +kernel
theorem dX12_see_47 : decode cX12_see 47 = .ok (.imul, 1) := by decide +kernel
theorem dX12_see_48 : decode cX12_see 48 = .ok (.iadd, 1) := by decide +kernel
theorem dX12_see_49 : decode cX12_see 49 = .ok (.iconst 2, 1) := by decide +kernel
theorem dX12_see_50 : decode cX12_see 50 = .ok (.iadd, 1) := by decide +kernel
theorem dX12_see_51 : decode cX12_see 51 = .ok (.iload_n 2, 1) := by decide +kernel
theorem dX12_see_52 : decode cX12_see 52 = .ok (.iastore, 1) := by decide +kernel
theorem dX12_see_53 : decode cX12_see 53 = .ok (.iload 4, 2) := by decide +kernel
theorem dX12_see_55 : decode cX12_see 55 = .ok (.ireturn, 1) := by decide +kernel
theorem dX12_sumBy_0 : decode cX12_sumBy 0 = .ok (.aload_n 0, 1) := by decide +kernel
theorem dX12_sumBy_1 : decode cX12_sumBy 1 = .ok (.invokevirtual 187, 3) := by decide +kernel
theorem dX12_sumBy_4 : decode cX12_sumBy 4 = .ok (.aload_n 0, 1) := by decide +kernel
theorem dX12_sumBy_5 : decode cX12_sumBy 5 = .ok (.getfield 178, 3) := by decide +kernel
theorem dX12_sumBy_8 : decode cX12_sumBy 8 = .ok (.ifCond .lt 6, 3) := by decide +kernel
theorem dX12_sumBy_11 : decode cX12_sumBy 11 = .ok (.bipush (-9), 2) := by decide +kernel
theorem dX12_sumBy_13 : decode cX12_sumBy 13 = .ok (.ireturn, 1) := by decide +kernel
theorem dX12_sumBy_14 : decode cX12_sumBy 14 = .ok (.iconst 0, 1) := by decide +kernel
theorem dX12_sumBy_15 : decode cX12_sumBy 15 = .ok (.istore_n 2, 1) := by decide +kernel
theorem dX12_sumBy_16 : decode cX12_sumBy 16 = .ok (.iconst 0, 1) := by decide +kernel
theorem dX12_sumBy_17 : decode cX12_sumBy 17 = .ok (.istore_n 3, 1) := by decide +kernel
theorem dX12_sumBy_18 : decode cX12_sumBy 18 = .ok (.iconst 0, 1) := by decide +kernel
theorem dX12_sumBy_19 : decode cX12_sumBy 19 = .ok (.istore 4, 2) := by decide +kernel
theorem dX12_sumBy_21 : decode cX12_sumBy 21 = .ok (.iload 4, 2) := by decide +kernel
theorem dX12_sumBy_23 : decode cX12_sumBy 23 = .ok (.aload_n 0, 1) := by decide +kernel
theorem dX12_sumBy_24 : decode cX12_sumBy 24 = .ok (.getfield 13, 3) := by decide +kernel
theorem dX12_sumBy_27 : decode cX12_sumBy 27 = .ok (.iconst 2, 1) := by decide +kernel
theorem dX12_sumBy_28 : decode cX12_sumBy 28 = .ok (.iaload, 1) := by decide +kernel
theorem dX12_sumBy_29 : decode cX12_sumBy 29 = .ok (.if_icmp .ge 70, 3) := by decide +kernel
theorem dX12_sumBy_32 : decode cX12_sumBy 32 = .ok (.aload_n 0, 1) := by decide +kernel
theorem dX12_sumBy_33 : decode cX12_sumBy 33 = .ok (.iload 4, 2) := by decide +kernel
theorem dX12_sumBy_35 : decode cX12_sumBy 35 = .ok (.iconst 2, 1) := by decide +kernel
theorem dX12_sumBy_36 : decode cX12_sumBy 36 = .ok (.invokevirtual 172, 3) := by decide +kernel
theorem dX12_sumBy_39 : decode cX12_sumBy 39 = .ok (.iload_n 3, 1) := by decide +kernel
theorem dX12_sumBy_40 : decode cX12_sumBy 40 = .ok (.isub, 1) := by decide +kernel
theorem dX12_sumBy_41 : decode cX12_sumBy 41 = .ok (.istore 5, 2) := by decide +kernel
theorem dX12_sumBy_43 : decode cX12_sumBy 43 = .ok (.iload 4, 2) := by decide +kernel
theorem dX12_sumBy_45 : decode cX12_sumBy 45 = .ok (.ifCond .le 13, 3) := by decide +kernel
theorem dX12_sumBy_48 : decode cX12_sumBy 48 = .ok (.iload 5, 2) := by decide +kernel
theorem dX12_sumBy_50 : decode cX12_sumBy 50 = .ok (.ifCond .le 8, 3) := by decide +kernel
theorem dX12_sumBy_53 : decode cX12_sumBy 53 = .ok (.iload_n 2, 1) := by decide +kernel
theorem dX12_sumBy_54 : decode cX12_sumBy 54 = .ok (.iload 5, 2) := by decide +kernel
theorem dX12_sumBy_56 : decode cX12_sumBy 56 = .ok (.iadd, 1) := by decide +kernel
theorem dX12_sumBy_57 : decode cX12_sumBy 57 = .ok (.istore_n 2, 1) := by decide +kernel
theorem dX12_sumBy_58 : decode cX12_sumBy 58 = .ok (.aload_n 0, 1) := by decide +kernel
theorem dX12_sumBy_59 : decode cX12_sumBy 59 = .ok (.getfield 52, 3) := by decide +kernel
theorem dX12_sumBy_62 : decode cX12_sumBy 62 = .ok (.iload 4, 2) := by decide +kernel
theorem dX12_sumBy_64 : decode cX12_sumBy 64 = .ok (.iaload, 1) := by decide +kernel
theorem dX12_sumBy_65 : decode cX12_sumBy 65 = .ok (.ifCond .ge 7, 3) := by decide +kernel
theorem dX12_sumBy_68 : decode cX12_sumBy 68 = .ok (.iconst 0, 1) := by decide +kernel
theorem dX12_sumBy_69 : decode cX12_sumBy 69 = .ok (.goto 19, 3) := by decide +kernel
theorem dX12_sumBy_72 : decode cX12_sumBy 72 = .ok (.aload_n 0, 1) := by decide +kernel
theorem dX12_sumBy_73 : decode cX12_sumBy 73 = .ok (.aload_n 0, 1) := by decide +kernel
theorem dX12_sumBy_74 : decode cX12_sumBy 74 = .ok (.getfield 52, 3) := by decide +kernel
theorem dX12_sumBy_77 : decode cX12_sumBy 77 = .ok (.iload 4, 2) := by decide +kernel
theorem dX12_sumBy_79 : decode cX12_sumBy 79 = .ok (.iaload, 1) := by decide +kernel
theorem dX12_sumBy_80 : decode cX12_sumBy 80 = .ok (.invokevirtual 146, 3) := by decide +kernel
theorem dX12_sumBy_83 : decode cX12_sumBy 83 = .ok (.iload_n 1, 1) := by decide +kernel
theorem dX12_sumBy_84 : decode cX12_sumBy 84 = .ok (.imul, 1) := by decide +kernel
theorem dX12_sumBy_85 : decode cX12_sumBy 85 = .ok (.bipush 100, 2) := by decide +kernel
theorem dX12_sumBy_87 : decode cX12_sumBy 87 = .ok (.idiv, 1) := by decide +kernel
theorem dX12_sumBy_88 : decode cX12_sumBy 88 = .ok (.istore_n 3, 1) := by decide +kernel
theorem dX12_sumBy_89 : decode cX12_sumBy 89 = .ok (.iload_n 2, 1) := by decide +kernel
theorem dX12_sumBy_90 : decode cX12_sumBy 90 = .ok (.iload_n 3, 1) := by decide +kernel
theorem dX12_sumBy_91 : decode cX12_sumBy 91 = .ok (.iadd, 1) := by decide +kernel
theorem dX12_sumBy_92 : decode cX12_sumBy 92 = .ok (.istore_n 2, 1) := by decide +kernel
theorem dX12_sumBy_93 : decode cX12_sumBy 93 = .ok (.iinc 4 1, 3) := by decide +kernel
theorem dX12_sumBy_96 : decode cX12_sumBy 96 = .ok (.goto (-75), 3) := by decide +kernel
theorem dX12_sumBy_99 : decode cX12_sumBy 99 = .ok (.iload_n 2, 1) := by decide +kernel
theorem dX12_sumBy_100 : decode cX12_sumBy 100 = .ok (.ireturn, 1) := by decide +kernel
theorem dX12_sum_0 : decode cX12_sum 0 = .ok (.iload_n 1, 1) := by decide +kernel
theorem dX12_sum_1 : decode cX12_sum 1 = .ok (.bipush 50, 2) := by decide +kernel
theorem dX12_sum_3 : decode cX12_sum 3 = .ok (.sipush 300, 3) := by decide +kernel
theorem dX12_sum_6 : decode cX12_sum 6 = .ok (.invokestatic 129, 3) := by decide +kernel
theorem dX12_sum_9 : decode cX12_sum 9 = .ok (.istore_n 2, 1) := by decide +kernel
theorem dX12_sum_10 : decode cX12_sum 10 = .ok (.iload_n 2, 1) := by decide +kernel
theorem dX12_sum_11 : decode cX12_sum 11 = .ok (.ifCond .eq 11, 3) := by decide +kernel
theorem dX12_sum_14 : decode cX12_sum 14 = .ok (.aload_n 0, 1) := by decide +kernel
theorem dX12_sum_15 : decode cX12_sum 15 = .ok (.iload_n 2, 1) := by decide +kernel
theorem dX12_sum_16 : decode cX12_sum 16 = .ok (.invokevirtual 65, 3) := by decide +kernel
theorem dX12_sum_19 : decode cX12_sum 19 = .ok (.goto 8, 3) := by decide +kernel
theorem dX12_sum_22 : decode cX12_sum 22 = .ok (.aload_n 0, 1) := by decide +kernel
theorem dX12_sum_23 : decode cX12_sum 23 = .ok (.iload_n 1, 1) := by decide +kernel
theorem dX12_sum_24 : decode cX12_sum 24 = .ok (.invokevirtual 202, 3) := by decide +kernel
theorem dX12_sum_27 : decode cX12_sum 27 = .ok (.ireturn, 1) := by decide +kernel
theorem dX12_bestPace_0 : decode cX12_bestPace 0 = .ok (.bipush (-9), 2) := by decide +kernel
theorem dX12_bestPace_2 : decode cX12_bestPace 2 = .ok (.istore_n 1, 1) := by decide +kernel
theorem dX12_bestPace_3 : decode cX12_bestPace 3 = .ok (.iconst 0, 1) := by decide +kernel
theorem dX12_bestPace_4 : decode cX12_bestPace 4 = .ok (.istore_n 2, 1) := by decide +kernel
theorem dX12_bestPace_5 : decode cX12_bestPace 5 = .ok (.bipush 50, 2) := by decide +kernel
theorem dX12_bestPace_7 : decode cX12_bestPace 7 = .ok (.istore_n 3, 1) := by decide +kernel
theorem dX12_bestPace_8 : decode cX12_bestPace 8 = .ok (.iload_n 3, 1) := by decide +kernel
theorem dX12_bestPace_9 : decode cX12_bestPace 9 = .ok (.sipush 300, 3) := by decide +kernel
theorem dX12_bestPace_12 : decode cX12_bestPace 12 = .ok (.if_icmp .gt 39, 3) := by decide +kernel
theorem dX12_bestPace_15 : decode cX12_bestPace 15 = .ok (.aload_n 0, 1) := by decide +kernel
theorem dX12_bestPace_16 : decode cX12_bestPace 16 = .ok (.iload_n 3, 1) := by decide +kernel
theorem dX12_bestPace_17 : decode cX12_bestPace 17 = .ok (.invokevirtual 202, 3) := by decide +kernel
theorem dX12_bestPace_20 : decode cX12_bestPace 20 = .ok (.istore 4, 2) := by decide +kernel
theorem dX12_bestPace_22 : decode cX12_bestPace 22 = .ok (.iload 4, 2) := by decide +kernel
theorem dX12_bestPace_24 : decode cX12_bestPace 24 = .ok (.ifCond .lt 21, 3) := by decide +kernel
theorem dX12_bestPace_27 : decode cX12_bestPace 27 = .ok (.iload_n 1, 1) := by decide +kernel
theorem dX12_bestPace_28 : decode cX12_bestPace 28 = .ok (.ifCond .lt 12, 3) := by decide +kernel
theorem dX12_bestPace_31 : decode cX12_bestPace 31 = .ok (.iload 4, 2) := by decide +kernel
theorem dX12_bestPace_33 : decode cX12_bestPace 33 = .ok (.iload_n 2, 1) := by decide +kernel
theorem dX12_bestPace_34 : decode cX12_bestPace 34 = .ok (.if_icmp .le 6, 3) := by decide +kernel
theorem dX12_bestPace_37 : decode cX12_bestPace 37 = .ok (.goto 8, 3) := by decide +kernel
theorem dX12_bestPace_40 : decode cX12_bestPace 40 = .ok (.iload_n 3, 1) := by decide +kernel
theorem dX12_bestPace_41 : decode cX12_bestPace 41 = .ok (.istore_n 1, 1) := by decide +kernel
theorem dX12_bestPace_42 : decode cX12_bestPace 42 = .ok (.iload 4, 2) := by decide +kernel
theorem dX12_bestPace_44 : decode cX12_bestPace 44 = .ok (.istore_n 2, 1) := by decide +kernel
theorem dX12_bestPace_45 : decode cX12_bestPace 45 = .ok (.iinc 3 10, 3) := by decide +kernel
theorem dX12_bestPace_48 : decode cX12_bestPace 48 = .ok (.goto (-40), 3) := by decide +kernel
theorem dX12_bestPace_51 : decode cX12_bestPace 51 = .ok (.iload_n 1, 1) := by decide +kernel
theorem dX12_bestPace_52 : decode cX12_bestPace 52 = .ok (.ireturn, 1) := by decide +kernel
theorem dX12_learn_0 : decode cX12_learn 0 = .ok (.aload_n 0, 1) := by decide +kernel
theorem dX12_learn_1 : decode cX12_learn 1 = .ok (.iload_n 1, 1) := by decide +kernel
theorem dX12_learn_2 : decode cX12_learn 2 = .ok (.invokevirtual 190, 3) := by decide +kernel
theorem dX12_learn_5 : decode cX12_learn 5 = .ok (.ifCond .ne 9, 3) := by decide +kernel
theorem dX12_learn_8 : decode cX12_learn 8 = .ok (.aload_n 0, 1) := by decide +kernel
theorem dX12_learn_9 : decode cX12_learn 9 = .ok (.iconst (-1), 1) := by decide +kernel
theorem dX12_learn_10 : decode cX12_learn 10 = .ok (.invokevirtual 65, 3) := by decide +kernel
theorem dX12_learn_13 : decode cX12_learn 13 = .ok (.ireturn, 1) := by decide +kernel
theorem dX12_learn_14 : decode cX12_learn 14 = .ok (.aload_n 0, 1) := by decide +kernel
theorem dX12_learn_15 : decode cX12_learn 15 = .ok (.iload_n 1, 1) := by decide +kernel
theorem dX12_learn_16 : decode cX12_learn 16 = .ok (.iconst 1, 1) := by decide +kernel
theorem dX12_learn_17 : decode cX12_learn 17 = .ok (.invokevirtual 172, 3) := by decide +kernel
theorem dX12_learn_20 : decode cX12_learn 20 = .ok (.istore_n 2, 1) := by decide +kernel
theorem dX12_learn_21 : decode cX12_learn 21 = .ok (.aload_n 0, 1) := by decide +kernel
theorem dX12_learn_22 : decode cX12_learn 22 = .ok (.invokevirtual 196, 3) := by decide +kernel
theorem dX12_learn_25 : decode cX12_learn 25 = .ok (.istore_n 3, 1) := by decide +kernel
theorem dX12_learn_26 : decode cX12_learn 26 = .ok (.bipush (-9), 2) := by decide +kernel
theorem dX12_learn_28 : decode cX12_learn 28 = .ok (.istore 4, 2) := by decide +kernel
theorem dX12_learn_30 : decode cX12_learn 30 = .ok (.iconst 0, 1) := by decide +kernel
theorem dX12_learn_31 : decode cX12_learn 31 = .ok (.istore 5, 2) := by decide +kernel
theorem dX12_learn_33 : decode cX12_learn 33 = .ok (.iload 5, 2) := by decide +kernel
theorem dX12_learn_35 : decode cX12_learn 35 = .ok (.aload_n 0, 1) := by decide +kernel
theorem dX12_learn_36 : decode cX12_learn 36 = .ok (.getfield 13, 3) := by decide +kernel
theorem dX12_learn_39 : decode cX12_learn 39 = .ok (.iconst 1, 1) := by decide +kernel
theorem dX12_learn_40 : decode cX12_learn 40 = .ok (.iaload, 1) := by decide +kernel
theorem dX12_learn_41 : decode cX12_learn 41 = .ok (.if_icmp .ge 64, 3) := by decide +kernel
theorem dX12_learn_44 : decode cX12_learn 44 = .ok (.iload_n 2, 1) := by decide +kernel
theorem dX12_learn_45 : decode cX12_learn 45 = .ok (.iload 5, 2) := by decide +kernel
theorem dX12_learn_47 : decode cX12_learn 47 = .ok (.ishr, 1) := by decide +kernel
theorem dX12_learn_48 : decode cX12_learn 48 = .ok (.iconst 1, 1) := by decide +kernel
theorem dX12_learn_49 : decode cX12_learn 49 = .ok (.iand, 1) := by decide +kernel
theorem dX12_learn_50 : decode cX12_learn 50 = .ok (.iconst 1, 1) := by decide +kernel
theorem dX12_learn_51 : decode cX12_learn 51 = .ok (.if_icmp .ne 6, 3) := by decide +kernel
theorem dX12_learn_54 : decode cX12_learn 54 = .ok (.goto 45, 3) := by decide +kernel
theorem dX12_learn_57 : decode cX12_learn 57 = .ok (.aload_n 0, 1) := by decide +kernel
theorem dX12_learn_58 : decode cX12_learn 58 = .ok (.getfield 13, 3) := by decide +kernel
theorem dX12_learn_61 : decode cX12_learn 61 = .ok (.sipush 185, 3) := by decide +kernel
theorem dX12_learn_64 : decode cX12_learn 64 = .ok (.iconst 3, 1) := by decide +kernel
theorem dX12_learn_65 : decode cX12_learn 65 = .ok (.iload_n 1, 1) := by decide +kernel
theorem dX12_learn_66 : decode cX12_learn 66 = .ok (.imul, 1) := by decide +kernel
theorem dX12_learn_67 : decode cX12_learn 67 = .ok (.iadd, 1) := by decide +kernel
theorem dX12_learn_68 : decode cX12_learn 68 = .ok (.iconst 1, 1) := by decide +kernel
theorem dX12_learn_69 : decode cX12_learn 69 = .ok (.iadd, 1) := by decide +kernel
theorem dX12_learn_70 : decode cX12_learn 70 = .ok (.iload_n 2, 1) := by decide +kernel
theorem dX12_learn_71 : decode cX12_learn 71 = .ok (.iconst 1, 1) := by decide +kernel
theorem dX12_learn_72 : decode cX12_learn 72 = .ok (.iload 5, 2) := by decide +kernel
theorem dX12_learn_74 : decode cX12_learn 74 = .ok (.ishl, 1) := by decide +kernel
theorem dX12_learn_75 : decode cX12_learn 75 = .ok (.ior, 1) := by decide +kernel
theorem dX12_learn_76 : decode cX12_learn 76 = .ok (.iastore, 1) := by decide +kernel
theorem dX12_learn_77 : decode cX12_learn 77 = .ok (.aload_n 0, 1) := by decide +kernel
theorem dX12_learn_78 : decode cX12_learn 78 = .ok (.invokevirtual 196, 3) := by decide +kernel
theorem dX12_learn_81 : decode cX12_learn 81 = .ok (.istore 6, 2) := by decide +kernel
theorem dX12_learn_83 : decode cX12_learn 83 = .ok (.iload 6, 2) := by decide +kernel
theorem dX12_learn_85 : decode cX12_learn 85 = .ok (.iload_n 3, 1) := by decide +kernel
theorem dX12_learn_86 : decode cX12_learn 86 = .ok (.if_icmp .gt 6, 3) := by decide +kernel
theorem dX12_learn_89 : decode cX12_learn 89 = .ok (.goto 10, 3) := by decide +kernel
theorem dX12_learn_92 : decode cX12_learn 92 = .ok (.iload 5, 2) := by decide +kernel
theorem dX12_learn_94 : decode cX12_learn 94 = .ok (.istore 4, 2) := by decide +kernel
theorem dX12_learn_96 : decode cX12_learn 96 = .ok (.iload 6, 2) := by decide +kernel
theorem dX12_learn_98 : decode cX12_learn 98 = .ok (.istore_n 3, 1) := by decide +kernel
theorem dX12_learn_99 : decode cX12_learn 99 = .ok (.iinc 5 1, 3) := by decide +kernel
theorem dX12_learn_102 : decode cX12_learn 102 = .ok (.goto (-69), 3) := by decide +kernel
theorem dX12_learn_105 : decode cX12_learn 105 = .ok (.aload_n 0, 1) := by decide +kernel
theorem dX12_learn_106 : decode cX12_learn 106 = .ok (.getfield 13, 3) := by decide +kernel
theorem dX12_learn_109 : decode cX12_learn 109 = .ok (.sipush 185, 3) := by decide +kernel
theorem dX12_learn_112 : decode cX12_learn 112 = .ok (.iconst 3, 1) := by decide +kernel
theorem dX12_learn_113 : decode cX12_learn 113 = .ok (.iload_n 1, 1) := by decide +kernel
theorem dX12_learn_114 : decode cX12_learn 114 = .ok (.imul, 1) := by decide +kernel
theorem dX12_learn_115 : decode cX12_learn 115 = .ok (.iadd, 1) := by decide +kernel
theorem dX12_learn_116 : decode cX12_learn 116 = .ok (.iconst 1, 1) := by decide +kernel
theorem dX12_learn_117 : decode cX12_learn 117 = .ok (.iadd, 1) := by decide +kernel
theorem dX12_learn_118 : decode cX12_learn 118 = .ok (.iload_n 2, 1) := by decide +kernel
theorem dX12_learn_119 : decode cX12_learn 119 = .ok (.iastore, 1) := by decide +kernel
theorem dX12_learn_120 : decode cX12_learn 120 = .ok (.iload 4, 2) := by decide +kernel
theorem dX12_learn_122 : decode cX12_learn 122 = .ok (.ireturn, 1) := by decide +kernel
theorem dX12_five_0 : decode cX12_five 0 = .ok (.iload_n 1, 1) := by decide +kernel
theorem dX12_five_1 : decode cX12_five 1 = .ok (.iconst 1, 1) := by decide +kernel
theorem dX12_five_2 : decode cX12_five 2 = .ok (.sipush 9999, 3) := by decide +kernel
theorem dX12_five_5 : decode cX12_five 5 = .ok (.invokestatic 129, 3) := by decide +kernel
theorem dX12_five_8 : decode cX12_five 8 = .ok (.istore_n 2, 1) := by decide +kernel
theorem dX12_five_9 : decode cX12_five 9 = .ok (.iload_n 2, 1) := by decide +kernel
theorem dX12_five_10 : decode cX12_five 10 = .ok (.ifCond .ne 14, 3) := by decide +kernel
theorem dX12_five_13 : decode cX12_five 13 = .ok (.aload_n 0, 1) := by decide +kernel
theorem dX12_five_14 : decode cX12_five 14 = .ok (.getfield 205, 3) := by decide +kernel
theorem dX12_five_17 : decode cX12_five 17 = .ok (.iconst 5, 1) := by decide +kernel
theorem dX12_five_18 : decode cX12_five 18 = .ok (.if_icmp .ne 6, 3) := by decide +kernel
theorem dX12_five_21 : decode cX12_five 21 = .ok (.bipush (-6), 2) := by decide +kernel
theorem dX12_five_23 : decode cX12_five 23 = .ok (.istore_n 2, 1) := by decide +kernel
theorem dX12_five_24 : decode cX12_five 24 = .ok (.iload_n 2, 1) := by decide +kernel
theorem dX12_five_25 : decode cX12_five 25 = .ok (.ifCond .eq 9, 3) := by decide +kernel
theorem dX12_five_28 : decode cX12_five 28 = .ok (.aload_n 0, 1) := by decide +kernel
theorem dX12_five_29 : decode cX12_five 29 = .ok (.iload_n 2, 1) := by decide +kernel
theorem dX12_five_30 : decode cX12_five 30 = .ok (.invokevirtual 65, 3) := by decide +kernel
theorem dX12_five_33 : decode cX12_five 33 = .ok (.ireturn, 1) := by decide +kernel
theorem dX12_five_34 : decode cX12_five 34 = .ok (.aload_n 0, 1) := by decide +kernel
theorem dX12_five_35 : decode cX12_five 35 = .ok (.getfield 55, 3) := by decide +kernel
theorem dX12_five_38 : decode cX12_five 38 = .ok (.aload_n 0, 1) := by decide +kernel
theorem dX12_five_39 : decode cX12_five 39 = .ok (.getfield 205, 3) := by decide +kernel
theorem dX12_five_42 : decode cX12_five 42 = .ok (.iload_n 1, 1) := by decide +kernel
theorem dX12_five_43 : decode cX12_five 43 = .ok (.iastore, 1) := by decide +kernel
theorem dX12_five_44 : decode cX12_five 44 = .ok (.aload_n 0, 1) := by decide +kernel
theorem dX12_five_45 : decode cX12_five 45 = .ok (.dup, 1) := by decide +kernel
theorem dX12_five_46 : decode cX12_five 46 = .ok (.getfield 205, 3) := by decide +kernel
theorem dX12_five_49 : decode cX12_five 49 = .ok (.iconst 1, 1) := by decide +kernel
theorem dX12_five_50 : decode cX12_five 50 = .ok (.iadd, 1) := by decide +kernel
theorem dX12_five_51 : decode cX12_five 51 = .ok (.putfield 205, 3) := by decide +kernel
theorem dX12_five_54 : decode cX12_five 54 = .ok (.aload_n 0, 1) := by decide +kernel
theorem dX12_five_55 : decode cX12_five 55 = .ok (.getfield 205, 3) := by decide +kernel
theorem dX12_five_58 : decode cX12_five 58 = .ok (.ireturn, 1) := by decide +kernel
theorem dX12_middleSum_0 : decode cX12_middleSum 0 = .ok (.iconst 0, 1) := by decide +kernel
theorem dX12_middleSum_1 : decode cX12_middleSum 1 = .ok (.istore_n 1, 1) := by decide +kernel
theorem dX12_middleSum_2 : decode cX12_middleSum 2 = .ok (.aload_n 0, 1) := by decide +kernel
theorem dX12_middleSum_3 : decode cX12_middleSum 3 = .ok (.getfield 55, 3) := by decide +kernel
theorem dX12_middleSum_6 : decode cX12_middleSum 6 = .ok (.iconst 0, 1) := by decide +kernel
theorem dX12_middleSum_7 : decode cX12_middleSum 7 = .ok (.iaload, 1) := by decide +kernel
theorem dX12_middleSum_8 : decode cX12_middleSum 8 = .ok (.istore_n 2, 1) := by decide +kernel
theorem dX12_middleSum_9 : decode cX12_middleSum 9 = .ok (.aload_n 0, 1) := by decide +kernel
theorem dX12_middleSum_10 : decode cX12_middleSum 10 = .ok (.getfield 55, 3) := by decide +kernel
theorem dX12_middleSum_13 : decode cX12_middleSum 13 = .ok (.iconst 0, 1) := by decide +kernel
theorem dX12_middleSum_14 : decode cX12_middleSum 14 = .ok (.iaload, 1) := by decide +kernel
theorem dX12_middleSum_15 : decode cX12_middleSum 15 = .ok (.istore_n 3, 1) := by decide +kernel
theorem dX12_middleSum_16 : decode cX12_middleSum 16 = .ok (.iconst 0, 1) := by decide +kernel
theorem dX12_middleSum_17 : decode cX12_middleSum 17 = .ok (.istore 4, 2) := by decide +kernel
theorem dX12_middleSum_19 : decode cX12_middleSum 19 = .ok (.iload 4, 2) := by decide +kernel
theorem dX12_middleSum_21 : decode cX12_middleSum 21 = .ok (.iconst 5, 1) := by decide +kernel
theorem dX12_middleSum_22 : decode cX12_middleSum 22 = .ok (.if_icmp .ge 65, 3) := by decide +kernel
theorem dX12_middleSum_25 : decode cX12_middleSum 25 = .ok (.iload_n 1, 1) := by decide +kernel
theorem dX12_middleSum_26 : decode cX12_middleSum 26 = .ok (.aload_n 0, 1) := by decide +kernel
theorem dX12_middleSum_27 : decode cX12_middleSum 27 = .ok (.getfield 55, 3) := by decide +kernel
theorem dX12_middleSum_30 : decode cX12_middleSum 30 = .ok (.iload 4, 2) := by decide +kernel
theorem dX12_middleSum_32 : decode cX12_middleSum 32 = .ok (.iaload, 1) := by decide +kernel
theorem dX12_middleSum_33 : decode cX12_middleSum 33 = .ok (.iadd, 1) := by decide +kernel
theorem dX12_middleSum_34 : decode cX12_middleSum 34 = .ok (.istore_n 1, 1) := by decide +kernel
theorem dX12_middleSum_35 : decode cX12_middleSum 35 = .ok (.aload_n 0, 1) := by decide +kernel
theorem dX12_middleSum_36 : decode cX12_middleSum 36 = .ok (.getfield 55, 3) := by decide +kernel
theorem dX12_middleSum_39 : decode cX12_middleSum 39 = .ok (.iload 4, 2) := by decide +kernel
theorem dX12_middleSum_41 : decode cX12_middleSum 41 = .ok (.iaload, 1) := by decide +kernel
theorem dX12_middleSum_42 : decode cX12_middleSum 42 = .ok (.iload_n 2, 1) := by decide +kernel
theorem dX12_middleSum_43 : decode cX12_middleSum 43 = .ok (.if_icmp .ge 13, 3) := by decide +kernel
theorem dX12_middleSum_46 : decode cX12_middleSum 46 = .ok (.aload_n 0, 1) := by decide +kernel
theorem dX12_middleSum_47 : decode cX12_middleSum 47 = .ok (.getfield 55, 3) := by decide +kernel
theorem dX12_middleSum_50 : decode cX12_middleSum 50 = .ok (.iload 4, 2) := by decide +kernel
theorem dX12_middleSum_52 : decode cX12_middleSum 52 = .ok (.iaload, 1) := by decide +kernel
theorem dX12_middleSum_53 : decode cX12_middleSum 53 = .ok (.goto 4, 3) := by decide +kernel
theorem dX12_middleSum_56 : decode cX12_middleSum 56 = .ok (.iload_n 2, 1) := by decide +kernel
theorem dX12_middleSum_57 : decode cX12_middleSum 57 = .ok (.istore_n 2, 1) := by decide +kernel
theorem dX12_middleSum_58 : decode cX12_middleSum 58 = .ok (.aload_n 0, 1) := by decide +kernel
theorem dX12_middleSum_59 : decode cX12_middleSum 59 = .ok (.getfield 55, 3) := by decide +kernel
theorem dX12_middleSum_62 : decode cX12_middleSum 62 = .ok (.iload 4, 2) := by decide +kernel
theorem dX12_middleSum_64 : decode cX12_middleSum 64 = .ok (.iaload, 1) := by decide +kernel
theorem dX12_middleSum_65 : decode cX12_middleSum 65 = .ok (.iload_n 3, 1) := by decide +kernel
theorem dX12_middleSum_66 : decode cX12_middleSum 66 = .ok (.if_icmp .le 13, 3) := by decide +kernel
theorem dX12_middleSum_69 : decode cX12_middleSum 69 = .ok (.aload_n 0, 1) := by decide +kernel
theorem dX12_middleSum_70 : decode cX12_middleSum 70 = .ok (.getfield 55, 3) := by decide +kernel
theorem dX12_middleSum_73 : decode cX12_middleSum 73 = .ok (.iload 4, 2) := by decide +kernel
theorem dX12_middleSum_75 : decode cX12_middleSum 75 = .ok (.iaload, 1) := by decide +kernel
theorem dX12_middleSum_76 : decode cX12_middleSum 76 = .ok (.goto 4, 3) := by decide +kernel
theorem dX12_middleSum_79 : decode cX12_middleSum 79 = .ok (.iload_n 3, 1) := by decide +kernel
theorem dX12_middleSum_80 : decode cX12_middleSum 80 = .ok (.istore_n 3, 1) := by decide +kernel
theorem dX12_middleSum_81 : decode cX12_middleSum 81 = .ok (.iinc 4 1, 3) := by decide +kernel
theorem dX12_middleSum_84 : decode cX12_middleSum 84 = .ok (.goto (-65), 3) := by decide +kernel
theorem dX12_middleSum_87 : decode cX12_middleSum 87 = .ok (.iload_n 1, 1) := by decide +kernel
theorem dX12_middleSum_88 : decode cX12_middleSum 88 = .ok (.iload_n 2, 1) := by decide +kernel
theorem dX12_middleSum_89 : decode cX12_middleSum 89 = .ok (.isub, 1) := by decide +kernel
theorem dX12_middleSum_90 : decode cX12_middleSum 90 = .ok (.iload_n 3, 1) := by decide +kernel
theorem dX12_middleSum_91 : decode cX12_middleSum 91 = .ok (.isub, 1) := by decide +kernel
theorem dX12_middleSum_92 : decode cX12_middleSum 92 = .ok (.ireturn, 1) := by decide +kernel
theorem dX12_middle_0 : decode cX12_middle 0 = .ok (.iload_n 1, 1) := by decide +kernel
theorem dX12_middle_1 : decode cX12_middle 1 = .ok (.iconst 2, 1) := by decide +kernel
theorem dX12_middle_2 : decode cX12_middle 2 = .ok (.invokestatic 61, 3) := by decide +kernel
theorem dX12_middle_5 : decode cX12_middle 5 = .ok (.ifCond .ne 10, 3) := by decide +kernel
theorem dX12_middle_8 : decode cX12_middle 8 = .ok (.aload_n 0, 1) := by decide +kernel
theorem dX12_middle_9 : decode cX12_middle 9 = .ok (.bipush (-2), 2) := by decide +kernel
theorem dX12_middle_11 : decode cX12_middle 11 = .ok (.invokevirtual 65, 3) := by decide +kernel
theorem dX12_middle_14 : decode cX12_middle 14 = .ok (.ireturn, 1) := by decide +kernel
theorem dX12_middle_15 : decode cX12_middle 15 = .ok (.aload_n 0, 1) := by decide +kernel
theorem dX12_middle_16 : decode cX12_middle 16 = .ok (.getfield 205, 3) := by decide +kernel
theorem dX12_middle_19 : decode cX12_middle 19 = .ok (.iconst 5, 1) := by decide +kernel
theorem dX12_middle_20 : decode cX12_middle 20 = .ok (.if_icmp .eq 10, 3) := by decide +kernel
theorem dX12_middle_23 : decode cX12_middle 23 = .ok (.aload_n 0, 1) := by decide +kernel
theorem dX12_middle_24 : decode cX12_middle 24 = .ok (.bipush (-3), 2) := by decide +kernel
theorem dX12_middle_26 : decode cX12_middle 26 = .ok (.invokevirtual 65, 3) := by decide +kernel
theorem dX12_middle_29 : decode cX12_middle 29 = .ok (.ireturn, 1) := by decide +kernel
theorem dX12_middle_30 : decode cX12_middle 30 = .ok (.aload_n 0, 1) := by decide +kernel
theorem dX12_middle_31 : decode cX12_middle 31 = .ok (.invokevirtual 208, 3) := by decide +kernel
theorem dX12_middle_34 : decode cX12_middle 34 = .ok (.istore_n 2, 1) := by decide +kernel
theorem dX12_middle_35 : decode cX12_middle 35 = .ok (.aload_n 0, 1) := by decide +kernel
theorem dX12_middle_36 : decode cX12_middle 36 = .ok (.iload_n 1, 1) := by decide +kernel
theorem dX12_middle_37 : decode cX12_middle 37 = .ok (.iconst 1, 1) := by decide +kernel
theorem dX12_middle_38 : decode cX12_middle 38 = .ok (.if_icmp .ne 7, 3) := by decide +kernel
theorem dX12_middle_41 : decode cX12_middle 41 = .ok (.iconst 0, 1) := by decide +kernel
theorem dX12_middle_42 : decode cX12_middle 42 = .ok (.goto 4, 3) := by decide +kernel
theorem dX12_middle_45 : decode cX12_middle 45 = .ok (.iconst 5, 1) := by decide +kernel
theorem dX12_middle_46 : decode cX12_middle 46 = .ok (.putfield 205, 3) := by decide +kernel
theorem dX12_middle_49 : decode cX12_middle 49 = .ok (.iload_n 1, 1) := by decide +kernel
theorem dX12_middle_50 : decode cX12_middle 50 = .ok (.ifCond .ne 19, 3) := by decide +kernel
theorem dX12_middle_53 : decode cX12_middle 53 = .ok (.iload_n 2, 1) := by decide +kernel
theorem dX12_middle_54 : decode cX12_middle 54 = .ok (.iconst 3, 1) := by decide +kernel
theorem dX12_middle_55 : decode cX12_middle 55 = .ok (.irem, 1) := by decide +kernel
theorem dX12_middle_56 : decode cX12_middle 56 = .ok (.ifCond .ne 9, 3) := by decide +kernel
theorem dX12_middle_59 : decode cX12_middle 59 = .ok (.iload_n 2, 1) := by decide +kernel
theorem dX12_middle_60 : decode cX12_middle 60 = .ok (.iconst 3, 1) := by decide +kernel
theorem dX12_middle_61 : decode cX12_middle 61 = .ok (.idiv, 1) := by decide +kernel
theorem dX12_middle_62 : decode cX12_middle 62 = .ok (.goto 18, 3) := by decide +kernel
theorem dX12_middle_65 : decode cX12_middle 65 = .ok (.iload_n 2, 1) := by decide +kernel
theorem dX12_middle_66 : decode cX12_middle 66 = .ok (.goto 14, 3) := by decide +kernel
theorem dX12_middle_69 : decode cX12_middle 69 = .ok (.iload_n 2, 1) := by decide +kernel
theorem dX12_middle_70 : decode cX12_middle 70 = .ok (.iconst 3, 1) := by decide +kernel
theorem dX12_middle_71 : decode cX12_middle 71 = .ok (.irem, 1) := by decide +kernel
theorem dX12_middle_72 : decode cX12_middle 72 = .ok (.ifCond .ne 7, 3) := by decide +kernel
theorem dX12_middle_75 : decode cX12_middle 75 = .ok (.iconst 1, 1) := by decide +kernel
theorem dX12_middle_76 : decode cX12_middle 76 = .ok (.goto 4, 3) := by decide +kernel
theorem dX12_middle_79 : decode cX12_middle 79 = .ok (.iconst 3, 1) := by decide +kernel
theorem dX12_middle_80 : decode cX12_middle 80 = .ok (.ireturn, 1) := by decide +kernel
theorem dX12_need_0 : decode cX12_need 0 = .ok (.iload_n 1, 1) := by decide +kernel
theorem dX12_need_1 : decode cX12_need 1 = .ok (.iconst 1, 1) := by decide +kernel
theorem dX12_need_2 : decode cX12_need 2 = .ok (.sipush 9999, 3) := by decide +kernel
theorem dX12_need_5 : decode cX12_need 5 = .ok (.invokestatic 129, 3) := by decide +kernel
theorem dX12_need_8 : decode cX12_need 8 = .ok (.istore_n 2, 1) := by decide +kernel
theorem dX12_need_9 : decode cX12_need 9 = .ok (.iload_n 2, 1) := by decide +kernel
theorem dX12_need_10 : decode cX12_need 10 = .ok (.ifCond .ne 14, 3) := by decide +kernel
theorem dX12_need_13 : decode cX12_need 13 = .ok (.aload_n 0, 1) := by decide +kernel
theorem dX12_need_14 : decode cX12_need 14 = .ok (.getfield 205, 3) := by decide +kernel
theorem dX12_need_17 : decode cX12_need 17 = .ok (.iconst 4, 1) := by decide +kernel
theorem dX12_need_18 : decode cX12_need 18 = .ok (.if_icmp .eq 6, 3) := by decide +kernel
theorem dX12_need_21 : decode cX12_need 21 = .ok (.bipush (-3), 2) := by decide +kernel
theorem dX12_need_23 : decode cX12_need 23 = .ok (.istore_n 2, 1) := by decide +kernel
theorem dX12_need_24 : decode cX12_need 24 = .ok (.iload_n 2, 1) := by decide +kernel
theorem dX12_need_25 : decode cX12_need 25 = .ok (.ifCond .eq 9, 3) := by decide +kernel
theorem dX12_need_28 : decode cX12_need 28 = .ok (.aload_n 0, 1) := by decide +kernel
theorem dX12_need_29 : decode cX12_need 29 = .ok (.iload_n 2, 1) := by decide +kernel
theorem dX12_need_30 : decode cX12_need 30 = .ok (.invokevirtual 65, 3) := by decide +kernel
theorem dX12_need_33 : decode cX12_need 33 = .ok (.ireturn, 1) := by decide +kernel
theorem dX12_need_34 : decode cX12_need 34 = .ok (.sipush 9999, 3) := by decide +kernel
theorem dX12_need_37 : decode cX12_need 37 = .ok (.istore_n 3, 1) := by decide +kernel
theorem dX12_need_38 : decode cX12_need 38 = .ok (.iload_n 3, 1) := by decide +kernel
theorem dX12_need_39 : decode cX12_need 39 = .ok (.ifCond .le 28, 3) := by decide +kernel
theorem dX12_need_42 : decode cX12_need 42 = .ok (.aload_n 0, 1) := by decide +kernel
theorem dX12_need_43 : decode cX12_need 43 = .ok (.getfield 55, 3) := by decide +kernel
theorem dX12_need_46 : decode cX12_need 46 = .ok (.iconst 4, 1) := by decide +kernel
theorem dX12_need_47 : decode cX12_need 47 = .ok (.iload_n 3, 1) := by decide +kernel
theorem dX12_need_48 : decode cX12_need 48 = .ok (.iastore, 1) := by decide +kernel
theorem dX12_need_49 : decode cX12_need 49 = .ok (.aload_n 0, 1) := by decide +kernel
theorem dX12_need_50 : decode cX12_need 50 = .ok (.invokevirtual 208, 3) := by decide +kernel
theorem dX12_need_53 : decode cX12_need 53 = .ok (.iconst 3, 1) := by decide +kernel
theorem dX12_need_54 : decode cX12_need 54 = .ok (.iload_n 1, 1) := by decide +kernel
theorem dX12_need_55 : decode cX12_need 55 = .ok (.imul, 1) := by decide +kernel
theorem dX12_need_56 : decode cX12_need 56 = .ok (.if_icmp .gt 5, 3) := by decide +kernel
theorem dX12_need_59 : decode cX12_need 59 = .ok (.iload_n 3, 1) := by decide +kernel
theorem dX12_need_60 : decode cX12_need 60 = .ok (.ireturn, 1) := by decide +kernel
theorem dX12_need_61 : decode cX12_need 61 = .ok (.iinc 3 (-1), 3) := by decide +kernel
theorem dX12_need_64 : decode cX12_need 64 = .ok (.goto (-26), 3) := by decide +kernel
theorem dX12_need_67 : decode cX12_need 67 = .ok (.bipush (-9), 2) := by decide +kernel
theorem dX12_need_69 : decode cX12_need 69 = .ok (.ireturn, 1) := by decide +kernel
theorem dX12_film_0 : decode cX12_film 0 = .ok (.iload_n 1, 1) := by decide +kernel
theorem dX12_film_1 : decode cX12_film 1 = .ok (.iconst 0, 1) := by decide +kernel
theorem dX12_film_2 : decode cX12_film 2 = .ok (.bipush 127, 2) := by decide +kernel
theorem dX12_film_4 : decode cX12_film 4 = .ok (.invokestatic 129, 3) := by decide +kernel
theorem dX12_film_7 : decode cX12_film 7 = .ok (.istore_n 2, 1) := by decide +kernel
theorem dX12_film_8 : decode cX12_film 8 = .ok (.iload_n 2, 1) := by decide +kernel
theorem dX12_film_9 : decode cX12_film 9 = .ok (.ifCond .ne 15, 3) := by decide +kernel
theorem dX12_film_12 : decode cX12_film 12 = .ok (.aload_n 0, 1) := by decide +kernel
theorem dX12_film_13 : decode cX12_film 13 = .ok (.getfield 211, 3) := by decide +kernel
theorem dX12_film_16 : decode cX12_film 16 = .ok (.bipush 8, 2) := by decide +kernel
theorem dX12_film_18 : decode cX12_film 18 = .ok (.if_icmp .ne 6, 3) := by decide +kernel
theorem dX12_film_21 : decode cX12_film 21 = .ok (.bipush (-6), 2) := by decide +kernel
theorem dX12_film_23 : decode cX12_film 23 = .ok (.istore_n 2, 1) := by decide +kernel
theorem dX12_film_24 : decode cX12_film 24 = .ok (.iload_n 2, 1) := by decide +kernel
theorem dX12_film_25 : decode cX12_film 25 = .ok (.ifCond .eq 9, 3) := by decide +kernel
theorem dX12_film_28 : decode cX12_film 28 = .ok (.aload_n 0, 1) := by decide +kernel
theorem dX12_film_29 : decode cX12_film 29 = .ok (.iload_n 2, 1) := by decide +kernel
theorem dX12_film_30 : decode cX12_film 30 = .ok (.invokevirtual 65, 3) := by decide +kernel
theorem dX12_film_33 : decode cX12_film 33 = .ok (.ireturn, 1) := by decide +kernel
theorem dX12_film_34 : decode cX12_film 34 = .ok (.aload_n 0, 1) := by decide +kernel
theorem dX12_film_35 : decode cX12_film 35 = .ok (.getfield 58, 3) := by decide +kernel
theorem dX12_film_38 : decode cX12_film 38 = .ok (.aload_n 0, 1) := by decide +kernel
theorem dX12_film_39 : decode cX12_film 39 = .ok (.getfield 211, 3) := by decide +kernel
theorem dX12_film_42 : decode cX12_film 42 = .ok (.iload_n 1, 1) := by decide +kernel
theorem dX12_film_43 : decode cX12_film 43 = .ok (.iastore, 1) := by decide +kernel
theorem dX12_film_44 : decode cX12_film 44 = .ok (.aload_n 0, 1) := by decide +kernel
theorem dX12_film_45 : decode cX12_film 45 = .ok (.dup, 1) := by decide +kernel
theorem dX12_film_46 : decode cX12_film 46 = .ok (.getfield 211, 3) := by decide +kernel
theorem dX12_film_49 : decode cX12_film 49 = .ok (.iconst 1, 1) := by decide +kernel
theorem dX12_film_50 : decode cX12_film 50 = .ok (.iadd, 1) := by decide +kernel
theorem dX12_film_51 : decode cX12_film 51 = .ok (.putfield 211, 3) := by decide +kernel
theorem dX12_film_54 : decode cX12_film 54 = .ok (.aload_n 0, 1) := by decide +kernel
theorem dX12_film_55 : decode cX12_film 55 = .ok (.getfield 211, 3) := by decide +kernel
theorem dX12_film_58 : decode cX12_film 58 = .ok (.ireturn, 1) := by decide +kernel
theorem dX12_held_0 : decode cX12_held 0 = .ok (.aload_n 0, 1) := by decide +kernel
theorem dX12_held_1 : decode cX12_held 1 = .ok (.iload_n 1, 1) := by decide +kernel
theorem dX12_held_2 : decode cX12_held 2 = .ok (.invokevirtual 106, 3) := by decide +kernel
theorem dX12_held_5 : decode cX12_held 5 = .ok (.ifCond .eq 13, 3) := by decide +kernel
theorem dX12_held_8 : decode cX12_held 8 = .ok (.iload_n 2, 1) := by decide +kernel
theorem dX12_held_9 : decode cX12_held 9 = .ok (.iconst 0, 1) := by decide +kernel
theorem dX12_held_10 : decode cX12_held 10 = .ok (.bipush 99, 2) := by decide +kernel
theorem dX12_held_12 : decode cX12_held 12 = .ok (.invokestatic 129, 3) := by decide +kernel
theorem dX12_held_15 : decode cX12_held 15 = .ok (.goto 4, 3) := by decide +kernel
theorem dX12_held_18 : decode cX12_held 18 = .ok (.iconst (-1), 1) := by decide +kernel
theorem dX12_held_19 : decode cX12_held 19 = .ok (.istore_n 3, 1) := by decide +kernel
theorem dX12_held_20 : decode cX12_held 20 = .ok (.iload_n 3, 1) := by decide +kernel
theorem dX12_held_21 : decode cX12_held 21 = .ok (.ifCond .eq 9, 3) := by decide +kernel
theorem dX12_held_24 : decode cX12_held 24 = .ok (.aload_n 0, 1) := by decide +kernel
theorem dX12_held_25 : decode cX12_held 25 = .ok (.iload_n 3, 1) := by decide +kernel
theorem dX12_held_26 : decode cX12_held 26 = .ok (.invokevirtual 65, 3) := by decide +kernel
theorem dX12_held_29 : decode cX12_held 29 = .ok (.ireturn, 1) := by decide +kernel
theorem dX12_held_30 : decode cX12_held 30 = .ok (.iconst 0, 1) := by decide +kernel
theorem dX12_held_31 : decode cX12_held 31 = .ok (.istore 4, 2) := by decide +kernel
theorem dX12_held_33 : decode cX12_held 33 = .ok (.iload 4, 2) := by decide +kernel
theorem dX12_held_35 : decode cX12_held 35 = .ok (.aload_n 0, 1) := by decide +kernel
theorem dX12_held_36 : decode cX12_held 36 = .ok (.iload_n 1, 1) := by decide +kernel
theorem dX12_held_37 : decode cX12_held 37 = .ok (.invokevirtual 109, 3) := by decide +kernel
theorem dX12_held_40 : decode cX12_held 40 = .ok (.if_icmp .ge 40, 3) := by decide +kernel
theorem dX12_held_43 : decode cX12_held 43 = .ok (.iload 4, 2) := by decide +kernel
theorem dX12_held_45 : decode cX12_held 45 = .ok (.aload_n 0, 1) := by decide +kernel
theorem dX12_held_46 : decode cX12_held 46 = .ok (.getfield 211, 3) := by decide +kernel
theorem dX12_held_49 : decode cX12_held 49 = .ok (.if_icmp .ge 22, 3) := by decide +kernel
theorem dX12_held_52 : decode cX12_held 52 = .ok (.aload_n 0, 1) := by decide +kernel
theorem dX12_held_53 : decode cX12_held 53 = .ok (.getfield 58, 3) := by decide +kernel
theorem dX12_held_56 : decode cX12_held 56 = .ok (.iload 4, 2) := by decide +kernel
theorem dX12_held_58 : decode cX12_held 58 = .ok (.iaload, 1) := by decide +kernel
theorem dX12_held_59 : decode cX12_held 59 = .ok (.aload_n 0, 1) := by decide +kernel
theorem dX12_held_60 : decode cX12_held 60 = .ok (.iload_n 1, 1) := by decide +kernel
theorem dX12_held_61 : decode cX12_held 61 = .ok (.iload 4, 2) := by decide +kernel
theorem dX12_held_63 : decode cX12_held 63 = .ok (.invokevirtual 143, 3) := by decide +kernel
theorem dX12_held_66 : decode cX12_held 66 = .ok (.iload_n 2, 1) := by decide +kernel
theorem dX12_held_67 : decode cX12_held 67 = .ok (.iadd, 1) := by decide +kernel
theorem dX12_held_68 : decode cX12_held 68 = .ok (.if_icmp .le 6, 3) := by decide +kernel
theorem dX12_held_71 : decode cX12_held 71 = .ok (.iload 4, 2) := by decide +kernel
theorem dX12_held_73 : decode cX12_held 73 = .ok (.ireturn, 1) := by decide +kernel
theorem dX12_held_74 : decode cX12_held 74 = .ok (.iinc 4 1, 3) := by decide +kernel
theorem dX12_held_77 : decode cX12_held 77 = .ok (.goto (-44), 3) := by decide +kernel
theorem dX12_held_80 : decode cX12_held 80 = .ok (.aload_n 0, 1) := by decide +kernel
theorem dX12_held_81 : decode cX12_held 81 = .ok (.getfield 211, 3) := by decide +kernel
theorem dX12_held_84 : decode cX12_held 84 = .ok (.aload_n 0, 1) := by decide +kernel
theorem dX12_held_85 : decode cX12_held 85 = .ok (.iload_n 1, 1) := by decide +kernel
theorem dX12_held_86 : decode cX12_held 86 = .ok (.invokevirtual 109, 3) := by decide +kernel
theorem dX12_held_89 : decode cX12_held 89 = .ok (.if_icmp .le 8, 3) := by decide +kernel
theorem dX12_held_92 : decode cX12_held 92 = .ok (.bipush 99, 2) := by decide +kernel
theorem dX12_held_94 : decode cX12_held 94 = .ok (.goto 5, 3) := by decide +kernel
theorem dX12_held_97 : decode cX12_held 97 = .ok (.bipush (-9), 2) := by decide +kernel
theorem dX12_held_99 : decode cX12_held 99 = .ok (.ireturn, 1) := by decide +kernel
theorem dX12_heldUp_0 : decode cX12_heldUp 0 = .ok (.aload_n 0, 1) := by decide +kernel
theorem dX12_heldUp_1 : decode cX12_heldUp 1 = .ok (.iload_n 1, 1) := by decide +kernel
theorem dX12_heldUp_2 : decode cX12_heldUp 2 = .ok (.invokevirtual 106, 3) := by decide +kernel
theorem dX12_heldUp_5 : decode cX12_heldUp 5 = .ok (.ifCond .ne 9, 3) := by decide +kernel
theorem dX12_heldUp_8 : decode cX12_heldUp 8 = .ok (.aload_n 0, 1) := by decide +kernel
theorem dX12_heldUp_9 : decode cX12_heldUp 9 = .ok (.iconst (-1), 1) := by decide +kernel
theorem dX12_heldUp_10 : decode cX12_heldUp 10 = .ok (.invokevirtual 65, 3) := by decide +kernel
theorem dX12_heldUp_13 : decode cX12_heldUp 13 = .ok (.ireturn, 1) := by decide +kernel
theorem dX12_heldUp_14 : decode cX12_heldUp 14 = .ok (.iconst 0, 1) := by decide +kernel
theorem dX12_heldUp_15 : decode cX12_heldUp 15 = .ok (.istore_n 2, 1) := by decide +kernel
theorem dX12_heldUp_16 : decode cX12_heldUp 16 = .ok (.iconst 0, 1) := by decide +kernel
theorem dX12_heldUp_17 : decode cX12_heldUp 17 = .ok (.istore_n 3, 1) := by decide +kernel
theorem dX12_heldUp_18 : decode cX12_heldUp 18 = .ok (.iload_n 3, 1) := by decide +kernel
theorem dX12_heldUp_19 : decode cX12_heldUp 19 = .ok (.aload_n 0, 1) := by decide +kernel
theorem dX12_heldUp_20 : decode cX12_heldUp 20 = .ok (.getfield 211, 3) := by decide +kernel
theorem dX12_heldUp_23 : decode cX12_heldUp 23 = .ok (.if_icmp .ge 57, 3) := by decide +kernel
theorem dX12_heldUp_26 : decode cX12_heldUp 26 = .ok (.iload_n 3, 1) := by decide +kernel
theorem dX12_heldUp_27 : decode cX12_heldUp 27 = .ok (.aload_n 0, 1) := by decide +kernel
theorem dX12_heldUp_28 : decode cX12_heldUp 28 = .ok (.iload_n 1, 1) := by decide +kernel
theorem dX12_heldUp_29 : decode cX12_heldUp 29 = .ok (.invokevirtual 109, 3) := by decide +kernel
theorem dX12_heldUp_32 : decode cX12_heldUp 32 = .ok (.if_icmp .ge 12, 3) := by decide +kernel
theorem dX12_heldUp_35 : decode cX12_heldUp 35 = .ok (.aload_n 0, 1) := by decide +kernel
theorem dX12_heldUp_36 : decode cX12_heldUp 36 = .ok (.iload_n 1, 1) := by decide +kernel
theorem dX12_heldUp_37 : decode cX12_heldUp 37 = .ok (.iload_n 3, 1) := by decide +kernel
theorem dX12_heldUp_38 : decode cX12_heldUp 38 = .ok (.invokevirtual 143, 3) := by decide +kernel
theorem dX12_heldUp_41 : decode cX12_heldUp 41 = .ok (.goto 4, 3) := by decide +kernel
theorem dX12_heldUp_44 : decode cX12_heldUp 44 = .ok (.iconst 0, 1) := by decide +kernel
theorem dX12_heldUp_45 : decode cX12_heldUp 45 = .ok (.istore 4, 2) := by decide +kernel
theorem dX12_heldUp_47 : decode cX12_heldUp 47 = .ok (.iload_n 2, 1) := by decide +kernel
theorem dX12_heldUp_48 : decode cX12_heldUp 48 = .ok (.aload_n 0, 1) := by decide +kernel
theorem dX12_heldUp_49 : decode cX12_heldUp 49 = .ok (.getfield 58, 3) := by decide +kernel
theorem dX12_heldUp_52 : decode cX12_heldUp 52 = .ok (.iload_n 3, 1) := by decide +kernel
theorem dX12_heldUp_53 : decode cX12_heldUp 53 = .ok (.iaload, 1) := by decide +kernel
theorem dX12_heldUp_54 : decode cX12_heldUp 54 = .ok (.iload 4, 2) := by decide +kernel
theorem dX12_heldUp_56 : decode cX12_heldUp 56 = .ok (.if_icmp .le 15, 3) := by decide +kernel
theorem dX12_heldUp_59 : decode cX12_heldUp 59 = .ok (.aload_n 0, 1) := by decide +kernel
theorem dX12_heldUp_60 : decode cX12_heldUp 60 = .ok (.getfield 58, 3) := by decide +kernel
theorem dX12_heldUp_63 : decode cX12_heldUp 63 = .ok (.iload_n 3, 1) := by decide +kernel
theorem dX12_heldUp_64 : decode cX12_heldUp 64 = .ok (.iaload, 1) := by decide +kernel
theorem dX12_heldUp_65 : decode cX12_heldUp 65 = .ok (.iload 4, 2) := by decide +kernel
theorem dX12_heldUp_67 : decode cX12_heldUp 67 = .ok (.isub, 1) := by decide +kernel
theorem dX12_heldUp_68 : decode cX12_heldUp 68 = .ok (.goto 4, 3) := by decide +kernel
theorem dX12_heldUp_71 : decode cX12_heldUp 71 = .ok (.iconst 0, 1) := by decide +kernel
theorem dX12_heldUp_72 : decode cX12_heldUp 72 = .ok (.iadd, 1) := by decide +kernel
theorem dX12_heldUp_73 : decode cX12_heldUp 73 = .ok (.istore_n 2, 1) := by decide +kernel
theorem dX12_heldUp_74 : decode cX12_heldUp 74 = .ok (.iinc 3 1, 3) := by decide +kernel
theorem dX12_heldUp_77 : decode cX12_heldUp 77 = .ok (.goto (-59), 3) := by decide +kernel
theorem dX12_heldUp_80 : decode cX12_heldUp 80 = .ok (.aload_n 0, 1) := by decide +kernel
theorem dX12_heldUp_81 : decode cX12_heldUp 81 = .ok (.iconst 0, 1) := by decide +kernel
theorem dX12_heldUp_82 : decode cX12_heldUp 82 = .ok (.putfield 211, 3) := by decide +kernel
theorem dX12_heldUp_85 : decode cX12_heldUp 85 = .ok (.iload_n 2, 1) := by decide +kernel
theorem dX12_heldUp_86 : decode cX12_heldUp 86 = .ok (.ireturn, 1) := by decide +kernel
theorem dX12_image_0 : decode cX12_image 0 = .ok (.iconst 0, 1) := by decide +kernel
theorem dX12_image_1 : decode cX12_image 1 = .ok (.istore_n 1, 1) := by decide +kernel
theorem dX12_image_2 : decode cX12_image 2 = .ok (.iload_n 1, 1) := by decide +kernel
theorem dX12_image_3 : decode cX12_image 3 = .ok (.sipush 197, 3) := by decide +kernel
theorem dX12_image_6 : decode cX12_image 6 = .ok (.if_icmp .ge 21, 3) := by decide +kernel
theorem dX12_image_9 : decode cX12_image 9 = .ok (.aload_n 0, 1) := by decide +kernel
theorem dX12_image_10 : decode cX12_image 10 = .ok (.getfield 16, 3) := by decide +kernel
theorem dX12_image_13 : decode cX12_image 13 = .ok (.iload_n 1, 1) := by decide +kernel
theorem dX12_image_14 : decode cX12_image 14 = .ok (.aload_n 0, 1) := by decide +kernel
theorem dX12_image_15 : decode cX12_image 15 = .ok (.getfield 13, 3) := by decide +kernel
theorem dX12_image_18 : decode cX12_image 18 = .ok (.iload_n 1, 1) := by decide +kernel
theorem dX12_image_19 : decode cX12_image 19 = .ok (.iaload, 1) := by decide +kernel
theorem dX12_image_20 : decode cX12_image 20 = .ok (.iastore, 1) := by decide +kernel
theorem dX12_image_21 : decode cX12_image 21 = .ok (.iinc 1 1, 3) := by decide +kernel
theorem dX12_image_24 : decode cX12_image 24 = .ok (.goto (-22), 3) := by decide +kernel
theorem dX12_image_27 : decode cX12_image 27 = .ok (.aload_n 0, 1) := by decide +kernel
theorem dX12_image_28 : decode cX12_image 28 = .ok (.iconst 1, 1) := by decide +kernel
theorem dX12_image_29 : decode cX12_image 29 = .ok (.putfield 214, 3) := by decide +kernel
theorem dX12_image_32 : decode cX12_image 32 = .ok (.aload_n 0, 1) := by decide +kernel
theorem dX12_image_33 : decode cX12_image 33 = .ok (.getfield 13, 3) := by decide +kernel
theorem dX12_image_36 : decode cX12_image 36 = .ok (.iconst 1, 1) := by decide +kernel
theorem dX12_image_37 : decode cX12_image 37 = .ok (.iaload, 1) := by decide +kernel
theorem dX12_image_38 : decode cX12_image 38 = .ok (.ireturn, 1) := by decide +kernel
theorem dX12_on_0 : decode cX12_on 0 = .ok (.aload_n 0, 1) := by decide +kernel
theorem dX12_on_1 : decode cX12_on 1 = .ok (.getfield 214, 3) := by decide +kernel
theorem dX12_on_4 : decode cX12_on 4 = .ok (.ifCond .ne 10, 3) := by decide +kernel
theorem dX12_on_7 : decode cX12_on 7 = .ok (.aload_n 0, 1) := by decide +kernel
theorem dX12_on_8 : decode cX12_on 8 = .ok (.bipush (-3), 2) := by decide +kernel
theorem dX12_on_10 : decode cX12_on 10 = .ok (.invokevirtual 65, 3) := by decide +kernel
theorem dX12_on_13 : decode cX12_on 13 = .ok (.ireturn, 1) := by decide +kernel
theorem dX12_on_14 : decode cX12_on 14 = .ok (.iconst 0, 1) := by decide +kernel
theorem dX12_on_15 : decode cX12_on 15 = .ok (.istore_n 1, 1) := by decide +kernel
theorem dX12_on_16 : decode cX12_on 16 = .ok (.iload_n 1, 1) := by decide +kernel
theorem dX12_on_17 : decode cX12_on 17 = .ok (.sipush 197, 3) := by decide +kernel
theorem dX12_on_20 : decode cX12_on 20 = .ok (.if_icmp .ge 21, 3) := by decide +kernel
theorem dX12_on_23 : decode cX12_on 23 = .ok (.aload_n 0, 1) := by decide +kernel
theorem dX12_on_24 : decode cX12_on 24 = .ok (.getfield 13, 3) := by decide +kernel
theorem dX12_on_27 : decode cX12_on 27 = .ok (.iload_n 1, 1) := by decide +kernel
theorem dX12_on_28 : decode cX12_on 28 = .ok (.aload_n 0, 1) := by decide +kernel
theorem dX12_on_29 : decode cX12_on 29 = .ok (.getfield 16, 3) := by decide +kernel
theorem dX12_on_32 : decode cX12_on 32 = .ok (.iload_n 1, 1) := by decide +kernel
theorem dX12_on_33 : decode cX12_on 33 = .ok (.iaload, 1) := by decide +kernel
theorem dX12_on_34 : decode cX12_on 34 = .ok (.iastore, 1) := by decide +kernel
theorem dX12_on_35 : decode cX12_on 35 = .ok (.iinc 1 1, 3) := by decide +kernel
theorem dX12_on_38 : decode cX12_on 38 = .ok (.goto (-22), 3) := by decide +kernel
theorem dX12_on_41 : decode cX12_on 41 = .ok (.aload_n 0, 1) := by decide +kernel
theorem dX12_on_42 : decode cX12_on 42 = .ok (.getfield 13, 3) := by decide +kernel
theorem dX12_on_45 : decode cX12_on 45 = .ok (.iconst 1, 1) := by decide +kernel
theorem dX12_on_46 : decode cX12_on 46 = .ok (.iaload, 1) := by decide +kernel
theorem dX12_on_47 : decode cX12_on 47 = .ok (.ireturn, 1) := by decide +kernel
theorem dX12_count_0 : decode cX12_count 0 = .ok (.iload_n 1, 1) := by decide +kernel
theorem dX12_count_1 : decode cX12_count 1 = .ok (.bipush 10, 2) := by decide +kernel
theorem dX12_count_3 : decode cX12_count 3 = .ok (.if_icmp .le 19, 3) := by decide +kernel
theorem dX12_count_6 : decode cX12_count 6 = .ok (.iload_n 1, 1) := by decide +kernel
theorem dX12_count_7 : decode cX12_count 7 = .ok (.bipush 17, 2) := by decide +kernel
theorem dX12_count_9 : decode cX12_count 9 = .ok (.if_icmp .ge 13, 3) := by decide +kernel
theorem dX12_count_12 : decode cX12_count 12 = .ok (.aload_n 0, 1) := by decide +kernel
theorem dX12_count_13 : decode cX12_count 13 = .ok (.getfield 7, 3) := by decide +kernel
theorem dX12_count_16 : decode cX12_count 16 = .ok (.iload_n 1, 1) := by decide +kernel
theorem dX12_count_17 : decode cX12_count 17 = .ok (.bipush 10, 2) := by decide +kernel
theorem dX12_count_19 : decode cX12_count 19 = .ok (.isub, 1) := by decide +kernel
theorem dX12_count_20 : decode cX12_count 20 = .ok (.iaload, 1) := by decide +kernel
theorem dX12_count_21 : decode cX12_count 21 = .ok (.ireturn, 1) := by decide +kernel
theorem dX12_count_22 : decode cX12_count 22 = .ok (.iconst 0, 1) := by decide +kernel
theorem dX12_count_23 : decode cX12_count 23 = .ok (.istore_n 2, 1) := by decide +kernel
theorem dX12_count_24 : decode cX12_count 24 = .ok (.iload_n 1, 1) := by decide +kernel
theorem dX12_count_25 : decode cX12_count 25 = .ok (.tableswitch 101 0 6 #[43, 43, 43, 50, 86, 91, 96], 43) := by decide +kernel
theorem dX12_count_68 : decode cX12_count 68 = .ok (.aload_n 0, 1) := by decide +kernel
theorem dX12_count_69 : decode cX12_count 69 = .ok (.getfield 13, 3) := by decide +kernel
theorem dX12_count_72 : decode cX12_count 72 = .ok (.iload_n 1, 1) := by decide +kernel
theorem dX12_count_73 : decode cX12_count 73 = .ok (.iaload, 1) := by decide +kernel
theorem dX12_count_74 : decode cX12_count 74 = .ok (.ireturn, 1) := by decide +kernel
theorem dX12_count_75 : decode cX12_count 75 = .ok (.iconst 0, 1) := by decide +kernel
theorem dX12_count_76 : decode cX12_count 76 = .ok (.istore_n 3, 1) := by decide +kernel
theorem dX12_count_77 : decode cX12_count 77 = .ok (.iload_n 3, 1) := by decide +kernel
theorem dX12_count_78 : decode cX12_count 78 = .ok (.bipush 6, 2) := by decide +kernel
theorem dX12_count_80 : decode cX12_count 80 = .ok (.if_icmp .ge 29, 3) := by decide +kernel
theorem dX12_count_83 : decode cX12_count 83 = .ok (.iload_n 2, 1) := by decide +kernel
theorem dX12_count_84 : decode cX12_count 84 = .ok (.aload_n 0, 1) := by decide +kernel
theorem dX12_count_85 : decode cX12_count 85 = .ok (.getfield 13, 3) := by decide +kernel
theorem dX12_count_88 : decode cX12_count 88 = .ok (.iconst 5, 1) := by decide +kernel
theorem dX12_count_89 : decode cX12_count 89 = .ok (.iload_n 3, 1) := by decide +kernel
theorem dX12_count_90 : decode cX12_count 90 = .ok (.iadd, 1) := by decide +kernel
theorem dX12_count_91 : decode cX12_count 91 = .ok (.iaload, 1) := by decide +kernel
theorem dX12_count_92 : decode cX12_count 92 = .ok (.iload_n 3, 1) := by decide +kernel
theorem dX12_count_93 : decode cX12_count 93 = .ok (.if_icmp .ne 7, 3) := by decide +kernel
theorem dX12_count_96 : decode cX12_count 96 = .ok (.iconst 1, 1) := by decide +kernel
theorem dX12_count_97 : decode cX12_count 97 = .ok (.goto 4, 3) := by decide +kernel
theorem dX12_count_100 : decode cX12_count 100 = .ok (.iconst 0, 1) := by decide +kernel
theorem dX12_count_101 : decode cX12_count 101 = .ok (.iadd, 1) := by decide +kernel
theorem dX12_count_102 : decode cX12_count 102 = .ok (.istore_n 2, 1) := by decide +kernel
theorem dX12_count_103 : decode cX12_count 103 = .ok (.iinc 3 1, 3) := by decide +kernel
theorem dX12_count_106 : decode cX12_count 106 = .ok (.goto (-29), 3) := by decide +kernel
theorem dX12_count_109 : decode cX12_count 109 = .ok (.iload_n 2, 1) := by decide +kernel
theorem dX12_count_110 : decode cX12_count 110 = .ok (.ireturn, 1) := by decide +kernel
theorem dX12_count_111 : decode cX12_count 111 = .ok (.aload_n 0, 1) := by decide +kernel
theorem dX12_count_112 : decode cX12_count 112 = .ok (.getfield 205, 3) := by decide +kernel
theorem dX12_count_115 : decode cX12_count 115 = .ok (.ireturn, 1) := by decide +kernel
theorem dX12_count_116 : decode cX12_count 116 = .ok (.aload_n 0, 1) := by decide +kernel
theorem dX12_count_117 : decode cX12_count 117 = .ok (.getfield 211, 3) := by decide +kernel
theorem dX12_count_120 : decode cX12_count 120 = .ok (.ireturn, 1) := by decide +kernel
theorem dX12_count_121 : decode cX12_count 121 = .ok (.aload_n 0, 1) := by decide +kernel
theorem dX12_count_122 : decode cX12_count 122 = .ok (.getfield 69, 3) := by decide +kernel
theorem dX12_count_125 : decode cX12_count 125 = .ok (.ireturn, 1) := by decide +kernel
theorem dX12_count_126 : decode cX12_count 126 = .ok (.bipush (-9), 2) := by decide +kernel
theorem dX12_count_128 : decode cX12_count 128 = .ok (.ireturn, 1) := by decide +kernel
theorem dJ6_bitCount_0f7a4_0 : decode cJ6_bitCount_0f7a4 0 = .ok (.iload_n 0, 1) := by decide +kernel
theorem dJ6_bitCount_0f7a4_1 : decode cJ6_bitCount_0f7a4 1 = .ok (.iload_n 0, 1) := by decide +kernel
theorem dJ6_bitCount_0f7a4_2 : decode cJ6_bitCount_0f7a4 2 = .ok (.iconst 1, 1) := by decide +kernel
theorem dJ6_bitCount_0f7a4_3 : decode cJ6_bitCount_0f7a4 3 = .ok (.iushr, 1) := by decide +kernel
theorem dJ6_bitCount_0f7a4_4 : decode cJ6_bitCount_0f7a4 4 = .ok (.ldc_w 265, 3) := by decide +kernel
theorem dJ6_bitCount_0f7a4_7 : decode cJ6_bitCount_0f7a4 7 = .ok (.iand, 1) := by decide +kernel
theorem dJ6_bitCount_0f7a4_8 : decode cJ6_bitCount_0f7a4 8 = .ok (.isub, 1) := by decide +kernel
theorem dJ6_bitCount_0f7a4_9 : decode cJ6_bitCount_0f7a4 9 = .ok (.istore_n 0, 1) := by decide +kernel
theorem dJ6_bitCount_0f7a4_10 : decode cJ6_bitCount_0f7a4 10 = .ok (.iload_n 0, 1) := by decide +kernel
theorem dJ6_bitCount_0f7a4_11 : decode cJ6_bitCount_0f7a4 11 = .ok (.ldc_w 266, 3) := by decide +kernel
theorem dJ6_bitCount_0f7a4_14 : decode cJ6_bitCount_0f7a4 14 = .ok (.iand, 1) := by decide +kernel
theorem dJ6_bitCount_0f7a4_15 : decode cJ6_bitCount_0f7a4 15 = .ok (.iload_n 0, 1) := by decide +kernel
theorem dJ6_bitCount_0f7a4_16 : decode cJ6_bitCount_0f7a4 16 = .ok (.iconst 2, 1) := by decide +kernel
theorem dJ6_bitCount_0f7a4_17 : decode cJ6_bitCount_0f7a4 17 = .ok (.iushr, 1) := by decide +kernel
theorem dJ6_bitCount_0f7a4_18 : decode cJ6_bitCount_0f7a4 18 = .ok (.ldc_w 266, 3) := by decide +kernel
theorem dJ6_bitCount_0f7a4_21 : decode cJ6_bitCount_0f7a4 21 = .ok (.iand, 1) := by decide +kernel
theorem dJ6_bitCount_0f7a4_22 : decode cJ6_bitCount_0f7a4 22 = .ok (.iadd, 1) := by decide +kernel
theorem dJ6_bitCount_0f7a4_23 : decode cJ6_bitCount_0f7a4 23 = .ok (.istore_n 0, 1) := by decide +kernel
theorem dJ6_bitCount_0f7a4_24 : decode cJ6_bitCount_0f7a4 24 = .ok (.iload_n 0, 1) := by decide +kernel
theorem dJ6_bitCount_0f7a4_25 : decode cJ6_bitCount_0f7a4 25 = .ok (.iload_n 0, 1) := by decide +kernel
theorem dJ6_bitCount_0f7a4_26 : decode cJ6_bitCount_0f7a4 26 = .ok (.iconst 4, 1) := by decide +kernel
theorem dJ6_bitCount_0f7a4_27 : decode cJ6_bitCount_0f7a4 27 = .ok (.iushr, 1) := by decide +kernel
theorem dJ6_bitCount_0f7a4_28 : decode cJ6_bitCount_0f7a4 28 = .ok (.iadd, 1) := by decide +kernel
theorem dJ6_bitCount_0f7a4_29 : decode cJ6_bitCount_0f7a4 29 = .ok (.ldc_w 267, 3) := by decide +kernel
theorem dJ6_bitCount_0f7a4_32 : decode cJ6_bitCount_0f7a4 32 = .ok (.iand, 1) := by decide +kernel
theorem dJ6_bitCount_0f7a4_33 : decode cJ6_bitCount_0f7a4 33 = .ok (.istore_n 0, 1) := by decide +kernel
theorem dJ6_bitCount_0f7a4_34 : decode cJ6_bitCount_0f7a4 34 = .ok (.iload_n 0, 1) := by decide +kernel
theorem dJ6_bitCount_0f7a4_35 : decode cJ6_bitCount_0f7a4 35 = .ok (.iload_n 0, 1) := by decide +kernel
theorem dJ6_bitCount_0f7a4_36 : decode cJ6_bitCount_0f7a4 36 = .ok (.bipush 8, 2) := by decide +kernel
theorem dJ6_bitCount_0f7a4_38 : decode cJ6_bitCount_0f7a4 38 = .ok (.iushr, 1) := by decide +kernel
theorem dJ6_bitCount_0f7a4_39 : decode cJ6_bitCount_0f7a4 39 = .ok (.iadd, 1) := by decide +kernel
theorem dJ6_bitCount_0f7a4_40 : decode cJ6_bitCount_0f7a4 40 = .ok (.istore_n 0, 1) := by decide +kernel
theorem dJ6_bitCount_0f7a4_41 : decode cJ6_bitCount_0f7a4 41 = .ok (.iload_n 0, 1) := by decide +kernel
theorem dJ6_bitCount_0f7a4_42 : decode cJ6_bitCount_0f7a4 42 = .ok (.iload_n 0, 1) := by decide +kernel
theorem dJ6_bitCount_0f7a4_43 : decode cJ6_bitCount_0f7a4 43 = .ok (.bipush 16, 2) := by decide +kernel
theorem dJ6_bitCount_0f7a4_45 : decode cJ6_bitCount_0f7a4 45 = .ok (.iushr, 1) := by decide +kernel
theorem dJ6_bitCount_0f7a4_46 : decode cJ6_bitCount_0f7a4 46 = .ok (.iadd, 1) := by decide +kernel
theorem dJ6_bitCount_0f7a4_47 : decode cJ6_bitCount_0f7a4 47 = .ok (.istore_n 0, 1) := by decide +kernel
theorem dJ6_bitCount_0f7a4_48 : decode cJ6_bitCount_0f7a4 48 = .ok (.iload_n 0, 1) := by decide +kernel
theorem dJ6_bitCount_0f7a4_49 : decode cJ6_bitCount_0f7a4 49 = .ok (.bipush 63, 2) := by decide +kernel
theorem dJ6_bitCount_0f7a4_51 : decode cJ6_bitCount_0f7a4 51 = .ok (.iand, 1) := by decide +kernel
theorem dJ6_bitCount_0f7a4_52 : decode cJ6_bitCount_0f7a4 52 = .ok (.ireturn, 1) := by decide +kernel
theorem dJ9_max_7cf53_0 : decode cJ9_max_7cf53 0 = .ok (.iload_n 0, 1) := by decide +kernel
theorem dJ9_max_7cf53_1 : decode cJ9_max_7cf53 1 = .ok (.iload_n 1, 1) := by decide +kernel
theorem dJ9_max_7cf53_2 : decode cJ9_max_7cf53 2 = .ok (.if_icmp .lt 7, 3) := by decide +kernel
theorem dJ9_max_7cf53_5 : decode cJ9_max_7cf53 5 = .ok (.iload_n 0, 1) := by decide +kernel
theorem dJ9_max_7cf53_6 : decode cJ9_max_7cf53 6 = .ok (.goto 4, 3) := by decide +kernel
theorem dJ9_max_7cf53_9 : decode cJ9_max_7cf53 9 = .ok (.iload_n 1, 1) := by decide +kernel
theorem dJ9_max_7cf53_10 : decode cJ9_max_7cf53 10 = .ok (.ireturn, 1) := by decide +kernel
theorem dJ9_min_7cf53_0 : decode cJ9_min_7cf53 0 = .ok (.iload_n 0, 1) := by decide +kernel
theorem dJ9_min_7cf53_1 : decode cJ9_min_7cf53 1 = .ok (.iload_n 1, 1) := by decide +kernel
theorem dJ9_min_7cf53_2 : decode cJ9_min_7cf53 2 = .ok (.if_icmp .gt 7, 3) := by decide +kernel
theorem dJ9_min_7cf53_5 : decode cJ9_min_7cf53 5 = .ok (.iload_n 0, 1) := by decide +kernel
theorem dJ9_min_7cf53_6 : decode cJ9_min_7cf53 6 = .ok (.goto 4, 3) := by decide +kernel
theorem dJ9_min_7cf53_9 : decode cJ9_min_7cf53 9 = .ok (.iload_n 1, 1) := by decide +kernel
theorem dJ9_min_7cf53_10 : decode cJ9_min_7cf53 10 = .ok (.ireturn, 1) := by decide +kernel
theorem dL_law_0 : decode cL_law 0 = .ok (.new 7, 3) := by decide +kernel
theorem dL_law_3 : decode cL_law 3 = .ok (.dup, 1) := by decide +kernel
theorem dL_law_4 : decode cL_law 4 = .ok (.invokespecial 9, 3) := by decide +kernel
theorem dL_law_7 : decode cL_law 7 = .ok (.astore_n 1, 1) := by decide +kernel
theorem dL_law_8 : decode cL_law 8 = .ok (.new 10, 3) := by decide +kernel
theorem dL_law_11 : decode cL_law 11 = .ok (.dup, 1) := by decide +kernel
theorem dL_law_12 : decode cL_law 12 = .ok (.invokespecial 12, 3) := by decide +kernel
theorem dL_law_15 : decode cL_law 15 = .ok (.astore_n 2, 1) := by decide +kernel
theorem dL_law_16 : decode cL_law 16 = .ok (.iconst 0, 1) := by decide +kernel
theorem dL_law_17 : decode cL_law 17 = .ok (.istore_n 3, 1) := by decide +kernel
theorem dL_law_18 : decode cL_law 18 = .ok (.iload_n 3, 1) := by decide +kernel
theorem dL_law_19 : decode cL_law 19 = .ok (.aload_n 0, 1) := by decide +kernel
theorem dL_law_20 : decode cL_law 20 = .ok (.arraylength, 1) := by decide +kernel
theorem dL_law_21 : decode cL_law 21 = .ok (.iconst 4, 1) := by decide +kernel
theorem dL_law_22 : decode cL_law 22 = .ok (.isub, 1) := by decide +kernel
theorem dL_law_23 : decode cL_law 23 = .ok (.if_icmp .gt 1255, 3) := by decide +kernel
theorem dL_law_26 : decode cL_law 26 = .ok (.aload_n 0, 1) := by decide +kernel
theorem dL_law_27 : decode cL_law 27 = .ok (.iload_n 3, 1) := by decide +kernel
theorem dL_law_28 : decode cL_law 28 = .ok (.iaload, 1) := by decide +kernel
theorem dL_law_29 : decode cL_law 29 = .ok (.bipush 63, 2) := by decide +kernel
theorem dL_law_31 : decode cL_law 31 = .ok (.iand, 1) := by decide +kernel
theorem dL_law_32 : decode cL_law 32 = .ok (.tableswitch 1240 0 41 #[184, 247, 260, 273, 306, 339, 372, 395, 418, 441, 464, 487, 510, 553, 596, 629, 662, 685, 708, 741, 774, 797, 810, 823, 856, 869, 892, 905, 918, 951, 984, 1007, 1020, 1043, 1066, 1089, 1112, 1135, 1168, 1191, 1204, 1217], 184) := by decide +kernel
theorem dL_law_216 : decode cL_law 216 = .ok (.aload_n 1, 1) := by decide +kernel
theorem dL_law_217 : decode cL_law 217 = .ok (.aload_n 0, 1) := by decide +kernel
theorem dL_law_218 : decode cL_law 218 = .ok (.iload_n 3, 1) := by decide +kernel
theorem dL_law_219 : decode cL_law 219 = .ok (.iconst 1, 1) := by decide +kernel
theorem dL_law_220 : decode cL_law 220 = .ok (.iadd, 1) := by decide +kernel
theorem dL_law_221 : decode cL_law 221 = .ok (.iaload, 1) := by decide +kernel
theorem dL_law_222 : decode cL_law 222 = .ok (.aload_n 0, 1) := by decide +kernel
theorem dL_law_223 : decode cL_law 223 = .ok (.iload_n 3, 1) := by decide +kernel
theorem dL_law_224 : decode cL_law 224 = .ok (.iconst 2, 1) := by decide +kernel
theorem dL_law_225 : decode cL_law 225 = .ok (.iadd, 1) := by decide +kernel
theorem dL_law_226 : decode cL_law 226 = .ok (.iaload, 1) := by decide +kernel
theorem dL_law_227 : decode cL_law 227 = .ok (.i2l, 1) := by decide +kernel
theorem dL_law_228 : decode cL_law 228 = .ok (.bipush 32, 2) := by decide +kernel
theorem dL_law_230 : decode cL_law 230 = .ok (.lshl, 1) := by decide +kernel
theorem dL_law_231 : decode cL_law 231 = .ok (.aload_n 0, 1) := by decide +kernel
theorem dL_law_232 : decode cL_law 232 = .ok (.iload_n 3, 1) := by decide +kernel
theorem dL_law_233 : decode cL_law 233 = .ok (.iconst 3, 1) := by decide +kernel
theorem dL_law_234 : decode cL_law 234 = .ok (.iadd, 1) := by decide +kernel
theorem dL_law_235 : decode cL_law 235 = .ok (.iaload, 1) := by decide +kernel
theorem dL_law_236 : decode cL_law 236 = .ok (.i2l, 1) := by decide +kernel
theorem dL_law_237 : decode cL_law 237 = .ok (.ldc2_w 13, 3) := by decide +kernel
theorem dL_law_240 : decode cL_law 240 = .ok (.land, 1) := by decide +kernel
theorem dL_law_241 : decode cL_law 241 = .ok (.lor, 1) := by decide +kernel
theorem dL_law_242 : decode cL_law 242 = .ok (.invokevirtual 15, 3) := by decide +kernel
theorem dL_law_245 : decode cL_law 245 = .ok (.aload_n 2, 1) := by decide +kernel
theorem dL_law_246 : decode cL_law 246 = .ok (.aload_n 0, 1) := by decide +kernel
theorem dL_law_247 : decode cL_law 247 = .ok (.iload_n 3, 1) := by decide +kernel
theorem dL_law_248 : decode cL_law 248 = .ok (.iconst 1, 1) := by decide +kernel
theorem dL_law_249 : decode cL_law 249 = .ok (.iadd, 1) := by decide +kernel
theorem dL_law_250 : decode cL_law 250 = .ok (.iaload, 1) := by decide +kernel
theorem dL_law_251 : decode cL_law 251 = .ok (.aload_n 0, 1) := by decide +kernel
theorem dL_law_252 : decode cL_law 252 = .ok (.iload_n 3, 1) := by decide +kernel
theorem dL_law_253 : decode cL_law 253 = .ok (.iconst 2, 1) := by decide +kernel
theorem dL_law_254 : decode cL_law 254 = .ok (.iadd, 1) := by decide +kernel
theorem dL_law_255 : decode cL_law 255 = .ok (.iaload, 1) := by decide +kernel
theorem dL_law_256 : decode cL_law 256 = .ok (.i2l, 1) := by decide +kernel
theorem dL_law_257 : decode cL_law 257 = .ok (.bipush 32, 2) := by decide +kernel
theorem dL_law_259 : decode cL_law 259 = .ok (.lshl, 1) := by decide +kernel
theorem dL_law_260 : decode cL_law 260 = .ok (.aload_n 0, 1) := by decide +kernel
theorem dL_law_261 : decode cL_law 261 = .ok (.iload_n 3, 1) := by decide +kernel
theorem dL_law_262 : decode cL_law 262 = .ok (.iconst 3, 1) := by decide +kernel
theorem dL_law_263 : decode cL_law 263 = .ok (.iadd, 1) := by decide +kernel
theorem dL_law_264 : decode cL_law 264 = .ok (.iaload, 1) := by decide +kernel
theorem dL_law_265 : decode cL_law 265 = .ok (.i2l, 1) := by decide +kernel
theorem dL_law_266 : decode cL_law 266 = .ok (.ldc2_w 13, 3) := by decide +kernel
theorem dL_law_269 : decode cL_law 269 = .ok (.land, 1) := by decide +kernel
theorem dL_law_270 : decode cL_law 270 = .ok (.lor, 1) := by decide +kernel
theorem dL_law_271 : decode cL_law 271 = .ok (.invokevirtual 19, 3) := by decide +kernel
theorem dL_law_274 : decode cL_law 274 = .ok (.if_icmp .eq 998, 3) := by decide +kernel
theorem dL_law_277 : decode cL_law 277 = .ok (.iconst 0, 1) := by decide +kernel
theorem dL_law_278 : decode cL_law 278 = .ok (.ireturn, 1) := by decide +kernel
theorem dL_law_279 : decode cL_law 279 = .ok (.aload_n 1, 1) := by decide +kernel
theorem dL_law_280 : decode cL_law 280 = .ok (.invokevirtual 20, 3) := by decide +kernel
theorem dL_law_283 : decode cL_law 283 = .ok (.aload_n 2, 1) := by decide +kernel
theorem dL_law_284 : decode cL_law 284 = .ok (.invokevirtual 24, 3) := by decide +kernel
theorem dL_law_287 : decode cL_law 287 = .ok (.if_icmp .eq 985, 3) := by decide +kernel
theorem dL_law_290 : decode cL_law 290 = .ok (.iconst 0, 1) := by decide +kernel
theorem dL_law_291 : decode cL_law 291 = .ok (.ireturn, 1) := by decide +kernel
theorem dL_law_292 : decode cL_law 292 = .ok (.aload_n 1, 1) := by decide +kernel
theorem dL_law_293 : decode cL_law 293 = .ok (.invokevirtual 25, 3) := by decide +kernel
theorem dL_law_296 : decode cL_law 296 = .ok (.aload_n 2, 1) := by decide +kernel
theorem dL_law_297 : decode cL_law 297 = .ok (.invokevirtual 28, 3) := by decide +kernel
theorem dL_law_300 : decode cL_law 300 = .ok (.if_icmp .eq 972, 3) := by decide +kernel
theorem dL_law_303 : decode cL_law 303 = .ok (.iconst 0, 1) := by decide +kernel
theorem dL_law_304 : decode cL_law 304 = .ok (.ireturn, 1) := by decide +kernel
theorem dL_law_305 : decode cL_law 305 = .ok (.aload_n 1, 1) := by decide +kernel
theorem dL_law_306 : decode cL_law 306 = .ok (.aload_n 0, 1) := by decide +kernel
theorem dL_law_307 : decode cL_law 307 = .ok (.iload_n 3, 1) := by decide +kernel
theorem dL_law_308 : decode cL_law 308 = .ok (.iconst 1, 1) := by decide +kernel
theorem dL_law_309 : decode cL_law 309 = .ok (.iadd, 1) := by decide +kernel
theorem dL_law_310 : decode cL_law 310 = .ok (.iaload, 1) := by decide +kernel
theorem dL_law_311 : decode cL_law 311 = .ok (.aload_n 0, 1) := by decide +kernel
theorem dL_law_312 : decode cL_law 312 = .ok (.iload_n 3, 1) := by decide +kernel
theorem dL_law_313 : decode cL_law 313 = .ok (.iconst 2, 1) := by decide +kernel
theorem dL_law_314 : decode cL_law 314 = .ok (.iadd, 1) := by decide +kernel
theorem dL_law_315 : decode cL_law 315 = .ok (.iaload, 1) := by decide +kernel
theorem dL_law_316 : decode cL_law 316 = .ok (.invokevirtual 29, 3) := by decide +kernel
theorem dL_law_319 : decode cL_law 319 = .ok (.aload_n 2, 1) := by decide +kernel
theorem dL_law_320 : decode cL_law 320 = .ok (.aload_n 0, 1) := by decide +kernel
theorem dL_law_321 : decode cL_law 321 = .ok (.iload_n 3, 1) := by decide +kernel
theorem dL_law_322 : decode cL_law 322 = .ok (.iconst 1, 1) := by decide +kernel
theorem dL_law_323 : decode cL_law 323 = .ok (.iadd, 1) := by decide +kernel
theorem dL_law_324 : decode cL_law 324 = .ok (.iaload, 1) := by decide +kernel
theorem dL_law_325 : decode cL_law 325 = .ok (.aload_n 0, 1) := by decide +kernel
theorem dL_law_326 : decode cL_law 326 = .ok (.iload_n 3, 1) := by decide +kernel
theorem dL_law_327 : decode cL_law 327 = .ok (.iconst 2, 1) := by decide +kernel
theorem dL_law_328 : decode cL_law 328 = .ok (.iadd, 1) := by decide +kernel
theorem dL_law_329 : decode cL_law 329 = .ok (.iaload, 1) := by decide +kernel
theorem dL_law_330 : decode cL_law 330 = .ok (.invokevirtual 33, 3) := by decide +kernel
theorem dL_law_333 : decode cL_law 333 = .ok (.if_icmp .eq 939, 3) := by decide +kernel
theorem dL_law_336 : decode cL_law 336 = .ok (.iconst 0, 1) := by decide +kernel
theorem dL_law_337 : decode cL_law 337 = .ok (.ireturn, 1) := by decide +kernel
theorem dL_law_338 : decode cL_law 338 = .ok (.aload_n 1, 1) := by decide +kernel
theorem dL_law_339 : decode cL_law 339 = .ok (.aload_n 0, 1) := by decide +kernel
theorem dL_law_340 : decode cL_law 340 = .ok (.iload_n 3, 1) := by decide +kernel
theorem dL_law_341 : decode cL_law 341 = .ok (.iconst 1, 1) := by decide +kernel
theorem dL_law_342 : decode cL_law 342 = .ok (.iadd, 1) := by decide +kernel
theorem dL_law_343 : decode cL_law 343 = .ok (.iaload, 1) := by decide +kernel
theorem dL_law_344 : decode cL_law 344 = .ok (.aload_n 0, 1) := by decide +kernel
theorem dL_law_345 : decode cL_law 345 = .ok (.iload_n 3, 1) := by decide +kernel
theorem dL_law_346 : decode cL_law 346 = .ok (.iconst 2, 1) := by decide +kernel
theorem dL_law_347 : decode cL_law 347 = .ok (.iadd, 1) := by decide +kernel
theorem dL_law_348 : decode cL_law 348 = .ok (.iaload, 1) := by decide +kernel
theorem dL_law_349 : decode cL_law 349 = .ok (.invokevirtual 34, 3) := by decide +kernel
theorem dL_law_352 : decode cL_law 352 = .ok (.aload_n 2, 1) := by decide +kernel
theorem dL_law_353 : decode cL_law 353 = .ok (.aload_n 0, 1) := by decide +kernel
theorem dL_law_354 : decode cL_law 354 = .ok (.iload_n 3, 1) := by decide +kernel
theorem dL_law_355 : decode cL_law 355 = .ok (.iconst 1, 1) := by decide +kernel
theorem dL_law_356 : decode cL_law 356 = .ok (.iadd, 1) := by decide +kernel
theorem dL_law_357 : decode cL_law 357 = .ok (.iaload, 1) := by decide +kernel
theorem dL_law_358 : decode cL_law 358 = .ok (.aload_n 0, 1) := by decide +kernel
theorem dL_law_359 : decode cL_law 359 = .ok (.iload_n 3, 1) := by decide +kernel
theorem dL_law_360 : decode cL_law 360 = .ok (.iconst 2, 1) := by decide +kernel
theorem dL_law_361 : decode cL_law 361 = .ok (.iadd, 1) := by decide +kernel
theorem dL_law_362 : decode cL_law 362 = .ok (.iaload, 1) := by decide +kernel
theorem dL_law_363 : decode cL_law 363 = .ok (.invokevirtual 37, 3) := by decide +kernel
theorem dL_law_366 : decode cL_law 366 = .ok (.if_icmp .eq 906, 3) := by decide +kernel
theorem dL_law_369 : decode cL_law 369 = .ok (.iconst 0, 1) := by decide +kernel
theorem dL_law_370 : decode cL_law 370 = .ok (.ireturn, 1) := by decide +kernel
theorem dL_law_371 : decode cL_law 371 = .ok (.aload_n 1, 1) := by decide +kernel
theorem dL_law_372 : decode cL_law 372 = .ok (.aload_n 0, 1) := by decide +kernel
theorem dL_law_373 : decode cL_law 373 = .ok (.iload_n 3, 1) := by decide +kernel
theorem dL_law_374 : decode cL_law 374 = .ok (.iconst 1, 1) := by decide +kernel
theorem dL_law_375 : decode cL_law 375 = .ok (.iadd, 1) := by decide +kernel
theorem dL_law_376 : decode cL_law 376 = .ok (.iaload, 1) := by decide +kernel
theorem dL_law_377 : decode cL_law 377 = .ok (.aload_n 0, 1) := by decide +kernel
theorem dL_law_378 : decode cL_law 378 = .ok (.iload_n 3, 1) := by decide +kernel
theorem dL_law_379 : decode cL_law 379 = .ok (.iconst 2, 1) := by decide +kernel
theorem dL_law_380 : decode cL_law 380 = .ok (.iadd, 1) := by decide +kernel
theorem dL_law_381 : decode cL_law 381 = .ok (.iaload, 1) := by decide +kernel
theorem dL_law_382 : decode cL_law 382 = .ok (.invokevirtual 38, 3) := by decide +kernel
theorem dL_law_385 : decode cL_law 385 = .ok (.aload_n 2, 1) := by decide +kernel
theorem dL_law_386 : decode cL_law 386 = .ok (.aload_n 0, 1) := by decide +kernel
theorem dL_law_387 : decode cL_law 387 = .ok (.iload_n 3, 1) := by decide +kernel
theorem dL_law_388 : decode cL_law 388 = .ok (.iconst 1, 1) := by decide +kernel
theorem dL_law_389 : decode cL_law 389 = .ok (.iadd, 1) := by decide +kernel
theorem dL_law_390 : decode cL_law 390 = .ok (.iaload, 1) := by decide +kernel
theorem dL_law_391 : decode cL_law 391 = .ok (.aload_n 0, 1) := by decide +kernel
theorem dL_law_392 : decode cL_law 392 = .ok (.iload_n 3, 1) := by decide +kernel
theorem dL_law_393 : decode cL_law 393 = .ok (.iconst 2, 1) := by decide +kernel
theorem dL_law_394 : decode cL_law 394 = .ok (.iadd, 1) := by decide +kernel
theorem dL_law_395 : decode cL_law 395 = .ok (.iaload, 1) := by decide +kernel
theorem dL_law_396 : decode cL_law 396 = .ok (.invokevirtual 41, 3) := by decide +kernel
theorem dL_law_399 : decode cL_law 399 = .ok (.if_icmp .eq 873, 3) := by decide +kernel
theorem dL_law_402 : decode cL_law 402 = .ok (.iconst 0, 1) := by decide +kernel
theorem dL_law_403 : decode cL_law 403 = .ok (.ireturn, 1) := by decide +kernel
theorem dL_law_404 : decode cL_law 404 = .ok (.aload_n 1, 1) := by decide +kernel
theorem dL_law_405 : decode cL_law 405 = .ok (.aload_n 0, 1) := by decide +kernel
theorem dL_law_406 : decode cL_law 406 = .ok (.iload_n 3, 1) := by decide +kernel
theorem dL_law_407 : decode cL_law 407 = .ok (.iconst 1, 1) := by decide +kernel
theorem dL_law_408 : decode cL_law 408 = .ok (.iadd, 1) := by decide +kernel
theorem dL_law_409 : decode cL_law 409 = .ok (.iaload, 1) := by decide +kernel
theorem dL_law_410 : decode cL_law 410 = .ok (.invokevirtual 42, 3) := by decide +kernel
theorem dL_law_413 : decode cL_law 413 = .ok (.aload_n 2, 1) := by decide +kernel
theorem dL_law_414 : decode cL_law 414 = .ok (.aload_n 0, 1) := by decide +kernel
theorem dL_law_415 : decode cL_law 415 = .ok (.iload_n 3, 1) := by decide +kernel
theorem dL_law_416 : decode cL_law 416 = .ok (.iconst 1, 1) := by decide +kernel
theorem dL_law_417 : decode cL_law 417 = .ok (.iadd, 1) := by decide +kernel
theorem dL_law_418 : decode cL_law 418 = .ok (.iaload, 1) := by decide +kernel
theorem dL_law_419 : decode cL_law 419 = .ok (.invokevirtual 46, 3) := by decide +kernel
theorem dL_law_422 : decode cL_law 422 = .ok (.if_icmp .eq 850, 3) := by decide +kernel
theorem dL_law_425 : decode cL_law 425 = .ok (.iconst 0, 1) := by decide +kernel
theorem dL_law_426 : decode cL_law 426 = .ok (.ireturn, 1) := by decide +kernel
theorem dL_law_427 : decode cL_law 427 = .ok (.aload_n 1, 1) := by decide +kernel
theorem dL_law_428 : decode cL_law 428 = .ok (.aload_n 0, 1) := by decide +kernel
theorem dL_law_429 : decode cL_law 429 = .ok (.iload_n 3, 1) := by decide +kernel
theorem dL_law_430 : decode cL_law 430 = .ok (.iconst 1, 1) := by decide +kernel
theorem dL_law_431 : decode cL_law 431 = .ok (.iadd, 1) := by decide +kernel
theorem dL_law_432 : decode cL_law 432 = .ok (.iaload, 1) := by decide +kernel
theorem dL_law_433 : decode cL_law 433 = .ok (.invokevirtual 47, 3) := by decide +kernel
theorem dL_law_436 : decode cL_law 436 = .ok (.aload_n 2, 1) := by decide +kernel
theorem dL_law_437 : decode cL_law 437 = .ok (.aload_n 0, 1) := by decide +kernel
theorem dL_law_438 : decode cL_law 438 = .ok (.iload_n 3, 1) := by decide +kernel
theorem dL_law_439 : decode cL_law 439 = .ok (.iconst 1, 1) := by decide +kernel
theorem dL_law_440 : decode cL_law 440 = .ok (.iadd, 1) := by decide +kernel
theorem dL_law_441 : decode cL_law 441 = .ok (.iaload, 1) := by decide +kernel
theorem dL_law_442 : decode cL_law 442 = .ok (.invokevirtual 50, 3) := by decide +kernel
theorem dL_law_445 : decode cL_law 445 = .ok (.if_icmp .eq 827, 3) := by decide +kernel
theorem dL_law_448 : decode cL_law 448 = .ok (.iconst 0, 1) := by decide +kernel
theorem dL_law_449 : decode cL_law 449 = .ok (.ireturn, 1) := by decide +kernel
theorem dL_law_450 : decode cL_law 450 = .ok (.aload_n 1, 1) := by decide +kernel
theorem dL_law_451 : decode cL_law 451 = .ok (.aload_n 0, 1) := by decide +kernel
theorem dL_law_452 : decode cL_law 452 = .ok (.iload_n 3, 1) := by decide +kernel
theorem dL_law_453 : decode cL_law 453 = .ok (.iconst 1, 1) := by decide +kernel
theorem dL_law_454 : decode cL_law 454 = .ok (.iadd, 1) := by decide +kernel
theorem dL_law_455 : decode cL_law 455 = .ok (.iaload, 1) := by decide +kernel
theorem dL_law_456 : decode cL_law 456 = .ok (.invokevirtual 51, 3) := by decide +kernel
theorem dL_law_459 : decode cL_law 459 = .ok (.aload_n 2, 1) := by decide +kernel
theorem dL_law_460 : decode cL_law 460 = .ok (.aload_n 0, 1) := by decide +kernel
theorem dL_law_461 : decode cL_law 461 = .ok (.iload_n 3, 1) := by decide +kernel
theorem dL_law_462 : decode cL_law 462 = .ok (.iconst 1, 1) := by decide +kernel
theorem dL_law_463 : decode cL_law 463 = .ok (.iadd, 1) := by decide +kernel
theorem dL_law_464 : decode cL_law 464 = .ok (.iaload, 1) := by decide +kernel
theorem dL_law_465 : decode cL_law 465 = .ok (.invokevirtual 54, 3) := by decide +kernel
theorem dL_law_468 : decode cL_law 468 = .ok (.if_icmp .eq 804, 3) := by decide +kernel
theorem dL_law_471 : decode cL_law 471 = .ok (.iconst 0, 1) := by decide +kernel
theorem dL_law_472 : decode cL_law 472 = .ok (.ireturn, 1) := by decide +kernel
theorem dL_law_473 : decode cL_law 473 = .ok (.aload_n 1, 1) := by decide +kernel
theorem dL_law_474 : decode cL_law 474 = .ok (.aload_n 0, 1) := by decide +kernel
theorem dL_law_475 : decode cL_law 475 = .ok (.iload_n 3, 1) := by decide +kernel
theorem dL_law_476 : decode cL_law 476 = .ok (.iconst 1, 1) := by decide +kernel
theorem dL_law_477 : decode cL_law 477 = .ok (.iadd, 1) := by decide +kernel
theorem dL_law_478 : decode cL_law 478 = .ok (.iaload, 1) := by decide +kernel
theorem dL_law_479 : decode cL_law 479 = .ok (.invokevirtual 55, 3) := by decide +kernel
theorem dL_law_482 : decode cL_law 482 = .ok (.aload_n 2, 1) := by decide +kernel
theorem dL_law_483 : decode cL_law 483 = .ok (.aload_n 0, 1) := by decide +kernel
theorem dL_law_484 : decode cL_law 484 = .ok (.iload_n 3, 1) := by decide +kernel
theorem dL_law_485 : decode cL_law 485 = .ok (.iconst 1, 1) := by decide +kernel
theorem dL_law_486 : decode cL_law 486 = .ok (.iadd, 1) := by decide +kernel
theorem dL_law_487 : decode cL_law 487 = .ok (.iaload, 1) := by decide +kernel
theorem dL_law_488 : decode cL_law 488 = .ok (.invokevirtual 58, 3) := by decide +kernel
theorem dL_law_491 : decode cL_law 491 = .ok (.if_icmp .eq 781, 3) := by decide +kernel
theorem dL_law_494 : decode cL_law 494 = .ok (.iconst 0, 1) := by decide +kernel
theorem dL_law_495 : decode cL_law 495 = .ok (.ireturn, 1) := by decide +kernel
theorem dL_law_496 : decode cL_law 496 = .ok (.aload_n 1, 1) := by decide +kernel
theorem dL_law_497 : decode cL_law 497 = .ok (.aload_n 0, 1) := by decide +kernel
theorem dL_law_498 : decode cL_law 498 = .ok (.iload_n 3, 1) := by decide +kernel
theorem dL_law_499 : decode cL_law 499 = .ok (.iconst 1, 1) := by decide +kernel
theorem dL_law_500 : decode cL_law 500 = .ok (.iadd, 1) := by decide +kernel
theorem dL_law_501 : decode cL_law 501 = .ok (.iaload, 1) := by decide +kernel
theorem dL_law_502 : decode cL_law 502 = .ok (.invokevirtual 59, 3) := by decide +kernel
theorem dL_law_505 : decode cL_law 505 = .ok (.aload_n 2, 1) := by decide +kernel
theorem dL_law_506 : decode cL_law 506 = .ok (.aload_n 0, 1) := by decide +kernel
theorem dL_law_507 : decode cL_law 507 = .ok (.iload_n 3, 1) := by decide +kernel
theorem dL_law_508 : decode cL_law 508 = .ok (.iconst 1, 1) := by decide +kernel
theorem dL_law_509 : decode cL_law 509 = .ok (.iadd, 1) := by decide +kernel
theorem dL_law_510 : decode cL_law 510 = .ok (.iaload, 1) := by decide +kernel
theorem dL_law_511 : decode cL_law 511 = .ok (.invokevirtual 62, 3) := by decide +kernel
theorem dL_law_514 : decode cL_law 514 = .ok (.if_icmp .eq 758, 3) := by decide +kernel
theorem dL_law_517 : decode cL_law 517 = .ok (.iconst 0, 1) := by decide +kernel
theorem dL_law_518 : decode cL_law 518 = .ok (.ireturn, 1) := by decide +kernel
theorem dL_law_519 : decode cL_law 519 = .ok (.aload_n 1, 1) := by decide +kernel
theorem dL_law_520 : decode cL_law 520 = .ok (.aload_n 0, 1) := by decide +kernel
theorem dL_law_521 : decode cL_law 521 = .ok (.iload_n 3, 1) := by decide +kernel
theorem dL_law_522 : decode cL_law 522 = .ok (.iconst 1, 1) := by decide +kernel
theorem dL_law_523 : decode cL_law 523 = .ok (.iadd, 1) := by decide +kernel
theorem dL_law_524 : decode cL_law 524 = .ok (.iaload, 1) := by decide +kernel
theorem dL_law_525 : decode cL_law 525 = .ok (.invokevirtual 63, 3) := by decide +kernel
theorem dL_law_528 : decode cL_law 528 = .ok (.aload_n 2, 1) := by decide +kernel
theorem dL_law_529 : decode cL_law 529 = .ok (.aload_n 0, 1) := by decide +kernel
theorem dL_law_530 : decode cL_law 530 = .ok (.iload_n 3, 1) := by decide +kernel
theorem dL_law_531 : decode cL_law 531 = .ok (.iconst 1, 1) := by decide +kernel
theorem dL_law_532 : decode cL_law 532 = .ok (.iadd, 1) := by decide +kernel
theorem dL_law_533 : decode cL_law 533 = .ok (.iaload, 1) := by decide +kernel
theorem dL_law_534 : decode cL_law 534 = .ok (.invokevirtual 66, 3) := by decide +kernel
theorem dL_law_537 : decode cL_law 537 = .ok (.if_icmp .eq 735, 3) := by decide +kernel
theorem dL_law_540 : decode cL_law 540 = .ok (.iconst 0, 1) := by decide +kernel
theorem dL_law_541 : decode cL_law 541 = .ok (.ireturn, 1) := by decide +kernel
theorem dL_law_542 : decode cL_law 542 = .ok (.aload_n 1, 1) := by decide +kernel
theorem dL_law_543 : decode cL_law 543 = .ok (.aload_n 0, 1) := by decide +kernel
theorem dL_law_544 : decode cL_law 544 = .ok (.iload_n 3, 1) := by decide +kernel
theorem dL_law_545 : decode cL_law 545 = .ok (.iconst 1, 1) := by decide +kernel
theorem dL_law_546 : decode cL_law 546 = .ok (.iadd, 1) := by decide +kernel
theorem dL_law_547 : decode cL_law 547 = .ok (.iaload, 1) := by decide +kernel
theorem dL_law_548 : decode cL_law 548 = .ok (.aload_n 0, 1) := by decide +kernel
theorem dL_law_549 : decode cL_law 549 = .ok (.iload_n 3, 1) := by decide +kernel
theorem dL_law_550 : decode cL_law 550 = .ok (.iconst 2, 1) := by decide +kernel
theorem dL_law_551 : decode cL_law 551 = .ok (.iadd, 1) := by decide +kernel
theorem dL_law_552 : decode cL_law 552 = .ok (.iaload, 1) := by decide +kernel
theorem dL_law_553 : decode cL_law 553 = .ok (.aload_n 0, 1) := by decide +kernel
theorem dL_law_554 : decode cL_law 554 = .ok (.iload_n 3, 1) := by decide +kernel
theorem dL_law_555 : decode cL_law 555 = .ok (.iconst 3, 1) := by decide +kernel
theorem dL_law_556 : decode cL_law 556 = .ok (.iadd, 1) := by decide +kernel
theorem dL_law_557 : decode cL_law 557 = .ok (.iaload, 1) := by decide +kernel
theorem dL_law_558 : decode cL_law 558 = .ok (.invokevirtual 67, 3) := by decide +kernel
theorem dL_law_561 : decode cL_law 561 = .ok (.aload_n 2, 1) := by decide +kernel
theorem dL_law_562 : decode cL_law 562 = .ok (.aload_n 0, 1) := by decide +kernel
theorem dL_law_563 : decode cL_law 563 = .ok (.iload_n 3, 1) := by decide +kernel
theorem dL_law_564 : decode cL_law 564 = .ok (.iconst 1, 1) := by decide +kernel
theorem dL_law_565 : decode cL_law 565 = .ok (.iadd, 1) := by decide +kernel
theorem dL_law_566 : decode cL_law 566 = .ok (.iaload, 1) := by decide +kernel
theorem dL_law_567 : decode cL_law 567 = .ok (.aload_n 0, 1) := by decide +kernel
theorem dL_law_568 : decode cL_law 568 = .ok (.iload_n 3, 1) := by decide +kernel
theorem dL_law_569 : decode cL_law 569 = .ok (.iconst 2, 1) := by decide +kernel
theorem dL_law_570 : decode cL_law 570 = .ok (.iadd, 1) := by decide +kernel
theorem dL_law_571 : decode cL_law 571 = .ok (.iaload, 1) := by decide +kernel
theorem dL_law_572 : decode cL_law 572 = .ok (.aload_n 0, 1) := by decide +kernel
theorem dL_law_573 : decode cL_law 573 = .ok (.iload_n 3, 1) := by decide +kernel
theorem dL_law_574 : decode cL_law 574 = .ok (.iconst 3, 1) := by decide +kernel
theorem dL_law_575 : decode cL_law 575 = .ok (.iadd, 1) := by decide +kernel
theorem dL_law_576 : decode cL_law 576 = .ok (.iaload, 1) := by decide +kernel
theorem dL_law_577 : decode cL_law 577 = .ok (.invokevirtual 71, 3) := by decide +kernel
theorem dL_law_580 : decode cL_law 580 = .ok (.if_icmp .eq 692, 3) := by decide +kernel
theorem dL_law_583 : decode cL_law 583 = .ok (.iconst 0, 1) := by decide +kernel
theorem dL_law_584 : decode cL_law 584 = .ok (.ireturn, 1) := by decide +kernel
theorem dL_law_585 : decode cL_law 585 = .ok (.aload_n 1, 1) := by decide +kernel
theorem dL_law_586 : decode cL_law 586 = .ok (.aload_n 0, 1) := by decide +kernel
theorem dL_law_587 : decode cL_law 587 = .ok (.iload_n 3, 1) := by decide +kernel
theorem dL_law_588 : decode cL_law 588 = .ok (.iconst 1, 1) := by decide +kernel
theorem dL_law_589 : decode cL_law 589 = .ok (.iadd, 1) := by decide +kernel
theorem dL_law_590 : decode cL_law 590 = .ok (.iaload, 1) := by decide +kernel
theorem dL_law_591 : decode cL_law 591 = .ok (.aload_n 0, 1) := by decide +kernel
theorem dL_law_592 : decode cL_law 592 = .ok (.iload_n 3, 1) := by decide +kernel
theorem dL_law_593 : decode cL_law 593 = .ok (.iconst 2, 1) := by decide +kernel
theorem dL_law_594 : decode cL_law 594 = .ok (.iadd, 1) := by decide +kernel
theorem dL_law_595 : decode cL_law 595 = .ok (.iaload, 1) := by decide +kernel
theorem dL_law_596 : decode cL_law 596 = .ok (.aload_n 0, 1) := by decide +kernel
theorem dL_law_597 : decode cL_law 597 = .ok (.iload_n 3, 1) := by decide +kernel
theorem dL_law_598 : decode cL_law 598 = .ok (.iconst 3, 1) := by decide +kernel
theorem dL_law_599 : decode cL_law 599 = .ok (.iadd, 1) := by decide +kernel
theorem dL_law_600 : decode cL_law 600 = .ok (.iaload, 1) := by decide +kernel
theorem dL_law_601 : decode cL_law 601 = .ok (.invokevirtual 72, 3) := by decide +kernel
theorem dL_law_604 : decode cL_law 604 = .ok (.aload_n 2, 1) := by decide +kernel
theorem dL_law_605 : decode cL_law 605 = .ok (.aload_n 0, 1) := by decide +kernel
theorem dL_law_606 : decode cL_law 606 = .ok (.iload_n 3, 1) := by decide +kernel
theorem dL_law_607 : decode cL_law 607 = .ok (.iconst 1, 1) := by decide +kernel
theorem dL_law_608 : decode cL_law 608 = .ok (.iadd, 1) := by decide +kernel
theorem dL_law_609 : decode cL_law 609 = .ok (.iaload, 1) := by decide +kernel
theorem dL_law_610 : decode cL_law 610 = .ok (.aload_n 0, 1) := by decide +kernel
theorem dL_law_611 : decode cL_law 611 = .ok (.iload_n 3, 1) := by decide +kernel
theorem dL_law_612 : decode cL_law 612 = .ok (.iconst 2, 1) := by decide +kernel
theorem dL_law_613 : decode cL_law 613 = .ok (.iadd, 1) := by decide +kernel
theorem dL_law_614 : decode cL_law 614 = .ok (.iaload, 1) := by decide +kernel
theorem dL_law_615 : decode cL_law 615 = .ok (.aload_n 0, 1) := by decide +kernel
theorem dL_law_616 : decode cL_law 616 = .ok (.iload_n 3, 1) := by decide +kernel
theorem dL_law_617 : decode cL_law 617 = .ok (.iconst 3, 1) := by decide +kernel
theorem dL_law_618 : decode cL_law 618 = .ok (.iadd, 1) := by decide +kernel
theorem dL_law_619 : decode cL_law 619 = .ok (.iaload, 1) := by decide +kernel
theorem dL_law_620 : decode cL_law 620 = .ok (.invokevirtual 75, 3) := by decide +kernel
theorem dL_law_623 : decode cL_law 623 = .ok (.if_icmp .eq 649, 3) := by decide +kernel
theorem dL_law_626 : decode cL_law 626 = .ok (.iconst 0, 1) := by decide +kernel
theorem dL_law_627 : decode cL_law 627 = .ok (.ireturn, 1) := by decide +kernel
theorem dL_law_628 : decode cL_law 628 = .ok (.aload_n 1, 1) := by decide +kernel
theorem dL_law_629 : decode cL_law 629 = .ok (.aload_n 0, 1) := by decide +kernel
theorem dL_law_630 : decode cL_law 630 = .ok (.iload_n 3, 1) := by decide +kernel
theorem dL_law_631 : decode cL_law 631 = .ok (.iconst 1, 1) := by decide +kernel
theorem dL_law_632 : decode cL_law 632 = .ok (.iadd, 1) := by decide +kernel
theorem dL_law_633 : decode cL_law 633 = .ok (.iaload, 1) := by decide +kernel
theorem dL_law_634 : decode cL_law 634 = .ok (.aload_n 0, 1) := by decide +kernel
theorem dL_law_635 : decode cL_law 635 = .ok (.iload_n 3, 1) := by decide +kernel
theorem dL_law_636 : decode cL_law 636 = .ok (.iconst 2, 1) := by decide +kernel
theorem dL_law_637 : decode cL_law 637 = .ok (.iadd, 1) := by decide +kernel
theorem dL_law_638 : decode cL_law 638 = .ok (.iaload, 1) := by decide +kernel
theorem dL_law_639 : decode cL_law 639 = .ok (.invokevirtual 76, 3) := by decide +kernel
theorem dL_law_642 : decode cL_law 642 = .ok (.aload_n 2, 1) := by decide +kernel
theorem dL_law_643 : decode cL_law 643 = .ok (.aload_n 0, 1) := by decide +kernel
theorem dL_law_644 : decode cL_law 644 = .ok (.iload_n 3, 1) := by decide +kernel
theorem dL_law_645 : decode cL_law 645 = .ok (.iconst 1, 1) := by decide +kernel
theorem dL_law_646 : decode cL_law 646 = .ok (.iadd, 1) := by decide +kernel
theorem dL_law_647 : decode cL_law 647 = .ok (.iaload, 1) := by decide +kernel
theorem dL_law_648 : decode cL_law 648 = .ok (.aload_n 0, 1) := by decide +kernel
theorem dL_law_649 : decode cL_law 649 = .ok (.iload_n 3, 1) := by decide +kernel
theorem dL_law_650 : decode cL_law 650 = .ok (.iconst 2, 1) := by decide +kernel
theorem dL_law_651 : decode cL_law 651 = .ok (.iadd, 1) := by decide +kernel
theorem dL_law_652 : decode cL_law 652 = .ok (.iaload, 1) := by decide +kernel
theorem dL_law_653 : decode cL_law 653 = .ok (.invokevirtual 79, 3) := by decide +kernel
theorem dL_law_656 : decode cL_law 656 = .ok (.if_icmp .eq 616, 3) := by decide +kernel
theorem dL_law_659 : decode cL_law 659 = .ok (.iconst 0, 1) := by decide +kernel
theorem dL_law_660 : decode cL_law 660 = .ok (.ireturn, 1) := by decide +kernel
theorem dL_law_661 : decode cL_law 661 = .ok (.aload_n 1, 1) := by decide +kernel
theorem dL_law_662 : decode cL_law 662 = .ok (.aload_n 0, 1) := by decide +kernel
theorem dL_law_663 : decode cL_law 663 = .ok (.iload_n 3, 1) := by decide +kernel
theorem dL_law_664 : decode cL_law 664 = .ok (.iconst 1, 1) := by decide +kernel
theorem dL_law_665 : decode cL_law 665 = .ok (.iadd, 1) := by decide +kernel
theorem dL_law_666 : decode cL_law 666 = .ok (.iaload, 1) := by decide +kernel
theorem dL_law_667 : decode cL_law 667 = .ok (.aload_n 0, 1) := by decide +kernel
theorem dL_law_668 : decode cL_law 668 = .ok (.iload_n 3, 1) := by decide +kernel
theorem dL_law_669 : decode cL_law 669 = .ok (.iconst 2, 1) := by decide +kernel
theorem dL_law_670 : decode cL_law 670 = .ok (.iadd, 1) := by decide +kernel
theorem dL_law_671 : decode cL_law 671 = .ok (.iaload, 1) := by decide +kernel
theorem dL_law_672 : decode cL_law 672 = .ok (.invokevirtual 80, 3) := by decide +kernel
theorem dL_law_675 : decode cL_law 675 = .ok (.aload_n 2, 1) := by decide +kernel
theorem dL_law_676 : decode cL_law 676 = .ok (.aload_n 0, 1) := by decide +kernel
theorem dL_law_677 : decode cL_law 677 = .ok (.iload_n 3, 1) := by decide +kernel
theorem dL_law_678 : decode cL_law 678 = .ok (.iconst 1, 1) := by decide +kernel
theorem dL_law_679 : decode cL_law 679 = .ok (.iadd, 1) := by decide +kernel
theorem dL_law_680 : decode cL_law 680 = .ok (.iaload, 1) := by decide +kernel
theorem dL_law_681 : decode cL_law 681 = .ok (.aload_n 0, 1) := by decide +kernel
theorem dL_law_682 : decode cL_law 682 = .ok (.iload_n 3, 1) := by decide +kernel
theorem dL_law_683 : decode cL_law 683 = .ok (.iconst 2, 1) := by decide +kernel
theorem dL_law_684 : decode cL_law 684 = .ok (.iadd, 1) := by decide +kernel
theorem dL_law_685 : decode cL_law 685 = .ok (.iaload, 1) := by decide +kernel
theorem dL_law_686 : decode cL_law 686 = .ok (.invokevirtual 83, 3) := by decide +kernel
theorem dL_law_689 : decode cL_law 689 = .ok (.if_icmp .eq 583, 3) := by decide +kernel
theorem dL_law_692 : decode cL_law 692 = .ok (.iconst 0, 1) := by decide +kernel
theorem dL_law_693 : decode cL_law 693 = .ok (.ireturn, 1) := by decide +kernel
theorem dL_law_694 : decode cL_law 694 = .ok (.aload_n 1, 1) := by decide +kernel
theorem dL_law_695 : decode cL_law 695 = .ok (.aload_n 0, 1) := by decide +kernel
theorem dL_law_696 : decode cL_law 696 = .ok (.iload_n 3, 1) := by decide +kernel
theorem dL_law_697 : decode cL_law 697 = .ok (.iconst 1, 1) := by decide +kernel
theorem dL_law_698 : decode cL_law 698 = .ok (.iadd, 1) := by decide +kernel
theorem dL_law_699 : decode cL_law 699 = .ok (.iaload, 1) := by decide +kernel
theorem dL_law_700 : decode cL_law 700 = .ok (.invokevirtual 84, 3) := by decide +kernel
theorem dL_law_703 : decode cL_law 703 = .ok (.aload_n 2, 1) := by decide +kernel
theorem dL_law_704 : decode cL_law 704 = .ok (.aload_n 0, 1) := by decide +kernel
theorem dL_law_705 : decode cL_law 705 = .ok (.iload_n 3, 1) := by decide +kernel
theorem dL_law_706 : decode cL_law 706 = .ok (.iconst 1, 1) := by decide +kernel
theorem dL_law_707 : decode cL_law 707 = .ok (.iadd, 1) := by decide +kernel
theorem dL_law_708 : decode cL_law 708 = .ok (.iaload, 1) := by decide +kernel
theorem dL_law_709 : decode cL_law 709 = .ok (.invokevirtual 87, 3) := by decide +kernel
theorem dL_law_712 : decode cL_law 712 = .ok (.if_icmp .eq 560, 3) := by decide +kernel
theorem dL_law_715 : decode cL_law 715 = .ok (.iconst 0, 1) := by decide +kernel
theorem dL_law_716 : decode cL_law 716 = .ok (.ireturn, 1) := by decide +kernel
theorem dL_law_717 : decode cL_law 717 = .ok (.aload_n 1, 1) := by decide +kernel
theorem dL_law_718 : decode cL_law 718 = .ok (.aload_n 0, 1) := by decide +kernel
theorem dL_law_719 : decode cL_law 719 = .ok (.iload_n 3, 1) := by decide +kernel
theorem dL_law_720 : decode cL_law 720 = .ok (.iconst 1, 1) := by decide +kernel
theorem dL_law_721 : decode cL_law 721 = .ok (.iadd, 1) := by decide +kernel
theorem dL_law_722 : decode cL_law 722 = .ok (.iaload, 1) := by decide +kernel
theorem dL_law_723 : decode cL_law 723 = .ok (.invokevirtual 88, 3) := by decide +kernel
theorem dL_law_726 : decode cL_law 726 = .ok (.aload_n 2, 1) := by decide +kernel
theorem dL_law_727 : decode cL_law 727 = .ok (.aload_n 0, 1) := by decide +kernel
theorem dL_law_728 : decode cL_law 728 = .ok (.iload_n 3, 1) := by decide +kernel
theorem dL_law_729 : decode cL_law 729 = .ok (.iconst 1, 1) := by decide +kernel
theorem dL_law_730 : decode cL_law 730 = .ok (.iadd, 1) := by decide +kernel
theorem dL_law_731 : decode cL_law 731 = .ok (.iaload, 1) := by decide +kernel
theorem dL_law_732 : decode cL_law 732 = .ok (.invokevirtual 91, 3) := by decide +kernel
theorem dL_law_735 : decode cL_law 735 = .ok (.if_icmp .eq 537, 3) := by decide +kernel
theorem dL_law_738 : decode cL_law 738 = .ok (.iconst 0, 1) := by decide +kernel
theorem dL_law_739 : decode cL_law 739 = .ok (.ireturn, 1) := by decide +kernel
theorem dL_law_740 : decode cL_law 740 = .ok (.aload_n 1, 1) := by decide +kernel
theorem dL_law_741 : decode cL_law 741 = .ok (.aload_n 0, 1) := by decide +kernel
theorem dL_law_742 : decode cL_law 742 = .ok (.iload_n 3, 1) := by decide +kernel
theorem dL_law_743 : decode cL_law 743 = .ok (.iconst 1, 1) := by decide +kernel
theorem dL_law_744 : decode cL_law 744 = .ok (.iadd, 1) := by decide +kernel
theorem dL_law_745 : decode cL_law 745 = .ok (.iaload, 1) := by decide +kernel
theorem dL_law_746 : decode cL_law 746 = .ok (.aload_n 0, 1) := by decide +kernel
theorem dL_law_747 : decode cL_law 747 = .ok (.iload_n 3, 1) := by decide +kernel
theorem dL_law_748 : decode cL_law 748 = .ok (.iconst 2, 1) := by decide +kernel
theorem dL_law_749 : decode cL_law 749 = .ok (.iadd, 1) := by decide +kernel
theorem dL_law_750 : decode cL_law 750 = .ok (.iaload, 1) := by decide +kernel
theorem dL_law_751 : decode cL_law 751 = .ok (.invokevirtual 92, 3) := by decide +kernel
theorem dL_law_754 : decode cL_law 754 = .ok (.aload_n 2, 1) := by decide +kernel
theorem dL_law_755 : decode cL_law 755 = .ok (.aload_n 0, 1) := by decide +kernel
theorem dL_law_756 : decode cL_law 756 = .ok (.iload_n 3, 1) := by decide +kernel
theorem dL_law_757 : decode cL_law 757 = .ok (.iconst 1, 1) := by decide +kernel
theorem dL_law_758 : decode cL_law 758 = .ok (.iadd, 1) := by decide +kernel
theorem dL_law_759 : decode cL_law 759 = .ok (.iaload, 1) := by decide +kernel
theorem dL_law_760 : decode cL_law 760 = .ok (.aload_n 0, 1) := by decide +kernel
theorem dL_law_761 : decode cL_law 761 = .ok (.iload_n 3, 1) := by decide +kernel
theorem dL_law_762 : decode cL_law 762 = .ok (.iconst 2, 1) := by decide +kernel
theorem dL_law_763 : decode cL_law 763 = .ok (.iadd, 1) := by decide +kernel
theorem dL_law_764 : decode cL_law 764 = .ok (.iaload, 1) := by decide +kernel
theorem dL_law_765 : decode cL_law 765 = .ok (.invokevirtual 95, 3) := by decide +kernel
theorem dL_law_768 : decode cL_law 768 = .ok (.if_icmp .eq 504, 3) := by decide +kernel
theorem dL_law_771 : decode cL_law 771 = .ok (.iconst 0, 1) := by decide +kernel
theorem dL_law_772 : decode cL_law 772 = .ok (.ireturn, 1) := by decide +kernel
theorem dL_law_773 : decode cL_law 773 = .ok (.aload_n 1, 1) := by decide +kernel
theorem dL_law_774 : decode cL_law 774 = .ok (.aload_n 0, 1) := by decide +kernel
theorem dL_law_775 : decode cL_law 775 = .ok (.iload_n 3, 1) := by decide +kernel
theorem dL_law_776 : decode cL_law 776 = .ok (.iconst 1, 1) := by decide +kernel
theorem dL_law_777 : decode cL_law 777 = .ok (.iadd, 1) := by decide +kernel
theorem dL_law_778 : decode cL_law 778 = .ok (.iaload, 1) := by decide +kernel
theorem dL_law_779 : decode cL_law 779 = .ok (.aload_n 0, 1) := by decide +kernel
theorem dL_law_780 : decode cL_law 780 = .ok (.iload_n 3, 1) := by decide +kernel
theorem dL_law_781 : decode cL_law 781 = .ok (.iconst 2, 1) := by decide +kernel
theorem dL_law_782 : decode cL_law 782 = .ok (.iadd, 1) := by decide +kernel
theorem dL_law_783 : decode cL_law 783 = .ok (.iaload, 1) := by decide +kernel
theorem dL_law_784 : decode cL_law 784 = .ok (.invokevirtual 96, 3) := by decide +kernel
theorem dL_law_787 : decode cL_law 787 = .ok (.aload_n 2, 1) := by decide +kernel
theorem dL_law_788 : decode cL_law 788 = .ok (.aload_n 0, 1) := by decide +kernel
theorem dL_law_789 : decode cL_law 789 = .ok (.iload_n 3, 1) := by decide +kernel
theorem dL_law_790 : decode cL_law 790 = .ok (.iconst 1, 1) := by decide +kernel
theorem dL_law_791 : decode cL_law 791 = .ok (.iadd, 1) := by decide +kernel
theorem dL_law_792 : decode cL_law 792 = .ok (.iaload, 1) := by decide +kernel
theorem dL_law_793 : decode cL_law 793 = .ok (.aload_n 0, 1) := by decide +kernel
theorem dL_law_794 : decode cL_law 794 = .ok (.iload_n 3, 1) := by decide +kernel
theorem dL_law_795 : decode cL_law 795 = .ok (.iconst 2, 1) := by decide +kernel
theorem dL_law_796 : decode cL_law 796 = .ok (.iadd, 1) := by decide +kernel
theorem dL_law_797 : decode cL_law 797 = .ok (.iaload, 1) := by decide +kernel
theorem dL_law_798 : decode cL_law 798 = .ok (.invokevirtual 99, 3) := by decide +kernel
theorem dL_law_801 : decode cL_law 801 = .ok (.if_icmp .eq 471, 3) := by decide +kernel
theorem dL_law_804 : decode cL_law 804 = .ok (.iconst 0, 1) := by decide +kernel
theorem dL_law_805 : decode cL_law 805 = .ok (.ireturn, 1) := by decide +kernel
theorem dL_law_806 : decode cL_law 806 = .ok (.aload_n 1, 1) := by decide +kernel
theorem dL_law_807 : decode cL_law 807 = .ok (.aload_n 0, 1) := by decide +kernel
theorem dL_law_808 : decode cL_law 808 = .ok (.iload_n 3, 1) := by decide +kernel
theorem dL_law_809 : decode cL_law 809 = .ok (.iconst 1, 1) := by decide +kernel
theorem dL_law_810 : decode cL_law 810 = .ok (.iadd, 1) := by decide +kernel
theorem dL_law_811 : decode cL_law 811 = .ok (.iaload, 1) := by decide +kernel
theorem dL_law_812 : decode cL_law 812 = .ok (.invokevirtual 100, 3) := by decide +kernel
theorem dL_law_815 : decode cL_law 815 = .ok (.aload_n 2, 1) := by decide +kernel
theorem dL_law_816 : decode cL_law 816 = .ok (.aload_n 0, 1) := by decide +kernel
theorem dL_law_817 : decode cL_law 817 = .ok (.iload_n 3, 1) := by decide +kernel
theorem dL_law_818 : decode cL_law 818 = .ok (.iconst 1, 1) := by decide +kernel
theorem dL_law_819 : decode cL_law 819 = .ok (.iadd, 1) := by decide +kernel
theorem dL_law_820 : decode cL_law 820 = .ok (.iaload, 1) := by decide +kernel
theorem dL_law_821 : decode cL_law 821 = .ok (.invokevirtual 103, 3) := by decide +kernel
theorem dL_law_824 : decode cL_law 824 = .ok (.if_icmp .eq 448, 3) := by decide +kernel
theorem dL_law_827 : decode cL_law 827 = .ok (.iconst 0, 1) := by decide +kernel
theorem dL_law_828 : decode cL_law 828 = .ok (.ireturn, 1) := by decide +kernel
theorem dL_law_829 : decode cL_law 829 = .ok (.aload_n 1, 1) := by decide +kernel
theorem dL_law_830 : decode cL_law 830 = .ok (.invokevirtual 104, 3) := by decide +kernel
theorem dL_law_833 : decode cL_law 833 = .ok (.aload_n 2, 1) := by decide +kernel
theorem dL_law_834 : decode cL_law 834 = .ok (.invokevirtual 107, 3) := by decide +kernel
theorem dL_law_837 : decode cL_law 837 = .ok (.if_icmp .eq 435, 3) := by decide +kernel
theorem dL_law_840 : decode cL_law 840 = .ok (.iconst 0, 1) := by decide +kernel
theorem dL_law_841 : decode cL_law 841 = .ok (.ireturn, 1) := by decide +kernel
theorem dL_law_842 : decode cL_law 842 = .ok (.aload_n 1, 1) := by decide +kernel
theorem dL_law_843 : decode cL_law 843 = .ok (.invokevirtual 108, 3) := by decide +kernel
theorem dL_law_846 : decode cL_law 846 = .ok (.aload_n 2, 1) := by decide +kernel
theorem dL_law_847 : decode cL_law 847 = .ok (.invokevirtual 111, 3) := by decide +kernel
theorem dL_law_850 : decode cL_law 850 = .ok (.if_icmp .eq 422, 3) := by decide +kernel
theorem dL_law_853 : decode cL_law 853 = .ok (.iconst 0, 1) := by decide +kernel
theorem dL_law_854 : decode cL_law 854 = .ok (.ireturn, 1) := by decide +kernel
theorem dL_law_855 : decode cL_law 855 = .ok (.aload_n 1, 1) := by decide +kernel
theorem dL_law_856 : decode cL_law 856 = .ok (.aload_n 0, 1) := by decide +kernel
theorem dL_law_857 : decode cL_law 857 = .ok (.iload_n 3, 1) := by decide +kernel
theorem dL_law_858 : decode cL_law 858 = .ok (.iconst 1, 1) := by decide +kernel
theorem dL_law_859 : decode cL_law 859 = .ok (.iadd, 1) := by decide +kernel
theorem dL_law_860 : decode cL_law 860 = .ok (.iaload, 1) := by decide +kernel
theorem dL_law_861 : decode cL_law 861 = .ok (.aload_n 0, 1) := by decide +kernel
theorem dL_law_862 : decode cL_law 862 = .ok (.iload_n 3, 1) := by decide +kernel
theorem dL_law_863 : decode cL_law 863 = .ok (.iconst 2, 1) := by decide +kernel
theorem dL_law_864 : decode cL_law 864 = .ok (.iadd, 1) := by decide +kernel
theorem dL_law_865 : decode cL_law 865 = .ok (.iaload, 1) := by decide +kernel
theorem dL_law_866 : decode cL_law 866 = .ok (.invokevirtual 112, 3) := by decide +kernel
theorem dL_law_869 : decode cL_law 869 = .ok (.aload_n 2, 1) := by decide +kernel
theorem dL_law_870 : decode cL_law 870 = .ok (.aload_n 0, 1) := by decide +kernel
theorem dL_law_871 : decode cL_law 871 = .ok (.iload_n 3, 1) := by decide +kernel
theorem dL_law_872 : decode cL_law 872 = .ok (.iconst 1, 1) := by decide +kernel
theorem dL_law_873 : decode cL_law 873 = .ok (.iadd, 1) := by decide +kernel
theorem dL_law_874 : decode cL_law 874 = .ok (.iaload, 1) := by decide +kernel
theorem dL_law_875 : decode cL_law 875 = .ok (.aload_n 0, 1) := by decide +kernel
theorem dL_law_876 : decode cL_law 876 = .ok (.iload_n 3, 1) := by decide +kernel
theorem dL_law_877 : decode cL_law 877 = .ok (.iconst 2, 1) := by decide +kernel
theorem dL_law_878 : decode cL_law 878 = .ok (.iadd, 1) := by decide +kernel
theorem dL_law_879 : decode cL_law 879 = .ok (.iaload, 1) := by decide +kernel
theorem dL_law_880 : decode cL_law 880 = .ok (.invokevirtual 115, 3) := by decide +kernel
theorem dL_law_883 : decode cL_law 883 = .ok (.if_icmp .eq 389, 3) := by decide +kernel
theorem dL_law_886 : decode cL_law 886 = .ok (.iconst 0, 1) := by decide +kernel
theorem dL_law_887 : decode cL_law 887 = .ok (.ireturn, 1) := by decide +kernel
theorem dL_law_888 : decode cL_law 888 = .ok (.aload_n 1, 1) := by decide +kernel
theorem dL_law_889 : decode cL_law 889 = .ok (.invokevirtual 116, 3) := by decide +kernel
theorem dL_law_892 : decode cL_law 892 = .ok (.aload_n 2, 1) := by decide +kernel
theorem dL_law_893 : decode cL_law 893 = .ok (.invokevirtual 119, 3) := by decide +kernel
theorem dL_law_896 : decode cL_law 896 = .ok (.if_icmp .eq 376, 3) := by decide +kernel
theorem dL_law_899 : decode cL_law 899 = .ok (.iconst 0, 1) := by decide +kernel
theorem dL_law_900 : decode cL_law 900 = .ok (.ireturn, 1) := by decide +kernel
theorem dL_law_901 : decode cL_law 901 = .ok (.aload_n 1, 1) := by decide +kernel
theorem dL_law_902 : decode cL_law 902 = .ok (.aload_n 0, 1) := by decide +kernel
theorem dL_law_903 : decode cL_law 903 = .ok (.iload_n 3, 1) := by decide +kernel
theorem dL_law_904 : decode cL_law 904 = .ok (.iconst 1, 1) := by decide +kernel
theorem dL_law_905 : decode cL_law 905 = .ok (.iadd, 1) := by decide +kernel
theorem dL_law_906 : decode cL_law 906 = .ok (.iaload, 1) := by decide +kernel
theorem dL_law_907 : decode cL_law 907 = .ok (.invokevirtual 120, 3) := by decide +kernel
theorem dL_law_910 : decode cL_law 910 = .ok (.aload_n 2, 1) := by decide +kernel
theorem dL_law_911 : decode cL_law 911 = .ok (.aload_n 0, 1) := by decide +kernel
theorem dL_law_912 : decode cL_law 912 = .ok (.iload_n 3, 1) := by decide +kernel
theorem dL_law_913 : decode cL_law 913 = .ok (.iconst 1, 1) := by decide +kernel
theorem dL_law_914 : decode cL_law 914 = .ok (.iadd, 1) := by decide +kernel
theorem dL_law_915 : decode cL_law 915 = .ok (.iaload, 1) := by decide +kernel
theorem dL_law_916 : decode cL_law 916 = .ok (.invokevirtual 123, 3) := by decide +kernel
theorem dL_law_919 : decode cL_law 919 = .ok (.if_icmp .eq 353, 3) := by decide +kernel
theorem dL_law_922 : decode cL_law 922 = .ok (.iconst 0, 1) := by decide +kernel
theorem dL_law_923 : decode cL_law 923 = .ok (.ireturn, 1) := by decide +kernel
theorem dL_law_924 : decode cL_law 924 = .ok (.aload_n 1, 1) := by decide +kernel
theorem dL_law_925 : decode cL_law 925 = .ok (.invokevirtual 124, 3) := by decide +kernel
theorem dL_law_928 : decode cL_law 928 = .ok (.aload_n 2, 1) := by decide +kernel
theorem dL_law_929 : decode cL_law 929 = .ok (.invokevirtual 127, 3) := by decide +kernel
theorem dL_law_932 : decode cL_law 932 = .ok (.if_icmp .eq 340, 3) := by decide +kernel
theorem dL_law_935 : decode cL_law 935 = .ok (.iconst 0, 1) := by decide +kernel
theorem dL_law_936 : decode cL_law 936 = .ok (.ireturn, 1) := by decide +kernel
theorem dL_law_937 : decode cL_law 937 = .ok (.aload_n 1, 1) := by decide +kernel
theorem dL_law_938 : decode cL_law 938 = .ok (.invokevirtual 128, 3) := by decide +kernel
theorem dL_law_941 : decode cL_law 941 = .ok (.aload_n 2, 1) := by decide +kernel
theorem dL_law_942 : decode cL_law 942 = .ok (.invokevirtual 131, 3) := by decide +kernel
theorem dL_law_945 : decode cL_law 945 = .ok (.if_icmp .eq 327, 3) := by decide +kernel
theorem dL_law_948 : decode cL_law 948 = .ok (.iconst 0, 1) := by decide +kernel
theorem dL_law_949 : decode cL_law 949 = .ok (.ireturn, 1) := by decide +kernel
theorem dL_law_950 : decode cL_law 950 = .ok (.aload_n 1, 1) := by decide +kernel
theorem dL_law_951 : decode cL_law 951 = .ok (.aload_n 0, 1) := by decide +kernel
theorem dL_law_952 : decode cL_law 952 = .ok (.iload_n 3, 1) := by decide +kernel
theorem dL_law_953 : decode cL_law 953 = .ok (.iconst 1, 1) := by decide +kernel
theorem dL_law_954 : decode cL_law 954 = .ok (.iadd, 1) := by decide +kernel
theorem dL_law_955 : decode cL_law 955 = .ok (.iaload, 1) := by decide +kernel
theorem dL_law_956 : decode cL_law 956 = .ok (.aload_n 0, 1) := by decide +kernel
theorem dL_law_957 : decode cL_law 957 = .ok (.iload_n 3, 1) := by decide +kernel
theorem dL_law_958 : decode cL_law 958 = .ok (.iconst 2, 1) := by decide +kernel
theorem dL_law_959 : decode cL_law 959 = .ok (.iadd, 1) := by decide +kernel
theorem dL_law_960 : decode cL_law 960 = .ok (.iaload, 1) := by decide +kernel
theorem dL_law_961 : decode cL_law 961 = .ok (.invokevirtual 132, 3) := by decide +kernel
theorem dL_law_964 : decode cL_law 964 = .ok (.aload_n 2, 1) := by decide +kernel
theorem dL_law_965 : decode cL_law 965 = .ok (.aload_n 0, 1) := by decide +kernel
theorem dL_law_966 : decode cL_law 966 = .ok (.iload_n 3, 1) := by decide +kernel
theorem dL_law_967 : decode cL_law 967 = .ok (.iconst 1, 1) := by decide +kernel
theorem dL_law_968 : decode cL_law 968 = .ok (.iadd, 1) := by decide +kernel
theorem dL_law_969 : decode cL_law 969 = .ok (.iaload, 1) := by decide +kernel
theorem dL_law_970 : decode cL_law 970 = .ok (.aload_n 0, 1) := by decide +kernel
theorem dL_law_971 : decode cL_law 971 = .ok (.iload_n 3, 1) := by decide +kernel
theorem dL_law_972 : decode cL_law 972 = .ok (.iconst 2, 1) := by decide +kernel
theorem dL_law_973 : decode cL_law 973 = .ok (.iadd, 1) := by decide +kernel
theorem dL_law_974 : decode cL_law 974 = .ok (.iaload, 1) := by decide +kernel
theorem dL_law_975 : decode cL_law 975 = .ok (.invokevirtual 135, 3) := by decide +kernel
theorem dL_law_978 : decode cL_law 978 = .ok (.if_icmp .eq 294, 3) := by decide +kernel
theorem dL_law_981 : decode cL_law 981 = .ok (.iconst 0, 1) := by decide +kernel
theorem dL_law_982 : decode cL_law 982 = .ok (.ireturn, 1) := by decide +kernel
theorem dL_law_983 : decode cL_law 983 = .ok (.aload_n 1, 1) := by decide +kernel
theorem dL_law_984 : decode cL_law 984 = .ok (.aload_n 0, 1) := by decide +kernel
theorem dL_law_985 : decode cL_law 985 = .ok (.iload_n 3, 1) := by decide +kernel
theorem dL_law_986 : decode cL_law 986 = .ok (.iconst 1, 1) := by decide +kernel
theorem dL_law_987 : decode cL_law 987 = .ok (.iadd, 1) := by decide +kernel
theorem dL_law_988 : decode cL_law 988 = .ok (.iaload, 1) := by decide +kernel
theorem dL_law_989 : decode cL_law 989 = .ok (.aload_n 0, 1) := by decide +kernel
theorem dL_law_990 : decode cL_law 990 = .ok (.iload_n 3, 1) := by decide +kernel
theorem dL_law_991 : decode cL_law 991 = .ok (.iconst 2, 1) := by decide +kernel
theorem dL_law_992 : decode cL_law 992 = .ok (.iadd, 1) := by decide +kernel
theorem dL_law_993 : decode cL_law 993 = .ok (.iaload, 1) := by decide +kernel
theorem dL_law_994 : decode cL_law 994 = .ok (.invokevirtual 136, 3) := by decide +kernel
theorem dL_law_997 : decode cL_law 997 = .ok (.aload_n 2, 1) := by decide +kernel
theorem dL_law_998 : decode cL_law 998 = .ok (.aload_n 0, 1) := by decide +kernel
theorem dL_law_999 : decode cL_law 999 = .ok (.iload_n 3, 1) := by decide +kernel
theorem dL_law_1000 : decode cL_law 1000 = .ok (.iconst 1, 1) := by decide +kernel
theorem dL_law_1001 : decode cL_law 1001 = .ok (.iadd, 1) := by decide +kernel
theorem dL_law_1002 : decode cL_law 1002 = .ok (.iaload, 1) := by decide +kernel
theorem dL_law_1003 : decode cL_law 1003 = .ok (.aload_n 0, 1) := by decide +kernel
theorem dL_law_1004 : decode cL_law 1004 = .ok (.iload_n 3, 1) := by decide +kernel
theorem dL_law_1005 : decode cL_law 1005 = .ok (.iconst 2, 1) := by decide +kernel
theorem dL_law_1006 : decode cL_law 1006 = .ok (.iadd, 1) := by decide +kernel
theorem dL_law_1007 : decode cL_law 1007 = .ok (.iaload, 1) := by decide +kernel
theorem dL_law_1008 : decode cL_law 1008 = .ok (.invokevirtual 139, 3) := by decide +kernel
theorem dL_law_1011 : decode cL_law 1011 = .ok (.if_icmp .eq 261, 3) := by decide +kernel
theorem dL_law_1014 : decode cL_law 1014 = .ok (.iconst 0, 1) := by decide +kernel
theorem dL_law_1015 : decode cL_law 1015 = .ok (.ireturn, 1) := by decide +kernel
theorem dL_law_1016 : decode cL_law 1016 = .ok (.aload_n 1, 1) := by decide +kernel
theorem dL_law_1017 : decode cL_law 1017 = .ok (.aload_n 0, 1) := by decide +kernel
theorem dL_law_1018 : decode cL_law 1018 = .ok (.iload_n 3, 1) := by decide +kernel
theorem dL_law_1019 : decode cL_law 1019 = .ok (.iconst 1, 1) := by decide +kernel
theorem dL_law_1020 : decode cL_law 1020 = .ok (.iadd, 1) := by decide +kernel
theorem dL_law_1021 : decode cL_law 1021 = .ok (.iaload, 1) := by decide +kernel
theorem dL_law_1022 : decode cL_law 1022 = .ok (.invokevirtual 140, 3) := by decide +kernel
theorem dL_law_1025 : decode cL_law 1025 = .ok (.aload_n 2, 1) := by decide +kernel
theorem dL_law_1026 : decode cL_law 1026 = .ok (.aload_n 0, 1) := by decide +kernel
theorem dL_law_1027 : decode cL_law 1027 = .ok (.iload_n 3, 1) := by decide +kernel
theorem dL_law_1028 : decode cL_law 1028 = .ok (.iconst 1, 1) := by decide +kernel
theorem dL_law_1029 : decode cL_law 1029 = .ok (.iadd, 1) := by decide +kernel
theorem dL_law_1030 : decode cL_law 1030 = .ok (.iaload, 1) := by decide +kernel
theorem dL_law_1031 : decode cL_law 1031 = .ok (.invokevirtual 143, 3) := by decide +kernel
theorem dL_law_1034 : decode cL_law 1034 = .ok (.if_icmp .eq 238, 3) := by decide +kernel
theorem dL_law_1037 : decode cL_law 1037 = .ok (.iconst 0, 1) := by decide +kernel
theorem dL_law_1038 : decode cL_law 1038 = .ok (.ireturn, 1) := by decide +kernel
theorem dL_law_1039 : decode cL_law 1039 = .ok (.aload_n 1, 1) := by decide +kernel
theorem dL_law_1040 : decode cL_law 1040 = .ok (.invokevirtual 144, 3) := by decide +kernel
theorem dL_law_1043 : decode cL_law 1043 = .ok (.aload_n 2, 1) := by decide +kernel
theorem dL_law_1044 : decode cL_law 1044 = .ok (.invokevirtual 147, 3) := by decide +kernel
theorem dL_law_1047 : decode cL_law 1047 = .ok (.if_icmp .eq 225, 3) := by decide +kernel
theorem dL_law_1050 : decode cL_law 1050 = .ok (.iconst 0, 1) := by decide +kernel
theorem dL_law_1051 : decode cL_law 1051 = .ok (.ireturn, 1) := by decide +kernel
theorem dL_law_1052 : decode cL_law 1052 = .ok (.aload_n 1, 1) := by decide +kernel
theorem dL_law_1053 : decode cL_law 1053 = .ok (.aload_n 0, 1) := by decide +kernel
theorem dL_law_1054 : decode cL_law 1054 = .ok (.iload_n 3, 1) := by decide +kernel
theorem dL_law_1055 : decode cL_law 1055 = .ok (.iconst 1, 1) := by decide +kernel
theorem dL_law_1056 : decode cL_law 1056 = .ok (.iadd, 1) := by decide +kernel
theorem dL_law_1057 : decode cL_law 1057 = .ok (.iaload, 1) := by decide +kernel
theorem dL_law_1058 : decode cL_law 1058 = .ok (.invokevirtual 148, 3) := by decide +kernel
theorem dL_law_1061 : decode cL_law 1061 = .ok (.aload_n 2, 1) := by decide +kernel
theorem dL_law_1062 : decode cL_law 1062 = .ok (.aload_n 0, 1) := by decide +kernel
theorem dL_law_1063 : decode cL_law 1063 = .ok (.iload_n 3, 1) := by decide +kernel
theorem dL_law_1064 : decode cL_law 1064 = .ok (.iconst 1, 1) := by decide +kernel
theorem dL_law_1065 : decode cL_law 1065 = .ok (.iadd, 1) := by decide +kernel
theorem dL_law_1066 : decode cL_law 1066 = .ok (.iaload, 1) := by decide +kernel
theorem dL_law_1067 : decode cL_law 1067 = .ok (.invokevirtual 151, 3) := by decide +kernel
theorem dL_law_1070 : decode cL_law 1070 = .ok (.if_icmp .eq 202, 3) := by decide +kernel
theorem dL_law_1073 : decode cL_law 1073 = .ok (.iconst 0, 1) := by decide +kernel
theorem dL_law_1074 : decode cL_law 1074 = .ok (.ireturn, 1) := by decide +kernel
theorem dL_law_1075 : decode cL_law 1075 = .ok (.aload_n 1, 1) := by decide +kernel
theorem dL_law_1076 : decode cL_law 1076 = .ok (.aload_n 0, 1) := by decide +kernel
theorem dL_law_1077 : decode cL_law 1077 = .ok (.iload_n 3, 1) := by decide +kernel
theorem dL_law_1078 : decode cL_law 1078 = .ok (.iconst 1, 1) := by decide +kernel
theorem dL_law_1079 : decode cL_law 1079 = .ok (.iadd, 1) := by decide +kernel
theorem dL_law_1080 : decode cL_law 1080 = .ok (.iaload, 1) := by decide +kernel
theorem dL_law_1081 : decode cL_law 1081 = .ok (.invokevirtual 152, 3) := by decide +kernel
theorem dL_law_1084 : decode cL_law 1084 = .ok (.aload_n 2, 1) := by decide +kernel
theorem dL_law_1085 : decode cL_law 1085 = .ok (.aload_n 0, 1) := by decide +kernel
theorem dL_law_1086 : decode cL_law 1086 = .ok (.iload_n 3, 1) := by decide +kernel
theorem dL_law_1087 : decode cL_law 1087 = .ok (.iconst 1, 1) := by decide +kernel
theorem dL_law_1088 : decode cL_law 1088 = .ok (.iadd, 1) := by decide +kernel
theorem dL_law_1089 : decode cL_law 1089 = .ok (.iaload, 1) := by decide +kernel
theorem dL_law_1090 : decode cL_law 1090 = .ok (.invokevirtual 155, 3) := by decide +kernel
theorem dL_law_1093 : decode cL_law 1093 = .ok (.if_icmp .eq 179, 3) := by decide +kernel
theorem dL_law_1096 : decode cL_law 1096 = .ok (.iconst 0, 1) := by decide +kernel
theorem dL_law_1097 : decode cL_law 1097 = .ok (.ireturn, 1) := by decide +kernel
theorem dL_law_1098 : decode cL_law 1098 = .ok (.aload_n 1, 1) := by decide +kernel
theorem dL_law_1099 : decode cL_law 1099 = .ok (.aload_n 0, 1) := by decide +kernel
theorem dL_law_1100 : decode cL_law 1100 = .ok (.iload_n 3, 1) := by decide +kernel
theorem dL_law_1101 : decode cL_law 1101 = .ok (.iconst 1, 1) := by decide +kernel
theorem dL_law_1102 : decode cL_law 1102 = .ok (.iadd, 1) := by decide +kernel
theorem dL_law_1103 : decode cL_law 1103 = .ok (.iaload, 1) := by decide +kernel
theorem dL_law_1104 : decode cL_law 1104 = .ok (.invokevirtual 156, 3) := by decide +kernel
theorem dL_law_1107 : decode cL_law 1107 = .ok (.aload_n 2, 1) := by decide +kernel
theorem dL_law_1108 : decode cL_law 1108 = .ok (.aload_n 0, 1) := by decide +kernel
theorem dL_law_1109 : decode cL_law 1109 = .ok (.iload_n 3, 1) := by decide +kernel
theorem dL_law_1110 : decode cL_law 1110 = .ok (.iconst 1, 1) := by decide +kernel
theorem dL_law_1111 : decode cL_law 1111 = .ok (.iadd, 1) := by decide +kernel
theorem dL_law_1112 : decode cL_law 1112 = .ok (.iaload, 1) := by decide +kernel
theorem dL_law_1113 : decode cL_law 1113 = .ok (.invokevirtual 159, 3) := by decide +kernel
theorem dL_law_1116 : decode cL_law 1116 = .ok (.if_icmp .eq 156, 3) := by decide +kernel
theorem dL_law_1119 : decode cL_law 1119 = .ok (.iconst 0, 1) := by decide +kernel
theorem dL_law_1120 : decode cL_law 1120 = .ok (.ireturn, 1) := by decide +kernel
theorem dL_law_1121 : decode cL_law 1121 = .ok (.aload_n 1, 1) := by decide +kernel
theorem dL_law_1122 : decode cL_law 1122 = .ok (.aload_n 0, 1) := by decide +kernel
theorem dL_law_1123 : decode cL_law 1123 = .ok (.iload_n 3, 1) := by decide +kernel
theorem dL_law_1124 : decode cL_law 1124 = .ok (.iconst 1, 1) := by decide +kernel
theorem dL_law_1125 : decode cL_law 1125 = .ok (.iadd, 1) := by decide +kernel
theorem dL_law_1126 : decode cL_law 1126 = .ok (.iaload, 1) := by decide +kernel
theorem dL_law_1127 : decode cL_law 1127 = .ok (.invokevirtual 160, 3) := by decide +kernel
theorem dL_law_1130 : decode cL_law 1130 = .ok (.aload_n 2, 1) := by decide +kernel
theorem dL_law_1131 : decode cL_law 1131 = .ok (.aload_n 0, 1) := by decide +kernel
theorem dL_law_1132 : decode cL_law 1132 = .ok (.iload_n 3, 1) := by decide +kernel
theorem dL_law_1133 : decode cL_law 1133 = .ok (.iconst 1, 1) := by decide +kernel
theorem dL_law_1134 : decode cL_law 1134 = .ok (.iadd, 1) := by decide +kernel
theorem dL_law_1135 : decode cL_law 1135 = .ok (.iaload, 1) := by decide +kernel
theorem dL_law_1136 : decode cL_law 1136 = .ok (.invokevirtual 163, 3) := by decide +kernel
theorem dL_law_1139 : decode cL_law 1139 = .ok (.if_icmp .eq 133, 3) := by decide +kernel
theorem dL_law_1142 : decode cL_law 1142 = .ok (.iconst 0, 1) := by decide +kernel
theorem dL_law_1143 : decode cL_law 1143 = .ok (.ireturn, 1) := by decide +kernel
theorem dL_law_1144 : decode cL_law 1144 = .ok (.aload_n 1, 1) := by decide +kernel
theorem dL_law_1145 : decode cL_law 1145 = .ok (.aload_n 0, 1) := by decide +kernel
theorem dL_law_1146 : decode cL_law 1146 = .ok (.iload_n 3, 1) := by decide +kernel
theorem dL_law_1147 : decode cL_law 1147 = .ok (.iconst 1, 1) := by decide +kernel
theorem dL_law_1148 : decode cL_law 1148 = .ok (.iadd, 1) := by decide +kernel
theorem dL_law_1149 : decode cL_law 1149 = .ok (.iaload, 1) := by decide +kernel
theorem dL_law_1150 : decode cL_law 1150 = .ok (.invokevirtual 164, 3) := by decide +kernel
theorem dL_law_1153 : decode cL_law 1153 = .ok (.aload_n 2, 1) := by decide +kernel
theorem dL_law_1154 : decode cL_law 1154 = .ok (.aload_n 0, 1) := by decide +kernel
theorem dL_law_1155 : decode cL_law 1155 = .ok (.iload_n 3, 1) := by decide +kernel
theorem dL_law_1156 : decode cL_law 1156 = .ok (.iconst 1, 1) := by decide +kernel
theorem dL_law_1157 : decode cL_law 1157 = .ok (.iadd, 1) := by decide +kernel
theorem dL_law_1158 : decode cL_law 1158 = .ok (.iaload, 1) := by decide +kernel
theorem dL_law_1159 : decode cL_law 1159 = .ok (.invokevirtual 167, 3) := by decide +kernel
theorem dL_law_1162 : decode cL_law 1162 = .ok (.if_icmp .eq 110, 3) := by decide +kernel
theorem dL_law_1165 : decode cL_law 1165 = .ok (.iconst 0, 1) := by decide +kernel
theorem dL_law_1166 : decode cL_law 1166 = .ok (.ireturn, 1) := by decide +kernel
theorem dL_law_1167 : decode cL_law 1167 = .ok (.aload_n 1, 1) := by decide +kernel
theorem dL_law_1168 : decode cL_law 1168 = .ok (.aload_n 0, 1) := by decide +kernel
theorem dL_law_1169 : decode cL_law 1169 = .ok (.iload_n 3, 1) := by decide +kernel
theorem dL_law_1170 : decode cL_law 1170 = .ok (.iconst 1, 1) := by decide +kernel
theorem dL_law_1171 : decode cL_law 1171 = .ok (.iadd, 1) := by decide +kernel
theorem dL_law_1172 : decode cL_law 1172 = .ok (.iaload, 1) := by decide +kernel
theorem dL_law_1173 : decode cL_law 1173 = .ok (.aload_n 0, 1) := by decide +kernel
theorem dL_law_1174 : decode cL_law 1174 = .ok (.iload_n 3, 1) := by decide +kernel
theorem dL_law_1175 : decode cL_law 1175 = .ok (.iconst 2, 1) := by decide +kernel
theorem dL_law_1176 : decode cL_law 1176 = .ok (.iadd, 1) := by decide +kernel
theorem dL_law_1177 : decode cL_law 1177 = .ok (.iaload, 1) := by decide +kernel
theorem dL_law_1178 : decode cL_law 1178 = .ok (.invokevirtual 168, 3) := by decide +kernel
theorem dL_law_1181 : decode cL_law 1181 = .ok (.aload_n 2, 1) := by decide +kernel
theorem dL_law_1182 : decode cL_law 1182 = .ok (.aload_n 0, 1) := by decide +kernel
theorem dL_law_1183 : decode cL_law 1183 = .ok (.iload_n 3, 1) := by decide +kernel
theorem dL_law_1184 : decode cL_law 1184 = .ok (.iconst 1, 1) := by decide +kernel
theorem dL_law_1185 : decode cL_law 1185 = .ok (.iadd, 1) := by decide +kernel
theorem dL_law_1186 : decode cL_law 1186 = .ok (.iaload, 1) := by decide +kernel
theorem dL_law_1187 : decode cL_law 1187 = .ok (.aload_n 0, 1) := by decide +kernel
theorem dL_law_1188 : decode cL_law 1188 = .ok (.iload_n 3, 1) := by decide +kernel
theorem dL_law_1189 : decode cL_law 1189 = .ok (.iconst 2, 1) := by decide +kernel
theorem dL_law_1190 : decode cL_law 1190 = .ok (.iadd, 1) := by decide +kernel
theorem dL_law_1191 : decode cL_law 1191 = .ok (.iaload, 1) := by decide +kernel
theorem dL_law_1192 : decode cL_law 1192 = .ok (.invokevirtual 171, 3) := by decide +kernel
theorem dL_law_1195 : decode cL_law 1195 = .ok (.if_icmp .eq 77, 3) := by decide +kernel
theorem dL_law_1198 : decode cL_law 1198 = .ok (.iconst 0, 1) := by decide +kernel
theorem dL_law_1199 : decode cL_law 1199 = .ok (.ireturn, 1) := by decide +kernel
theorem dL_law_1200 : decode cL_law 1200 = .ok (.aload_n 1, 1) := by decide +kernel
theorem dL_law_1201 : decode cL_law 1201 = .ok (.aload_n 0, 1) := by decide +kernel
theorem dL_law_1202 : decode cL_law 1202 = .ok (.iload_n 3, 1) := by decide +kernel
theorem dL_law_1203 : decode cL_law 1203 = .ok (.iconst 1, 1) := by decide +kernel
theorem dL_law_1204 : decode cL_law 1204 = .ok (.iadd, 1) := by decide +kernel
theorem dL_law_1205 : decode cL_law 1205 = .ok (.iaload, 1) := by decide +kernel
theorem dL_law_1206 : decode cL_law 1206 = .ok (.invokevirtual 172, 3) := by decide +kernel
theorem dL_law_1209 : decode cL_law 1209 = .ok (.aload_n 2, 1) := by decide +kernel
theorem dL_law_1210 : decode cL_law 1210 = .ok (.aload_n 0, 1) := by decide +kernel
theorem dL_law_1211 : decode cL_law 1211 = .ok (.iload_n 3, 1) := by decide +kernel
theorem dL_law_1212 : decode cL_law 1212 = .ok (.iconst 1, 1) := by decide +kernel
theorem dL_law_1213 : decode cL_law 1213 = .ok (.iadd, 1) := by decide +kernel
theorem dL_law_1214 : decode cL_law 1214 = .ok (.iaload, 1) := by decide +kernel
theorem dL_law_1215 : decode cL_law 1215 = .ok (.invokevirtual 175, 3) := by decide +kernel
theorem dL_law_1218 : decode cL_law 1218 = .ok (.if_icmp .eq 54, 3) := by decide +kernel
theorem dL_law_1221 : decode cL_law 1221 = .ok (.iconst 0, 1) := by decide +kernel
theorem dL_law_1222 : decode cL_law 1222 = .ok (.ireturn, 1) := by decide +kernel
theorem dL_law_1223 : decode cL_law 1223 = .ok (.aload_n 1, 1) := by decide +kernel
theorem dL_law_1224 : decode cL_law 1224 = .ok (.invokevirtual 176, 3) := by decide +kernel
theorem dL_law_1227 : decode cL_law 1227 = .ok (.aload_n 2, 1) := by decide +kernel
theorem dL_law_1228 : decode cL_law 1228 = .ok (.invokevirtual 179, 3) := by decide +kernel
theorem dL_law_1231 : decode cL_law 1231 = .ok (.if_icmp .eq 41, 3) := by decide +kernel
theorem dL_law_1234 : decode cL_law 1234 = .ok (.iconst 0, 1) := by decide +kernel
theorem dL_law_1235 : decode cL_law 1235 = .ok (.ireturn, 1) := by decide +kernel
theorem dL_law_1236 : decode cL_law 1236 = .ok (.aload_n 1, 1) := by decide +kernel
theorem dL_law_1237 : decode cL_law 1237 = .ok (.invokevirtual 180, 3) := by decide +kernel
theorem dL_law_1240 : decode cL_law 1240 = .ok (.aload_n 2, 1) := by decide +kernel
theorem dL_law_1241 : decode cL_law 1241 = .ok (.invokevirtual 183, 3) := by decide +kernel
theorem dL_law_1244 : decode cL_law 1244 = .ok (.if_icmp .eq 28, 3) := by decide +kernel
theorem dL_law_1247 : decode cL_law 1247 = .ok (.iconst 0, 1) := by decide +kernel
theorem dL_law_1248 : decode cL_law 1248 = .ok (.ireturn, 1) := by decide +kernel
theorem dL_law_1249 : decode cL_law 1249 = .ok (.aload_n 1, 1) := by decide +kernel
theorem dL_law_1250 : decode cL_law 1250 = .ok (.aload_n 0, 1) := by decide +kernel
theorem dL_law_1251 : decode cL_law 1251 = .ok (.iload_n 3, 1) := by decide +kernel
theorem dL_law_1252 : decode cL_law 1252 = .ok (.iconst 1, 1) := by decide +kernel
theorem dL_law_1253 : decode cL_law 1253 = .ok (.iadd, 1) := by decide +kernel
theorem dL_law_1254 : decode cL_law 1254 = .ok (.iaload, 1) := by decide +kernel
theorem dL_law_1255 : decode cL_law 1255 = .ok (.invokevirtual 184, 3) := by decide +kernel
theorem dL_law_1258 : decode cL_law 1258 = .ok (.aload_n 2, 1) := by decide +kernel
theorem dL_law_1259 : decode cL_law 1259 = .ok (.aload_n 0, 1) := by decide +kernel
theorem dL_law_1260 : decode cL_law 1260 = .ok (.iload_n 3, 1) := by decide +kernel
theorem dL_law_1261 : decode cL_law 1261 = .ok (.iconst 1, 1) := by decide +kernel
theorem dL_law_1262 : decode cL_law 1262 = .ok (.iadd, 1) := by decide +kernel
theorem dL_law_1263 : decode cL_law 1263 = .ok (.iaload, 1) := by decide +kernel
theorem dL_law_1264 : decode cL_law 1264 = .ok (.invokevirtual 187, 3) := by decide +kernel
theorem dL_law_1267 : decode cL_law 1267 = .ok (.if_icmp .eq 5, 3) := by decide +kernel
theorem dL_law_1270 : decode cL_law 1270 = .ok (.iconst 0, 1) := by decide +kernel
theorem dL_law_1271 : decode cL_law 1271 = .ok (.ireturn, 1) := by decide +kernel
theorem dL_law_1272 : decode cL_law 1272 = .ok (.iinc 3 4, 3) := by decide +kernel
theorem dL_law_1275 : decode cL_law 1275 = .ok (.goto (-1257), 3) := by decide +kernel
theorem dL_law_1278 : decode cL_law 1278 = .ok (.iconst 1, 1) := by decide +kernel
theorem dL_law_1279 : decode cL_law 1279 = .ok (.ireturn, 1) := by decide +kernel
