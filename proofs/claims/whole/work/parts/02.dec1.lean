theorem dX0_init_0 : decode cX0_init 0 = .ok (.aload_n 0, 1) := by decide +kernel
theorem dX0_init_1 : decode cX0_init 1 = .ok (.invokespecial 1, 3) := by decide +kernel
theorem dX0_init_4 : decode cX0_init 4 = .ok (.aload_n 0, 1) := by decide +kernel
theorem dX0_init_5 : decode cX0_init 5 = .ok (.new 7, 3) := by decide +kernel
theorem dX0_init_8 : decode cX0_init 8 = .ok (.dup, 1) := by decide +kernel
theorem dX0_init_9 : decode cX0_init 9 = .ok (.invokespecial 9, 3) := by decide +kernel
theorem dX0_init_12 : decode cX0_init 12 = .ok (.putfield 10, 3) := by decide +kernel
theorem dX0_init_15 : decode cX0_init 15 = .ok (.aload_n 0, 1) := by decide +kernel
theorem dX0_init_16 : decode cX0_init 16 = .ok (.new 16, 3) := by decide +kernel
theorem dX0_init_19 : decode cX0_init 19 = .ok (.dup, 1) := by decide +kernel
theorem dX0_init_20 : decode cX0_init 20 = .ok (.invokespecial 18, 3) := by decide +kernel
theorem dX0_init_23 : decode cX0_init 23 = .ok (.putfield 19, 3) := by decide +kernel
theorem dX0_init_26 : decode cX0_init 26 = .ok (.aload_n 0, 1) := by decide +kernel
theorem dX0_init_27 : decode cX0_init 27 = .ok (.new 23, 3) := by decide +kernel
theorem dX0_init_30 : decode cX0_init 30 = .ok (.dup, 1) := by decide +kernel
theorem dX0_init_31 : decode cX0_init 31 = .ok (.invokespecial 25, 3) := by decide +kernel
theorem dX0_init_34 : decode cX0_init 34 = .ok (.putfield 26, 3) := by decide +kernel
theorem dX0_init_37 : decode cX0_init 37 = .ok (.aload_n 0, 1) := by decide +kernel
theorem dX0_init_38 : decode cX0_init 38 = .ok (.new 30, 3) := by decide +kernel
theorem dX0_init_41 : decode cX0_init 41 = .ok (.dup, 1) := by decide +kernel
theorem dX0_init_42 : decode cX0_init 42 = .ok (.invokespecial 32, 3) := by decide +kernel
theorem dX0_init_45 : decode cX0_init 45 = .ok (.putfield 33, 3) := by decide +kernel
theorem dX0_init_48 : decode cX0_init 48 = .ok (.return_, 1) := by decide +kernel
theorem dX0_become_0 : decode cX0_become 0 = .ok (.aload_n 0, 1) := by decide +kernel
theorem dX0_become_1 : decode cX0_become 1 = .ok (.getfield 10, 3) := by decide +kernel
theorem dX0_become_4 : decode cX0_become 4 = .ok (.aload_n 1, 1) := by decide +kernel
theorem dX0_become_5 : decode cX0_become 5 = .ok (.getfield 10, 3) := by decide +kernel
theorem dX0_become_8 : decode cX0_become 8 = .ok (.invokevirtual 37, 3) := by decide +kernel
theorem dX0_become_11 : decode cX0_become 11 = .ok (.aload_n 0, 1) := by decide +kernel
theorem dX0_become_12 : decode cX0_become 12 = .ok (.getfield 19, 3) := by decide +kernel
theorem dX0_become_15 : decode cX0_become 15 = .ok (.aload_n 1, 1) := by decide +kernel
theorem dX0_become_16 : decode cX0_become 16 = .ok (.getfield 19, 3) := by decide +kernel
theorem dX0_become_19 : decode cX0_become 19 = .ok (.invokevirtual 41, 3) := by decide +kernel
theorem dX0_become_22 : decode cX0_become 22 = .ok (.aload_n 0, 1) := by decide +kernel
theorem dX0_become_23 : decode cX0_become 23 = .ok (.getfield 26, 3) := by decide +kernel
theorem dX0_become_26 : decode cX0_become 26 = .ok (.aload_n 1, 1) := by decide +kernel
theorem dX0_become_27 : decode cX0_become 27 = .ok (.getfield 26, 3) := by decide +kernel
theorem dX0_become_30 : decode cX0_become 30 = .ok (.invokevirtual 44, 3) := by decide +kernel
theorem dX0_become_33 : decode cX0_become 33 = .ok (.aload_n 0, 1) := by decide +kernel
theorem dX0_become_34 : decode cX0_become 34 = .ok (.getfield 33, 3) := by decide +kernel
theorem dX0_become_37 : decode cX0_become 37 = .ok (.aload_n 1, 1) := by decide +kernel
theorem dX0_become_38 : decode cX0_become 38 = .ok (.getfield 33, 3) := by decide +kernel
theorem dX0_become_41 : decode cX0_become 41 = .ok (.invokevirtual 47, 3) := by decide +kernel
theorem dX0_become_44 : decode cX0_become 44 = .ok (.return_, 1) := by decide +kernel
theorem dX1_init_0 : decode cX1_init 0 = .ok (.aload_n 0, 1) := by decide +kernel
theorem dX1_init_1 : decode cX1_init 1 = .ok (.invokespecial 3, 3) := by decide +kernel
theorem dX1_init_4 : decode cX1_init 4 = .ok (.aload_n 0, 1) := by decide +kernel
theorem dX1_init_5 : decode cX1_init 5 = .ok (.iconst 3, 1) := by decide +kernel
theorem dX1_init_6 : decode cX1_init 6 = .ok (.newarray .int, 2) := by decide +kernel
theorem dX1_init_8 : decode cX1_init 8 = .ok (.putfield 9, 3) := by decide +kernel
theorem dX1_init_11 : decode cX1_init 11 = .ok (.aload_n 0, 1) := by decide +kernel
theorem dX1_init_12 : decode cX1_init 12 = .ok (.iconst 3, 1) := by decide +kernel
theorem dX1_init_13 : decode cX1_init 13 = .ok (.newarray .boolean, 2) := by decide +kernel
theorem dX1_init_15 : decode cX1_init 15 = .ok (.putfield 15, 3) := by decide +kernel
theorem dX1_init_18 : decode cX1_init 18 = .ok (.aload_n 0, 1) := by decide +kernel
theorem dX1_init_19 : decode cX1_init 19 = .ok (.bipush 60, 2) := by decide +kernel
theorem dX1_init_21 : decode cX1_init 21 = .ok (.newarray .int, 2) := by decide +kernel
theorem dX1_init_23 : decode cX1_init 23 = .ok (.putfield 19, 3) := by decide +kernel
theorem dX1_init_26 : decode cX1_init 26 = .ok (.return_, 1) := by decide +kernel
theorem dX1_become_0 : decode cX1_become 0 = .ok (.aload_n 0, 1) := by decide +kernel
theorem dX1_become_1 : decode cX1_become 1 = .ok (.aload_n 1, 1) := by decide +kernel
theorem dX1_become_2 : decode cX1_become 2 = .ok (.getfield 22, 3) := by decide +kernel
theorem dX1_become_5 : decode cX1_become 5 = .ok (.putfield 22, 3) := by decide +kernel
theorem dX1_become_8 : decode cX1_become 8 = .ok (.aload_n 1, 1) := by decide +kernel
theorem dX1_become_9 : decode cX1_become 9 = .ok (.getfield 9, 3) := by decide +kernel
theorem dX1_become_12 : decode cX1_become 12 = .ok (.aload_n 0, 1) := by decide +kernel
theorem dX1_become_13 : decode cX1_become 13 = .ok (.getfield 9, 3) := by decide +kernel
theorem dX1_become_16 : decode cX1_become 16 = .ok (.invokestatic 26, 3) := by decide +kernel
theorem dX1_become_19 : decode cX1_become 19 = .ok (.aload_n 1, 1) := by decide +kernel
theorem dX1_become_20 : decode cX1_become 20 = .ok (.getfield 15, 3) := by decide +kernel
theorem dX1_become_23 : decode cX1_become 23 = .ok (.aload_n 0, 1) := by decide +kernel
theorem dX1_become_24 : decode cX1_become 24 = .ok (.getfield 15, 3) := by decide +kernel
theorem dX1_become_27 : decode cX1_become 27 = .ok (.invokestatic 30, 3) := by decide +kernel
theorem dX1_become_30 : decode cX1_become 30 = .ok (.aload_n 1, 1) := by decide +kernel
theorem dX1_become_31 : decode cX1_become 31 = .ok (.getfield 19, 3) := by decide +kernel
theorem dX1_become_34 : decode cX1_become 34 = .ok (.aload_n 0, 1) := by decide +kernel
theorem dX1_become_35 : decode cX1_become 35 = .ok (.getfield 19, 3) := by decide +kernel
theorem dX1_become_38 : decode cX1_become 38 = .ok (.invokestatic 26, 3) := by decide +kernel
theorem dX1_become_41 : decode cX1_become 41 = .ok (.return_, 1) := by decide +kernel
theorem dX2_init_0 : decode cX2_init 0 = .ok (.aload_n 0, 1) := by decide +kernel
theorem dX2_init_1 : decode cX2_init 1 = .ok (.invokespecial 3, 3) := by decide +kernel
theorem dX2_init_4 : decode cX2_init 4 = .ok (.aload_n 0, 1) := by decide +kernel
theorem dX2_init_5 : decode cX2_init 5 = .ok (.bipush 100, 2) := by decide +kernel
theorem dX2_init_7 : decode cX2_init 7 = .ok (.newarray .int, 2) := by decide +kernel
theorem dX2_init_9 : decode cX2_init 9 = .ok (.putfield 9, 3) := by decide +kernel
theorem dX2_init_12 : decode cX2_init 12 = .ok (.aload_n 0, 1) := by decide +kernel
theorem dX2_init_13 : decode cX2_init 13 = .ok (.bipush 8, 2) := by decide +kernel
theorem dX2_init_15 : decode cX2_init 15 = .ok (.newarray .int, 2) := by decide +kernel
theorem dX2_init_17 : decode cX2_init 17 = .ok (.putfield 15, 3) := by decide +kernel
theorem dX2_init_20 : decode cX2_init 20 = .ok (.return_, 1) := by decide +kernel
theorem dX2_readDone_0 : decode cX2_readDone 0 = .ok (.aload_n 0, 1) := by decide +kernel
theorem dX2_readDone_1 : decode cX2_readDone 1 = .ok (.getfield 9, 3) := by decide +kernel
theorem dX2_readDone_4 : decode cX2_readDone 4 = .ok (.sipush 1000, 3) := by decide +kernel
theorem dX2_readDone_7 : decode cX2_readDone 7 = .ok (.invokestatic 18, 3) := by decide +kernel
theorem dX2_readDone_10 : decode cX2_readDone 10 = .ok (.iconst 0, 1) := by decide +kernel
theorem dX2_readDone_11 : decode cX2_readDone 11 = .ok (.istore_n 2, 1) := by decide +kernel
theorem dX2_readDone_12 : decode cX2_readDone 12 = .ok (.iload_n 2, 1) := by decide +kernel
theorem dX2_readDone_13 : decode cX2_readDone 13 = .ok (.aload_n 1, 1) := by decide +kernel
theorem dX2_readDone_14 : decode cX2_readDone 14 = .ok (.getfield 24, 3) := by decide +kernel
theorem dX2_readDone_17 : decode cX2_readDone 17 = .ok (.getfield 30, 3) := by decide +kernel
theorem dX2_readDone_20 : decode cX2_readDone 20 = .ok (.if_icmp .ge 15, 3) := by decide +kernel
theorem dX2_readDone_23 : decode cX2_readDone 23 = .ok (.aload_n 0, 1) := by decide +kernel
theorem dX2_readDone_24 : decode cX2_readDone 24 = .ok (.aload_n 1, 1) := by decide +kernel
theorem dX2_readDone_25 : decode cX2_readDone 25 = .ok (.iload_n 2, 1) := by decide +kernel
theorem dX2_readDone_26 : decode cX2_readDone 26 = .ok (.invokevirtual 36, 3) := by decide +kernel
theorem dX2_readDone_29 : decode cX2_readDone 29 = .ok (.iinc 2 1, 3) := by decide +kernel
theorem dX2_readDone_32 : decode cX2_readDone 32 = .ok (.goto (-20), 3) := by decide +kernel
theorem dX2_readDone_35 : decode cX2_readDone 35 = .ok (.return_, 1) := by decide +kernel
theorem dX2_readTask_0 : decode cX2_readTask 0 = .ok (.aload_n 1, 1) := by decide +kernel
theorem dX2_readTask_1 : decode cX2_readTask 1 = .ok (.getfield 40, 3) := by decide +kernel
theorem dX2_readTask_4 : decode cX2_readTask 4 = .ok (.astore_n 3, 1) := by decide +kernel
theorem dX2_readTask_5 : decode cX2_readTask 5 = .ok (.iconst 0, 1) := by decide +kernel
theorem dX2_readTask_6 : decode cX2_readTask 6 = .ok (.istore 4, 2) := by decide +kernel
theorem dX2_readTask_8 : decode cX2_readTask 8 = .ok (.iload 4, 2) := by decide +kernel
theorem dX2_readTask_10 : decode cX2_readTask 10 = .ok (.aload_n 3, 1) := by decide +kernel
theorem dX2_readTask_11 : decode cX2_readTask 11 = .ok (.getfield 44, 3) := by decide +kernel
theorem dX2_readTask_14 : decode cX2_readTask 14 = .ok (.if_icmp .ge 68, 3) := by decide +kernel
theorem dX2_readTask_17 : decode cX2_readTask 17 = .ok (.aload_n 3, 1) := by decide +kernel
theorem dX2_readTask_18 : decode cX2_readTask 18 = .ok (.getfield 49, 3) := by decide +kernel
theorem dX2_readTask_21 : decode cX2_readTask 21 = .ok (.iload 4, 2) := by decide +kernel
theorem dX2_readTask_23 : decode cX2_readTask 23 = .ok (.iaload, 1) := by decide +kernel
theorem dX2_readTask_24 : decode cX2_readTask 24 = .ok (.iload_n 2, 1) := by decide +kernel
theorem dX2_readTask_25 : decode cX2_readTask 25 = .ok (.if_icmp .ne 51, 3) := by decide +kernel
theorem dX2_readTask_28 : decode cX2_readTask 28 = .ok (.aload_n 0, 1) := by decide +kernel
theorem dX2_readTask_29 : decode cX2_readTask 29 = .ok (.aload_n 1, 1) := by decide +kernel
theorem dX2_readTask_30 : decode cX2_readTask 30 = .ok (.iload 4, 2) := by decide +kernel
theorem dX2_readTask_32 : decode cX2_readTask 32 = .ok (.invokevirtual 51, 3) := by decide +kernel
theorem dX2_readTask_35 : decode cX2_readTask 35 = .ok (.ifCond .eq 41, 3) := by decide +kernel
theorem dX2_readTask_38 : decode cX2_readTask 38 = .ok (.aload_n 3, 1) := by decide +kernel
theorem dX2_readTask_39 : decode cX2_readTask 39 = .ok (.getfield 55, 3) := by decide +kernel
theorem dX2_readTask_42 : decode cX2_readTask 42 = .ok (.iload 4, 2) := by decide +kernel
theorem dX2_readTask_44 : decode cX2_readTask 44 = .ok (.iaload, 1) := by decide +kernel
theorem dX2_readTask_45 : decode cX2_readTask 45 = .ok (.bipush 10, 2) := by decide +kernel
theorem dX2_readTask_47 : decode cX2_readTask 47 = .ok (.imul, 1) := by decide +kernel
theorem dX2_readTask_48 : decode cX2_readTask 48 = .ok (.iload_n 2, 1) := by decide +kernel
theorem dX2_readTask_49 : decode cX2_readTask 49 = .ok (.iadd, 1) := by decide +kernel
theorem dX2_readTask_50 : decode cX2_readTask 50 = .ok (.istore 5, 2) := by decide +kernel
theorem dX2_readTask_52 : decode cX2_readTask 52 = .ok (.aload_n 0, 1) := by decide +kernel
theorem dX2_readTask_53 : decode cX2_readTask 53 = .ok (.getfield 9, 3) := by decide +kernel
theorem dX2_readTask_56 : decode cX2_readTask 56 = .ok (.iload 5, 2) := by decide +kernel
theorem dX2_readTask_58 : decode cX2_readTask 58 = .ok (.aload_n 0, 1) := by decide +kernel
theorem dX2_readTask_59 : decode cX2_readTask 59 = .ok (.getfield 9, 3) := by decide +kernel
theorem dX2_readTask_62 : decode cX2_readTask 62 = .ok (.iload 5, 2) := by decide +kernel
theorem dX2_readTask_64 : decode cX2_readTask 64 = .ok (.iaload, 1) := by decide +kernel
theorem dX2_readTask_65 : decode cX2_readTask 65 = .ok (.aload_n 3, 1) := by decide +kernel
theorem dX2_readTask_66 : decode cX2_readTask 66 = .ok (.getfield 58, 3) := by decide +kernel
theorem dX2_readTask_69 : decode cX2_readTask 69 = .ok (.iload 4, 2) := by decide +kernel
theorem dX2_readTask_71 : decode cX2_readTask 71 = .ok (.iaload, 1) := by decide +kernel
theorem dX2_readTask_72 : decode cX2_readTask 72 = .ok (.invokestatic 61, 3) := by decide +kernel
theorem dX2_readTask_75 : decode cX2_readTask 75 = .ok (.iastore, 1) := by decide +kernel
theorem dX2_readTask_76 : decode cX2_readTask 76 = .ok (.iinc 4 1, 3) := by decide +kernel
theorem dX2_readTask_79 : decode cX2_readTask 79 = .ok (.goto (-71), 3) := by decide +kernel
theorem dX2_readTask_82 : decode cX2_readTask 82 = .ok (.return_, 1) := by decide +kernel
theorem dX2_counts_0 : decode cX2_counts 0 = .ok (.aload_n 1, 1) := by decide +kernel
theorem dX2_counts_1 : decode cX2_counts 1 = .ok (.getfield 40, 3) := by decide +kernel
theorem dX2_counts_4 : decode cX2_counts 4 = .ok (.astore_n 3, 1) := by decide +kernel
theorem dX2_counts_5 : decode cX2_counts 5 = .ok (.aload_n 3, 1) := by decide +kernel
theorem dX2_counts_6 : decode cX2_counts 6 = .ok (.getfield 67, 3) := by decide +kernel
theorem dX2_counts_9 : decode cX2_counts 9 = .ok (.iload_n 2, 1) := by decide +kernel
theorem dX2_counts_10 : decode cX2_counts 10 = .ok (.baload, 1) := by decide +kernel
theorem dX2_counts_11 : decode cX2_counts 11 = .ok (.ifCond .eq 5, 3) := by decide +kernel
theorem dX2_counts_14 : decode cX2_counts 14 = .ok (.iconst 0, 1) := by decide +kernel
theorem dX2_counts_15 : decode cX2_counts 15 = .ok (.ireturn, 1) := by decide +kernel
theorem dX2_counts_16 : decode cX2_counts 16 = .ok (.aload_n 3, 1) := by decide +kernel
theorem dX2_counts_17 : decode cX2_counts 17 = .ok (.getfield 49, 3) := by decide +kernel
theorem dX2_counts_20 : decode cX2_counts 20 = .ok (.iload_n 2, 1) := by decide +kernel
theorem dX2_counts_21 : decode cX2_counts 21 = .ok (.iaload, 1) := by decide +kernel
theorem dX2_counts_22 : decode cX2_counts 22 = .ok (.istore 4, 2) := by decide +kernel
theorem dX2_counts_24 : decode cX2_counts 24 = .ok (.aload_n 3, 1) := by decide +kernel
theorem dX2_counts_25 : decode cX2_counts 25 = .ok (.getfield 58, 3) := by decide +kernel
theorem dX2_counts_28 : decode cX2_counts 28 = .ok (.iload_n 2, 1) := by decide +kernel
theorem dX2_counts_29 : decode cX2_counts 29 = .ok (.iaload, 1) := by decide +kernel
theorem dX2_counts_30 : decode cX2_counts 30 = .ok (.istore 5, 2) := by decide +kernel
theorem dX2_counts_32 : decode cX2_counts 32 = .ok (.aload_n 1, 1) := by decide +kernel
theorem dX2_counts_33 : decode cX2_counts 33 = .ok (.getfield 71, 3) := by decide +kernel
theorem dX2_counts_36 : decode cX2_counts 36 = .ok (.aload_n 3, 1) := by decide +kernel
theorem dX2_counts_37 : decode cX2_counts 37 = .ok (.getfield 75, 3) := by decide +kernel
theorem dX2_counts_40 : decode cX2_counts 40 = .ok (.iload_n 2, 1) := by decide +kernel
theorem dX2_counts_41 : decode cX2_counts 41 = .ok (.iaload, 1) := by decide +kernel
theorem dX2_counts_42 : decode cX2_counts 42 = .ok (.aload_n 1, 1) := by decide +kernel
theorem dX2_counts_43 : decode cX2_counts 43 = .ok (.getfield 24, 3) := by decide +kernel
theorem dX2_counts_46 : decode cX2_counts 46 = .ok (.getfield 78, 3) := by decide +kernel
theorem dX2_counts_49 : decode cX2_counts 49 = .ok (.iload 4, 2) := by decide +kernel
theorem dX2_counts_51 : decode cX2_counts 51 = .ok (.iaload, 1) := by decide +kernel
theorem dX2_counts_52 : decode cX2_counts 52 = .ok (.iload 5, 2) := by decide +kernel
theorem dX2_counts_54 : decode cX2_counts 54 = .ok (.invokevirtual 81, 3) := by decide +kernel
theorem dX2_counts_57 : decode cX2_counts 57 = .ok (.ifCond .ne 5, 3) := by decide +kernel
theorem dX2_counts_60 : decode cX2_counts 60 = .ok (.iconst 0, 1) := by decide +kernel
theorem dX2_counts_61 : decode cX2_counts 61 = .ok (.ireturn, 1) := by decide +kernel
theorem dX2_counts_62 : decode cX2_counts 62 = .ok (.aload_n 1, 1) := by decide +kernel
theorem dX2_counts_63 : decode cX2_counts 63 = .ok (.getfield 24, 3) := by decide +kernel
theorem dX2_counts_66 : decode cX2_counts 66 = .ok (.getfield 87, 3) := by decide +kernel
theorem dX2_counts_69 : decode cX2_counts 69 = .ok (.iload 4, 2) := by decide +kernel
theorem dX2_counts_71 : decode cX2_counts 71 = .ok (.iaload, 1) := by decide +kernel
theorem dX2_counts_72 : decode cX2_counts 72 = .ok (.istore 6, 2) := by decide +kernel
theorem dX2_counts_74 : decode cX2_counts 74 = .ok (.iload 6, 2) := by decide +kernel
theorem dX2_counts_76 : decode cX2_counts 76 = .ok (.iconst (-1), 1) := by decide +kernel
theorem dX2_counts_77 : decode cX2_counts 77 = .ok (.if_icmp .eq 20, 3) := by decide +kernel
theorem dX2_counts_80 : decode cX2_counts 80 = .ok (.aload_n 0, 1) := by decide +kernel
theorem dX2_counts_81 : decode cX2_counts 81 = .ok (.aload_n 3, 1) := by decide +kernel
theorem dX2_counts_82 : decode cX2_counts 82 = .ok (.getfield 55, 3) := by decide +kernel
theorem dX2_counts_85 : decode cX2_counts 85 = .ok (.iload_n 2, 1) := by decide +kernel
theorem dX2_counts_86 : decode cX2_counts 86 = .ok (.iaload, 1) := by decide +kernel
theorem dX2_counts_87 : decode cX2_counts 87 = .ok (.iload 6, 2) := by decide +kernel
theorem dX2_counts_89 : decode cX2_counts 89 = .ok (.invokevirtual 90, 3) := by decide +kernel
theorem dX2_counts_92 : decode cX2_counts 92 = .ok (.iload 5, 2) := by decide +kernel
theorem dX2_counts_94 : decode cX2_counts 94 = .ok (.if_icmp .gt 7, 3) := by decide +kernel
theorem dX2_counts_97 : decode cX2_counts 97 = .ok (.iconst 1, 1) := by decide +kernel
theorem dX2_counts_98 : decode cX2_counts 98 = .ok (.goto 4, 3) := by decide +kernel
theorem dX2_counts_101 : decode cX2_counts 101 = .ok (.iconst 0, 1) := by decide +kernel
theorem dX2_counts_102 : decode cX2_counts 102 = .ok (.ireturn, 1) := by decide +kernel
theorem dX2_countCounting_0 : decode cX2_countCounting 0 = .ok (.iconst 0, 1) := by decide +kernel
theorem dX2_countCounting_1 : decode cX2_countCounting 1 = .ok (.istore_n 2, 1) := by decide +kernel
theorem dX2_countCounting_2 : decode cX2_countCounting 2 = .ok (.iconst 0, 1) := by decide +kernel
theorem dX2_countCounting_3 : decode cX2_countCounting 3 = .ok (.istore_n 3, 1) := by decide +kernel
theorem dX2_countCounting_4 : decode cX2_countCounting 4 = .ok (.iload_n 3, 1) := by decide +kernel
theorem dX2_countCounting_5 : decode cX2_countCounting 5 = .ok (.aload_n 1, 1) := by decide +kernel
theorem dX2_countCounting_6 : decode cX2_countCounting 6 = .ok (.getfield 40, 3) := by decide +kernel
theorem dX2_countCounting_9 : decode cX2_countCounting 9 = .ok (.getfield 44, 3) := by decide +kernel
theorem dX2_countCounting_12 : decode cX2_countCounting 12 = .ok (.if_icmp .ge 21, 3) := by decide +kernel
theorem dX2_countCounting_15 : decode cX2_countCounting 15 = .ok (.aload_n 0, 1) := by decide +kernel
theorem dX2_countCounting_16 : decode cX2_countCounting 16 = .ok (.aload_n 1, 1) := by decide +kernel
theorem dX2_countCounting_17 : decode cX2_countCounting 17 = .ok (.iload_n 3, 1) := by decide +kernel
theorem dX2_countCounting_18 : decode cX2_countCounting 18 = .ok (.invokevirtual 51, 3) := by decide +kernel
theorem dX2_countCounting_21 : decode cX2_countCounting 21 = .ok (.ifCond .eq 6, 3) := by decide +kernel
theorem dX2_countCounting_24 : decode cX2_countCounting 24 = .ok (.iinc 2 1, 3) := by decide +kernel
theorem dX2_countCounting_27 : decode cX2_countCounting 27 = .ok (.iinc 3 1, 3) := by decide +kernel
theorem dX2_countCounting_30 : decode cX2_countCounting 30 = .ok (.goto (-26), 3) := by decide +kernel
theorem dX2_countCounting_33 : decode cX2_countCounting 33 = .ok (.iload_n 2, 1) := by decide +kernel
theorem dX2_countCounting_34 : decode cX2_countCounting 34 = .ok (.ireturn, 1) := by decide +kernel
theorem dX2_doneFrom_0 : decode cX2_doneFrom 0 = .ok (.aload_n 0, 1) := by decide +kernel
theorem dX2_doneFrom_1 : decode cX2_doneFrom 1 = .ok (.getfield 9, 3) := by decide +kernel
theorem dX2_doneFrom_4 : decode cX2_doneFrom 4 = .ok (.iload_n 1, 1) := by decide +kernel
theorem dX2_doneFrom_5 : decode cX2_doneFrom 5 = .ok (.bipush 10, 2) := by decide +kernel
theorem dX2_doneFrom_7 : decode cX2_doneFrom 7 = .ok (.imul, 1) := by decide +kernel
theorem dX2_doneFrom_8 : decode cX2_doneFrom 8 = .ok (.iload_n 2, 1) := by decide +kernel
theorem dX2_doneFrom_9 : decode cX2_doneFrom 9 = .ok (.iadd, 1) := by decide +kernel
theorem dX2_doneFrom_10 : decode cX2_doneFrom 10 = .ok (.iaload, 1) := by decide +kernel
theorem dX2_doneFrom_11 : decode cX2_doneFrom 11 = .ok (.ireturn, 1) := by decide +kernel
theorem dX2_bitsNotDone_0 : decode cX2_bitsNotDone 0 = .ok (.iconst 0, 1) := by decide +kernel
theorem dX2_bitsNotDone_1 : decode cX2_bitsNotDone 1 = .ok (.istore_n 3, 1) := by decide +kernel
theorem dX2_bitsNotDone_2 : decode cX2_bitsNotDone 2 = .ok (.iconst 0, 1) := by decide +kernel
theorem dX2_bitsNotDone_3 : decode cX2_bitsNotDone 3 = .ok (.istore 4, 2) := by decide +kernel
theorem dX2_bitsNotDone_5 : decode cX2_bitsNotDone 5 = .ok (.iload 4, 2) := by decide +kernel
theorem dX2_bitsNotDone_7 : decode cX2_bitsNotDone 7 = .ok (.bipush 10, 2) := by decide +kernel
theorem dX2_bitsNotDone_9 : decode cX2_bitsNotDone 9 = .ok (.if_icmp .ge 38, 3) := by decide +kernel
theorem dX2_bitsNotDone_12 : decode cX2_bitsNotDone 12 = .ok (.iload_n 2, 1) := by decide +kernel
theorem dX2_bitsNotDone_13 : decode cX2_bitsNotDone 13 = .ok (.iload 4, 2) := by decide +kernel
theorem dX2_bitsNotDone_15 : decode cX2_bitsNotDone 15 = .ok (.invokestatic 93, 3) := by decide +kernel
theorem dX2_bitsNotDone_18 : decode cX2_bitsNotDone 18 = .ok (.ifCond .eq 23, 3) := by decide +kernel
theorem dX2_bitsNotDone_21 : decode cX2_bitsNotDone 21 = .ok (.aload_n 0, 1) := by decide +kernel
theorem dX2_bitsNotDone_22 : decode cX2_bitsNotDone 22 = .ok (.iload_n 1, 1) := by decide +kernel
theorem dX2_bitsNotDone_23 : decode cX2_bitsNotDone 23 = .ok (.iload 4, 2) := by decide +kernel
theorem dX2_bitsNotDone_25 : decode cX2_bitsNotDone 25 = .ok (.invokevirtual 90, 3) := by decide +kernel
theorem dX2_bitsNotDone_28 : decode cX2_bitsNotDone 28 = .ok (.sipush 1000, 3) := by decide +kernel
theorem dX2_bitsNotDone_31 : decode cX2_bitsNotDone 31 = .ok (.if_icmp .ne 10, 3) := by decide +kernel
theorem dX2_bitsNotDone_34 : decode cX2_bitsNotDone 34 = .ok (.iload_n 3, 1) := by decide +kernel
theorem dX2_bitsNotDone_35 : decode cX2_bitsNotDone 35 = .ok (.iconst 1, 1) := by decide +kernel
theorem dX2_bitsNotDone_36 : decode cX2_bitsNotDone 36 = .ok (.iload 4, 2) := by decide +kernel
theorem dX2_bitsNotDone_38 : decode cX2_bitsNotDone 38 = .ok (.ishl, 1) := by decide +kernel
theorem dX2_bitsNotDone_39 : decode cX2_bitsNotDone 39 = .ok (.ior, 1) := by decide +kernel
theorem dX2_bitsNotDone_40 : decode cX2_bitsNotDone 40 = .ok (.istore_n 3, 1) := by decide +kernel
theorem dX2_bitsNotDone_41 : decode cX2_bitsNotDone 41 = .ok (.iinc 4 1, 3) := by decide +kernel
theorem dX2_bitsNotDone_44 : decode cX2_bitsNotDone 44 = .ok (.goto (-39), 3) := by decide +kernel
theorem dX2_bitsNotDone_47 : decode cX2_bitsNotDone 47 = .ok (.iload_n 3, 1) := by decide +kernel
theorem dX2_bitsNotDone_48 : decode cX2_bitsNotDone 48 = .ok (.ireturn, 1) := by decide +kernel
theorem dX2_doneBy_0 : decode cX2_doneBy 0 = .ok (.iconst 0, 1) := by decide +kernel
theorem dX2_doneBy_1 : decode cX2_doneBy 1 = .ok (.istore 4, 2) := by decide +kernel
theorem dX2_doneBy_3 : decode cX2_doneBy 3 = .ok (.iconst 0, 1) := by decide +kernel
theorem dX2_doneBy_4 : decode cX2_doneBy 4 = .ok (.istore 5, 2) := by decide +kernel
theorem dX2_doneBy_6 : decode cX2_doneBy 6 = .ok (.iload 5, 2) := by decide +kernel
theorem dX2_doneBy_8 : decode cX2_doneBy 8 = .ok (.bipush 10, 2) := by decide +kernel
theorem dX2_doneBy_10 : decode cX2_doneBy 10 = .ok (.if_icmp .ge 32, 3) := by decide +kernel
theorem dX2_doneBy_13 : decode cX2_doneBy 13 = .ok (.iload_n 2, 1) := by decide +kernel
theorem dX2_doneBy_14 : decode cX2_doneBy 14 = .ok (.iload 5, 2) := by decide +kernel
theorem dX2_doneBy_16 : decode cX2_doneBy 16 = .ok (.invokestatic 93, 3) := by decide +kernel
theorem dX2_doneBy_19 : decode cX2_doneBy 19 = .ok (.ifCond .eq 17, 3) := by decide +kernel
theorem dX2_doneBy_22 : decode cX2_doneBy 22 = .ok (.aload_n 0, 1) := by decide +kernel
theorem dX2_doneBy_23 : decode cX2_doneBy 23 = .ok (.iload_n 1, 1) := by decide +kernel
theorem dX2_doneBy_24 : decode cX2_doneBy 24 = .ok (.iload 5, 2) := by decide +kernel
theorem dX2_doneBy_26 : decode cX2_doneBy 26 = .ok (.invokevirtual 90, 3) := by decide +kernel
theorem dX2_doneBy_29 : decode cX2_doneBy 29 = .ok (.iload_n 3, 1) := by decide +kernel
theorem dX2_doneBy_30 : decode cX2_doneBy 30 = .ok (.if_icmp .gt 6, 3) := by decide +kernel
theorem dX2_doneBy_33 : decode cX2_doneBy 33 = .ok (.iinc 4 1, 3) := by decide +kernel
theorem dX2_doneBy_36 : decode cX2_doneBy 36 = .ok (.iinc 5 1, 3) := by decide +kernel
theorem dX2_doneBy_39 : decode cX2_doneBy 39 = .ok (.goto (-33), 3) := by decide +kernel
theorem dX2_doneBy_42 : decode cX2_doneBy 42 = .ok (.iload 4, 2) := by decide +kernel
theorem dX2_doneBy_44 : decode cX2_doneBy 44 = .ok (.ireturn, 1) := by decide +kernel
theorem dX2_allFrom_0 : decode cX2_allFrom 0 = .ok (.iconst 0, 1) := by decide +kernel
theorem dX2_allFrom_1 : decode cX2_allFrom 1 = .ok (.istore_n 3, 1) := by decide +kernel
theorem dX2_allFrom_2 : decode cX2_allFrom 2 = .ok (.iconst 0, 1) := by decide +kernel
theorem dX2_allFrom_3 : decode cX2_allFrom 3 = .ok (.istore 4, 2) := by decide +kernel
theorem dX2_allFrom_5 : decode cX2_allFrom 5 = .ok (.iload 4, 2) := by decide +kernel
theorem dX2_allFrom_7 : decode cX2_allFrom 7 = .ok (.bipush 10, 2) := by decide +kernel
theorem dX2_allFrom_9 : decode cX2_allFrom 9 = .ok (.if_icmp .ge 30, 3) := by decide +kernel
theorem dX2_allFrom_12 : decode cX2_allFrom 12 = .ok (.iload_n 2, 1) := by decide +kernel
theorem dX2_allFrom_13 : decode cX2_allFrom 13 = .ok (.iload 4, 2) := by decide +kernel
theorem dX2_allFrom_15 : decode cX2_allFrom 15 = .ok (.invokestatic 93, 3) := by decide +kernel
theorem dX2_allFrom_18 : decode cX2_allFrom 18 = .ok (.ifCond .eq 15, 3) := by decide +kernel
theorem dX2_allFrom_21 : decode cX2_allFrom 21 = .ok (.iload_n 3, 1) := by decide +kernel
theorem dX2_allFrom_22 : decode cX2_allFrom 22 = .ok (.aload_n 0, 1) := by decide +kernel
theorem dX2_allFrom_23 : decode cX2_allFrom 23 = .ok (.iload_n 1, 1) := by decide +kernel
theorem dX2_allFrom_24 : decode cX2_allFrom 24 = .ok (.iload 4, 2) := by decide +kernel
theorem dX2_allFrom_26 : decode cX2_allFrom 26 = .ok (.invokevirtual 90, 3) := by decide +kernel
theorem dX2_allFrom_29 : decode cX2_allFrom 29 = .ok (.invokestatic 97, 3) := by decide +kernel
theorem dX2_allFrom_32 : decode cX2_allFrom 32 = .ok (.istore_n 3, 1) := by decide +kernel
theorem dX2_allFrom_33 : decode cX2_allFrom 33 = .ok (.iinc 4 1, 3) := by decide +kernel
theorem dX2_allFrom_36 : decode cX2_allFrom 36 = .ok (.goto (-31), 3) := by decide +kernel
theorem dX2_allFrom_39 : decode cX2_allFrom 39 = .ok (.iload_n 3, 1) := by decide +kernel
theorem dX2_allFrom_40 : decode cX2_allFrom 40 = .ok (.ireturn, 1) := by decide +kernel
theorem dX2_someFrom_0 : decode cX2_someFrom 0 = .ok (.iload_n 3, 1) := by decide +kernel
theorem dX2_someFrom_1 : decode cX2_someFrom 1 = .ok (.ifCond .ne 5, 3) := by decide +kernel
theorem dX2_someFrom_4 : decode cX2_someFrom 4 = .ok (.iconst 0, 1) := by decide +kernel
theorem dX2_someFrom_5 : decode cX2_someFrom 5 = .ok (.ireturn, 1) := by decide +kernel
theorem dX2_someFrom_6 : decode cX2_someFrom 6 = .ok (.sipush 1000, 3) := by decide +kernel
theorem dX2_someFrom_9 : decode cX2_someFrom 9 = .ok (.istore 4, 2) := by decide +kernel
theorem dX2_someFrom_11 : decode cX2_someFrom 11 = .ok (.iconst 0, 1) := by decide +kernel
theorem dX2_someFrom_12 : decode cX2_someFrom 12 = .ok (.istore 5, 2) := by decide +kernel
theorem dX2_someFrom_14 : decode cX2_someFrom 14 = .ok (.iload 5, 2) := by decide +kernel
theorem dX2_someFrom_16 : decode cX2_someFrom 16 = .ok (.bipush 10, 2) := by decide +kernel
theorem dX2_someFrom_18 : decode cX2_someFrom 18 = .ok (.if_icmp .ge 50, 3) := by decide +kernel
theorem dX2_someFrom_21 : decode cX2_someFrom 21 = .ok (.aload_n 0, 1) := by decide +kernel
theorem dX2_someFrom_22 : decode cX2_someFrom 22 = .ok (.iload_n 1, 1) := by decide +kernel
theorem dX2_someFrom_23 : decode cX2_someFrom 23 = .ok (.iload 5, 2) := by decide +kernel
theorem dX2_someFrom_25 : decode cX2_someFrom 25 = .ok (.invokevirtual 90, 3) := by decide +kernel
theorem dX2_someFrom_28 : decode cX2_someFrom 28 = .ok (.istore 6, 2) := by decide +kernel
theorem dX2_someFrom_30 : decode cX2_someFrom 30 = .ok (.iload_n 2, 1) := by decide +kernel
theorem dX2_someFrom_31 : decode cX2_someFrom 31 = .ok (.iload 5, 2) := by decide +kernel
theorem dX2_someFrom_33 : decode cX2_someFrom 33 = .ok (.invokestatic 93, 3) := by decide +kernel
theorem dX2_someFrom_36 : decode cX2_someFrom 36 = .ok (.ifCond .eq 26, 3) := by decide +kernel
theorem dX2_someFrom_39 : decode cX2_someFrom 39 = .ok (.iload 6, 2) := by decide +kernel
theorem dX2_someFrom_41 : decode cX2_someFrom 41 = .ok (.iload 4, 2) := by decide +kernel
theorem dX2_someFrom_43 : decode cX2_someFrom 43 = .ok (.if_icmp .ge 19, 3) := by decide +kernel
theorem dX2_someFrom_46 : decode cX2_someFrom 46 = .ok (.aload_n 0, 1) := by decide +kernel
theorem dX2_someFrom_47 : decode cX2_someFrom 47 = .ok (.iload_n 1, 1) := by decide +kernel
theorem dX2_someFrom_48 : decode cX2_someFrom 48 = .ok (.iload_n 2, 1) := by decide +kernel
theorem dX2_someFrom_49 : decode cX2_someFrom 49 = .ok (.iload 6, 2) := by decide +kernel
theorem dX2_someFrom_51 : decode cX2_someFrom 51 = .ok (.invokevirtual 100, 3) := by decide +kernel
theorem dX2_someFrom_54 : decode cX2_someFrom 54 = .ok (.iload_n 3, 1) := by decide +kernel
theorem dX2_someFrom_55 : decode cX2_someFrom 55 = .ok (.if_icmp .lt 7, 3) := by decide +kernel
theorem dX2_someFrom_58 : decode cX2_someFrom 58 = .ok (.iload 6, 2) := by decide +kernel
theorem dX2_someFrom_60 : decode cX2_someFrom 60 = .ok (.istore 4, 2) := by decide +kernel
theorem dX2_someFrom_62 : decode cX2_someFrom 62 = .ok (.iinc 5 1, 3) := by decide +kernel
theorem dX2_someFrom_65 : decode cX2_someFrom 65 = .ok (.goto (-51), 3) := by decide +kernel
theorem dX2_someFrom_68 : decode cX2_someFrom 68 = .ok (.iload 4, 2) := by decide +kernel
theorem dX2_someFrom_70 : decode cX2_someFrom 70 = .ok (.ireturn, 1) := by decide +kernel
theorem dX2_otherFrom_0 : decode cX2_otherFrom 0 = .ok (.iload_n 1, 1) := by decide +kernel
theorem dX2_otherFrom_1 : decode cX2_otherFrom 1 = .ok (.iconst (-1), 1) := by decide +kernel
theorem dX2_otherFrom_2 : decode cX2_otherFrom 2 = .ok (.if_icmp .ne 7, 3) := by decide +kernel
theorem dX2_otherFrom_5 : decode cX2_otherFrom 5 = .ok (.iconst 0, 1) := by decide +kernel
theorem dX2_otherFrom_6 : decode cX2_otherFrom 6 = .ok (.goto 9, 3) := by decide +kernel
theorem dX2_otherFrom_9 : decode cX2_otherFrom 9 = .ok (.aload_n 0, 1) := by decide +kernel
theorem dX2_otherFrom_10 : decode cX2_otherFrom 10 = .ok (.getfield 15, 3) := by decide +kernel
theorem dX2_otherFrom_13 : decode cX2_otherFrom 13 = .ok (.iload_n 1, 1) := by decide +kernel
theorem dX2_otherFrom_14 : decode cX2_otherFrom 14 = .ok (.iaload, 1) := by decide +kernel
theorem dX2_otherFrom_15 : decode cX2_otherFrom 15 = .ok (.ireturn, 1) := by decide +kernel
theorem dX2_readHeld_0 : decode cX2_readHeld 0 = .ok (.iconst 0, 1) := by decide +kernel
theorem dX2_readHeld_1 : decode cX2_readHeld 1 = .ok (.istore_n 3, 1) := by decide +kernel
theorem dX2_readHeld_2 : decode cX2_readHeld 2 = .ok (.iload_n 3, 1) := by decide +kernel
theorem dX2_readHeld_3 : decode cX2_readHeld 3 = .ok (.aload_n 1, 1) := by decide +kernel
theorem dX2_readHeld_4 : decode cX2_readHeld 4 = .ok (.getfield 24, 3) := by decide +kernel
theorem dX2_readHeld_7 : decode cX2_readHeld 7 = .ok (.getfield 104, 3) := by decide +kernel
theorem dX2_readHeld_10 : decode cX2_readHeld 10 = .ok (.if_icmp .ge 22, 3) := by decide +kernel
theorem dX2_readHeld_13 : decode cX2_readHeld 13 = .ok (.aload_n 0, 1) := by decide +kernel
theorem dX2_readHeld_14 : decode cX2_readHeld 14 = .ok (.getfield 15, 3) := by decide +kernel
theorem dX2_readHeld_17 : decode cX2_readHeld 17 = .ok (.iload_n 3, 1) := by decide +kernel
theorem dX2_readHeld_18 : decode cX2_readHeld 18 = .ok (.aload_n 0, 1) := by decide +kernel
theorem dX2_readHeld_19 : decode cX2_readHeld 19 = .ok (.aload_n 1, 1) := by decide +kernel
theorem dX2_readHeld_20 : decode cX2_readHeld 20 = .ok (.iload_n 2, 1) := by decide +kernel
theorem dX2_readHeld_21 : decode cX2_readHeld 21 = .ok (.iload_n 3, 1) := by decide +kernel
theorem dX2_readHeld_22 : decode cX2_readHeld 22 = .ok (.invokevirtual 107, 3) := by decide +kernel
theorem dX2_readHeld_25 : decode cX2_readHeld 25 = .ok (.iastore, 1) := by decide +kernel
theorem dX2_readHeld_26 : decode cX2_readHeld 26 = .ok (.iinc 3 1, 3) := by decide +kernel
theorem dX2_readHeld_29 : decode cX2_readHeld 29 = .ok (.goto (-27), 3) := by decide +kernel
theorem dX2_readHeld_32 : decode cX2_readHeld 32 = .ok (.return_, 1) := by decide +kernel
theorem dX2_readBadge_0 : decode cX2_readBadge 0 = .ok (.aload_n 1, 1) := by decide +kernel
theorem dX2_readBadge_1 : decode cX2_readBadge 1 = .ok (.getfield 24, 3) := by decide +kernel
theorem dX2_readBadge_4 : decode cX2_readBadge 4 = .ok (.astore 4, 2) := by decide +kernel
theorem dX2_readBadge_6 : decode cX2_readBadge 6 = .ok (.aload_n 1, 1) := by decide +kernel
theorem dX2_readBadge_7 : decode cX2_readBadge 7 = .ok (.getfield 71, 3) := by decide +kernel
theorem dX2_readBadge_10 : decode cX2_readBadge 10 = .ok (.getfield 111, 3) := by decide +kernel
theorem dX2_readBadge_13 : decode cX2_readBadge 13 = .ok (.iload_n 2, 1) := by decide +kernel
theorem dX2_readBadge_14 : decode cX2_readBadge 14 = .ok (.iaload, 1) := by decide +kernel
theorem dX2_readBadge_15 : decode cX2_readBadge 15 = .ok (.aload 4, 2) := by decide +kernel
theorem dX2_readBadge_17 : decode cX2_readBadge 17 = .ok (.getfield 114, 3) := by decide +kernel
theorem dX2_readBadge_20 : decode cX2_readBadge 20 = .ok (.iload_n 3, 1) := by decide +kernel
theorem dX2_readBadge_21 : decode cX2_readBadge 21 = .ok (.iaload, 1) := by decide +kernel
theorem dX2_readBadge_22 : decode cX2_readBadge 22 = .ok (.if_icmp .ge 7, 3) := by decide +kernel
theorem dX2_readBadge_25 : decode cX2_readBadge 25 = .ok (.sipush 1000, 3) := by decide +kernel
theorem dX2_readBadge_28 : decode cX2_readBadge 28 = .ok (.ireturn, 1) := by decide +kernel
theorem dX2_readBadge_29 : decode cX2_readBadge 29 = .ok (.aload_n 0, 1) := by decide +kernel
theorem dX2_readBadge_30 : decode cX2_readBadge 30 = .ok (.iload_n 2, 1) := by decide +kernel
theorem dX2_readBadge_31 : decode cX2_readBadge 31 = .ok (.aload 4, 2) := by decide +kernel
theorem dX2_readBadge_33 : decode cX2_readBadge 33 = .ok (.getfield 115, 3) := by decide +kernel
theorem dX2_readBadge_36 : decode cX2_readBadge 36 = .ok (.iload_n 3, 1) := by decide +kernel
theorem dX2_readBadge_37 : decode cX2_readBadge 37 = .ok (.iaload, 1) := by decide +kernel
theorem dX2_readBadge_38 : decode cX2_readBadge 38 = .ok (.invokevirtual 118, 3) := by decide +kernel
theorem dX2_readBadge_41 : decode cX2_readBadge 41 = .ok (.istore 5, 2) := by decide +kernel
theorem dX2_readBadge_43 : decode cX2_readBadge 43 = .ok (.aload_n 0, 1) := by decide +kernel
theorem dX2_readBadge_44 : decode cX2_readBadge 44 = .ok (.iload_n 2, 1) := by decide +kernel
theorem dX2_readBadge_45 : decode cX2_readBadge 45 = .ok (.aload 4, 2) := by decide +kernel
theorem dX2_readBadge_47 : decode cX2_readBadge 47 = .ok (.getfield 121, 3) := by decide +kernel
theorem dX2_readBadge_50 : decode cX2_readBadge 50 = .ok (.iload_n 3, 1) := by decide +kernel
theorem dX2_readBadge_51 : decode cX2_readBadge 51 = .ok (.iaload, 1) := by decide +kernel
theorem dX2_readBadge_52 : decode cX2_readBadge 52 = .ok (.aload 4, 2) := by decide +kernel
theorem dX2_readBadge_54 : decode cX2_readBadge 54 = .ok (.getfield 124, 3) := by decide +kernel
theorem dX2_readBadge_57 : decode cX2_readBadge 57 = .ok (.iload_n 3, 1) := by decide +kernel
theorem dX2_readBadge_58 : decode cX2_readBadge 58 = .ok (.iaload, 1) := by decide +kernel
theorem dX2_readBadge_59 : decode cX2_readBadge 59 = .ok (.invokevirtual 127, 3) := by decide +kernel
theorem dX2_readBadge_62 : decode cX2_readBadge 62 = .ok (.istore 6, 2) := by decide +kernel
theorem dX2_readBadge_64 : decode cX2_readBadge 64 = .ok (.iload 5, 2) := by decide +kernel
theorem dX2_readBadge_66 : decode cX2_readBadge 66 = .ok (.iload 6, 2) := by decide +kernel
theorem dX2_readBadge_68 : decode cX2_readBadge 68 = .ok (.invokestatic 97, 3) := by decide +kernel
theorem dX2_readBadge_71 : decode cX2_readBadge 71 = .ok (.aload_n 0, 1) := by decide +kernel
theorem dX2_readBadge_72 : decode cX2_readBadge 72 = .ok (.aload 4, 2) := by decide +kernel
theorem dX2_readBadge_74 : decode cX2_readBadge 74 = .ok (.getfield 130, 3) := by decide +kernel
theorem dX2_readBadge_77 : decode cX2_readBadge 77 = .ok (.iload_n 3, 1) := by decide +kernel
theorem dX2_readBadge_78 : decode cX2_readBadge 78 = .ok (.iaload, 1) := by decide +kernel
theorem dX2_readBadge_79 : decode cX2_readBadge 79 = .ok (.invokevirtual 133, 3) := by decide +kernel
theorem dX2_readBadge_82 : decode cX2_readBadge 82 = .ok (.invokestatic 97, 3) := by decide +kernel
theorem dX2_readBadge_85 : decode cX2_readBadge 85 = .ok (.ireturn, 1) := by decide +kernel
theorem dX2_countHeld_0 : decode cX2_countHeld 0 = .ok (.iconst 0, 1) := by decide +kernel
theorem dX2_countHeld_1 : decode cX2_countHeld 1 = .ok (.istore_n 3, 1) := by decide +kernel
theorem dX2_countHeld_2 : decode cX2_countHeld 2 = .ok (.iconst 0, 1) := by decide +kernel
theorem dX2_countHeld_3 : decode cX2_countHeld 3 = .ok (.istore 4, 2) := by decide +kernel
theorem dX2_countHeld_5 : decode cX2_countHeld 5 = .ok (.iload 4, 2) := by decide +kernel
theorem dX2_countHeld_7 : decode cX2_countHeld 7 = .ok (.aload_n 1, 1) := by decide +kernel
theorem dX2_countHeld_8 : decode cX2_countHeld 8 = .ok (.getfield 24, 3) := by decide +kernel
theorem dX2_countHeld_11 : decode cX2_countHeld 11 = .ok (.getfield 104, 3) := by decide +kernel
theorem dX2_countHeld_14 : decode cX2_countHeld 14 = .ok (.if_icmp .ge 23, 3) := by decide +kernel
theorem dX2_countHeld_17 : decode cX2_countHeld 17 = .ok (.aload_n 0, 1) := by decide +kernel
theorem dX2_countHeld_18 : decode cX2_countHeld 18 = .ok (.getfield 15, 3) := by decide +kernel
theorem dX2_countHeld_21 : decode cX2_countHeld 21 = .ok (.iload 4, 2) := by decide +kernel
theorem dX2_countHeld_23 : decode cX2_countHeld 23 = .ok (.iaload, 1) := by decide +kernel
theorem dX2_countHeld_24 : decode cX2_countHeld 24 = .ok (.iload_n 2, 1) := by decide +kernel
theorem dX2_countHeld_25 : decode cX2_countHeld 25 = .ok (.if_icmp .gt 6, 3) := by decide +kernel
theorem dX2_countHeld_28 : decode cX2_countHeld 28 = .ok (.iinc 3 1, 3) := by decide +kernel
theorem dX2_countHeld_31 : decode cX2_countHeld 31 = .ok (.iinc 4 1, 3) := by decide +kernel
theorem dX2_countHeld_34 : decode cX2_countHeld 34 = .ok (.goto (-29), 3) := by decide +kernel
theorem dX2_countHeld_37 : decode cX2_countHeld 37 = .ok (.iload_n 3, 1) := by decide +kernel
theorem dX2_countHeld_38 : decode cX2_countHeld 38 = .ok (.ireturn, 1) := by decide +kernel
theorem dX2_countHeldOfAll_0 : decode cX2_countHeldOfAll 0 = .ok (.iconst 0, 1) := by decide +kernel
theorem dX2_countHeldOfAll_1 : decode cX2_countHeldOfAll 1 = .ok (.istore_n 2, 1) := by decide +kernel
theorem dX2_countHeldOfAll_2 : decode cX2_countHeldOfAll 2 = .ok (.iconst 0, 1) := by decide +kernel
theorem dX2_countHeldOfAll_3 : decode cX2_countHeldOfAll 3 = .ok (.istore_n 3, 1) := by decide +kernel
theorem dX2_countHeldOfAll_4 : decode cX2_countHeldOfAll 4 = .ok (.iload_n 3, 1) := by decide +kernel
theorem dX2_countHeldOfAll_5 : decode cX2_countHeldOfAll 5 = .ok (.aload_n 1, 1) := by decide +kernel
theorem dX2_countHeldOfAll_6 : decode cX2_countHeldOfAll 6 = .ok (.getfield 71, 3) := by decide +kernel
theorem dX2_countHeldOfAll_9 : decode cX2_countHeldOfAll 9 = .ok (.getfield 137, 3) := by decide +kernel
theorem dX2_countHeldOfAll_12 : decode cX2_countHeldOfAll 12 = .ok (.if_icmp .ge 26, 3) := by decide +kernel
theorem dX2_countHeldOfAll_15 : decode cX2_countHeldOfAll 15 = .ok (.aload_n 0, 1) := by decide +kernel
theorem dX2_countHeldOfAll_16 : decode cX2_countHeldOfAll 16 = .ok (.aload_n 1, 1) := by decide +kernel
theorem dX2_countHeldOfAll_17 : decode cX2_countHeldOfAll 17 = .ok (.iload_n 3, 1) := by decide +kernel
theorem dX2_countHeldOfAll_18 : decode cX2_countHeldOfAll 18 = .ok (.invokevirtual 139, 3) := by decide +kernel
theorem dX2_countHeldOfAll_21 : decode cX2_countHeldOfAll 21 = .ok (.iload_n 2, 1) := by decide +kernel
theorem dX2_countHeldOfAll_22 : decode cX2_countHeldOfAll 22 = .ok (.aload_n 0, 1) := by decide +kernel
theorem dX2_countHeldOfAll_23 : decode cX2_countHeldOfAll 23 = .ok (.aload_n 1, 1) := by decide +kernel
theorem dX2_countHeldOfAll_24 : decode cX2_countHeldOfAll 24 = .ok (.sipush 999, 3) := by decide +kernel
theorem dX2_countHeldOfAll_27 : decode cX2_countHeldOfAll 27 = .ok (.invokevirtual 142, 3) := by decide +kernel
theorem dX2_countHeldOfAll_30 : decode cX2_countHeldOfAll 30 = .ok (.iadd, 1) := by decide +kernel
theorem dX2_countHeldOfAll_31 : decode cX2_countHeldOfAll 31 = .ok (.istore_n 2, 1) := by decide +kernel
theorem dX2_countHeldOfAll_32 : decode cX2_countHeldOfAll 32 = .ok (.iinc 3 1, 3) := by decide +kernel
theorem dX2_countHeldOfAll_35 : decode cX2_countHeldOfAll 35 = .ok (.goto (-31), 3) := by decide +kernel
theorem dX2_countHeldOfAll_38 : decode cX2_countHeldOfAll 38 = .ok (.iload_n 2, 1) := by decide +kernel
theorem dX2_countHeldOfAll_39 : decode cX2_countHeldOfAll 39 = .ok (.ireturn, 1) := by decide +kernel
theorem dX3_init_0 : decode cX3_init 0 = .ok (.aload_n 0, 1) := by decide +kernel
theorem dX3_init_1 : decode cX3_init 1 = .ok (.invokespecial 3, 3) := by decide +kernel
theorem dX3_init_4 : decode cX3_init 4 = .ok (.aload_n 0, 1) := by decide +kernel
theorem dX3_init_5 : decode cX3_init 5 = .ok (.bipush 10, 2) := by decide +kernel
theorem dX3_init_7 : decode cX3_init 7 = .ok (.newarray .int, 2) := by decide +kernel
theorem dX3_init_9 : decode cX3_init 9 = .ok (.putfield 9, 3) := by decide +kernel
theorem dX3_init_12 : decode cX3_init 12 = .ok (.aload_n 0, 1) := by decide +kernel
theorem dX3_init_13 : decode cX3_init 13 = .ok (.bipush 10, 2) := by decide +kernel
theorem dX3_init_15 : decode cX3_init 15 = .ok (.newarray .int, 2) := by decide +kernel
theorem dX3_init_17 : decode cX3_init 17 = .ok (.putfield 15, 3) := by decide +kernel
theorem dX3_init_20 : decode cX3_init 20 = .ok (.aload_n 0, 1) := by decide +kernel
theorem dX3_init_21 : decode cX3_init 21 = .ok (.bipush 20, 2) := by decide +kernel
theorem dX3_init_23 : decode cX3_init 23 = .ok (.newarray .int, 2) := by decide +kernel
theorem dX3_init_25 : decode cX3_init 25 = .ok (.putfield 18, 3) := by decide +kernel
theorem dX3_init_28 : decode cX3_init 28 = .ok (.aload_n 0, 1) := by decide +kernel
theorem dX3_init_29 : decode cX3_init 29 = .ok (.bipush 20, 2) := by decide +kernel
theorem dX3_init_31 : decode cX3_init 31 = .ok (.newarray .int, 2) := by decide +kernel
theorem dX3_init_33 : decode cX3_init 33 = .ok (.putfield 21, 3) := by decide +kernel
theorem dX3_init_36 : decode cX3_init 36 = .ok (.aload_n 0, 1) := by decide +kernel
theorem dX3_init_37 : decode cX3_init 37 = .ok (.iconst 5, 1) := by decide +kernel
theorem dX3_init_38 : decode cX3_init 38 = .ok (.newarray .int, 2) := by decide +kernel
theorem dX3_init_40 : decode cX3_init 40 = .ok (.putfield 24, 3) := by decide +kernel
theorem dX3_init_43 : decode cX3_init 43 = .ok (.aload_n 0, 1) := by decide +kernel
theorem dX3_init_44 : decode cX3_init 44 = .ok (.getfield 18, 3) := by decide +kernel
theorem dX3_init_47 : decode cX3_init 47 = .ok (.iconst (-1), 1) := by decide +kernel
theorem dX3_init_48 : decode cX3_init 48 = .ok (.invokestatic 27, 3) := by decide +kernel
theorem dX3_init_51 : decode cX3_init 51 = .ok (.aload_n 0, 1) := by decide +kernel
theorem dX3_init_52 : decode cX3_init 52 = .ok (.getfield 21, 3) := by decide +kernel
theorem dX3_init_55 : decode cX3_init 55 = .ok (.iconst (-1), 1) := by decide +kernel
theorem dX3_init_56 : decode cX3_init 56 = .ok (.invokestatic 27, 3) := by decide +kernel
theorem dX3_init_59 : decode cX3_init 59 = .ok (.return_, 1) := by decide +kernel
theorem dX3_become_0 : decode cX3_become 0 = .ok (.aload_n 0, 1) := by decide +kernel
theorem dX3_become_1 : decode cX3_become 1 = .ok (.aload_n 1, 1) := by decide +kernel
theorem dX3_become_2 : decode cX3_become 2 = .ok (.getfield 33, 3) := by decide +kernel
theorem dX3_become_5 : decode cX3_become 5 = .ok (.putfield 33, 3) := by decide +kernel
theorem dX3_become_8 : decode cX3_become 8 = .ok (.aload_n 1, 1) := by decide +kernel
theorem dX3_become_9 : decode cX3_become 9 = .ok (.getfield 9, 3) := by decide +kernel
theorem dX3_become_12 : decode cX3_become 12 = .ok (.aload_n 0, 1) := by decide +kernel
theorem dX3_become_13 : decode cX3_become 13 = .ok (.getfield 9, 3) := by decide +kernel
theorem dX3_become_16 : decode cX3_become 16 = .ok (.invokestatic 37, 3) := by decide +kernel
theorem dX3_become_19 : decode cX3_become 19 = .ok (.aload_n 1, 1) := by decide +kernel
theorem dX3_become_20 : decode cX3_become 20 = .ok (.getfield 15, 3) := by decide +kernel
theorem dX3_become_23 : decode cX3_become 23 = .ok (.aload_n 0, 1) := by decide +kernel
theorem dX3_become_24 : decode cX3_become 24 = .ok (.getfield 15, 3) := by decide +kernel
theorem dX3_become_27 : decode cX3_become 27 = .ok (.invokestatic 37, 3) := by decide +kernel
theorem dX3_become_30 : decode cX3_become 30 = .ok (.aload_n 0, 1) := by decide +kernel
theorem dX3_become_31 : decode cX3_become 31 = .ok (.aload_n 1, 1) := by decide +kernel
theorem dX3_become_32 : decode cX3_become 32 = .ok (.getfield 41, 3) := by decide +kernel
theorem dX3_become_35 : decode cX3_become 35 = .ok (.putfield 41, 3) := by decide +kernel
theorem dX3_become_38 : decode cX3_become 38 = .ok (.aload_n 1, 1) := by decide +kernel
theorem dX3_become_39 : decode cX3_become 39 = .ok (.getfield 18, 3) := by decide +kernel
theorem dX3_become_42 : decode cX3_become 42 = .ok (.aload_n 0, 1) := by decide +kernel
theorem dX3_become_43 : decode cX3_become 43 = .ok (.getfield 18, 3) := by decide +kernel
theorem dX3_become_46 : decode cX3_become 46 = .ok (.invokestatic 37, 3) := by decide +kernel
theorem dX3_become_49 : decode cX3_become 49 = .ok (.aload_n 1, 1) := by decide +kernel
theorem dX3_become_50 : decode cX3_become 50 = .ok (.getfield 21, 3) := by decide +kernel
theorem dX3_become_53 : decode cX3_become 53 = .ok (.aload_n 0, 1) := by decide +kernel
theorem dX3_become_54 : decode cX3_become 54 = .ok (.getfield 21, 3) := by decide +kernel
theorem dX3_become_57 : decode cX3_become 57 = .ok (.invokestatic 37, 3) := by decide +kernel
theorem dX3_become_60 : decode cX3_become 60 = .ok (.aload_n 1, 1) := by decide +kernel
theorem dX3_become_61 : decode cX3_become 61 = .ok (.getfield 24, 3) := by decide +kernel
theorem dX3_become_64 : decode cX3_become 64 = .ok (.aload_n 0, 1) := by decide +kernel
theorem dX3_become_65 : decode cX3_become 65 = .ok (.getfield 24, 3) := by decide +kernel
theorem dX3_become_68 : decode cX3_become 68 = .ok (.invokestatic 37, 3) := by decide +kernel
theorem dX3_become_71 : decode cX3_become 71 = .ok (.return_, 1) := by decide +kernel
theorem dX3_hasPaper_0 : decode cX3_hasPaper 0 = .ok (.iload_n 1, 1) := by decide +kernel
theorem dX3_hasPaper_1 : decode cX3_hasPaper 1 = .ok (.iconst 4, 1) := by decide +kernel
theorem dX3_hasPaper_2 : decode cX3_hasPaper 2 = .ok (.imul, 1) := by decide +kernel
theorem dX3_hasPaper_3 : decode cX3_hasPaper 3 = .ok (.iload_n 2, 1) := by decide +kernel
theorem dX3_hasPaper_4 : decode cX3_hasPaper 4 = .ok (.iadd, 1) := by decide +kernel
theorem dX3_hasPaper_5 : decode cX3_hasPaper 5 = .ok (.istore 4, 2) := by decide +kernel
theorem dX3_hasPaper_7 : decode cX3_hasPaper 7 = .ok (.aload_n 0, 1) := by decide +kernel
theorem dX3_hasPaper_8 : decode cX3_hasPaper 8 = .ok (.getfield 18, 3) := by decide +kernel
theorem dX3_hasPaper_11 : decode cX3_hasPaper 11 = .ok (.iload 4, 2) := by decide +kernel
theorem dX3_hasPaper_13 : decode cX3_hasPaper 13 = .ok (.iaload, 1) := by decide +kernel
theorem dX3_hasPaper_14 : decode cX3_hasPaper 14 = .ok (.iload_n 3, 1) := by decide +kernel
theorem dX3_hasPaper_15 : decode cX3_hasPaper 15 = .ok (.if_icmp .gt 18, 3) := by decide +kernel
theorem dX3_hasPaper_18 : decode cX3_hasPaper 18 = .ok (.iload_n 3, 1) := by decide +kernel
theorem dX3_hasPaper_19 : decode cX3_hasPaper 19 = .ok (.aload_n 0, 1) := by decide +kernel
theorem dX3_hasPaper_20 : decode cX3_hasPaper 20 = .ok (.getfield 21, 3) := by decide +kernel
theorem dX3_hasPaper_23 : decode cX3_hasPaper 23 = .ok (.iload 4, 2) := by decide +kernel
theorem dX3_hasPaper_25 : decode cX3_hasPaper 25 = .ok (.iaload, 1) := by decide +kernel
theorem dX3_hasPaper_26 : decode cX3_hasPaper 26 = .ok (.if_icmp .gt 7, 3) := by decide +kernel
theorem dX3_hasPaper_29 : decode cX3_hasPaper 29 = .ok (.iconst 1, 1) := by decide +kernel
theorem dX3_hasPaper_30 : decode cX3_hasPaper 30 = .ok (.goto 4, 3) := by decide +kernel
theorem dX3_hasPaper_33 : decode cX3_hasPaper 33 = .ok (.iconst 0, 1) := by decide +kernel
theorem dX3_hasPaper_34 : decode cX3_hasPaper 34 = .ok (.ireturn, 1) := by decide +kernel
theorem dX3_countPatrol_0 : decode cX3_countPatrol 0 = .ok (.iconst 0, 1) := by decide +kernel
theorem dX3_countPatrol_1 : decode cX3_countPatrol 1 = .ok (.istore_n 2, 1) := by decide +kernel
theorem dX3_countPatrol_2 : decode cX3_countPatrol 2 = .ok (.iconst 0, 1) := by decide +kernel
theorem dX3_countPatrol_3 : decode cX3_countPatrol 3 = .ok (.istore_n 3, 1) := by decide +kernel
theorem dX3_countPatrol_4 : decode cX3_countPatrol 4 = .ok (.iload_n 3, 1) := by decide +kernel
theorem dX3_countPatrol_5 : decode cX3_countPatrol 5 = .ok (.aload_n 0, 1) := by decide +kernel
theorem dX3_countPatrol_6 : decode cX3_countPatrol 6 = .ok (.getfield 33, 3) := by decide +kernel
theorem dX3_countPatrol_9 : decode cX3_countPatrol 9 = .ok (.if_icmp .ge 22, 3) := by decide +kernel
theorem dX3_countPatrol_12 : decode cX3_countPatrol 12 = .ok (.aload_n 0, 1) := by decide +kernel
theorem dX3_countPatrol_13 : decode cX3_countPatrol 13 = .ok (.getfield 15, 3) := by decide +kernel
theorem dX3_countPatrol_16 : decode cX3_countPatrol 16 = .ok (.iload_n 3, 1) := by decide +kernel
theorem dX3_countPatrol_17 : decode cX3_countPatrol 17 = .ok (.iaload, 1) := by decide +kernel
theorem dX3_countPatrol_18 : decode cX3_countPatrol 18 = .ok (.iload_n 1, 1) := by decide +kernel
theorem dX3_countPatrol_19 : decode cX3_countPatrol 19 = .ok (.if_icmp .ne 6, 3) := by decide +kernel
theorem dX3_countPatrol_22 : decode cX3_countPatrol 22 = .ok (.iinc 2 1, 3) := by decide +kernel
theorem dX3_countPatrol_25 : decode cX3_countPatrol 25 = .ok (.iinc 3 1, 3) := by decide +kernel
theorem dX3_countPatrol_28 : decode cX3_countPatrol 28 = .ok (.goto (-24), 3) := by decide +kernel
theorem dX3_countPatrol_31 : decode cX3_countPatrol 31 = .ok (.iload_n 2, 1) := by decide +kernel
theorem dX3_countPatrol_32 : decode cX3_countPatrol 32 = .ok (.ireturn, 1) := by decide +kernel
theorem dX3_countFree_0 : decode cX3_countFree 0 = .ok (.iconst 0, 1) := by decide +kernel
theorem dX3_countFree_1 : decode cX3_countFree 1 = .ok (.istore_n 2, 1) := by decide +kernel
theorem dX3_countFree_2 : decode cX3_countFree 2 = .ok (.iconst 0, 1) := by decide +kernel
theorem dX3_countFree_3 : decode cX3_countFree 3 = .ok (.istore_n 3, 1) := by decide +kernel
theorem dX3_countFree_4 : decode cX3_countFree 4 = .ok (.iload_n 3, 1) := by decide +kernel
theorem dX3_countFree_5 : decode cX3_countFree 5 = .ok (.aload_n 0, 1) := by decide +kernel
theorem dX3_countFree_6 : decode cX3_countFree 6 = .ok (.getfield 41, 3) := by decide +kernel
theorem dX3_countFree_9 : decode cX3_countFree 9 = .ok (.if_icmp .ge 25, 3) := by decide +kernel
theorem dX3_countFree_12 : decode cX3_countFree 12 = .ok (.aload_n 0, 1) := by decide +kernel
theorem dX3_countFree_13 : decode cX3_countFree 13 = .ok (.getfield 24, 3) := by decide +kernel
theorem dX3_countFree_16 : decode cX3_countFree 16 = .ok (.iload_n 3, 1) := by decide +kernel
theorem dX3_countFree_17 : decode cX3_countFree 17 = .ok (.iaload, 1) := by decide +kernel
theorem dX3_countFree_18 : decode cX3_countFree 18 = .ok (.iload_n 1, 1) := by decide +kernel
theorem dX3_countFree_19 : decode cX3_countFree 19 = .ok (.invokestatic 44, 3) := by decide +kernel
theorem dX3_countFree_22 : decode cX3_countFree 22 = .ok (.ifCond .eq 6, 3) := by decide +kernel
theorem dX3_countFree_25 : decode cX3_countFree 25 = .ok (.iinc 2 1, 3) := by decide +kernel
theorem dX3_countFree_28 : decode cX3_countFree 28 = .ok (.iinc 3 1, 3) := by decide +kernel
theorem dX3_countFree_31 : decode cX3_countFree 31 = .ok (.goto (-27), 3) := by decide +kernel
theorem dX3_countFree_34 : decode cX3_countFree 34 = .ok (.iload_n 2, 1) := by decide +kernel
theorem dX3_countFree_35 : decode cX3_countFree 35 = .ok (.ireturn, 1) := by decide +kernel
theorem dX4_init_0 : decode cX4_init 0 = .ok (.aload_n 0, 1) := by decide +kernel
theorem dX4_init_1 : decode cX4_init 1 = .ok (.invokespecial 3, 3) := by decide +kernel
theorem dX4_init_4 : decode cX4_init 4 = .ok (.aload_n 0, 1) := by decide +kernel
theorem dX4_init_5 : decode cX4_init 5 = .ok (.iconst 4, 1) := by decide +kernel
theorem dX4_init_6 : decode cX4_init 6 = .ok (.newarray .int, 2) := by decide +kernel
theorem dX4_init_8 : decode cX4_init 8 = .ok (.putfield 9, 3) := by decide +kernel
theorem dX4_init_11 : decode cX4_init 11 = .ok (.aload_n 0, 1) := by decide +kernel
theorem dX4_init_12 : decode cX4_init 12 = .ok (.iconst 5, 1) := by decide +kernel
theorem dX4_init_13 : decode cX4_init 13 = .ok (.newarray .int, 2) := by decide +kernel
theorem dX4_init_15 : decode cX4_init 15 = .ok (.putfield 15, 3) := by decide +kernel
theorem dX4_init_18 : decode cX4_init 18 = .ok (.aload_n 0, 1) := by decide +kernel
theorem dX4_init_19 : decode cX4_init 19 = .ok (.bipush 60, 2) := by decide +kernel
theorem dX4_init_21 : decode cX4_init 21 = .ok (.newarray .int, 2) := by decide +kernel
theorem dX4_init_23 : decode cX4_init 23 = .ok (.putfield 18, 3) := by decide +kernel
theorem dX4_init_26 : decode cX4_init 26 = .ok (.aload_n 0, 1) := by decide +kernel
theorem dX4_init_27 : decode cX4_init 27 = .ok (.bipush 15, 2) := by decide +kernel
theorem dX4_init_29 : decode cX4_init 29 = .ok (.newarray .int, 2) := by decide +kernel
theorem dX4_init_31 : decode cX4_init 31 = .ok (.putfield 21, 3) := by decide +kernel
theorem dX4_init_34 : decode cX4_init 34 = .ok (.aload_n 0, 1) := by decide +kernel
theorem dX4_init_35 : decode cX4_init 35 = .ok (.iconst 5, 1) := by decide +kernel
theorem dX4_init_36 : decode cX4_init 36 = .ok (.newarray .int, 2) := by decide +kernel
theorem dX4_init_38 : decode cX4_init 38 = .ok (.putfield 24, 3) := by decide +kernel
theorem dX4_init_41 : decode cX4_init 41 = .ok (.aload_n 0, 1) := by decide +kernel
theorem dX4_init_42 : decode cX4_init 42 = .ok (.iconst 5, 1) := by decide +kernel
theorem dX4_init_43 : decode cX4_init 43 = .ok (.newarray .int, 2) := by decide +kernel
theorem dX4_init_45 : decode cX4_init 45 = .ok (.putfield 27, 3) := by decide +kernel
theorem dX4_init_48 : decode cX4_init 48 = .ok (.aload_n 0, 1) := by decide +kernel
theorem dX4_init_49 : decode cX4_init 49 = .ok (.iconst 4, 1) := by decide +kernel
theorem dX4_init_50 : decode cX4_init 50 = .ok (.newarray .int, 2) := by decide +kernel
theorem dX4_init_52 : decode cX4_init 52 = .ok (.putfield 30, 3) := by decide +kernel
theorem dX4_init_55 : decode cX4_init 55 = .ok (.aload_n 0, 1) := by decide +kernel
theorem dX4_init_56 : decode cX4_init 56 = .ok (.iconst 4, 1) := by decide +kernel
theorem dX4_init_57 : decode cX4_init 57 = .ok (.newarray .int, 2) := by decide +kernel
theorem dX4_init_59 : decode cX4_init 59 = .ok (.putfield 33, 3) := by decide +kernel
theorem dX4_init_62 : decode cX4_init 62 = .ok (.return_, 1) := by decide +kernel
theorem dX4_read_0 : decode cX4_read 0 = .ok (.iconst 0, 1) := by decide +kernel
theorem dX4_read_1 : decode cX4_read 1 = .ok (.istore_n 3, 1) := by decide +kernel
theorem dX4_read_2 : decode cX4_read 2 = .ok (.iload_n 3, 1) := by decide +kernel
theorem dX4_read_3 : decode cX4_read 3 = .ok (.iconst 5, 1) := by decide +kernel
theorem dX4_read_4 : decode cX4_read 4 = .ok (.if_icmp .ge 25, 3) := by decide +kernel
theorem dX4_read_7 : decode cX4_read 7 = .ok (.aload_n 0, 1) := by decide +kernel
theorem dX4_read_8 : decode cX4_read 8 = .ok (.getfield 15, 3) := by decide +kernel
theorem dX4_read_11 : decode cX4_read 11 = .ok (.iload_n 3, 1) := by decide +kernel
theorem dX4_read_12 : decode cX4_read 12 = .ok (.iload_n 2, 1) := by decide +kernel
theorem dX4_read_13 : decode cX4_read 13 = .ok (.aload_n 1, 1) := by decide +kernel
theorem dX4_read_14 : decode cX4_read 14 = .ok (.getfield 36, 3) := by decide +kernel
theorem dX4_read_17 : decode cX4_read 17 = .ok (.iload_n 3, 1) := by decide +kernel
theorem dX4_read_18 : decode cX4_read 18 = .ok (.invokevirtual 42, 3) := by decide +kernel
theorem dX4_read_21 : decode cX4_read 21 = .ok (.imul, 1) := by decide +kernel
theorem dX4_read_22 : decode cX4_read 22 = .ok (.iastore, 1) := by decide +kernel
theorem dX4_read_23 : decode cX4_read 23 = .ok (.iinc 3 1, 3) := by decide +kernel
theorem dX4_read_26 : decode cX4_read 26 = .ok (.goto (-24), 3) := by decide +kernel
theorem dX4_read_29 : decode cX4_read 29 = .ok (.iconst 0, 1) := by decide +kernel
theorem dX4_read_30 : decode cX4_read 30 = .ok (.istore_n 3, 1) := by decide +kernel
theorem dX4_read_31 : decode cX4_read 31 = .ok (.iload_n 3, 1) := by decide +kernel
theorem dX4_read_32 : decode cX4_read 32 = .ok (.bipush 15, 2) := by decide +kernel
theorem dX4_read_34 : decode cX4_read 34 = .ok (.if_icmp .ge 30, 3) := by decide +kernel
theorem dX4_read_37 : decode cX4_read 37 = .ok (.aload_n 0, 1) := by decide +kernel
theorem dX4_read_38 : decode cX4_read 38 = .ok (.getfield 21, 3) := by decide +kernel
theorem dX4_read_41 : decode cX4_read 41 = .ok (.iload_n 3, 1) := by decide +kernel
theorem dX4_read_42 : decode cX4_read 42 = .ok (.iload_n 3, 1) := by decide +kernel
theorem dX4_read_43 : decode cX4_read 43 = .ok (.aload_n 1, 1) := by decide +kernel
theorem dX4_read_44 : decode cX4_read 44 = .ok (.getfield 48, 3) := by decide +kernel
theorem dX4_read_47 : decode cX4_read 47 = .ok (.getfield 52, 3) := by decide +kernel
theorem dX4_read_50 : decode cX4_read 50 = .ok (.iload_n 3, 1) := by decide +kernel
theorem dX4_read_51 : decode cX4_read 51 = .ok (.iconst 3, 1) := by decide +kernel
theorem dX4_read_52 : decode cX4_read 52 = .ok (.irem, 1) := by decide +kernel
theorem dX4_read_53 : decode cX4_read 53 = .ok (.baload, 1) := by decide +kernel
theorem dX4_read_54 : decode cX4_read 54 = .ok (.invokestatic 58, 3) := by decide +kernel
theorem dX4_read_57 : decode cX4_read 57 = .ok (.iastore, 1) := by decide +kernel
theorem dX4_read_58 : decode cX4_read 58 = .ok (.iinc 3 1, 3) := by decide +kernel
theorem dX4_read_61 : decode cX4_read 61 = .ok (.goto (-30), 3) := by decide +kernel
theorem dX4_read_64 : decode cX4_read 64 = .ok (.iconst 0, 1) := by decide +kernel
theorem dX4_read_65 : decode cX4_read 65 = .ok (.istore_n 3, 1) := by decide +kernel
theorem dX4_read_66 : decode cX4_read 66 = .ok (.iload_n 3, 1) := by decide +kernel
theorem dX4_read_67 : decode cX4_read 67 = .ok (.iconst 4, 1) := by decide +kernel
theorem dX4_read_68 : decode cX4_read 68 = .ok (.if_icmp .ge 62, 3) := by decide +kernel
theorem dX4_read_71 : decode cX4_read 71 = .ok (.aload_n 0, 1) := by decide +kernel
theorem dX4_read_72 : decode cX4_read 72 = .ok (.getfield 9, 3) := by decide +kernel
theorem dX4_read_75 : decode cX4_read 75 = .ok (.iload_n 3, 1) := by decide +kernel
theorem dX4_read_76 : decode cX4_read 76 = .ok (.aload_n 1, 1) := by decide +kernel
theorem dX4_read_77 : decode cX4_read 77 = .ok (.getfield 36, 3) := by decide +kernel
theorem dX4_read_80 : decode cX4_read 80 = .ok (.iload_n 3, 1) := by decide +kernel
theorem dX4_read_81 : decode cX4_read 81 = .ok (.invokevirtual 62, 3) := by decide +kernel
theorem dX4_read_84 : decode cX4_read 84 = .ok (.iastore, 1) := by decide +kernel
theorem dX4_read_85 : decode cX4_read 85 = .ok (.iconst 0, 1) := by decide +kernel
theorem dX4_read_86 : decode cX4_read 86 = .ok (.istore 4, 2) := by decide +kernel
theorem dX4_read_88 : decode cX4_read 88 = .ok (.iload 4, 2) := by decide +kernel
theorem dX4_read_90 : decode cX4_read 90 = .ok (.bipush 15, 2) := by decide +kernel
theorem dX4_read_92 : decode cX4_read 92 = .ok (.if_icmp .ge 32, 3) := by decide +kernel
theorem dX4_read_95 : decode cX4_read 95 = .ok (.aload_n 0, 1) := by decide +kernel
theorem dX4_read_96 : decode cX4_read 96 = .ok (.getfield 18, 3) := by decide +kernel
theorem dX4_read_99 : decode cX4_read 99 = .ok (.iload_n 3, 1) := by decide +kernel
theorem dX4_read_100 : decode cX4_read 100 = .ok (.bipush 15, 2) := by decide +kernel
theorem dX4_read_102 : decode cX4_read 102 = .ok (.imul, 1) := by decide +kernel
theorem dX4_read_103 : decode cX4_read 103 = .ok (.iload 4, 2) := by decide +kernel
theorem dX4_read_105 : decode cX4_read 105 = .ok (.iadd, 1) := by decide +kernel
theorem dX4_read_106 : decode cX4_read 106 = .ok (.aload_n 0, 1) := by decide +kernel
theorem dX4_read_107 : decode cX4_read 107 = .ok (.aload_n 1, 1) := by decide +kernel
theorem dX4_read_108 : decode cX4_read 108 = .ok (.getfield 48, 3) := by decide +kernel
theorem dX4_read_111 : decode cX4_read 111 = .ok (.iload_n 3, 1) := by decide +kernel
theorem dX4_read_112 : decode cX4_read 112 = .ok (.iload 4, 2) := by decide +kernel
theorem dX4_read_114 : decode cX4_read 114 = .ok (.invokevirtual 65, 3) := by decide +kernel
theorem dX4_read_117 : decode cX4_read 117 = .ok (.iastore, 1) := by decide +kernel
theorem dX4_read_118 : decode cX4_read 118 = .ok (.iinc 4 1, 3) := by decide +kernel
theorem dX4_read_121 : decode cX4_read 121 = .ok (.goto (-33), 3) := by decide +kernel
theorem dX4_read_124 : decode cX4_read 124 = .ok (.iinc 3 1, 3) := by decide +kernel
theorem dX4_read_127 : decode cX4_read 127 = .ok (.goto (-61), 3) := by decide +kernel
theorem dX4_read_130 : decode cX4_read 130 = .ok (.aload_n 0, 1) := by decide +kernel
theorem dX4_read_131 : decode cX4_read 131 = .ok (.invokevirtual 69, 3) := by decide +kernel
theorem dX4_read_134 : decode cX4_read 134 = .ok (.return_, 1) := by decide +kernel
theorem dX4_readBars_0 : decode cX4_readBars 0 = .ok (.iconst 1, 1) := by decide +kernel
theorem dX4_readBars_1 : decode cX4_readBars 1 = .ok (.iload_n 0, 1) := by decide +kernel
theorem dX4_readBars_2 : decode cX4_readBars 2 = .ok (.ishl, 1) := by decide +kernel
theorem dX4_readBars_3 : decode cX4_readBars 3 = .ok (.istore_n 2, 1) := by decide +kernel
theorem dX4_readBars_4 : decode cX4_readBars 4 = .ok (.iload_n 1, 1) := by decide +kernel
theorem dX4_readBars_5 : decode cX4_readBars 5 = .ok (.ifCond .eq 15, 3) := by decide +kernel
theorem dX4_readBars_8 : decode cX4_readBars 8 = .ok (.iload_n 2, 1) := by decide +kernel
theorem dX4_readBars_9 : decode cX4_readBars 9 = .ok (.iload_n 2, 1) := by decide +kernel
theorem dX4_readBars_10 : decode cX4_readBars 10 = .ok (.iconst 3, 1) := by decide +kernel
theorem dX4_readBars_11 : decode cX4_readBars 11 = .ok (.ishl, 1) := by decide +kernel
theorem dX4_readBars_12 : decode cX4_readBars 12 = .ok (.ior, 1) := by decide +kernel
theorem dX4_readBars_13 : decode cX4_readBars 13 = .ok (.iload_n 2, 1) := by decide +kernel
theorem dX4_readBars_14 : decode cX4_readBars 14 = .ok (.iconst 3, 1) := by decide +kernel
theorem dX4_readBars_15 : decode cX4_readBars 15 = .ok (.ishr, 1) := by decide +kernel
theorem dX4_readBars_16 : decode cX4_readBars 16 = .ok (.ior, 1) := by decide +kernel
theorem dX4_readBars_17 : decode cX4_readBars 17 = .ok (.goto 4, 3) := by decide +kernel
theorem dX4_readBars_20 : decode cX4_readBars 20 = .ok (.iload_n 2, 1) := by decide +kernel
theorem dX4_readBars_21 : decode cX4_readBars 21 = .ok (.ireturn, 1) := by decide +kernel
theorem dX4_readOffer_0 : decode cX4_readOffer 0 = .ok (.iload_n 3, 1) := by decide +kernel
theorem dX4_readOffer_1 : decode cX4_readOffer 1 = .ok (.iconst 3, 1) := by decide +kernel
theorem dX4_readOffer_2 : decode cX4_readOffer 2 = .ok (.irem, 1) := by decide +kernel
theorem dX4_readOffer_3 : decode cX4_readOffer 3 = .ok (.istore 4, 2) := by decide +kernel
theorem dX4_readOffer_5 : decode cX4_readOffer 5 = .ok (.aload_n 0, 1) := by decide +kernel
theorem dX4_readOffer_6 : decode cX4_readOffer 6 = .ok (.getfield 9, 3) := by decide +kernel
theorem dX4_readOffer_9 : decode cX4_readOffer 9 = .ok (.iload_n 2, 1) := by decide +kernel
theorem dX4_readOffer_10 : decode cX4_readOffer 10 = .ok (.iaload, 1) := by decide +kernel
theorem dX4_readOffer_11 : decode cX4_readOffer 11 = .ok (.istore 5, 2) := by decide +kernel
theorem dX4_readOffer_13 : decode cX4_readOffer 13 = .ok (.iload 5, 2) := by decide +kernel
theorem dX4_readOffer_15 : decode cX4_readOffer 15 = .ok (.ifCond .eq 37, 3) := by decide +kernel
theorem dX4_readOffer_18 : decode cX4_readOffer 18 = .ok (.iload 4, 2) := by decide +kernel
theorem dX4_readOffer_20 : decode cX4_readOffer 20 = .ok (.aload_n 1, 1) := by decide +kernel
theorem dX4_readOffer_21 : decode cX4_readOffer 21 = .ok (.getfield 72, 3) := by decide +kernel
theorem dX4_readOffer_24 : decode cX4_readOffer 24 = .ok (.if_icmp .ge 28, 3) := by decide +kernel
theorem dX4_readOffer_27 : decode cX4_readOffer 27 = .ok (.iload 5, 2) := by decide +kernel
theorem dX4_readOffer_29 : decode cX4_readOffer 29 = .ok (.aload_n 1, 1) := by decide +kernel
theorem dX4_readOffer_30 : decode cX4_readOffer 30 = .ok (.getfield 76, 3) := by decide +kernel
theorem dX4_readOffer_33 : decode cX4_readOffer 33 = .ok (.iload 4, 2) := by decide +kernel
theorem dX4_readOffer_35 : decode cX4_readOffer 35 = .ok (.iaload, 1) := by decide +kernel
theorem dX4_readOffer_36 : decode cX4_readOffer 36 = .ok (.if_icmp .gt 16, 3) := by decide +kernel
theorem dX4_readOffer_39 : decode cX4_readOffer 39 = .ok (.iload 5, 2) := by decide +kernel
theorem dX4_readOffer_41 : decode cX4_readOffer 41 = .ok (.aload_n 0, 1) := by decide +kernel
theorem dX4_readOffer_42 : decode cX4_readOffer 42 = .ok (.getfield 15, 3) := by decide +kernel
theorem dX4_readOffer_45 : decode cX4_readOffer 45 = .ok (.iload_n 3, 1) := by decide +kernel
theorem dX4_readOffer_46 : decode cX4_readOffer 46 = .ok (.iconst 3, 1) := by decide +kernel
theorem dX4_readOffer_47 : decode cX4_readOffer 47 = .ok (.idiv, 1) := by decide +kernel
theorem dX4_readOffer_48 : decode cX4_readOffer 48 = .ok (.iaload, 1) := by decide +kernel
theorem dX4_readOffer_49 : decode cX4_readOffer 49 = .ok (.if_icmp .le 5, 3) := by decide +kernel
theorem dX4_readOffer_52 : decode cX4_readOffer 52 = .ok (.iconst 0, 1) := by decide +kernel
theorem dX4_readOffer_53 : decode cX4_readOffer 53 = .ok (.ireturn, 1) := by decide +kernel
theorem dX4_readOffer_54 : decode cX4_readOffer 54 = .ok (.aload_n 1, 1) := by decide +kernel
theorem dX4_readOffer_55 : decode cX4_readOffer 55 = .ok (.getfield 79, 3) := by decide +kernel
theorem dX4_readOffer_58 : decode cX4_readOffer 58 = .ok (.iload_n 2, 1) := by decide +kernel
theorem dX4_readOffer_59 : decode cX4_readOffer 59 = .ok (.bipush 15, 2) := by decide +kernel
theorem dX4_readOffer_61 : decode cX4_readOffer 61 = .ok (.imul, 1) := by decide +kernel
theorem dX4_readOffer_62 : decode cX4_readOffer 62 = .ok (.iload_n 3, 1) := by decide +kernel
theorem dX4_readOffer_63 : decode cX4_readOffer 63 = .ok (.iadd, 1) := by decide +kernel
theorem dX4_readOffer_64 : decode cX4_readOffer 64 = .ok (.iaload, 1) := by decide +kernel
theorem dX4_readOffer_65 : decode cX4_readOffer 65 = .ok (.ireturn, 1) := by decide +kernel
theorem dX4_readHopes_0 : decode cX4_readHopes 0 = .ok (.aload_n 0, 1) := by decide +kernel
theorem dX4_readHopes_1 : decode cX4_readHopes 1 = .ok (.getfield 24, 3) := by decide +kernel
theorem dX4_readHopes_4 : decode cX4_readHopes 4 = .ok (.iconst 4, 1) := by decide +kernel
theorem dX4_readHopes_5 : decode cX4_readHopes 5 = .ok (.iconst 0, 1) := by decide +kernel
theorem dX4_readHopes_6 : decode cX4_readHopes 6 = .ok (.iastore, 1) := by decide +kernel
theorem dX4_readHopes_7 : decode cX4_readHopes 7 = .ok (.aload_n 0, 1) := by decide +kernel
theorem dX4_readHopes_8 : decode cX4_readHopes 8 = .ok (.getfield 27, 3) := by decide +kernel
theorem dX4_readHopes_11 : decode cX4_readHopes 11 = .ok (.iconst 4, 1) := by decide +kernel
theorem dX4_readHopes_12 : decode cX4_readHopes 12 = .ok (.iconst 0, 1) := by decide +kernel
theorem dX4_readHopes_13 : decode cX4_readHopes 13 = .ok (.iastore, 1) := by decide +kernel
theorem dX4_readHopes_14 : decode cX4_readHopes 14 = .ok (.iconst 3, 1) := by decide +kernel
theorem dX4_readHopes_15 : decode cX4_readHopes 15 = .ok (.istore_n 1, 1) := by decide +kernel
theorem dX4_readHopes_16 : decode cX4_readHopes 16 = .ok (.iload_n 1, 1) := by decide +kernel
theorem dX4_readHopes_17 : decode cX4_readHopes 17 = .ok (.ifCond .lt 81, 3) := by decide +kernel
theorem dX4_readHopes_20 : decode cX4_readHopes 20 = .ok (.iconst 0, 1) := by decide +kernel
theorem dX4_readHopes_21 : decode cX4_readHopes 21 = .ok (.istore_n 2, 1) := by decide +kernel
theorem dX4_readHopes_22 : decode cX4_readHopes 22 = .ok (.iconst 0, 1) := by decide +kernel
theorem dX4_readHopes_23 : decode cX4_readHopes 23 = .ok (.istore_n 3, 1) := by decide +kernel
theorem dX4_readHopes_24 : decode cX4_readHopes 24 = .ok (.iload_n 3, 1) := by decide +kernel
theorem dX4_readHopes_25 : decode cX4_readHopes 25 = .ok (.bipush 15, 2) := by decide +kernel
theorem dX4_readHopes_27 : decode cX4_readHopes 27 = .ok (.if_icmp .ge 25, 3) := by decide +kernel
theorem dX4_readHopes_30 : decode cX4_readHopes 30 = .ok (.iload_n 2, 1) := by decide +kernel
theorem dX4_readHopes_31 : decode cX4_readHopes 31 = .ok (.aload_n 0, 1) := by decide +kernel
theorem dX4_readHopes_32 : decode cX4_readHopes 32 = .ok (.getfield 18, 3) := by decide +kernel
theorem dX4_readHopes_35 : decode cX4_readHopes 35 = .ok (.iload_n 1, 1) := by decide +kernel
theorem dX4_readHopes_36 : decode cX4_readHopes 36 = .ok (.bipush 15, 2) := by decide +kernel
theorem dX4_readHopes_38 : decode cX4_readHopes 38 = .ok (.imul, 1) := by decide +kernel
theorem dX4_readHopes_39 : decode cX4_readHopes 39 = .ok (.iload_n 3, 1) := by decide +kernel
theorem dX4_readHopes_40 : decode cX4_readHopes 40 = .ok (.iadd, 1) := by decide +kernel
theorem dX4_readHopes_41 : decode cX4_readHopes 41 = .ok (.iaload, 1) := by decide +kernel
theorem dX4_readHopes_42 : decode cX4_readHopes 42 = .ok (.invokestatic 82, 3) := by decide +kernel
theorem dX4_readHopes_45 : decode cX4_readHopes 45 = .ok (.istore_n 2, 1) := by decide +kernel
theorem dX4_readHopes_46 : decode cX4_readHopes 46 = .ok (.iinc 3 1, 3) := by decide +kernel
theorem dX4_readHopes_49 : decode cX4_readHopes 49 = .ok (.goto (-25), 3) := by decide +kernel
theorem dX4_readHopes_52 : decode cX4_readHopes 52 = .ok (.aload_n 0, 1) := by decide +kernel
theorem dX4_readHopes_53 : decode cX4_readHopes 53 = .ok (.getfield 24, 3) := by decide +kernel
theorem dX4_readHopes_56 : decode cX4_readHopes 56 = .ok (.iload_n 1, 1) := by decide +kernel
theorem dX4_readHopes_57 : decode cX4_readHopes 57 = .ok (.aload_n 0, 1) := by decide +kernel
theorem dX4_readHopes_58 : decode cX4_readHopes 58 = .ok (.getfield 24, 3) := by decide +kernel
theorem dX4_readHopes_61 : decode cX4_readHopes 61 = .ok (.iload_n 1, 1) := by decide +kernel
theorem dX4_readHopes_62 : decode cX4_readHopes 62 = .ok (.iconst 1, 1) := by decide +kernel
theorem dX4_readHopes_63 : decode cX4_readHopes 63 = .ok (.iadd, 1) := by decide +kernel
theorem dX4_readHopes_64 : decode cX4_readHopes 64 = .ok (.iaload, 1) := by decide +kernel
theorem dX4_readHopes_65 : decode cX4_readHopes 65 = .ok (.iload_n 2, 1) := by decide +kernel
theorem dX4_readHopes_66 : decode cX4_readHopes 66 = .ok (.iadd, 1) := by decide +kernel
theorem dX4_readHopes_67 : decode cX4_readHopes 67 = .ok (.iastore, 1) := by decide +kernel
theorem dX4_readHopes_68 : decode cX4_readHopes 68 = .ok (.aload_n 0, 1) := by decide +kernel
theorem dX4_readHopes_69 : decode cX4_readHopes 69 = .ok (.getfield 27, 3) := by decide +kernel
theorem dX4_readHopes_72 : decode cX4_readHopes 72 = .ok (.iload_n 1, 1) := by decide +kernel
theorem dX4_readHopes_73 : decode cX4_readHopes 73 = .ok (.aload_n 0, 1) := by decide +kernel
theorem dX4_readHopes_74 : decode cX4_readHopes 74 = .ok (.getfield 27, 3) := by decide +kernel
theorem dX4_readHopes_77 : decode cX4_readHopes 77 = .ok (.iload_n 1, 1) := by decide +kernel
theorem dX4_readHopes_78 : decode cX4_readHopes 78 = .ok (.iconst 1, 1) := by decide +kernel
theorem dX4_readHopes_79 : decode cX4_readHopes 79 = .ok (.iadd, 1) := by decide +kernel
theorem dX4_readHopes_80 : decode cX4_readHopes 80 = .ok (.iaload, 1) := by decide +kernel
theorem dX4_readHopes_81 : decode cX4_readHopes 81 = .ok (.iload_n 2, 1) := by decide +kernel
theorem dX4_readHopes_82 : decode cX4_readHopes 82 = .ok (.ifCond .le 7, 3) := by decide +kernel
theorem dX4_readHopes_85 : decode cX4_readHopes 85 = .ok (.iconst 1, 1) := by decide +kernel
theorem dX4_readHopes_86 : decode cX4_readHopes 86 = .ok (.goto 4, 3) := by decide +kernel
theorem dX4_readHopes_89 : decode cX4_readHopes 89 = .ok (.iconst 0, 1) := by decide +kernel
theorem dX4_readHopes_90 : decode cX4_readHopes 90 = .ok (.iadd, 1) := by decide +kernel
theorem dX4_readHopes_91 : decode cX4_readHopes 91 = .ok (.iastore, 1) := by decide +kernel
theorem dX4_readHopes_92 : decode cX4_readHopes 92 = .ok (.iinc 1 (-1), 3) := by decide +kernel
theorem dX4_readHopes_95 : decode cX4_readHopes 95 = .ok (.goto (-79), 3) := by decide +kernel
theorem dX4_readHopes_98 : decode cX4_readHopes 98 = .ok (.return_, 1) := by decide +kernel
theorem dX4_search_0 : decode cX4_search 0 = .ok (.aload_n 0, 1) := by decide +kernel
theorem dX4_search_1 : decode cX4_search 1 = .ok (.getfield 33, 3) := by decide +kernel
theorem dX4_search_4 : decode cX4_search 4 = .ok (.iconst (-1), 1) := by decide +kernel
theorem dX4_search_5 : decode cX4_search 5 = .ok (.invokestatic 88, 3) := by decide +kernel
theorem dX4_search_8 : decode cX4_search 8 = .ok (.aload_n 0, 1) := by decide +kernel
theorem dX4_search_9 : decode cX4_search 9 = .ok (.iconst 0, 1) := by decide +kernel
theorem dX4_search_10 : decode cX4_search 10 = .ok (.putfield 94, 3) := by decide +kernel
theorem dX4_search_13 : decode cX4_search 13 = .ok (.aload_n 0, 1) := by decide +kernel
theorem dX4_search_14 : decode cX4_search 14 = .ok (.iconst 0, 1) := by decide +kernel
theorem dX4_search_15 : decode cX4_search 15 = .ok (.putfield 97, 3) := by decide +kernel
theorem dX4_search_18 : decode cX4_search 18 = .ok (.aload_n 0, 1) := by decide +kernel
theorem dX4_search_19 : decode cX4_search 19 = .ok (.iconst 0, 1) := by decide +kernel
theorem dX4_search_20 : decode cX4_search 20 = .ok (.iconst 0, 1) := by decide +kernel
theorem dX4_search_21 : decode cX4_search 21 = .ok (.iconst 0, 1) := by decide +kernel
theorem dX4_search_22 : decode cX4_search 22 = .ok (.iconst 0, 1) := by decide +kernel
theorem dX4_search_23 : decode cX4_search 23 = .ok (.invokestatic 100, 3) := by decide +kernel
theorem dX4_search_26 : decode cX4_search 26 = .ok (.return_, 1) := by decide +kernel
theorem dX4_seek_0 : decode cX4_seek 0 = .ok (.aload_n 0, 1) := by decide +kernel
theorem dX4_seek_1 : decode cX4_seek 1 = .ok (.iload_n 1, 1) := by decide +kernel
theorem dX4_seek_2 : decode cX4_seek 2 = .ok (.iload_n 3, 1) := by decide +kernel
theorem dX4_seek_3 : decode cX4_seek 3 = .ok (.iload 4, 2) := by decide +kernel
theorem dX4_seek_5 : decode cX4_seek 5 = .ok (.invokevirtual 104, 3) := by decide +kernel
theorem dX4_seek_8 : decode cX4_seek 8 = .ok (.ifCond .eq 4, 3) := by decide +kernel
theorem dX4_seek_11 : decode cX4_seek 11 = .ok (.return_, 1) := by decide +kernel
theorem dX4_seek_12 : decode cX4_seek 12 = .ok (.iload_n 1, 1) := by decide +kernel
theorem dX4_seek_13 : decode cX4_seek 13 = .ok (.iconst 4, 1) := by decide +kernel
theorem dX4_seek_14 : decode cX4_seek 14 = .ok (.if_icmp .lt 11, 3) := by decide +kernel
theorem dX4_seek_17 : decode cX4_seek 17 = .ok (.aload_n 0, 1) := by decide +kernel
theorem dX4_seek_18 : decode cX4_seek 18 = .ok (.iload_n 3, 1) := by decide +kernel
theorem dX4_seek_19 : decode cX4_seek 19 = .ok (.iload 4, 2) := by decide +kernel
theorem dX4_seek_21 : decode cX4_seek 21 = .ok (.invokevirtual 108, 3) := by decide +kernel
theorem dX4_seek_24 : decode cX4_seek 24 = .ok (.return_, 1) := by decide +kernel
theorem dX4_seek_25 : decode cX4_seek 25 = .ok (.aload_n 0, 1) := by decide +kernel
theorem dX4_seek_26 : decode cX4_seek 26 = .ok (.getfield 9, 3) := by decide +kernel
theorem dX4_seek_29 : decode cX4_seek 29 = .ok (.iload_n 1, 1) := by decide +kernel
theorem dX4_seek_30 : decode cX4_seek 30 = .ok (.iaload, 1) := by decide +kernel
theorem dX4_seek_31 : decode cX4_seek 31 = .ok (.istore 5, 2) := by decide +kernel
theorem dX4_seek_33 : decode cX4_seek 33 = .ok (.iconst 0, 1) := by decide +kernel
theorem dX4_seek_34 : decode cX4_seek 34 = .ok (.istore 6, 2) := by decide +kernel
theorem dX4_seek_36 : decode cX4_seek 36 = .ok (.iload 6, 2) := by decide +kernel
theorem dX4_seek_38 : decode cX4_seek 38 = .ok (.bipush 15, 2) := by decide +kernel
theorem dX4_seek_40 : decode cX4_seek 40 = .ok (.if_icmp .ge 111, 3) := by decide +kernel
theorem dX4_seek_43 : decode cX4_seek 43 = .ok (.aload_n 0, 1) := by decide +kernel
theorem dX4_seek_44 : decode cX4_seek 44 = .ok (.getfield 18, 3) := by decide +kernel
theorem dX4_seek_47 : decode cX4_seek 47 = .ok (.iload_n 1, 1) := by decide +kernel
theorem dX4_seek_48 : decode cX4_seek 48 = .ok (.bipush 15, 2) := by decide +kernel
theorem dX4_seek_50 : decode cX4_seek 50 = .ok (.imul, 1) := by decide +kernel
theorem dX4_seek_51 : decode cX4_seek 51 = .ok (.iload 6, 2) := by decide +kernel
theorem dX4_seek_53 : decode cX4_seek 53 = .ok (.iadd, 1) := by decide +kernel
theorem dX4_seek_54 : decode cX4_seek 54 = .ok (.iaload, 1) := by decide +kernel
theorem dX4_seek_55 : decode cX4_seek 55 = .ok (.istore 7, 2) := by decide +kernel
theorem dX4_seek_57 : decode cX4_seek 57 = .ok (.iload 6, 2) := by decide +kernel
theorem dX4_seek_59 : decode cX4_seek 59 = .ok (.iconst 3, 1) := by decide +kernel
theorem dX4_seek_60 : decode cX4_seek 60 = .ok (.idiv, 1) := by decide +kernel
theorem dX4_seek_61 : decode cX4_seek 61 = .ok (.istore 8, 2) := by decide +kernel
theorem dX4_seek_63 : decode cX4_seek 63 = .ok (.iload 7, 2) := by decide +kernel
theorem dX4_seek_65 : decode cX4_seek 65 = .ok (.ifCond .le 80, 3) := by decide +kernel
theorem dX4_seek_68 : decode cX4_seek 68 = .ok (.iload_n 2, 1) := by decide +kernel
theorem dX4_seek_69 : decode cX4_seek 69 = .ok (.aload_n 0, 1) := by decide +kernel
theorem dX4_seek_70 : decode cX4_seek 70 = .ok (.getfield 21, 3) := by decide +kernel
theorem dX4_seek_73 : decode cX4_seek 73 = .ok (.iload 6, 2) := by decide +kernel
theorem dX4_seek_75 : decode cX4_seek 75 = .ok (.iaload, 1) := by decide +kernel
theorem dX4_seek_76 : decode cX4_seek 76 = .ok (.iand, 1) := by decide +kernel
theorem dX4_seek_77 : decode cX4_seek 77 = .ok (.ifCond .ne 68, 3) := by decide +kernel
theorem dX4_seek_80 : decode cX4_seek 80 = .ok (.iload 5, 2) := by decide +kernel
theorem dX4_seek_82 : decode cX4_seek 82 = .ok (.aload_n 0, 1) := by decide +kernel
theorem dX4_seek_83 : decode cX4_seek 83 = .ok (.getfield 15, 3) := by decide +kernel
theorem dX4_seek_86 : decode cX4_seek 86 = .ok (.iload 8, 2) := by decide +kernel
theorem dX4_seek_88 : decode cX4_seek 88 = .ok (.iaload, 1) := by decide +kernel
theorem dX4_seek_89 : decode cX4_seek 89 = .ok (.if_icmp .gt 56, 3) := by decide +kernel
theorem dX4_seek_92 : decode cX4_seek 92 = .ok (.aload_n 0, 1) := by decide +kernel
theorem dX4_seek_93 : decode cX4_seek 93 = .ok (.getfield 30, 3) := by decide +kernel
theorem dX4_seek_96 : decode cX4_seek 96 = .ok (.iload_n 1, 1) := by decide +kernel
theorem dX4_seek_97 : decode cX4_seek 97 = .ok (.iload 6, 2) := by decide +kernel
theorem dX4_seek_99 : decode cX4_seek 99 = .ok (.iastore, 1) := by decide +kernel
theorem dX4_seek_100 : decode cX4_seek 100 = .ok (.aload_n 0, 1) := by decide +kernel
theorem dX4_seek_101 : decode cX4_seek 101 = .ok (.getfield 15, 3) := by decide +kernel
theorem dX4_seek_104 : decode cX4_seek 104 = .ok (.iload 8, 2) := by decide +kernel
theorem dX4_seek_106 : decode cX4_seek 106 = .ok (.dup2, 1) := by decide +kernel
theorem dX4_seek_107 : decode cX4_seek 107 = .ok (.iaload, 1) := by decide +kernel
theorem dX4_seek_108 : decode cX4_seek 108 = .ok (.iload 5, 2) := by decide +kernel
theorem dX4_seek_110 : decode cX4_seek 110 = .ok (.isub, 1) := by decide +kernel
theorem dX4_seek_111 : decode cX4_seek 111 = .ok (.iastore, 1) := by decide +kernel
theorem dX4_seek_112 : decode cX4_seek 112 = .ok (.aload_n 0, 1) := by decide +kernel
theorem dX4_seek_113 : decode cX4_seek 113 = .ok (.iload_n 1, 1) := by decide +kernel
theorem dX4_seek_114 : decode cX4_seek 114 = .ok (.iconst 1, 1) := by decide +kernel
theorem dX4_seek_115 : decode cX4_seek 115 = .ok (.iadd, 1) := by decide +kernel
theorem dX4_seek_116 : decode cX4_seek 116 = .ok (.iload_n 2, 1) := by decide +kernel
theorem dX4_seek_117 : decode cX4_seek 117 = .ok (.iconst 1, 1) := by decide +kernel
theorem dX4_seek_118 : decode cX4_seek 118 = .ok (.iload 6, 2) := by decide +kernel
theorem dX4_seek_120 : decode cX4_seek 120 = .ok (.ishl, 1) := by decide +kernel
theorem dX4_seek_121 : decode cX4_seek 121 = .ok (.ior, 1) := by decide +kernel
theorem dX4_seek_122 : decode cX4_seek 122 = .ok (.iload_n 3, 1) := by decide +kernel
theorem dX4_seek_123 : decode cX4_seek 123 = .ok (.iload 7, 2) := by decide +kernel
theorem dX4_seek_125 : decode cX4_seek 125 = .ok (.iadd, 1) := by decide +kernel
theorem dX4_seek_126 : decode cX4_seek 126 = .ok (.iload 4, 2) := by decide +kernel
theorem dX4_seek_128 : decode cX4_seek 128 = .ok (.iconst 1, 1) := by decide +kernel
theorem dX4_seek_129 : decode cX4_seek 129 = .ok (.iadd, 1) := by decide +kernel
theorem dX4_seek_130 : decode cX4_seek 130 = .ok (.invokestatic 100, 3) := by decide +kernel
theorem dX4_seek_133 : decode cX4_seek 133 = .ok (.aload_n 0, 1) := by decide +kernel
theorem dX4_seek_134 : decode cX4_seek 134 = .ok (.getfield 15, 3) := by decide +kernel
theorem dX4_seek_137 : decode cX4_seek 137 = .ok (.iload 8, 2) := by decide +kernel
theorem dX4_seek_139 : decode cX4_seek 139 = .ok (.dup2, 1) := by decide +kernel
theorem dX4_seek_140 : decode cX4_seek 140 = .ok (.iaload, 1) := by decide +kernel
theorem dX4_seek_141 : decode cX4_seek 141 = .ok (.iload 5, 2) := by decide +kernel
theorem dX4_seek_143 : decode cX4_seek 143 = .ok (.iadd, 1) := by decide +kernel
theorem dX4_seek_144 : decode cX4_seek 144 = .ok (.iastore, 1) := by decide +kernel
theorem dX4_seek_145 : decode cX4_seek 145 = .ok (.iinc 6 1, 3) := by decide +kernel
theorem dX4_seek_148 : decode cX4_seek 148 = .ok (.goto (-112), 3) := by decide +kernel
theorem dX4_seek_151 : decode cX4_seek 151 = .ok (.aload_n 0, 1) := by decide +kernel
theorem dX4_seek_152 : decode cX4_seek 152 = .ok (.getfield 30, 3) := by decide +kernel
theorem dX4_seek_155 : decode cX4_seek 155 = .ok (.iload_n 1, 1) := by decide +kernel
theorem dX4_seek_156 : decode cX4_seek 156 = .ok (.iconst (-1), 1) := by decide +kernel
theorem dX4_seek_157 : decode cX4_seek 157 = .ok (.iastore, 1) := by decide +kernel
theorem dX4_seek_158 : decode cX4_seek 158 = .ok (.aload_n 0, 1) := by decide +kernel
theorem dX4_seek_159 : decode cX4_seek 159 = .ok (.iload_n 1, 1) := by decide +kernel
theorem dX4_seek_160 : decode cX4_seek 160 = .ok (.iconst 1, 1) := by decide +kernel
theorem dX4_seek_161 : decode cX4_seek 161 = .ok (.iadd, 1) := by decide +kernel
theorem dX4_seek_162 : decode cX4_seek 162 = .ok (.iload_n 2, 1) := by decide +kernel
theorem dX4_seek_163 : decode cX4_seek 163 = .ok (.iload_n 3, 1) := by decide +kernel
theorem dX4_seek_164 : decode cX4_seek 164 = .ok (.iload 4, 2) := by decide +kernel
theorem dX4_seek_166 : decode cX4_seek 166 = .ok (.invokestatic 100, 3) := by decide +kernel
theorem dX4_seek_169 : decode cX4_seek 169 = .ok (.return_, 1) := by decide +kernel
theorem dX4_isNoBetter_0 : decode cX4_isNoBetter 0 = .ok (.iload_n 2, 1) := by decide +kernel
theorem dX4_isNoBetter_1 : decode cX4_isNoBetter 1 = .ok (.aload_n 0, 1) := by decide +kernel
theorem dX4_isNoBetter_2 : decode cX4_isNoBetter 2 = .ok (.getfield 24, 3) := by decide +kernel
theorem dX4_isNoBetter_5 : decode cX4_isNoBetter 5 = .ok (.iload_n 1, 1) := by decide +kernel
theorem dX4_isNoBetter_6 : decode cX4_isNoBetter 6 = .ok (.iaload, 1) := by decide +kernel
theorem dX4_isNoBetter_7 : decode cX4_isNoBetter 7 = .ok (.iadd, 1) := by decide +kernel
theorem dX4_isNoBetter_8 : decode cX4_isNoBetter 8 = .ok (.istore 4, 2) := by decide +kernel
theorem dX4_isNoBetter_10 : decode cX4_isNoBetter 10 = .ok (.iload 4, 2) := by decide +kernel
theorem dX4_isNoBetter_12 : decode cX4_isNoBetter 12 = .ok (.aload_n 0, 1) := by decide +kernel
theorem dX4_isNoBetter_13 : decode cX4_isNoBetter 13 = .ok (.getfield 94, 3) := by decide +kernel
theorem dX4_isNoBetter_16 : decode cX4_isNoBetter 16 = .ok (.if_icmp .lt 27, 3) := by decide +kernel
theorem dX4_isNoBetter_19 : decode cX4_isNoBetter 19 = .ok (.iload 4, 2) := by decide +kernel
theorem dX4_isNoBetter_21 : decode cX4_isNoBetter 21 = .ok (.aload_n 0, 1) := by decide +kernel
theorem dX4_isNoBetter_22 : decode cX4_isNoBetter 22 = .ok (.getfield 94, 3) := by decide +kernel
theorem dX4_isNoBetter_25 : decode cX4_isNoBetter 25 = .ok (.if_icmp .ne 22, 3) := by decide +kernel
theorem dX4_isNoBetter_28 : decode cX4_isNoBetter 28 = .ok (.iload_n 3, 1) := by decide +kernel
theorem dX4_isNoBetter_29 : decode cX4_isNoBetter 29 = .ok (.aload_n 0, 1) := by decide +kernel
theorem dX4_isNoBetter_30 : decode cX4_isNoBetter 30 = .ok (.getfield 27, 3) := by decide +kernel
theorem dX4_isNoBetter_33 : decode cX4_isNoBetter 33 = .ok (.iload_n 1, 1) := by decide +kernel
theorem dX4_isNoBetter_34 : decode cX4_isNoBetter 34 = .ok (.iaload, 1) := by decide +kernel
theorem dX4_isNoBetter_35 : decode cX4_isNoBetter 35 = .ok (.iadd, 1) := by decide +kernel
theorem dX4_isNoBetter_36 : decode cX4_isNoBetter 36 = .ok (.aload_n 0, 1) := by decide +kernel
theorem dX4_isNoBetter_37 : decode cX4_isNoBetter 37 = .ok (.getfield 97, 3) := by decide +kernel
theorem dX4_isNoBetter_40 : decode cX4_isNoBetter 40 = .ok (.if_icmp .lt 7, 3) := by decide +kernel
theorem dX4_isNoBetter_43 : decode cX4_isNoBetter 43 = .ok (.iconst 1, 1) := by decide +kernel
theorem dX4_isNoBetter_44 : decode cX4_isNoBetter 44 = .ok (.goto 4, 3) := by decide +kernel
theorem dX4_isNoBetter_47 : decode cX4_isNoBetter 47 = .ok (.iconst 0, 1) := by decide +kernel
theorem dX4_isNoBetter_48 : decode cX4_isNoBetter 48 = .ok (.ireturn, 1) := by decide +kernel
theorem dX4_takeTried_0 : decode cX4_takeTried 0 = .ok (.aload_n 0, 1) := by decide +kernel
theorem dX4_takeTried_1 : decode cX4_takeTried 1 = .ok (.getfield 30, 3) := by decide +kernel
theorem dX4_takeTried_4 : decode cX4_takeTried 4 = .ok (.aload_n 0, 1) := by decide +kernel
theorem dX4_takeTried_5 : decode cX4_takeTried 5 = .ok (.getfield 33, 3) := by decide +kernel
theorem dX4_takeTried_8 : decode cX4_takeTried 8 = .ok (.invokestatic 112, 3) := by decide +kernel
theorem dX4_takeTried_11 : decode cX4_takeTried 11 = .ok (.aload_n 0, 1) := by decide +kernel
theorem dX4_takeTried_12 : decode cX4_takeTried 12 = .ok (.iload_n 1, 1) := by decide +kernel
theorem dX4_takeTried_13 : decode cX4_takeTried 13 = .ok (.putfield 94, 3) := by decide +kernel
theorem dX4_takeTried_16 : decode cX4_takeTried 16 = .ok (.aload_n 0, 1) := by decide +kernel
theorem dX4_takeTried_17 : decode cX4_takeTried 17 = .ok (.iload_n 2, 1) := by decide +kernel
theorem dX4_takeTried_18 : decode cX4_takeTried 18 = .ok (.putfield 97, 3) := by decide +kernel
theorem dX4_takeTried_21 : decode cX4_takeTried 21 = .ok (.return_, 1) := by decide +kernel
theorem dX4_countAway_0 : decode cX4_countAway 0 = .ok (.iconst 0, 1) := by decide +kernel
theorem dX4_countAway_1 : decode cX4_countAway 1 = .ok (.istore_n 2, 1) := by decide +kernel
theorem dX4_countAway_2 : decode cX4_countAway 2 = .ok (.iconst 0, 1) := by decide +kernel
theorem dX4_countAway_3 : decode cX4_countAway 3 = .ok (.istore_n 3, 1) := by decide +kernel
theorem dX4_countAway_4 : decode cX4_countAway 4 = .ok (.iload_n 3, 1) := by decide +kernel
theorem dX4_countAway_5 : decode cX4_countAway 5 = .ok (.iconst 4, 1) := by decide +kernel
theorem dX4_countAway_6 : decode cX4_countAway 6 = .ok (.if_icmp .ge 40, 3) := by decide +kernel
theorem dX4_countAway_9 : decode cX4_countAway 9 = .ok (.aload_n 0, 1) := by decide +kernel
theorem dX4_countAway_10 : decode cX4_countAway 10 = .ok (.getfield 33, 3) := by decide +kernel
theorem dX4_countAway_13 : decode cX4_countAway 13 = .ok (.iload_n 3, 1) := by decide +kernel
theorem dX4_countAway_14 : decode cX4_countAway 14 = .ok (.iaload, 1) := by decide +kernel
theorem dX4_countAway_15 : decode cX4_countAway 15 = .ok (.iconst (-1), 1) := by decide +kernel
theorem dX4_countAway_16 : decode cX4_countAway 16 = .ok (.if_icmp .eq 24, 3) := by decide +kernel
theorem dX4_countAway_19 : decode cX4_countAway 19 = .ok (.aload_n 0, 1) := by decide +kernel
theorem dX4_countAway_20 : decode cX4_countAway 20 = .ok (.getfield 33, 3) := by decide +kernel
theorem dX4_countAway_23 : decode cX4_countAway 23 = .ok (.iload_n 3, 1) := by decide +kernel
theorem dX4_countAway_24 : decode cX4_countAway 24 = .ok (.iaload, 1) := by decide +kernel
theorem dX4_countAway_25 : decode cX4_countAway 25 = .ok (.iconst 3, 1) := by decide +kernel
theorem dX4_countAway_26 : decode cX4_countAway 26 = .ok (.idiv, 1) := by decide +kernel
theorem dX4_countAway_27 : decode cX4_countAway 27 = .ok (.iload_n 1, 1) := by decide +kernel
theorem dX4_countAway_28 : decode cX4_countAway 28 = .ok (.if_icmp .ne 12, 3) := by decide +kernel
theorem dX4_countAway_31 : decode cX4_countAway 31 = .ok (.iload_n 2, 1) := by decide +kernel
theorem dX4_countAway_32 : decode cX4_countAway 32 = .ok (.aload_n 0, 1) := by decide +kernel
theorem dX4_countAway_33 : decode cX4_countAway 33 = .ok (.getfield 9, 3) := by decide +kernel
theorem dX4_countAway_36 : decode cX4_countAway 36 = .ok (.iload_n 3, 1) := by decide +kernel
theorem dX4_countAway_37 : decode cX4_countAway 37 = .ok (.iaload, 1) := by decide +kernel
theorem dX4_countAway_38 : decode cX4_countAway 38 = .ok (.iadd, 1) := by decide +kernel
theorem dX4_countAway_39 : decode cX4_countAway 39 = .ok (.istore_n 2, 1) := by decide +kernel
theorem dX4_countAway_40 : decode cX4_countAway 40 = .ok (.iinc 3 1, 3) := by decide +kernel
theorem dX4_countAway_43 : decode cX4_countAway 43 = .ok (.goto (-39), 3) := by decide +kernel
theorem dX4_countAway_46 : decode cX4_countAway 46 = .ok (.iload_n 2, 1) := by decide +kernel
theorem dX4_countAway_47 : decode cX4_countAway 47 = .ok (.ireturn, 1) := by decide +kernel
theorem dX5_init_0 : decode cX5_init 0 = .ok (.aload_n 0, 1) := by decide +kernel
theorem dX5_init_1 : decode cX5_init 1 = .ok (.invokespecial 3, 3) := by decide +kernel
theorem dX5_init_4 : decode cX5_init 4 = .ok (.aload_n 0, 1) := by decide +kernel
theorem dX5_init_5 : decode cX5_init 5 = .ok (.bipush 80, 2) := by decide +kernel
theorem dX5_init_7 : decode cX5_init 7 = .ok (.newarray .int, 2) := by decide +kernel
theorem dX5_init_9 : decode cX5_init 9 = .ok (.putfield 9, 3) := by decide +kernel
theorem dX5_init_12 : decode cX5_init 12 = .ok (.aload_n 0, 1) := by decide +kernel
theorem dX5_init_13 : decode cX5_init 13 = .ok (.bipush 80, 2) := by decide +kernel
theorem dX5_init_15 : decode cX5_init 15 = .ok (.newarray .int, 2) := by decide +kernel
theorem dX5_init_17 : decode cX5_init 17 = .ok (.putfield 15, 3) := by decide +kernel
theorem dX5_init_20 : decode cX5_init 20 = .ok (.aload_n 0, 1) := by decide +kernel
theorem dX5_init_21 : decode cX5_init 21 = .ok (.bipush 80, 2) := by decide +kernel
theorem dX5_init_23 : decode cX5_init 23 = .ok (.newarray .int, 2) := by decide +kernel
theorem dX5_init_25 : decode cX5_init 25 = .ok (.putfield 18, 3) := by decide +kernel
theorem dX5_init_28 : decode cX5_init 28 = .ok (.aload_n 0, 1) := by decide +kernel
theorem dX5_init_29 : decode cX5_init 29 = .ok (.bipush 80, 2) := by decide +kernel
theorem dX5_init_31 : decode cX5_init 31 = .ok (.newarray .int, 2) := by decide +kernel
theorem dX5_init_33 : decode cX5_init 33 = .ok (.putfield 21, 3) := by decide +kernel
theorem dX5_init_36 : decode cX5_init 36 = .ok (.aload_n 0, 1) := by decide +kernel
theorem dX5_init_37 : decode cX5_init 37 = .ok (.bipush 80, 2) := by decide +kernel
theorem dX5_init_39 : decode cX5_init 39 = .ok (.newarray .boolean, 2) := by decide +kernel
theorem dX5_init_41 : decode cX5_init 41 = .ok (.putfield 24, 3) := by decide +kernel
theorem dX5_init_44 : decode cX5_init 44 = .ok (.return_, 1) := by decide +kernel
theorem dX5_become_0 : decode cX5_become 0 = .ok (.aload_n 0, 1) := by decide +kernel
theorem dX5_become_1 : decode cX5_become 1 = .ok (.aload_n 1, 1) := by decide +kernel
theorem dX5_become_2 : decode cX5_become 2 = .ok (.getfield 28, 3) := by decide +kernel
theorem dX5_become_5 : decode cX5_become 5 = .ok (.putfield 28, 3) := by decide +kernel
theorem dX5_become_8 : decode cX5_become 8 = .ok (.aload_n 1, 1) := by decide +kernel
theorem dX5_become_9 : decode cX5_become 9 = .ok (.getfield 9, 3) := by decide +kernel
theorem dX5_become_12 : decode cX5_become 12 = .ok (.aload_n 0, 1) := by decide +kernel
theorem dX5_become_13 : decode cX5_become 13 = .ok (.getfield 9, 3) := by decide +kernel
theorem dX5_become_16 : decode cX5_become 16 = .ok (.invokestatic 32, 3) := by decide +kernel
theorem dX5_become_19 : decode cX5_become 19 = .ok (.aload_n 1, 1) := by decide +kernel
theorem dX5_become_20 : decode cX5_become 20 = .ok (.getfield 15, 3) := by decide +kernel
theorem dX5_become_23 : decode cX5_become 23 = .ok (.aload_n 0, 1) := by decide +kernel
theorem dX5_become_24 : decode cX5_become 24 = .ok (.getfield 15, 3) := by decide +kernel
theorem dX5_become_27 : decode cX5_become 27 = .ok (.invokestatic 32, 3) := by decide +kernel
theorem dX5_become_30 : decode cX5_become 30 = .ok (.aload_n 1, 1) := by decide +kernel
theorem dX5_become_31 : decode cX5_become 31 = .ok (.getfield 18, 3) := by decide +kernel
theorem dX5_become_34 : decode cX5_become 34 = .ok (.aload_n 0, 1) := by decide +kernel
theorem dX5_become_35 : decode cX5_become 35 = .ok (.getfield 18, 3) := by decide +kernel
theorem dX5_become_38 : decode cX5_become 38 = .ok (.invokestatic 32, 3) := by decide +kernel
theorem dX5_become_41 : decode cX5_become 41 = .ok (.aload_n 1, 1) := by decide +kernel
theorem dX5_become_42 : decode cX5_become 42 = .ok (.getfield 21, 3) := by decide +kernel
theorem dX5_become_45 : decode cX5_become 45 = .ok (.aload_n 0, 1) := by decide +kernel
theorem dX5_become_46 : decode cX5_become 46 = .ok (.getfield 21, 3) := by decide +kernel
theorem dX5_become_49 : decode cX5_become 49 = .ok (.invokestatic 32, 3) := by decide +kernel
theorem dX5_become_52 : decode cX5_become 52 = .ok (.aload_n 1, 1) := by decide +kernel
theorem dX5_become_53 : decode cX5_become 53 = .ok (.getfield 24, 3) := by decide +kernel
theorem dX5_become_56 : decode cX5_become 56 = .ok (.aload_n 0, 1) := by decide +kernel
theorem dX5_become_57 : decode cX5_become 57 = .ok (.getfield 24, 3) := by decide +kernel
theorem dX5_become_60 : decode cX5_become 60 = .ok (.invokestatic 36, 3) := by decide +kernel
theorem dX5_become_63 : decode cX5_become 63 = .ok (.return_, 1) := by decide +kernel
theorem dX6_init_0 : decode cX6_init 0 = .ok (.aload_n 0, 1) := by decide +kernel
theorem dX6_init_1 : decode cX6_init 1 = .ok (.invokespecial 3, 3) := by decide +kernel
theorem dX6_init_4 : decode cX6_init 4 = .ok (.aload_n 0, 1) := by decide +kernel
theorem dX6_init_5 : decode cX6_init 5 = .ok (.bipush 10, 2) := by decide +kernel
theorem dX6_init_7 : decode cX6_init 7 = .ok (.newarray .int, 2) := by decide +kernel
theorem dX6_init_9 : decode cX6_init 9 = .ok (.putfield 9, 3) := by decide +kernel
theorem dX6_init_12 : decode cX6_init 12 = .ok (.aload_n 0, 1) := by decide +kernel
theorem dX6_init_13 : decode cX6_init 13 = .ok (.bipush 10, 2) := by decide +kernel
theorem dX6_init_15 : decode cX6_init 15 = .ok (.newarray .int, 2) := by decide +kernel
theorem dX6_init_17 : decode cX6_init 17 = .ok (.putfield 15, 3) := by decide +kernel
theorem dX6_init_20 : decode cX6_init 20 = .ok (.aload_n 0, 1) := by decide +kernel
theorem dX6_init_21 : decode cX6_init 21 = .ok (.bipush 8, 2) := by decide +kernel
theorem dX6_init_23 : decode cX6_init 23 = .ok (.newarray .int, 2) := by decide +kernel
theorem dX6_init_25 : decode cX6_init 25 = .ok (.putfield 18, 3) := by decide +kernel
theorem dX6_init_28 : decode cX6_init 28 = .ok (.aload_n 0, 1) := by decide +kernel
theorem dX6_init_29 : decode cX6_init 29 = .ok (.bipush 8, 2) := by decide +kernel
theorem dX6_init_31 : decode cX6_init 31 = .ok (.newarray .int, 2) := by decide +kernel
theorem dX6_init_33 : decode cX6_init 33 = .ok (.putfield 21, 3) := by decide +kernel
theorem dX6_init_36 : decode cX6_init 36 = .ok (.aload_n 0, 1) := by decide +kernel
theorem dX6_init_37 : decode cX6_init 37 = .ok (.bipush 8, 2) := by decide +kernel
theorem dX6_init_39 : decode cX6_init 39 = .ok (.newarray .int, 2) := by decide +kernel
theorem dX6_init_41 : decode cX6_init 41 = .ok (.putfield 24, 3) := by decide +kernel
theorem dX6_init_44 : decode cX6_init 44 = .ok (.aload_n 0, 1) := by decide +kernel
theorem dX6_init_45 : decode cX6_init 45 = .ok (.bipush 8, 2) := by decide +kernel
theorem dX6_init_47 : decode cX6_init 47 = .ok (.newarray .int, 2) := by decide +kernel
theorem dX6_init_49 : decode cX6_init 49 = .ok (.putfield 27, 3) := by decide +kernel
theorem dX6_init_52 : decode cX6_init 52 = .ok (.aload_n 0, 1) := by decide +kernel
theorem dX6_init_53 : decode cX6_init 53 = .ok (.bipush 8, 2) := by decide +kernel
theorem dX6_init_55 : decode cX6_init 55 = .ok (.newarray .int, 2) := by decide +kernel
theorem dX6_init_57 : decode cX6_init 57 = .ok (.putfield 30, 3) := by decide +kernel
theorem dX6_init_60 : decode cX6_init 60 = .ok (.return_, 1) := by decide +kernel
theorem dX6_become_0 : decode cX6_become 0 = .ok (.aload_n 0, 1) := by decide +kernel
theorem dX6_become_1 : decode cX6_become 1 = .ok (.aload_n 1, 1) := by decide +kernel
theorem dX6_become_2 : decode cX6_become 2 = .ok (.getfield 33, 3) := by decide +kernel
theorem dX6_become_5 : decode cX6_become 5 = .ok (.putfield 33, 3) := by decide +kernel
theorem dX6_become_8 : decode cX6_become 8 = .ok (.aload_n 1, 1) := by decide +kernel
theorem dX6_become_9 : decode cX6_become 9 = .ok (.getfield 9, 3) := by decide +kernel
theorem dX6_become_12 : decode cX6_become 12 = .ok (.aload_n 0, 1) := by decide +kernel
theorem dX6_become_13 : decode cX6_become 13 = .ok (.getfield 9, 3) := by decide +kernel
theorem dX6_become_16 : decode cX6_become 16 = .ok (.invokestatic 37, 3) := by decide +kernel
theorem dX6_become_19 : decode cX6_become 19 = .ok (.aload_n 1, 1) := by decide +kernel
theorem dX6_become_20 : decode cX6_become 20 = .ok (.getfield 15, 3) := by decide +kernel
theorem dX6_become_23 : decode cX6_become 23 = .ok (.aload_n 0, 1) := by decide +kernel
theorem dX6_become_24 : decode cX6_become 24 = .ok (.getfield 15, 3) := by decide +kernel
theorem dX6_become_27 : decode cX6_become 27 = .ok (.invokestatic 37, 3) := by decide +kernel
theorem dX6_become_30 : decode cX6_become 30 = .ok (.aload_n 0, 1) := by decide +kernel
theorem dX6_become_31 : decode cX6_become 31 = .ok (.aload_n 1, 1) := by decide +kernel
theorem dX6_become_32 : decode cX6_become 32 = .ok (.getfield 41, 3) := by decide +kernel
theorem dX6_become_35 : decode cX6_become 35 = .ok (.putfield 41, 3) := by decide +kernel
theorem dX6_become_38 : decode cX6_become 38 = .ok (.aload_n 1, 1) := by decide +kernel
theorem dX6_become_39 : decode cX6_become 39 = .ok (.getfield 18, 3) := by decide +kernel
theorem dX6_become_42 : decode cX6_become 42 = .ok (.aload_n 0, 1) := by decide +kernel
theorem dX6_become_43 : decode cX6_become 43 = .ok (.getfield 18, 3) := by decide +kernel
theorem dX6_become_46 : decode cX6_become 46 = .ok (.invokestatic 37, 3) := by decide +kernel
theorem dX6_become_49 : decode cX6_become 49 = .ok (.aload_n 1, 1) := by decide +kernel
theorem dX6_become_50 : decode cX6_become 50 = .ok (.getfield 21, 3) := by decide +kernel
theorem dX6_become_53 : decode cX6_become 53 = .ok (.aload_n 0, 1) := by decide +kernel
theorem dX6_become_54 : decode cX6_become 54 = .ok (.getfield 21, 3) := by decide +kernel
theorem dX6_become_57 : decode cX6_become 57 = .ok (.invokestatic 37, 3) := by decide +kernel
theorem dX6_become_60 : decode cX6_become 60 = .ok (.aload_n 1, 1) := by decide +kernel
theorem dX6_become_61 : decode cX6_become 61 = .ok (.getfield 24, 3) := by decide +kernel
theorem dX6_become_64 : decode cX6_become 64 = .ok (.aload_n 0, 1) := by decide +kernel
theorem dX6_become_65 : decode cX6_become 65 = .ok (.getfield 24, 3) := by decide +kernel
theorem dX6_become_68 : decode cX6_become 68 = .ok (.invokestatic 37, 3) := by decide +kernel
theorem dX6_become_71 : decode cX6_become 71 = .ok (.aload_n 1, 1) := by decide +kernel
theorem dX6_become_72 : decode cX6_become 72 = .ok (.getfield 27, 3) := by decide +kernel
theorem dX6_become_75 : decode cX6_become 75 = .ok (.aload_n 0, 1) := by decide +kernel
theorem dX6_become_76 : decode cX6_become 76 = .ok (.getfield 27, 3) := by decide +kernel
theorem dX6_become_79 : decode cX6_become 79 = .ok (.invokestatic 37, 3) := by decide +kernel
theorem dX6_become_82 : decode cX6_become 82 = .ok (.aload_n 1, 1) := by decide +kernel
theorem dX6_become_83 : decode cX6_become 83 = .ok (.getfield 30, 3) := by decide +kernel
theorem dX6_become_86 : decode cX6_become 86 = .ok (.aload_n 0, 1) := by decide +kernel
theorem dX6_become_87 : decode cX6_become 87 = .ok (.getfield 30, 3) := by decide +kernel
theorem dX6_become_90 : decode cX6_become 90 = .ok (.invokestatic 37, 3) := by decide +kernel
theorem dX6_become_93 : decode cX6_become 93 = .ok (.return_, 1) := by decide +kernel
theorem dX7_init_0 : decode cX7_init 0 = .ok (.aload_n 0, 1) := by decide +kernel
theorem dX7_init_1 : decode cX7_init 1 = .ok (.invokespecial 3, 3) := by decide +kernel
theorem dX7_init_4 : decode cX7_init 4 = .ok (.aload_n 0, 1) := by decide +kernel
theorem dX7_init_5 : decode cX7_init 5 = .ok (.new 9, 3) := by decide +kernel
theorem dX7_init_8 : decode cX7_init 8 = .ok (.dup, 1) := by decide +kernel
theorem dX7_init_9 : decode cX7_init 9 = .ok (.invokespecial 11, 3) := by decide +kernel
theorem dX7_init_12 : decode cX7_init 12 = .ok (.putfield 12, 3) := by decide +kernel
theorem dX7_init_15 : decode cX7_init 15 = .ok (.aload_n 0, 1) := by decide +kernel
theorem dX7_init_16 : decode cX7_init 16 = .ok (.new 9, 3) := by decide +kernel
theorem dX7_init_19 : decode cX7_init 19 = .ok (.dup, 1) := by decide +kernel
theorem dX7_init_20 : decode cX7_init 20 = .ok (.invokespecial 11, 3) := by decide +kernel
theorem dX7_init_23 : decode cX7_init 23 = .ok (.putfield 16, 3) := by decide +kernel
theorem dX7_init_26 : decode cX7_init 26 = .ok (.aload_n 0, 1) := by decide +kernel
theorem dX7_init_27 : decode cX7_init 27 = .ok (.new 19, 3) := by decide +kernel
theorem dX7_init_30 : decode cX7_init 30 = .ok (.dup, 1) := by decide +kernel
theorem dX7_init_31 : decode cX7_init 31 = .ok (.invokespecial 21, 3) := by decide +kernel
theorem dX7_init_34 : decode cX7_init 34 = .ok (.putfield 22, 3) := by decide +kernel
theorem dX7_init_37 : decode cX7_init 37 = .ok (.aload_n 0, 1) := by decide +kernel
theorem dX7_init_38 : decode cX7_init 38 = .ok (.new 26, 3) := by decide +kernel
theorem dX7_init_41 : decode cX7_init 41 = .ok (.dup, 1) := by decide +kernel
theorem dX7_init_42 : decode cX7_init 42 = .ok (.invokespecial 28, 3) := by decide +kernel
theorem dX7_init_45 : decode cX7_init 45 = .ok (.putfield 29, 3) := by decide +kernel
theorem dX7_init_48 : decode cX7_init 48 = .ok (.aload_n 0, 1) := by decide +kernel
theorem dX7_init_49 : decode cX7_init 49 = .ok (.iconst 0, 1) := by decide +kernel
theorem dX7_init_50 : decode cX7_init 50 = .ok (.putfield 33, 3) := by decide +kernel
theorem dX7_init_53 : decode cX7_init 53 = .ok (.aload_n 0, 1) := by decide +kernel
theorem dX7_init_54 : decode cX7_init 54 = .ok (.iconst 1, 1) := by decide +kernel
theorem dX7_init_55 : decode cX7_init 55 = .ok (.putfield 37, 3) := by decide +kernel
theorem dX7_init_58 : decode cX7_init 58 = .ok (.aload_n 0, 1) := by decide +kernel
theorem dX7_init_59 : decode cX7_init 59 = .ok (.iconst 5, 1) := by decide +kernel
theorem dX7_init_60 : decode cX7_init 60 = .ok (.putfield 40, 3) := by decide +kernel
theorem dX7_init_63 : decode cX7_init 63 = .ok (.return_, 1) := by decide +kernel
theorem dX7_child_0 : decode cX7_child 0 = .ok (.iload_n 1, 1) := by decide +kernel
theorem dX7_child_1 : decode cX7_child 1 = .ok (.invokestatic 44, 3) := by decide +kernel
theorem dX7_child_4 : decode cX7_child 4 = .ok (.ifCond .eq 11, 3) := by decide +kernel
theorem dX7_child_7 : decode cX7_child 7 = .ok (.iload_n 2, 1) := by decide +kernel
theorem dX7_child_8 : decode cX7_child 8 = .ok (.iconst 4, 1) := by decide +kernel
theorem dX7_child_9 : decode cX7_child 9 = .ok (.invokestatic 48, 3) := by decide +kernel
theorem dX7_child_12 : decode cX7_child 12 = .ok (.ifCond .ne 5, 3) := by decide +kernel
theorem dX7_child_15 : decode cX7_child 15 = .ok (.iconst (-1), 1) := by decide +kernel
theorem dX7_child_16 : decode cX7_child 16 = .ok (.ireturn, 1) := by decide +kernel
theorem dX7_child_17 : decode cX7_child 17 = .ok (.aload_n 0, 1) := by decide +kernel
theorem dX7_child_18 : decode cX7_child 18 = .ok (.getfield 12, 3) := by decide +kernel
theorem dX7_child_21 : decode cX7_child 21 = .ok (.getfield 52, 3) := by decide +kernel
theorem dX7_child_24 : decode cX7_child 24 = .ok (.astore_n 3, 1) := by decide +kernel
theorem dX7_child_25 : decode cX7_child 25 = .ok (.aload_n 3, 1) := by decide +kernel
theorem dX7_child_26 : decode cX7_child 26 = .ok (.getfield 56, 3) := by decide +kernel
theorem dX7_child_29 : decode cX7_child 29 = .ok (.bipush 10, 2) := by decide +kernel
theorem dX7_child_31 : decode cX7_child 31 = .ok (.if_icmp .lt 6, 3) := by decide +kernel
theorem dX7_child_34 : decode cX7_child 34 = .ok (.bipush (-2), 2) := by decide +kernel
theorem dX7_child_36 : decode cX7_child 36 = .ok (.ireturn, 1) := by decide +kernel
theorem dX7_child_37 : decode cX7_child 37 = .ok (.aload_n 3, 1) := by decide +kernel
theorem dX7_child_38 : decode cX7_child 38 = .ok (.getfield 56, 3) := by decide +kernel
theorem dX7_child_41 : decode cX7_child 41 = .ok (.istore 4, 2) := by decide +kernel
theorem dX7_child_43 : decode cX7_child 43 = .ok (.aload_n 3, 1) := by decide +kernel
theorem dX7_child_44 : decode cX7_child 44 = .ok (.getfield 61, 3) := by decide +kernel
theorem dX7_child_47 : decode cX7_child 47 = .ok (.iload 4, 2) := by decide +kernel
theorem dX7_child_49 : decode cX7_child 49 = .ok (.iload_n 1, 1) := by decide +kernel
theorem dX7_child_50 : decode cX7_child 50 = .ok (.iastore, 1) := by decide +kernel
theorem dX7_child_51 : decode cX7_child 51 = .ok (.aload_n 3, 1) := by decide +kernel
theorem dX7_child_52 : decode cX7_child 52 = .ok (.getfield 65, 3) := by decide +kernel
theorem dX7_child_55 : decode cX7_child 55 = .ok (.iload 4, 2) := by decide +kernel
theorem dX7_child_57 : decode cX7_child 57 = .ok (.iload_n 2, 1) := by decide +kernel
theorem dX7_child_58 : decode cX7_child 58 = .ok (.iastore, 1) := by decide +kernel
theorem dX7_child_59 : decode cX7_child 59 = .ok (.aload_n 3, 1) := by decide +kernel
theorem dX7_child_60 : decode cX7_child 60 = .ok (.iload 4, 2) := by decide +kernel
theorem dX7_child_62 : decode cX7_child 62 = .ok (.iconst 1, 1) := by decide +kernel
theorem dX7_child_63 : decode cX7_child 63 = .ok (.iadd, 1) := by decide +kernel
theorem dX7_child_64 : decode cX7_child 64 = .ok (.putfield 56, 3) := by decide +kernel
theorem dX7_child_67 : decode cX7_child 67 = .ok (.aload_n 0, 1) := by decide +kernel
theorem dX7_child_68 : decode cX7_child 68 = .ok (.iconst 1, 1) := by decide +kernel
theorem dX7_child_69 : decode cX7_child 69 = .ok (.putfield 37, 3) := by decide +kernel
theorem dX7_child_72 : decode cX7_child 72 = .ok (.iload 4, 2) := by decide +kernel
theorem dX7_child_74 : decode cX7_child 74 = .ok (.ireturn, 1) := by decide +kernel
theorem dX7_change_0 : decode cX7_change 0 = .ok (.aload_n 0, 1) := by decide +kernel
theorem dX7_change_1 : decode cX7_change 1 = .ok (.iload_n 1, 1) := by decide +kernel
theorem dX7_change_2 : decode cX7_change 2 = .ok (.invokevirtual 68, 3) := by decide +kernel
theorem dX7_change_5 : decode cX7_change 5 = .ok (.ifCond .ne 5, 3) := by decide +kernel
theorem dX7_change_8 : decode cX7_change 8 = .ok (.iconst (-1), 1) := by decide +kernel
theorem dX7_change_9 : decode cX7_change 9 = .ok (.ireturn, 1) := by decide +kernel
theorem dX7_change_10 : decode cX7_change 10 = .ok (.iload_n 2, 1) := by decide +kernel
theorem dX7_change_11 : decode cX7_change 11 = .ok (.ifCond .ne 26, 3) := by decide +kernel
theorem dX7_change_14 : decode cX7_change 14 = .ok (.iload_n 3, 1) := by decide +kernel
theorem dX7_change_15 : decode cX7_change 15 = .ok (.invokestatic 44, 3) := by decide +kernel
theorem dX7_change_18 : decode cX7_change 18 = .ok (.ifCond .eq 19, 3) := by decide +kernel
theorem dX7_change_21 : decode cX7_change 21 = .ok (.aload_n 0, 1) := by decide +kernel
theorem dX7_change_22 : decode cX7_change 22 = .ok (.getfield 12, 3) := by decide +kernel
theorem dX7_change_25 : decode cX7_change 25 = .ok (.getfield 52, 3) := by decide +kernel
theorem dX7_change_28 : decode cX7_change 28 = .ok (.getfield 61, 3) := by decide +kernel
theorem dX7_change_31 : decode cX7_change 31 = .ok (.iload_n 1, 1) := by decide +kernel
theorem dX7_change_32 : decode cX7_change 32 = .ok (.iload_n 3, 1) := by decide +kernel
theorem dX7_change_33 : decode cX7_change 33 = .ok (.invokestatic 71, 3) := by decide +kernel
theorem dX7_change_36 : decode cX7_change 36 = .ok (.ireturn, 1) := by decide +kernel
theorem dX7_change_37 : decode cX7_change 37 = .ok (.iload_n 2, 1) := by decide +kernel
theorem dX7_change_38 : decode cX7_change 38 = .ok (.iconst 1, 1) := by decide +kernel
theorem dX7_change_39 : decode cX7_change 39 = .ok (.if_icmp .ne 32, 3) := by decide +kernel
theorem dX7_change_42 : decode cX7_change 42 = .ok (.iload_n 3, 1) := by decide +kernel
theorem dX7_change_43 : decode cX7_change 43 = .ok (.iconst 4, 1) := by decide +kernel
theorem dX7_change_44 : decode cX7_change 44 = .ok (.invokestatic 48, 3) := by decide +kernel
theorem dX7_change_47 : decode cX7_change 47 = .ok (.ifCond .eq 24, 3) := by decide +kernel
theorem dX7_change_50 : decode cX7_change 50 = .ok (.aload_n 0, 1) := by decide +kernel
theorem dX7_change_51 : decode cX7_change 51 = .ok (.iconst 1, 1) := by decide +kernel
theorem dX7_change_52 : decode cX7_change 52 = .ok (.putfield 37, 3) := by decide +kernel
theorem dX7_change_55 : decode cX7_change 55 = .ok (.aload_n 0, 1) := by decide +kernel
theorem dX7_change_56 : decode cX7_change 56 = .ok (.getfield 12, 3) := by decide +kernel
theorem dX7_change_59 : decode cX7_change 59 = .ok (.getfield 52, 3) := by decide +kernel
theorem dX7_change_62 : decode cX7_change 62 = .ok (.getfield 65, 3) := by decide +kernel
theorem dX7_change_65 : decode cX7_change 65 = .ok (.iload_n 1, 1) := by decide +kernel
theorem dX7_change_66 : decode cX7_change 66 = .ok (.iload_n 3, 1) := by decide +kernel
theorem dX7_change_67 : decode cX7_change 67 = .ok (.invokestatic 71, 3) := by decide +kernel
theorem dX7_change_70 : decode cX7_change 70 = .ok (.ireturn, 1) := by decide +kernel
theorem dX7_change_71 : decode cX7_change 71 = .ok (.iconst (-1), 1) := by decide +kernel
theorem dX7_change_72 : decode cX7_change 72 = .ok (.ireturn, 1) := by decide +kernel
theorem dX7_leader_0 : decode cX7_leader 0 = .ok (.aload_n 0, 1) := by decide +kernel
theorem dX7_leader_1 : decode cX7_leader 1 = .ok (.getfield 12, 3) := by decide +kernel
theorem dX7_leader_4 : decode cX7_leader 4 = .ok (.getfield 52, 3) := by decide +kernel
theorem dX7_leader_7 : decode cX7_leader 7 = .ok (.astore_n 1, 1) := by decide +kernel
theorem dX7_leader_8 : decode cX7_leader 8 = .ok (.aload_n 1, 1) := by decide +kernel
theorem dX7_leader_9 : decode cX7_leader 9 = .ok (.getfield 75, 3) := by decide +kernel
theorem dX7_leader_12 : decode cX7_leader 12 = .ok (.iconst 5, 1) := by decide +kernel
theorem dX7_leader_13 : decode cX7_leader 13 = .ok (.if_icmp .lt 6, 3) := by decide +kernel
theorem dX7_leader_16 : decode cX7_leader 16 = .ok (.bipush (-2), 2) := by decide +kernel
theorem dX7_leader_18 : decode cX7_leader 18 = .ok (.ireturn, 1) := by decide +kernel
theorem dX7_leader_19 : decode cX7_leader 19 = .ok (.aload_n 1, 1) := by decide +kernel
theorem dX7_leader_20 : decode cX7_leader 20 = .ok (.getfield 75, 3) := by decide +kernel
theorem dX7_leader_23 : decode cX7_leader 23 = .ok (.istore_n 2, 1) := by decide +kernel
theorem dX7_leader_24 : decode cX7_leader 24 = .ok (.aload_n 1, 1) := by decide +kernel
theorem dX7_leader_25 : decode cX7_leader 25 = .ok (.iload_n 2, 1) := by decide +kernel
theorem dX7_leader_26 : decode cX7_leader 26 = .ok (.iconst 1, 1) := by decide +kernel
theorem dX7_leader_27 : decode cX7_leader 27 = .ok (.iadd, 1) := by decide +kernel
theorem dX7_leader_28 : decode cX7_leader 28 = .ok (.putfield 75, 3) := by decide +kernel
theorem dX7_leader_31 : decode cX7_leader 31 = .ok (.iload_n 2, 1) := by decide +kernel
theorem dX7_leader_32 : decode cX7_leader 32 = .ok (.ireturn, 1) := by decide +kernel
theorem dX7_paper_0 : decode cX7_paper 0 = .ok (.aload_n 0, 1) := by decide +kernel
theorem dX7_paper_1 : decode cX7_paper 1 = .ok (.iload_n 1, 1) := by decide +kernel
theorem dX7_paper_2 : decode cX7_paper 2 = .ok (.invokevirtual 78, 3) := by decide +kernel
theorem dX7_paper_5 : decode cX7_paper 5 = .ok (.ifCond .eq 32, 3) := by decide +kernel
theorem dX7_paper_8 : decode cX7_paper 8 = .ok (.iload_n 2, 1) := by decide +kernel
theorem dX7_paper_9 : decode cX7_paper 9 = .ok (.iconst 4, 1) := by decide +kernel
theorem dX7_paper_10 : decode cX7_paper 10 = .ok (.invokestatic 48, 3) := by decide +kernel
theorem dX7_paper_13 : decode cX7_paper 13 = .ok (.ifCond .eq 24, 3) := by decide +kernel
theorem dX7_paper_16 : decode cX7_paper 16 = .ok (.iload_n 3, 1) := by decide +kernel
theorem dX7_paper_17 : decode cX7_paper 17 = .ok (.invokestatic 81, 3) := by decide +kernel
theorem dX7_paper_20 : decode cX7_paper 20 = .ok (.ifCond .eq 17, 3) := by decide +kernel
theorem dX7_paper_23 : decode cX7_paper 23 = .ok (.iload 4, 2) := by decide +kernel
theorem dX7_paper_25 : decode cX7_paper 25 = .ok (.invokestatic 81, 3) := by decide +kernel
theorem dX7_paper_28 : decode cX7_paper 28 = .ok (.ifCond .eq 9, 3) := by decide +kernel
theorem dX7_paper_31 : decode cX7_paper 31 = .ok (.iload_n 3, 1) := by decide +kernel
theorem dX7_paper_32 : decode cX7_paper 32 = .ok (.iload 4, 2) := by decide +kernel
theorem dX7_paper_34 : decode cX7_paper 34 = .ok (.if_icmp .le 5, 3) := by decide +kernel
theorem dX7_paper_37 : decode cX7_paper 37 = .ok (.iconst (-1), 1) := by decide +kernel
theorem dX7_paper_38 : decode cX7_paper 38 = .ok (.ireturn, 1) := by decide +kernel
theorem dX7_paper_39 : decode cX7_paper 39 = .ok (.iload_n 1, 1) := by decide +kernel
theorem dX7_paper_40 : decode cX7_paper 40 = .ok (.iconst 4, 1) := by decide +kernel
theorem dX7_paper_41 : decode cX7_paper 41 = .ok (.imul, 1) := by decide +kernel
theorem dX7_paper_42 : decode cX7_paper 42 = .ok (.iload_n 2, 1) := by decide +kernel
theorem dX7_paper_43 : decode cX7_paper 43 = .ok (.iadd, 1) := by decide +kernel
theorem dX7_paper_44 : decode cX7_paper 44 = .ok (.istore 5, 2) := by decide +kernel
theorem dX7_paper_46 : decode cX7_paper 46 = .ok (.aload_n 0, 1) := by decide +kernel
theorem dX7_paper_47 : decode cX7_paper 47 = .ok (.getfield 12, 3) := by decide +kernel
theorem dX7_paper_50 : decode cX7_paper 50 = .ok (.getfield 52, 3) := by decide +kernel
theorem dX7_paper_53 : decode cX7_paper 53 = .ok (.getfield 84, 3) := by decide +kernel
theorem dX7_paper_56 : decode cX7_paper 56 = .ok (.iload 5, 2) := by decide +kernel
theorem dX7_paper_58 : decode cX7_paper 58 = .ok (.iload_n 3, 1) := by decide +kernel
theorem dX7_paper_59 : decode cX7_paper 59 = .ok (.iastore, 1) := by decide +kernel
theorem dX7_paper_60 : decode cX7_paper 60 = .ok (.aload_n 0, 1) := by decide +kernel
theorem dX7_paper_61 : decode cX7_paper 61 = .ok (.getfield 12, 3) := by decide +kernel
theorem dX7_paper_64 : decode cX7_paper 64 = .ok (.getfield 52, 3) := by decide +kernel
theorem dX7_paper_67 : decode cX7_paper 67 = .ok (.getfield 87, 3) := by decide +kernel
theorem dX7_paper_70 : decode cX7_paper 70 = .ok (.iload 5, 2) := by decide +kernel
theorem dX7_paper_72 : decode cX7_paper 72 = .ok (.iload 4, 2) := by decide +kernel
theorem dX7_paper_74 : decode cX7_paper 74 = .ok (.iastore, 1) := by decide +kernel
theorem dX7_paper_75 : decode cX7_paper 75 = .ok (.iconst 1, 1) := by decide +kernel
theorem dX7_paper_76 : decode cX7_paper 76 = .ok (.ireturn, 1) := by decide +kernel
theorem dX7_lose_0 : decode cX7_lose 0 = .ok (.aload_n 0, 1) := by decide +kernel
theorem dX7_lose_1 : decode cX7_lose 1 = .ok (.iload_n 1, 1) := by decide +kernel
theorem dX7_lose_2 : decode cX7_lose 2 = .ok (.invokevirtual 78, 3) := by decide +kernel
theorem dX7_lose_5 : decode cX7_lose 5 = .ok (.ifCond .eq 11, 3) := by decide +kernel
theorem dX7_lose_8 : decode cX7_lose 8 = .ok (.iload_n 2, 1) := by decide +kernel
theorem dX7_lose_9 : decode cX7_lose 9 = .ok (.iconst 4, 1) := by decide +kernel
theorem dX7_lose_10 : decode cX7_lose 10 = .ok (.invokestatic 48, 3) := by decide +kernel
theorem dX7_lose_13 : decode cX7_lose 13 = .ok (.ifCond .ne 5, 3) := by decide +kernel
theorem dX7_lose_16 : decode cX7_lose 16 = .ok (.iconst (-1), 1) := by decide +kernel
theorem dX7_lose_17 : decode cX7_lose 17 = .ok (.ireturn, 1) := by decide +kernel
theorem dX7_lose_18 : decode cX7_lose 18 = .ok (.iload_n 1, 1) := by decide +kernel
theorem dX7_lose_19 : decode cX7_lose 19 = .ok (.iconst 4, 1) := by decide +kernel
theorem dX7_lose_20 : decode cX7_lose 20 = .ok (.imul, 1) := by decide +kernel
theorem dX7_lose_21 : decode cX7_lose 21 = .ok (.iload_n 2, 1) := by decide +kernel
theorem dX7_lose_22 : decode cX7_lose 22 = .ok (.iadd, 1) := by decide +kernel
theorem dX7_lose_23 : decode cX7_lose 23 = .ok (.istore_n 3, 1) := by decide +kernel
theorem dX7_lose_24 : decode cX7_lose 24 = .ok (.aload_n 0, 1) := by decide +kernel
theorem dX7_lose_25 : decode cX7_lose 25 = .ok (.getfield 12, 3) := by decide +kernel
theorem dX7_lose_28 : decode cX7_lose 28 = .ok (.getfield 52, 3) := by decide +kernel
theorem dX7_lose_31 : decode cX7_lose 31 = .ok (.getfield 84, 3) := by decide +kernel
theorem dX7_lose_34 : decode cX7_lose 34 = .ok (.iload_n 3, 1) := by decide +kernel
theorem dX7_lose_35 : decode cX7_lose 35 = .ok (.iaload, 1) := by decide +kernel
theorem dX7_lose_36 : decode cX7_lose 36 = .ok (.iconst (-1), 1) := by decide +kernel
theorem dX7_lose_37 : decode cX7_lose 37 = .ok (.if_icmp .ne 6, 3) := by decide +kernel
theorem dX7_lose_40 : decode cX7_lose 40 = .ok (.bipush (-3), 2) := by decide +kernel
theorem dX7_lose_42 : decode cX7_lose 42 = .ok (.ireturn, 1) := by decide +kernel
theorem dX7_lose_43 : decode cX7_lose 43 = .ok (.aload_n 0, 1) := by decide +kernel
theorem dX7_lose_44 : decode cX7_lose 44 = .ok (.getfield 12, 3) := by decide +kernel
theorem dX7_lose_47 : decode cX7_lose 47 = .ok (.getfield 52, 3) := by decide +kernel
theorem dX7_lose_50 : decode cX7_lose 50 = .ok (.getfield 84, 3) := by decide +kernel
theorem dX7_lose_53 : decode cX7_lose 53 = .ok (.iload_n 3, 1) := by decide +kernel
theorem dX7_lose_54 : decode cX7_lose 54 = .ok (.iconst (-1), 1) := by decide +kernel
theorem dX7_lose_55 : decode cX7_lose 55 = .ok (.iastore, 1) := by decide +kernel
theorem dX7_lose_56 : decode cX7_lose 56 = .ok (.aload_n 0, 1) := by decide +kernel
theorem dX7_lose_57 : decode cX7_lose 57 = .ok (.getfield 12, 3) := by decide +kernel
theorem dX7_lose_60 : decode cX7_lose 60 = .ok (.getfield 52, 3) := by decide +kernel
theorem dX7_lose_63 : decode cX7_lose 63 = .ok (.getfield 87, 3) := by decide +kernel
theorem dX7_lose_66 : decode cX7_lose 66 = .ok (.iload_n 3, 1) := by decide +kernel
theorem dX7_lose_67 : decode cX7_lose 67 = .ok (.iconst (-1), 1) := by decide +kernel
theorem dX7_lose_68 : decode cX7_lose 68 = .ok (.iastore, 1) := by decide +kernel
theorem dX7_lose_69 : decode cX7_lose 69 = .ok (.iconst 1, 1) := by decide +kernel
theorem dX7_lose_70 : decode cX7_lose 70 = .ok (.ireturn, 1) := by decide +kernel
theorem dX7_task_0 : decode cX7_task 0 = .ok (.iload_n 1, 1) := by decide +kernel
theorem dX7_task_1 : decode cX7_task 1 = .ok (.iconst 4, 1) := by decide +kernel
theorem dX7_task_2 : decode cX7_task 2 = .ok (.invokestatic 48, 3) := by decide +kernel
theorem dX7_task_5 : decode cX7_task 5 = .ok (.ifCond .eq 16, 3) := by decide +kernel
theorem dX7_task_8 : decode cX7_task 8 = .ok (.iload_n 2, 1) := by decide +kernel
theorem dX7_task_9 : decode cX7_task 9 = .ok (.iconst (-1), 1) := by decide +kernel
theorem dX7_task_10 : decode cX7_task 10 = .ok (.if_icmp .eq 13, 3) := by decide +kernel
theorem dX7_task_13 : decode cX7_task 13 = .ok (.aload_n 0, 1) := by decide +kernel
theorem dX7_task_14 : decode cX7_task 14 = .ok (.iload_n 2, 1) := by decide +kernel
theorem dX7_task_15 : decode cX7_task 15 = .ok (.invokevirtual 90, 3) := by decide +kernel
theorem dX7_task_18 : decode cX7_task 18 = .ok (.ifCond .ne 5, 3) := by decide +kernel
theorem dX7_task_21 : decode cX7_task 21 = .ok (.iconst (-1), 1) := by decide +kernel
theorem dX7_task_22 : decode cX7_task 22 = .ok (.ireturn, 1) := by decide +kernel
theorem dX7_task_23 : decode cX7_task 23 = .ok (.aload_n 0, 1) := by decide +kernel
theorem dX7_task_24 : decode cX7_task 24 = .ok (.getfield 12, 3) := by decide +kernel
theorem dX7_task_27 : decode cX7_task 27 = .ok (.getfield 93, 3) := by decide +kernel
theorem dX7_task_30 : decode cX7_task 30 = .ok (.astore_n 3, 1) := by decide +kernel
theorem dX7_task_31 : decode cX7_task 31 = .ok (.aload_n 3, 1) := by decide +kernel
theorem dX7_task_32 : decode cX7_task 32 = .ok (.getfield 97, 3) := by decide +kernel
theorem dX7_task_35 : decode cX7_task 35 = .ok (.bipush 10, 2) := by decide +kernel
theorem dX7_task_37 : decode cX7_task 37 = .ok (.if_icmp .lt 6, 3) := by decide +kernel
theorem dX7_task_40 : decode cX7_task 40 = .ok (.bipush (-2), 2) := by decide +kernel
theorem dX7_task_42 : decode cX7_task 42 = .ok (.ireturn, 1) := by decide +kernel
theorem dX7_task_43 : decode cX7_task 43 = .ok (.aload_n 3, 1) := by decide +kernel
theorem dX7_task_44 : decode cX7_task 44 = .ok (.getfield 97, 3) := by decide +kernel
theorem dX7_task_47 : decode cX7_task 47 = .ok (.istore 4, 2) := by decide +kernel
theorem dX7_task_49 : decode cX7_task 49 = .ok (.aload_n 3, 1) := by decide +kernel
theorem dX7_task_50 : decode cX7_task 50 = .ok (.getfield 102, 3) := by decide +kernel
theorem dX7_task_53 : decode cX7_task 53 = .ok (.iload 4, 2) := by decide +kernel
theorem dX7_task_55 : decode cX7_task 55 = .ok (.iload_n 1, 1) := by decide +kernel
theorem dX7_task_56 : decode cX7_task 56 = .ok (.iastore, 1) := by decide +kernel
theorem dX7_task_57 : decode cX7_task 57 = .ok (.aload_n 3, 1) := by decide +kernel
theorem dX7_task_58 : decode cX7_task 58 = .ok (.getfield 105, 3) := by decide +kernel
theorem dX7_task_61 : decode cX7_task 61 = .ok (.iload 4, 2) := by decide +kernel
theorem dX7_task_63 : decode cX7_task 63 = .ok (.iload_n 2, 1) := by decide +kernel
theorem dX7_task_64 : decode cX7_task 64 = .ok (.iastore, 1) := by decide +kernel
theorem dX7_task_65 : decode cX7_task 65 = .ok (.aload_n 3, 1) := by decide +kernel
theorem dX7_task_66 : decode cX7_task 66 = .ok (.iload 4, 2) := by decide +kernel
theorem dX7_task_68 : decode cX7_task 68 = .ok (.iconst 1, 1) := by decide +kernel
theorem dX7_task_69 : decode cX7_task 69 = .ok (.iadd, 1) := by decide +kernel
theorem dX7_task_70 : decode cX7_task 70 = .ok (.putfield 97, 3) := by decide +kernel
theorem dX7_task_73 : decode cX7_task 73 = .ok (.iload 4, 2) := by decide +kernel
theorem dX7_task_75 : decode cX7_task 75 = .ok (.ireturn, 1) := by decide +kernel
theorem dX7_badge_0 : decode cX7_badge 0 = .ok (.iload_n 1, 1) := by decide +kernel
theorem dX7_badge_1 : decode cX7_badge 1 = .ok (.sipush 1023, 3) := by decide +kernel
theorem dX7_badge_4 : decode cX7_badge 4 = .ok (.invokestatic 108, 3) := by decide +kernel
theorem dX7_badge_7 : decode cX7_badge 7 = .ok (.ifCond .eq 22, 3) := by decide +kernel
theorem dX7_badge_10 : decode cX7_badge 10 = .ok (.iload_n 2, 1) := by decide +kernel
theorem dX7_badge_11 : decode cX7_badge 11 = .ok (.sipush 1023, 3) := by decide +kernel
theorem dX7_badge_14 : decode cX7_badge 14 = .ok (.invokestatic 108, 3) := by decide +kernel
theorem dX7_badge_17 : decode cX7_badge 17 = .ok (.ifCond .eq 12, 3) := by decide +kernel
theorem dX7_badge_20 : decode cX7_badge 20 = .ok (.iload_n 3, 1) := by decide +kernel
theorem dX7_badge_21 : decode cX7_badge 21 = .ok (.bipush 10, 2) := by decide +kernel
theorem dX7_badge_23 : decode cX7_badge 23 = .ok (.invokestatic 108, 3) := by decide +kernel
theorem dX7_badge_26 : decode cX7_badge 26 = .ok (.ifCond .ne 5, 3) := by decide +kernel
theorem dX7_badge_29 : decode cX7_badge 29 = .ok (.iconst (-1), 1) := by decide +kernel
theorem dX7_badge_30 : decode cX7_badge 30 = .ok (.ireturn, 1) := by decide +kernel
theorem dX7_badge_31 : decode cX7_badge 31 = .ok (.iload 4, 2) := by decide +kernel
theorem dX7_badge_33 : decode cX7_badge 33 = .ok (.invokestatic 44, 3) := by decide +kernel
theorem dX7_badge_36 : decode cX7_badge 36 = .ok (.ifCond .eq 18, 3) := by decide +kernel
theorem dX7_badge_39 : decode cX7_badge 39 = .ok (.iload 5, 2) := by decide +kernel
theorem dX7_badge_41 : decode cX7_badge 41 = .ok (.iconst (-1), 1) := by decide +kernel
theorem dX7_badge_42 : decode cX7_badge 42 = .ok (.if_icmp .eq 14, 3) := by decide +kernel
theorem dX7_badge_45 : decode cX7_badge 45 = .ok (.aload_n 0, 1) := by decide +kernel
theorem dX7_badge_46 : decode cX7_badge 46 = .ok (.iload 5, 2) := by decide +kernel
theorem dX7_badge_48 : decode cX7_badge 48 = .ok (.invokevirtual 111, 3) := by decide +kernel
theorem dX7_badge_51 : decode cX7_badge 51 = .ok (.ifCond .ne 5, 3) := by decide +kernel
theorem dX7_badge_54 : decode cX7_badge 54 = .ok (.iconst (-1), 1) := by decide +kernel
theorem dX7_badge_55 : decode cX7_badge 55 = .ok (.ireturn, 1) := by decide +kernel
theorem dX7_badge_56 : decode cX7_badge 56 = .ok (.aload_n 0, 1) := by decide +kernel
theorem dX7_badge_57 : decode cX7_badge 57 = .ok (.getfield 12, 3) := by decide +kernel
theorem dX7_badge_60 : decode cX7_badge 60 = .ok (.getfield 93, 3) := by decide +kernel
theorem dX7_badge_63 : decode cX7_badge 63 = .ok (.astore 6, 2) := by decide +kernel
theorem dX7_badge_65 : decode cX7_badge 65 = .ok (.aload 6, 2) := by decide +kernel
theorem dX7_badge_67 : decode cX7_badge 67 = .ok (.getfield 114, 3) := by decide +kernel
theorem dX7_badge_70 : decode cX7_badge 70 = .ok (.bipush 8, 2) := by decide +kernel
theorem dX7_badge_72 : decode cX7_badge 72 = .ok (.if_icmp .lt 6, 3) := by decide +kernel
theorem dX7_badge_75 : decode cX7_badge 75 = .ok (.bipush (-2), 2) := by decide +kernel
theorem dX7_badge_77 : decode cX7_badge 77 = .ok (.ireturn, 1) := by decide +kernel
theorem dX7_badge_78 : decode cX7_badge 78 = .ok (.aload 6, 2) := by decide +kernel
theorem dX7_badge_80 : decode cX7_badge 80 = .ok (.getfield 114, 3) := by decide +kernel
theorem dX7_badge_83 : decode cX7_badge 83 = .ok (.istore 7, 2) := by decide +kernel
theorem dX7_badge_85 : decode cX7_badge 85 = .ok (.aload 6, 2) := by decide +kernel
theorem dX7_badge_87 : decode cX7_badge 87 = .ok (.getfield 117, 3) := by decide +kernel
theorem dX7_badge_90 : decode cX7_badge 90 = .ok (.iload 7, 2) := by decide +kernel
theorem dX7_badge_92 : decode cX7_badge 92 = .ok (.iload_n 1, 1) := by decide +kernel
theorem dX7_badge_93 : decode cX7_badge 93 = .ok (.iastore, 1) := by decide +kernel
theorem dX7_badge_94 : decode cX7_badge 94 = .ok (.aload 6, 2) := by decide +kernel
theorem dX7_badge_96 : decode cX7_badge 96 = .ok (.getfield 120, 3) := by decide +kernel
theorem dX7_badge_99 : decode cX7_badge 99 = .ok (.iload 7, 2) := by decide +kernel
theorem dX7_badge_101 : decode cX7_badge 101 = .ok (.iload_n 2, 1) := by decide +kernel
theorem dX7_badge_102 : decode cX7_badge 102 = .ok (.iastore, 1) := by decide +kernel
theorem dX7_badge_103 : decode cX7_badge 103 = .ok (.aload 6, 2) := by decide +kernel
theorem dX7_badge_105 : decode cX7_badge 105 = .ok (.getfield 123, 3) := by decide +kernel
theorem dX7_badge_108 : decode cX7_badge 108 = .ok (.iload 7, 2) := by decide +kernel
theorem dX7_badge_110 : decode cX7_badge 110 = .ok (.iload_n 3, 1) := by decide +kernel
theorem dX7_badge_111 : decode cX7_badge 111 = .ok (.iastore, 1) := by decide +kernel
theorem dX7_badge_112 : decode cX7_badge 112 = .ok (.aload 6, 2) := by decide +kernel
theorem dX7_badge_114 : decode cX7_badge 114 = .ok (.getfield 126, 3) := by decide +kernel
theorem dX7_badge_117 : decode cX7_badge 117 = .ok (.iload 7, 2) := by decide +kernel
theorem dX7_badge_119 : decode cX7_badge 119 = .ok (.iload 4, 2) := by decide +kernel
theorem dX7_badge_121 : decode cX7_badge 121 = .ok (.iastore, 1) := by decide +kernel
theorem dX7_badge_122 : decode cX7_badge 122 = .ok (.aload 6, 2) := by decide +kernel
theorem dX7_badge_124 : decode cX7_badge 124 = .ok (.getfield 127, 3) := by decide +kernel
theorem dX7_badge_127 : decode cX7_badge 127 = .ok (.iload 7, 2) := by decide +kernel
theorem dX7_badge_129 : decode cX7_badge 129 = .ok (.iload 5, 2) := by decide +kernel
theorem dX7_badge_131 : decode cX7_badge 131 = .ok (.iastore, 1) := by decide +kernel
theorem dX7_badge_132 : decode cX7_badge 132 = .ok (.aload 6, 2) := by decide +kernel
theorem dX7_badge_134 : decode cX7_badge 134 = .ok (.iload 7, 2) := by decide +kernel
theorem dX7_badge_136 : decode cX7_badge 136 = .ok (.iconst 1, 1) := by decide +kernel
theorem dX7_badge_137 : decode cX7_badge 137 = .ok (.iadd, 1) := by decide +kernel
theorem dX7_badge_138 : decode cX7_badge 138 = .ok (.putfield 114, 3) := by decide +kernel
theorem dX7_badge_141 : decode cX7_badge 141 = .ok (.iload 7, 2) := by decide +kernel
theorem dX7_badge_143 : decode cX7_badge 143 = .ok (.ireturn, 1) := by decide +kernel
theorem dX7_sign_0 : decode cX7_sign 0 = .ok (.aload_n 0, 1) := by decide +kernel
theorem dX7_sign_1 : decode cX7_sign 1 = .ok (.iload_n 1, 1) := by decide +kernel
theorem dX7_sign_2 : decode cX7_sign 2 = .ok (.invokevirtual 68, 3) := by decide +kernel
theorem dX7_sign_5 : decode cX7_sign 5 = .ok (.ifCond .eq 27, 3) := by decide +kernel
theorem dX7_sign_8 : decode cX7_sign 8 = .ok (.aload_n 0, 1) := by decide +kernel
theorem dX7_sign_9 : decode cX7_sign 9 = .ok (.iload_n 2, 1) := by decide +kernel
theorem dX7_sign_10 : decode cX7_sign 10 = .ok (.invokevirtual 90, 3) := by decide +kernel
theorem dX7_sign_13 : decode cX7_sign 13 = .ok (.ifCond .eq 19, 3) := by decide +kernel
theorem dX7_sign_16 : decode cX7_sign 16 = .ok (.aload_n 0, 1) := by decide +kernel
theorem dX7_sign_17 : decode cX7_sign 17 = .ok (.iload_n 3, 1) := by decide +kernel
theorem dX7_sign_18 : decode cX7_sign 18 = .ok (.invokevirtual 78, 3) := by decide +kernel
theorem dX7_sign_21 : decode cX7_sign 21 = .ok (.ifCond .eq 11, 3) := by decide +kernel
theorem dX7_sign_24 : decode cX7_sign 24 = .ok (.iload 4, 2) := by decide +kernel
theorem dX7_sign_26 : decode cX7_sign 26 = .ok (.invokestatic 81, 3) := by decide +kernel
theorem dX7_sign_29 : decode cX7_sign 29 = .ok (.ifCond .ne 5, 3) := by decide +kernel
theorem dX7_sign_32 : decode cX7_sign 32 = .ok (.iconst (-1), 1) := by decide +kernel
theorem dX7_sign_33 : decode cX7_sign 33 = .ok (.ireturn, 1) := by decide +kernel
theorem dX7_sign_34 : decode cX7_sign 34 = .ok (.aload_n 0, 1) := by decide +kernel
theorem dX7_sign_35 : decode cX7_sign 35 = .ok (.getfield 12, 3) := by decide +kernel
theorem dX7_sign_38 : decode cX7_sign 38 = .ok (.getfield 130, 3) := by decide +kernel
theorem dX7_sign_41 : decode cX7_sign 41 = .ok (.astore 5, 2) := by decide +kernel
theorem dX7_sign_43 : decode cX7_sign 43 = .ok (.aload 5, 2) := by decide +kernel
theorem dX7_sign_45 : decode cX7_sign 45 = .ok (.getfield 134, 3) := by decide +kernel
theorem dX7_sign_48 : decode cX7_sign 48 = .ok (.bipush 80, 2) := by decide +kernel
theorem dX7_sign_50 : decode cX7_sign 50 = .ok (.if_icmp .lt 6, 3) := by decide +kernel
theorem dX7_sign_53 : decode cX7_sign 53 = .ok (.bipush (-2), 2) := by decide +kernel
theorem dX7_sign_55 : decode cX7_sign 55 = .ok (.ireturn, 1) := by decide +kernel
theorem dX7_sign_56 : decode cX7_sign 56 = .ok (.aload 5, 2) := by decide +kernel
theorem dX7_sign_58 : decode cX7_sign 58 = .ok (.getfield 134, 3) := by decide +kernel
theorem dX7_sign_61 : decode cX7_sign 61 = .ok (.istore 6, 2) := by decide +kernel
theorem dX7_sign_63 : decode cX7_sign 63 = .ok (.aload 5, 2) := by decide +kernel
theorem dX7_sign_65 : decode cX7_sign 65 = .ok (.getfield 139, 3) := by decide +kernel
theorem dX7_sign_68 : decode cX7_sign 68 = .ok (.iload 6, 2) := by decide +kernel
theorem dX7_sign_70 : decode cX7_sign 70 = .ok (.iload_n 1, 1) := by decide +kernel
theorem dX7_sign_71 : decode cX7_sign 71 = .ok (.iastore, 1) := by decide +kernel
theorem dX7_sign_72 : decode cX7_sign 72 = .ok (.aload 5, 2) := by decide +kernel
theorem dX7_sign_74 : decode cX7_sign 74 = .ok (.getfield 141, 3) := by decide +kernel
theorem dX7_sign_77 : decode cX7_sign 77 = .ok (.iload 6, 2) := by decide +kernel
theorem dX7_sign_79 : decode cX7_sign 79 = .ok (.iload_n 2, 1) := by decide +kernel
theorem dX7_sign_80 : decode cX7_sign 80 = .ok (.iastore, 1) := by decide +kernel
theorem dX7_sign_81 : decode cX7_sign 81 = .ok (.aload 5, 2) := by decide +kernel
theorem dX7_sign_83 : decode cX7_sign 83 = .ok (.getfield 143, 3) := by decide +kernel
theorem dX7_sign_86 : decode cX7_sign 86 = .ok (.iload 6, 2) := by decide +kernel
theorem dX7_sign_88 : decode cX7_sign 88 = .ok (.iload_n 3, 1) := by decide +kernel
theorem dX7_sign_89 : decode cX7_sign 89 = .ok (.iastore, 1) := by decide +kernel
theorem dX7_sign_90 : decode cX7_sign 90 = .ok (.aload 5, 2) := by decide +kernel
theorem dX7_sign_92 : decode cX7_sign 92 = .ok (.getfield 145, 3) := by decide +kernel
theorem dX7_sign_95 : decode cX7_sign 95 = .ok (.iload 6, 2) := by decide +kernel
theorem dX7_sign_97 : decode cX7_sign 97 = .ok (.iload 4, 2) := by decide +kernel
theorem dX7_sign_99 : decode cX7_sign 99 = .ok (.iastore, 1) := by decide +kernel
theorem dX7_sign_100 : decode cX7_sign 100 = .ok (.aload 5, 2) := by decide +kernel
theorem dX7_sign_102 : decode cX7_sign 102 = .ok (.getfield 147, 3) := by decide +kernel
theorem dX7_sign_105 : decode cX7_sign 105 = .ok (.iload 6, 2) := by decide +kernel
theorem dX7_sign_107 : decode cX7_sign 107 = .ok (.iconst 0, 1) := by decide +kernel
theorem dX7_sign_108 : decode cX7_sign 108 = .ok (.bastore, 1) := by decide +kernel
theorem dX7_sign_109 : decode cX7_sign 109 = .ok (.aload 5, 2) := by decide +kernel
theorem dX7_sign_111 : decode cX7_sign 111 = .ok (.iload 6, 2) := by decide +kernel
theorem dX7_sign_113 : decode cX7_sign 113 = .ok (.iconst 1, 1) := by decide +kernel
theorem dX7_sign_114 : decode cX7_sign 114 = .ok (.iadd, 1) := by decide +kernel
theorem dX7_sign_115 : decode cX7_sign 115 = .ok (.putfield 134, 3) := by decide +kernel
theorem dX7_sign_118 : decode cX7_sign 118 = .ok (.iload 6, 2) := by decide +kernel
theorem dX7_sign_120 : decode cX7_sign 120 = .ok (.ireturn, 1) := by decide +kernel
theorem dX7_strike_0 : decode cX7_strike 0 = .ok (.aload_n 0, 1) := by decide +kernel
theorem dX7_strike_1 : decode cX7_strike 1 = .ok (.iload_n 1, 1) := by decide +kernel
theorem dX7_strike_2 : decode cX7_strike 2 = .ok (.invokevirtual 151, 3) := by decide +kernel
theorem dX7_strike_5 : decode cX7_strike 5 = .ok (.ifCond .ne 5, 3) := by decide +kernel
theorem dX7_strike_8 : decode cX7_strike 8 = .ok (.iconst (-1), 1) := by decide +kernel
theorem dX7_strike_9 : decode cX7_strike 9 = .ok (.ireturn, 1) := by decide +kernel
theorem dX7_strike_10 : decode cX7_strike 10 = .ok (.aload_n 0, 1) := by decide +kernel
theorem dX7_strike_11 : decode cX7_strike 11 = .ok (.getfield 12, 3) := by decide +kernel
theorem dX7_strike_14 : decode cX7_strike 14 = .ok (.getfield 130, 3) := by decide +kernel
theorem dX7_strike_17 : decode cX7_strike 17 = .ok (.getfield 147, 3) := by decide +kernel
theorem dX7_strike_20 : decode cX7_strike 20 = .ok (.iload_n 1, 1) := by decide +kernel
theorem dX7_strike_21 : decode cX7_strike 21 = .ok (.baload, 1) := by decide +kernel
theorem dX7_strike_22 : decode cX7_strike 22 = .ok (.ifCond .eq 6, 3) := by decide +kernel
theorem dX7_strike_25 : decode cX7_strike 25 = .ok (.bipush (-4), 2) := by decide +kernel
theorem dX7_strike_27 : decode cX7_strike 27 = .ok (.ireturn, 1) := by decide +kernel
theorem dX7_strike_28 : decode cX7_strike 28 = .ok (.aload_n 0, 1) := by decide +kernel
theorem dX7_strike_29 : decode cX7_strike 29 = .ok (.getfield 12, 3) := by decide +kernel
theorem dX7_strike_32 : decode cX7_strike 32 = .ok (.getfield 130, 3) := by decide +kernel
theorem dX7_strike_35 : decode cX7_strike 35 = .ok (.getfield 147, 3) := by decide +kernel
theorem dX7_strike_38 : decode cX7_strike 38 = .ok (.iload_n 1, 1) := by decide +kernel
theorem dX7_strike_39 : decode cX7_strike 39 = .ok (.iconst 1, 1) := by decide +kernel
theorem dX7_strike_40 : decode cX7_strike 40 = .ok (.bastore, 1) := by decide +kernel
theorem dX7_strike_41 : decode cX7_strike 41 = .ok (.iconst 1, 1) := by decide +kernel
theorem dX7_strike_42 : decode cX7_strike 42 = .ok (.ireturn, 1) := by decide +kernel
theorem dX7_of_0 : decode cX7_of 0 = .ok (.aload_n 0, 1) := by decide +kernel
theorem dX7_of_1 : decode cX7_of 1 = .ok (.iload_n 1, 1) := by decide +kernel
theorem dX7_of_2 : decode cX7_of 2 = .ok (.invokevirtual 151, 3) := by decide +kernel
theorem dX7_of_5 : decode cX7_of 5 = .ok (.ifCond .ne 5, 3) := by decide +kernel
theorem dX7_of_8 : decode cX7_of 8 = .ok (.iconst (-1), 1) := by decide +kernel
theorem dX7_of_9 : decode cX7_of 9 = .ok (.ireturn, 1) := by decide +kernel
theorem dX7_of_10 : decode cX7_of 10 = .ok (.aload_n 0, 1) := by decide +kernel
theorem dX7_of_11 : decode cX7_of 11 = .ok (.getfield 12, 3) := by decide +kernel
theorem dX7_of_14 : decode cX7_of 14 = .ok (.getfield 130, 3) := by decide +kernel
theorem dX7_of_17 : decode cX7_of 17 = .ok (.astore_n 3, 1) := by decide +kernel
theorem dX7_of_18 : decode cX7_of 18 = .ok (.iload_n 2, 1) := by decide +kernel
theorem dX7_of_19 : decode cX7_of 19 = .ok (.tableswitch 112 0 5 #[37, 44, 51, 58, 65, 80], 37) := by decide +kernel
theorem dX7_of_56 : decode cX7_of 56 = .ok (.aload_n 3, 1) := by decide +kernel
theorem dX7_of_57 : decode cX7_of 57 = .ok (.getfield 139, 3) := by decide +kernel
theorem dX7_of_60 : decode cX7_of 60 = .ok (.iload_n 1, 1) := by decide +kernel
theorem dX7_of_61 : decode cX7_of 61 = .ok (.iaload, 1) := by decide +kernel
theorem dX7_of_62 : decode cX7_of 62 = .ok (.ireturn, 1) := by decide +kernel
theorem dX7_of_63 : decode cX7_of 63 = .ok (.aload_n 3, 1) := by decide +kernel
theorem dX7_of_64 : decode cX7_of 64 = .ok (.getfield 141, 3) := by decide +kernel
theorem dX7_of_67 : decode cX7_of 67 = .ok (.iload_n 1, 1) := by decide +kernel
theorem dX7_of_68 : decode cX7_of 68 = .ok (.iaload, 1) := by decide +kernel
theorem dX7_of_69 : decode cX7_of 69 = .ok (.ireturn, 1) := by decide +kernel
theorem dX7_of_70 : decode cX7_of 70 = .ok (.aload_n 3, 1) := by decide +kernel
theorem dX7_of_71 : decode cX7_of 71 = .ok (.getfield 143, 3) := by decide +kernel
theorem dX7_of_74 : decode cX7_of 74 = .ok (.iload_n 1, 1) := by decide +kernel
theorem dX7_of_75 : decode cX7_of 75 = .ok (.iaload, 1) := by decide +kernel
theorem dX7_of_76 : decode cX7_of 76 = .ok (.ireturn, 1) := by decide +kernel
theorem dX7_of_77 : decode cX7_of 77 = .ok (.aload_n 3, 1) := by decide +kernel
theorem dX7_of_78 : decode cX7_of 78 = .ok (.getfield 145, 3) := by decide +kernel
theorem dX7_of_81 : decode cX7_of 81 = .ok (.iload_n 1, 1) := by decide +kernel
theorem dX7_of_82 : decode cX7_of 82 = .ok (.iaload, 1) := by decide +kernel
theorem dX7_of_83 : decode cX7_of 83 = .ok (.ireturn, 1) := by decide +kernel
theorem dX7_of_84 : decode cX7_of 84 = .ok (.aload_n 3, 1) := by decide +kernel
theorem dX7_of_85 : decode cX7_of 85 = .ok (.getfield 147, 3) := by decide +kernel
theorem dX7_of_88 : decode cX7_of 88 = .ok (.iload_n 1, 1) := by decide +kernel
theorem dX7_of_89 : decode cX7_of 89 = .ok (.baload, 1) := by decide +kernel
theorem dX7_of_90 : decode cX7_of 90 = .ok (.ifCond .eq 7, 3) := by decide +kernel
theorem dX7_of_93 : decode cX7_of 93 = .ok (.iconst 1, 1) := by decide +kernel
theorem dX7_of_94 : decode cX7_of 94 = .ok (.goto 4, 3) := by decide +kernel
theorem dX7_of_97 : decode cX7_of 97 = .ok (.iconst 0, 1) := by decide +kernel
theorem dX7_of_98 : decode cX7_of 98 = .ok (.ireturn, 1) := by decide +kernel
theorem dX7_of_99 : decode cX7_of 99 = .ok (.aload_n 0, 1) := by decide +kernel
theorem dX7_of_100 : decode cX7_of 100 = .ok (.getfield 22, 3) := by decide +kernel
theorem dX7_of_103 : decode cX7_of 103 = .ok (.aload_n 0, 1) := by decide +kernel
theorem dX7_of_104 : decode cX7_of 104 = .ok (.getfield 12, 3) := by decide +kernel
theorem dX7_of_107 : decode cX7_of 107 = .ok (.invokevirtual 154, 3) := by decide +kernel
theorem dX7_of_110 : decode cX7_of 110 = .ok (.aload_n 0, 1) := by decide +kernel
theorem dX7_of_111 : decode cX7_of 111 = .ok (.getfield 22, 3) := by decide +kernel
theorem dX7_of_114 : decode cX7_of 114 = .ok (.aload_n 0, 1) := by decide +kernel
theorem dX7_of_115 : decode cX7_of 115 = .ok (.getfield 12, 3) := by decide +kernel
theorem dX7_of_118 : decode cX7_of 118 = .ok (.iload_n 1, 1) := by decide +kernel
theorem dX7_of_119 : decode cX7_of 119 = .ok (.invokevirtual 158, 3) := by decide +kernel
theorem dX7_of_122 : decode cX7_of 122 = .ok (.ifCond .eq 7, 3) := by decide +kernel
theorem dX7_of_125 : decode cX7_of 125 = .ok (.iconst 1, 1) := by decide +kernel
theorem dX7_of_126 : decode cX7_of 126 = .ok (.goto 4, 3) := by decide +kernel
theorem dX7_of_129 : decode cX7_of 129 = .ok (.iconst 0, 1) := by decide +kernel
theorem dX7_of_130 : decode cX7_of 130 = .ok (.ireturn, 1) := by decide +kernel
theorem dX7_of_131 : decode cX7_of 131 = .ok (.iconst (-1), 1) := by decide +kernel
theorem dX7_of_132 : decode cX7_of 132 = .ok (.ireturn, 1) := by decide +kernel
theorem dX7_done_0 : decode cX7_done 0 = .ok (.aload_n 0, 1) := by decide +kernel
theorem dX7_done_1 : decode cX7_done 1 = .ok (.iload_n 1, 1) := by decide +kernel
theorem dX7_done_2 : decode cX7_done 2 = .ok (.invokevirtual 68, 3) := by decide +kernel
theorem dX7_done_5 : decode cX7_done 5 = .ok (.ifCond .eq 11, 3) := by decide +kernel
theorem dX7_done_8 : decode cX7_done 8 = .ok (.aload_n 0, 1) := by decide +kernel
theorem dX7_done_9 : decode cX7_done 9 = .ok (.iload_n 2, 1) := by decide +kernel
theorem dX7_done_10 : decode cX7_done 10 = .ok (.invokevirtual 90, 3) := by decide +kernel
theorem dX7_done_13 : decode cX7_done 13 = .ok (.ifCond .ne 5, 3) := by decide +kernel
theorem dX7_done_16 : decode cX7_done 16 = .ok (.iconst (-1), 1) := by decide +kernel
theorem dX7_done_17 : decode cX7_done 17 = .ok (.ireturn, 1) := by decide +kernel
theorem dX7_done_18 : decode cX7_done 18 = .ok (.aload_n 0, 1) := by decide +kernel
theorem dX7_done_19 : decode cX7_done 19 = .ok (.getfield 22, 3) := by decide +kernel
theorem dX7_done_22 : decode cX7_done 22 = .ok (.aload_n 0, 1) := by decide +kernel
theorem dX7_done_23 : decode cX7_done 23 = .ok (.getfield 12, 3) := by decide +kernel
theorem dX7_done_26 : decode cX7_done 26 = .ok (.invokevirtual 154, 3) := by decide +kernel
theorem dX7_done_29 : decode cX7_done 29 = .ok (.aload_n 0, 1) := by decide +kernel
theorem dX7_done_30 : decode cX7_done 30 = .ok (.getfield 22, 3) := by decide +kernel
theorem dX7_done_33 : decode cX7_done 33 = .ok (.iload_n 1, 1) := by decide +kernel
theorem dX7_done_34 : decode cX7_done 34 = .ok (.iload_n 2, 1) := by decide +kernel
theorem dX7_done_35 : decode cX7_done 35 = .ok (.invokevirtual 162, 3) := by decide +kernel
theorem dX7_done_38 : decode cX7_done 38 = .ok (.invokestatic 166, 3) := by decide +kernel
theorem dX7_done_41 : decode cX7_done 41 = .ok (.ireturn, 1) := by decide +kernel
theorem dX7_held_0 : decode cX7_held 0 = .ok (.aload_n 0, 1) := by decide +kernel
theorem dX7_held_1 : decode cX7_held 1 = .ok (.iload_n 1, 1) := by decide +kernel
theorem dX7_held_2 : decode cX7_held 2 = .ok (.invokevirtual 68, 3) := by decide +kernel
theorem dX7_held_5 : decode cX7_held 5 = .ok (.ifCond .eq 11, 3) := by decide +kernel
theorem dX7_held_8 : decode cX7_held 8 = .ok (.aload_n 0, 1) := by decide +kernel
theorem dX7_held_9 : decode cX7_held 9 = .ok (.iload_n 2, 1) := by decide +kernel
theorem dX7_held_10 : decode cX7_held 10 = .ok (.invokevirtual 111, 3) := by decide +kernel
theorem dX7_held_13 : decode cX7_held 13 = .ok (.ifCond .ne 5, 3) := by decide +kernel
theorem dX7_held_16 : decode cX7_held 16 = .ok (.iconst (-1), 1) := by decide +kernel
theorem dX7_held_17 : decode cX7_held 17 = .ok (.ireturn, 1) := by decide +kernel
theorem dX7_held_18 : decode cX7_held 18 = .ok (.aload_n 0, 1) := by decide +kernel
theorem dX7_held_19 : decode cX7_held 19 = .ok (.getfield 22, 3) := by decide +kernel
theorem dX7_held_22 : decode cX7_held 22 = .ok (.aload_n 0, 1) := by decide +kernel
theorem dX7_held_23 : decode cX7_held 23 = .ok (.getfield 12, 3) := by decide +kernel
theorem dX7_held_26 : decode cX7_held 26 = .ok (.invokevirtual 154, 3) := by decide +kernel
theorem dX7_held_29 : decode cX7_held 29 = .ok (.aload_n 0, 1) := by decide +kernel
theorem dX7_held_30 : decode cX7_held 30 = .ok (.getfield 22, 3) := by decide +kernel
theorem dX7_held_33 : decode cX7_held 33 = .ok (.aload_n 0, 1) := by decide +kernel
theorem dX7_held_34 : decode cX7_held 34 = .ok (.getfield 12, 3) := by decide +kernel
theorem dX7_held_37 : decode cX7_held 37 = .ok (.iload_n 1, 1) := by decide +kernel
theorem dX7_held_38 : decode cX7_held 38 = .ok (.invokevirtual 170, 3) := by decide +kernel
theorem dX7_held_41 : decode cX7_held 41 = .ok (.aload_n 0, 1) := by decide +kernel
theorem dX7_held_42 : decode cX7_held 42 = .ok (.getfield 22, 3) := by decide +kernel
theorem dX7_held_45 : decode cX7_held 45 = .ok (.getfield 174, 3) := by decide +kernel
theorem dX7_held_48 : decode cX7_held 48 = .ok (.iload_n 2, 1) := by decide +kernel
theorem dX7_held_49 : decode cX7_held 49 = .ok (.iaload, 1) := by decide +kernel
theorem dX7_held_50 : decode cX7_held 50 = .ok (.invokestatic 166, 3) := by decide +kernel
theorem dX7_held_53 : decode cX7_held 53 = .ok (.ireturn, 1) := by decide +kernel
theorem dX7_lacks_0 : decode cX7_lacks 0 = .ok (.aload_n 0, 1) := by decide +kernel
theorem dX7_lacks_1 : decode cX7_lacks 1 = .ok (.iload_n 1, 1) := by decide +kernel
theorem dX7_lacks_2 : decode cX7_lacks 2 = .ok (.invokevirtual 68, 3) := by decide +kernel
theorem dX7_lacks_5 : decode cX7_lacks 5 = .ok (.ifCond .eq 11, 3) := by decide +kernel
theorem dX7_lacks_8 : decode cX7_lacks 8 = .ok (.aload_n 0, 1) := by decide +kernel
theorem dX7_lacks_9 : decode cX7_lacks 9 = .ok (.iload_n 2, 1) := by decide +kernel
theorem dX7_lacks_10 : decode cX7_lacks 10 = .ok (.invokevirtual 111, 3) := by decide +kernel
theorem dX7_lacks_13 : decode cX7_lacks 13 = .ok (.ifCond .ne 5, 3) := by decide +kernel
theorem dX7_lacks_16 : decode cX7_lacks 16 = .ok (.iconst (-1), 1) := by decide +kernel
theorem dX7_lacks_17 : decode cX7_lacks 17 = .ok (.ireturn, 1) := by decide +kernel
theorem dX7_lacks_18 : decode cX7_lacks 18 = .ok (.aload_n 0, 1) := by decide +kernel
theorem dX7_lacks_19 : decode cX7_lacks 19 = .ok (.getfield 22, 3) := by decide +kernel
theorem dX7_lacks_22 : decode cX7_lacks 22 = .ok (.aload_n 0, 1) := by decide +kernel
theorem dX7_lacks_23 : decode cX7_lacks 23 = .ok (.getfield 12, 3) := by decide +kernel
theorem dX7_lacks_26 : decode cX7_lacks 26 = .ok (.invokevirtual 154, 3) := by decide +kernel
theorem dX7_lacks_29 : decode cX7_lacks 29 = .ok (.aload_n 0, 1) := by decide +kernel
theorem dX7_lacks_30 : decode cX7_lacks 30 = .ok (.getfield 12, 3) := by decide +kernel
theorem dX7_lacks_33 : decode cX7_lacks 33 = .ok (.getfield 93, 3) := by decide +kernel
theorem dX7_lacks_36 : decode cX7_lacks 36 = .ok (.astore 4, 2) := by decide +kernel
theorem dX7_lacks_38 : decode cX7_lacks 38 = .ok (.iload_n 3, 1) := by decide +kernel
theorem dX7_lacks_39 : decode cX7_lacks 39 = .ok (.tableswitch 139 0 3 #[29, 45, 76, 101], 29) := by decide +kernel
theorem dX7_lacks_68 : decode cX7_lacks 68 = .ok (.aload_n 0, 1) := by decide +kernel
theorem dX7_lacks_69 : decode cX7_lacks 69 = .ok (.getfield 22, 3) := by decide +kernel
theorem dX7_lacks_72 : decode cX7_lacks 72 = .ok (.iload_n 1, 1) := by decide +kernel
theorem dX7_lacks_73 : decode cX7_lacks 73 = .ok (.aload 4, 2) := by decide +kernel
theorem dX7_lacks_75 : decode cX7_lacks 75 = .ok (.getfield 117, 3) := by decide +kernel
theorem dX7_lacks_78 : decode cX7_lacks 78 = .ok (.iload_n 2, 1) := by decide +kernel
theorem dX7_lacks_79 : decode cX7_lacks 79 = .ok (.iaload, 1) := by decide +kernel
theorem dX7_lacks_80 : decode cX7_lacks 80 = .ok (.invokevirtual 177, 3) := by decide +kernel
theorem dX7_lacks_83 : decode cX7_lacks 83 = .ok (.ireturn, 1) := by decide +kernel
theorem dX7_lacks_84 : decode cX7_lacks 84 = .ok (.iconst 0, 1) := by decide +kernel
theorem dX7_lacks_85 : decode cX7_lacks 85 = .ok (.aload 4, 2) := by decide +kernel
theorem dX7_lacks_87 : decode cX7_lacks 87 = .ok (.getfield 123, 3) := by decide +kernel
theorem dX7_lacks_90 : decode cX7_lacks 90 = .ok (.iload_n 2, 1) := by decide +kernel
theorem dX7_lacks_91 : decode cX7_lacks 91 = .ok (.iaload, 1) := by decide +kernel
theorem dX7_lacks_92 : decode cX7_lacks 92 = .ok (.aload_n 0, 1) := by decide +kernel
theorem dX7_lacks_93 : decode cX7_lacks 93 = .ok (.getfield 22, 3) := by decide +kernel
theorem dX7_lacks_96 : decode cX7_lacks 96 = .ok (.iload_n 1, 1) := by decide +kernel
theorem dX7_lacks_97 : decode cX7_lacks 97 = .ok (.aload 4, 2) := by decide +kernel
theorem dX7_lacks_99 : decode cX7_lacks 99 = .ok (.getfield 120, 3) := by decide +kernel
theorem dX7_lacks_102 : decode cX7_lacks 102 = .ok (.iload_n 2, 1) := by decide +kernel
theorem dX7_lacks_103 : decode cX7_lacks 103 = .ok (.iaload, 1) := by decide +kernel
theorem dX7_lacks_104 : decode cX7_lacks 104 = .ok (.sipush 999, 3) := by decide +kernel
theorem dX7_lacks_107 : decode cX7_lacks 107 = .ok (.invokevirtual 180, 3) := by decide +kernel
theorem dX7_lacks_110 : decode cX7_lacks 110 = .ok (.isub, 1) := by decide +kernel
theorem dX7_lacks_111 : decode cX7_lacks 111 = .ok (.invokestatic 184, 3) := by decide +kernel
theorem dX7_lacks_114 : decode cX7_lacks 114 = .ok (.ireturn, 1) := by decide +kernel
theorem dX7_lacks_115 : decode cX7_lacks 115 = .ok (.iconst 0, 1) := by decide +kernel
theorem dX7_lacks_116 : decode cX7_lacks 116 = .ok (.aload 4, 2) := by decide +kernel
theorem dX7_lacks_118 : decode cX7_lacks 118 = .ok (.getfield 126, 3) := by decide +kernel
theorem dX7_lacks_121 : decode cX7_lacks 121 = .ok (.iload_n 2, 1) := by decide +kernel
theorem dX7_lacks_122 : decode cX7_lacks 122 = .ok (.iaload, 1) := by decide +kernel
theorem dX7_lacks_123 : decode cX7_lacks 123 = .ok (.aload_n 0, 1) := by decide +kernel
theorem dX7_lacks_124 : decode cX7_lacks 124 = .ok (.getfield 12, 3) := by decide +kernel
theorem dX7_lacks_127 : decode cX7_lacks 127 = .ok (.getfield 52, 3) := by decide +kernel
theorem dX7_lacks_130 : decode cX7_lacks 130 = .ok (.getfield 61, 3) := by decide +kernel
theorem dX7_lacks_133 : decode cX7_lacks 133 = .ok (.iload_n 1, 1) := by decide +kernel
theorem dX7_lacks_134 : decode cX7_lacks 134 = .ok (.iaload, 1) := by decide +kernel
theorem dX7_lacks_135 : decode cX7_lacks 135 = .ok (.isub, 1) := by decide +kernel
theorem dX7_lacks_136 : decode cX7_lacks 136 = .ok (.invokestatic 184, 3) := by decide +kernel
theorem dX7_lacks_139 : decode cX7_lacks 139 = .ok (.ireturn, 1) := by decide +kernel
theorem dX7_lacks_140 : decode cX7_lacks 140 = .ok (.aload_n 0, 1) := by decide +kernel
theorem dX7_lacks_141 : decode cX7_lacks 141 = .ok (.getfield 22, 3) := by decide +kernel
theorem dX7_lacks_144 : decode cX7_lacks 144 = .ok (.aload_n 0, 1) := by decide +kernel
theorem dX7_lacks_145 : decode cX7_lacks 145 = .ok (.getfield 12, 3) := by decide +kernel
theorem dX7_lacks_148 : decode cX7_lacks 148 = .ok (.iload_n 1, 1) := by decide +kernel
theorem dX7_lacks_149 : decode cX7_lacks 149 = .ok (.invokevirtual 170, 3) := by decide +kernel
theorem dX7_lacks_152 : decode cX7_lacks 152 = .ok (.aload_n 0, 1) := by decide +kernel
theorem dX7_lacks_153 : decode cX7_lacks 153 = .ok (.getfield 22, 3) := by decide +kernel
theorem dX7_lacks_156 : decode cX7_lacks 156 = .ok (.aload 4, 2) := by decide +kernel
theorem dX7_lacks_158 : decode cX7_lacks 158 = .ok (.getfield 127, 3) := by decide +kernel
theorem dX7_lacks_161 : decode cX7_lacks 161 = .ok (.iload_n 2, 1) := by decide +kernel
theorem dX7_lacks_162 : decode cX7_lacks 162 = .ok (.iaload, 1) := by decide +kernel
theorem dX7_lacks_163 : decode cX7_lacks 163 = .ok (.invokevirtual 189, 3) := by decide +kernel
theorem dX7_lacks_166 : decode cX7_lacks 166 = .ok (.sipush 1000, 3) := by decide +kernel
theorem dX7_lacks_169 : decode cX7_lacks 169 = .ok (.if_icmp .ne 7, 3) := by decide +kernel
theorem dX7_lacks_172 : decode cX7_lacks 172 = .ok (.iconst 1, 1) := by decide +kernel
theorem dX7_lacks_173 : decode cX7_lacks 173 = .ok (.goto 4, 3) := by decide +kernel
theorem dX7_lacks_176 : decode cX7_lacks 176 = .ok (.iconst 0, 1) := by decide +kernel
theorem dX7_lacks_177 : decode cX7_lacks 177 = .ok (.ireturn, 1) := by decide +kernel
theorem dX7_lacks_178 : decode cX7_lacks 178 = .ok (.iconst (-1), 1) := by decide +kernel
theorem dX7_lacks_179 : decode cX7_lacks 179 = .ok (.ireturn, 1) := by decide +kernel
theorem dX7_badges_0 : decode cX7_badges 0 = .ok (.aload_n 0, 1) := by decide +kernel
theorem dX7_badges_1 : decode cX7_badges 1 = .ok (.iload_n 1, 1) := by decide +kernel
theorem dX7_badges_2 : decode cX7_badges 2 = .ok (.invokevirtual 68, 3) := by decide +kernel
theorem dX7_badges_5 : decode cX7_badges 5 = .ok (.ifCond .eq 10, 3) := by decide +kernel
theorem dX7_badges_8 : decode cX7_badges 8 = .ok (.iload_n 2, 1) := by decide +kernel
theorem dX7_badges_9 : decode cX7_badges 9 = .ok (.invokestatic 81, 3) := by decide +kernel
theorem dX7_badges_12 : decode cX7_badges 12 = .ok (.ifCond .ne 5, 3) := by decide +kernel
theorem dX7_badges_15 : decode cX7_badges 15 = .ok (.iconst (-1), 1) := by decide +kernel
theorem dX7_badges_16 : decode cX7_badges 16 = .ok (.ireturn, 1) := by decide +kernel
theorem dX7_badges_17 : decode cX7_badges 17 = .ok (.aload_n 0, 1) := by decide +kernel
theorem dX7_badges_18 : decode cX7_badges 18 = .ok (.getfield 22, 3) := by decide +kernel
theorem dX7_badges_21 : decode cX7_badges 21 = .ok (.aload_n 0, 1) := by decide +kernel
theorem dX7_badges_22 : decode cX7_badges 22 = .ok (.getfield 12, 3) := by decide +kernel
theorem dX7_badges_25 : decode cX7_badges 25 = .ok (.invokevirtual 154, 3) := by decide +kernel
theorem dX7_badges_28 : decode cX7_badges 28 = .ok (.aload_n 0, 1) := by decide +kernel
theorem dX7_badges_29 : decode cX7_badges 29 = .ok (.getfield 22, 3) := by decide +kernel
theorem dX7_badges_32 : decode cX7_badges 32 = .ok (.aload_n 0, 1) := by decide +kernel
theorem dX7_badges_33 : decode cX7_badges 33 = .ok (.getfield 12, 3) := by decide +kernel
theorem dX7_badges_36 : decode cX7_badges 36 = .ok (.iload_n 1, 1) := by decide +kernel
theorem dX7_badges_37 : decode cX7_badges 37 = .ok (.invokevirtual 170, 3) := by decide +kernel
theorem dX7_badges_40 : decode cX7_badges 40 = .ok (.aload_n 0, 1) := by decide +kernel
theorem dX7_badges_41 : decode cX7_badges 41 = .ok (.getfield 22, 3) := by decide +kernel
theorem dX7_badges_44 : decode cX7_badges 44 = .ok (.aload_n 0, 1) := by decide +kernel
theorem dX7_badges_45 : decode cX7_badges 45 = .ok (.getfield 12, 3) := by decide +kernel
theorem dX7_badges_48 : decode cX7_badges 48 = .ok (.iload_n 2, 1) := by decide +kernel
theorem dX7_badges_49 : decode cX7_badges 49 = .ok (.invokevirtual 192, 3) := by decide +kernel
theorem dX7_badges_52 : decode cX7_badges 52 = .ok (.ireturn, 1) := by decide +kernel
theorem dX7_site_0 : decode cX7_site 0 = .ok (.iload_n 1, 1) := by decide +kernel
theorem dX7_site_1 : decode cX7_site 1 = .ok (.iconst 1, 1) := by decide +kernel
theorem dX7_site_2 : decode cX7_site 2 = .ok (.if_icmp .lt 9, 3) := by decide +kernel
theorem dX7_site_5 : decode cX7_site 5 = .ok (.iload_n 1, 1) := by decide +kernel
theorem dX7_site_6 : decode cX7_site 6 = .ok (.bipush 10, 2) := by decide +kernel
theorem dX7_site_8 : decode cX7_site 8 = .ok (.if_icmp .le 5, 3) := by decide +kernel
theorem dX7_site_11 : decode cX7_site 11 = .ok (.iconst (-1), 1) := by decide +kernel
theorem dX7_site_12 : decode cX7_site 12 = .ok (.ireturn, 1) := by decide +kernel
theorem dX7_site_13 : decode cX7_site 13 = .ok (.aload_n 0, 1) := by decide +kernel
theorem dX7_site_14 : decode cX7_site 14 = .ok (.getfield 12, 3) := by decide +kernel
theorem dX7_site_17 : decode cX7_site 17 = .ok (.getfield 196, 3) := by decide +kernel
theorem dX7_site_20 : decode cX7_site 20 = .ok (.astore_n 3, 1) := by decide +kernel
theorem dX7_site_21 : decode cX7_site 21 = .ok (.aload_n 3, 1) := by decide +kernel
theorem dX7_site_22 : decode cX7_site 22 = .ok (.getfield 200, 3) := by decide +kernel
theorem dX7_site_25 : decode cX7_site 25 = .ok (.iconst 3, 1) := by decide +kernel
theorem dX7_site_26 : decode cX7_site 26 = .ok (.if_icmp .lt 6, 3) := by decide +kernel
theorem dX7_site_29 : decode cX7_site 29 = .ok (.bipush (-2), 2) := by decide +kernel
theorem dX7_site_31 : decode cX7_site 31 = .ok (.ireturn, 1) := by decide +kernel
theorem dX7_site_32 : decode cX7_site 32 = .ok (.aload_n 3, 1) := by decide +kernel
theorem dX7_site_33 : decode cX7_site 33 = .ok (.getfield 200, 3) := by decide +kernel
theorem dX7_site_36 : decode cX7_site 36 = .ok (.istore 4, 2) := by decide +kernel
theorem dX7_site_38 : decode cX7_site 38 = .ok (.aload_n 3, 1) := by decide +kernel
theorem dX7_site_39 : decode cX7_site 39 = .ok (.getfield 205, 3) := by decide +kernel
theorem dX7_site_42 : decode cX7_site 42 = .ok (.iload 4, 2) := by decide +kernel
theorem dX7_site_44 : decode cX7_site 44 = .ok (.iload_n 1, 1) := by decide +kernel
theorem dX7_site_45 : decode cX7_site 45 = .ok (.iastore, 1) := by decide +kernel
theorem dX7_site_46 : decode cX7_site 46 = .ok (.aload_n 3, 1) := by decide +kernel
theorem dX7_site_47 : decode cX7_site 47 = .ok (.getfield 208, 3) := by decide +kernel
theorem dX7_site_50 : decode cX7_site 50 = .ok (.iload 4, 2) := by decide +kernel
theorem dX7_site_52 : decode cX7_site 52 = .ok (.iload_n 2, 1) := by decide +kernel
theorem dX7_site_53 : decode cX7_site 53 = .ok (.bastore, 1) := by decide +kernel
theorem dX7_site_54 : decode cX7_site 54 = .ok (.aload_n 3, 1) := by decide +kernel
theorem dX7_site_55 : decode cX7_site 55 = .ok (.iload 4, 2) := by decide +kernel
theorem dX7_site_57 : decode cX7_site 57 = .ok (.iconst 1, 1) := by decide +kernel
theorem dX7_site_58 : decode cX7_site 58 = .ok (.iadd, 1) := by decide +kernel
theorem dX7_site_59 : decode cX7_site 59 = .ok (.putfield 200, 3) := by decide +kernel
theorem dX7_site_62 : decode cX7_site 62 = .ok (.aload_n 0, 1) := by decide +kernel
theorem dX7_site_63 : decode cX7_site 63 = .ok (.iconst 1, 1) := by decide +kernel
theorem dX7_site_64 : decode cX7_site 64 = .ok (.putfield 37, 3) := by decide +kernel
theorem dX7_site_67 : decode cX7_site 67 = .ok (.iload 4, 2) := by decide +kernel
theorem dX7_site_69 : decode cX7_site 69 = .ok (.ireturn, 1) := by decide +kernel
theorem dX7_wish_0 : decode cX7_wish 0 = .ok (.iload_n 1, 1) := by decide +kernel
theorem dX7_wish_1 : decode cX7_wish 1 = .ok (.iconst 4, 1) := by decide +kernel
theorem dX7_wish_2 : decode cX7_wish 2 = .ok (.invokestatic 48, 3) := by decide +kernel
theorem dX7_wish_5 : decode cX7_wish 5 = .ok (.ifCond .eq 11, 3) := by decide +kernel
theorem dX7_wish_8 : decode cX7_wish 8 = .ok (.iload_n 2, 1) := by decide +kernel
theorem dX7_wish_9 : decode cX7_wish 9 = .ok (.iconst 5, 1) := by decide +kernel
theorem dX7_wish_10 : decode cX7_wish 10 = .ok (.invokestatic 48, 3) := by decide +kernel
theorem dX7_wish_13 : decode cX7_wish 13 = .ok (.ifCond .ne 5, 3) := by decide +kernel
theorem dX7_wish_16 : decode cX7_wish 16 = .ok (.iconst (-1), 1) := by decide +kernel
theorem dX7_wish_17 : decode cX7_wish 17 = .ok (.ireturn, 1) := by decide +kernel
theorem dX7_wish_18 : decode cX7_wish 18 = .ok (.iload_n 3, 1) := by decide +kernel
theorem dX7_wish_19 : decode cX7_wish 19 = .ok (.iconst 3, 1) := by decide +kernel
theorem dX7_wish_20 : decode cX7_wish 20 = .ok (.invokestatic 48, 3) := by decide +kernel
theorem dX7_wish_23 : decode cX7_wish 23 = .ok (.ifCond .eq 13, 3) := by decide +kernel
theorem dX7_wish_26 : decode cX7_wish 26 = .ok (.iload 4, 2) := by decide +kernel
theorem dX7_wish_28 : decode cX7_wish 28 = .ok (.bipush 9, 2) := by decide +kernel
theorem dX7_wish_30 : decode cX7_wish 30 = .ok (.invokestatic 108, 3) := by decide +kernel
theorem dX7_wish_33 : decode cX7_wish 33 = .ok (.ifCond .ne 5, 3) := by decide +kernel
theorem dX7_wish_36 : decode cX7_wish 36 = .ok (.iconst (-1), 1) := by decide +kernel
theorem dX7_wish_37 : decode cX7_wish 37 = .ok (.ireturn, 1) := by decide +kernel
theorem dX7_wish_38 : decode cX7_wish 38 = .ok (.aload_n 0, 1) := by decide +kernel
theorem dX7_wish_39 : decode cX7_wish 39 = .ok (.iconst 1, 1) := by decide +kernel
theorem dX7_wish_40 : decode cX7_wish 40 = .ok (.putfield 37, 3) := by decide +kernel
theorem dX7_wish_43 : decode cX7_wish 43 = .ok (.aload_n 0, 1) := by decide +kernel
theorem dX7_wish_44 : decode cX7_wish 44 = .ok (.getfield 12, 3) := by decide +kernel
theorem dX7_wish_47 : decode cX7_wish 47 = .ok (.getfield 196, 3) := by decide +kernel
theorem dX7_wish_50 : decode cX7_wish 50 = .ok (.getfield 211, 3) := by decide +kernel
theorem dX7_wish_53 : decode cX7_wish 53 = .ok (.iload_n 1, 1) := by decide +kernel
theorem dX7_wish_54 : decode cX7_wish 54 = .ok (.bipush 15, 2) := by decide +kernel
theorem dX7_wish_56 : decode cX7_wish 56 = .ok (.imul, 1) := by decide +kernel
theorem dX7_wish_57 : decode cX7_wish 57 = .ok (.iload_n 2, 1) := by decide +kernel
theorem dX7_wish_58 : decode cX7_wish 58 = .ok (.iconst 3, 1) := by decide +kernel
theorem dX7_wish_59 : decode cX7_wish 59 = .ok (.imul, 1) := by decide +kernel
theorem dX7_wish_60 : decode cX7_wish 60 = .ok (.iadd, 1) := by decide +kernel
theorem dX7_wish_61 : decode cX7_wish 61 = .ok (.iload_n 3, 1) := by decide +kernel
theorem dX7_wish_62 : decode cX7_wish 62 = .ok (.iadd, 1) := by decide +kernel
theorem dX7_wish_63 : decode cX7_wish 63 = .ok (.iload 4, 2) := by decide +kernel
theorem dX7_wish_65 : decode cX7_wish 65 = .ok (.invokestatic 71, 3) := by decide +kernel
theorem dX7_wish_68 : decode cX7_wish 68 = .ok (.ireturn, 1) := by decide +kernel
theorem dX7_free_0 : decode cX7_free 0 = .ok (.aload_n 0, 1) := by decide +kernel
theorem dX7_free_1 : decode cX7_free 1 = .ok (.iload_n 1, 1) := by decide +kernel
theorem dX7_free_2 : decode cX7_free 2 = .ok (.invokevirtual 78, 3) := by decide +kernel
theorem dX7_free_5 : decode cX7_free 5 = .ok (.ifCond .eq 12, 3) := by decide +kernel
theorem dX7_free_8 : decode cX7_free 8 = .ok (.iload_n 2, 1) := by decide +kernel
theorem dX7_free_9 : decode cX7_free 9 = .ok (.bipush 31, 2) := by decide +kernel
theorem dX7_free_11 : decode cX7_free 11 = .ok (.invokestatic 108, 3) := by decide +kernel
theorem dX7_free_14 : decode cX7_free 14 = .ok (.ifCond .ne 5, 3) := by decide +kernel
theorem dX7_free_17 : decode cX7_free 17 = .ok (.iconst (-1), 1) := by decide +kernel
theorem dX7_free_18 : decode cX7_free 18 = .ok (.ireturn, 1) := by decide +kernel
theorem dX7_free_19 : decode cX7_free 19 = .ok (.aload_n 0, 1) := by decide +kernel
theorem dX7_free_20 : decode cX7_free 20 = .ok (.iconst 1, 1) := by decide +kernel
theorem dX7_free_21 : decode cX7_free 21 = .ok (.putfield 37, 3) := by decide +kernel
theorem dX7_free_24 : decode cX7_free 24 = .ok (.aload_n 0, 1) := by decide +kernel
theorem dX7_free_25 : decode cX7_free 25 = .ok (.getfield 12, 3) := by decide +kernel
theorem dX7_free_28 : decode cX7_free 28 = .ok (.getfield 52, 3) := by decide +kernel
theorem dX7_free_31 : decode cX7_free 31 = .ok (.getfield 214, 3) := by decide +kernel
theorem dX7_free_34 : decode cX7_free 34 = .ok (.iload_n 1, 1) := by decide +kernel
theorem dX7_free_35 : decode cX7_free 35 = .ok (.iload_n 2, 1) := by decide +kernel
theorem dX7_free_36 : decode cX7_free 36 = .ok (.invokestatic 71, 3) := by decide +kernel
theorem dX7_free_39 : decode cX7_free 39 = .ok (.ireturn, 1) := by decide +kernel
theorem dX7_ratio_0 : decode cX7_ratio 0 = .ok (.iload_n 1, 1) := by decide +kernel
theorem dX7_ratio_1 : decode cX7_ratio 1 = .ok (.iconst 1, 1) := by decide +kernel
theorem dX7_ratio_2 : decode cX7_ratio 2 = .ok (.if_icmp .lt 9, 3) := by decide +kernel
theorem dX7_ratio_5 : decode cX7_ratio 5 = .ok (.iload_n 1, 1) := by decide +kernel
theorem dX7_ratio_6 : decode cX7_ratio 6 = .ok (.bipush 10, 2) := by decide +kernel
theorem dX7_ratio_8 : decode cX7_ratio 8 = .ok (.if_icmp .le 5, 3) := by decide +kernel
theorem dX7_ratio_11 : decode cX7_ratio 11 = .ok (.iconst (-1), 1) := by decide +kernel
theorem dX7_ratio_12 : decode cX7_ratio 12 = .ok (.ireturn, 1) := by decide +kernel
theorem dX7_ratio_13 : decode cX7_ratio 13 = .ok (.aload_n 0, 1) := by decide +kernel
theorem dX7_ratio_14 : decode cX7_ratio 14 = .ok (.getfield 40, 3) := by decide +kernel
theorem dX7_ratio_17 : decode cX7_ratio 17 = .ok (.istore_n 2, 1) := by decide +kernel
theorem dX7_ratio_18 : decode cX7_ratio 18 = .ok (.aload_n 0, 1) := by decide +kernel
theorem dX7_ratio_19 : decode cX7_ratio 19 = .ok (.iload_n 1, 1) := by decide +kernel
theorem dX7_ratio_20 : decode cX7_ratio 20 = .ok (.putfield 40, 3) := by decide +kernel
theorem dX7_ratio_23 : decode cX7_ratio 23 = .ok (.aload_n 0, 1) := by decide +kernel
theorem dX7_ratio_24 : decode cX7_ratio 24 = .ok (.iconst 1, 1) := by decide +kernel
theorem dX7_ratio_25 : decode cX7_ratio 25 = .ok (.putfield 37, 3) := by decide +kernel
theorem dX7_ratio_28 : decode cX7_ratio 28 = .ok (.iload_n 2, 1) := by decide +kernel
theorem dX7_ratio_29 : decode cX7_ratio 29 = .ok (.ireturn, 1) := by decide +kernel
theorem dX7_plan_0 : decode cX7_plan 0 = .ok (.iload_n 1, 1) := by decide +kernel
theorem dX7_plan_1 : decode cX7_plan 1 = .ok (.iconst 4, 1) := by decide +kernel
theorem dX7_plan_2 : decode cX7_plan 2 = .ok (.invokestatic 48, 3) := by decide +kernel
theorem dX7_plan_5 : decode cX7_plan 5 = .ok (.ifCond .ne 5, 3) := by decide +kernel
theorem dX7_plan_8 : decode cX7_plan 8 = .ok (.iconst (-1), 1) := by decide +kernel
theorem dX7_plan_9 : decode cX7_plan 9 = .ok (.ireturn, 1) := by decide +kernel
theorem dX7_plan_10 : decode cX7_plan 10 = .ok (.aload_n 0, 1) := by decide +kernel
theorem dX7_plan_11 : decode cX7_plan 11 = .ok (.invokevirtual 217, 3) := by decide +kernel
theorem dX7_plan_14 : decode cX7_plan 14 = .ok (.aload_n 0, 1) := by decide +kernel
theorem dX7_plan_15 : decode cX7_plan 15 = .ok (.getfield 29, 3) := by decide +kernel
theorem dX7_plan_18 : decode cX7_plan 18 = .ok (.getfield 220, 3) := by decide +kernel
theorem dX7_plan_21 : decode cX7_plan 21 = .ok (.iload_n 1, 1) := by decide +kernel
theorem dX7_plan_22 : decode cX7_plan 22 = .ok (.iaload, 1) := by decide +kernel
theorem dX7_plan_23 : decode cX7_plan 23 = .ok (.istore_n 2, 1) := by decide +kernel
theorem dX7_plan_24 : decode cX7_plan 24 = .ok (.iload_n 2, 1) := by decide +kernel
theorem dX7_plan_25 : decode cX7_plan 25 = .ok (.iconst (-1), 1) := by decide +kernel
theorem dX7_plan_26 : decode cX7_plan 26 = .ok (.if_icmp .ne 8, 3) := by decide +kernel
theorem dX7_plan_29 : decode cX7_plan 29 = .ok (.bipush (-3), 2) := by decide +kernel
theorem dX7_plan_31 : decode cX7_plan 31 = .ok (.goto 4, 3) := by decide +kernel
theorem dX7_plan_34 : decode cX7_plan 34 = .ok (.iload_n 2, 1) := by decide +kernel
theorem dX7_plan_35 : decode cX7_plan 35 = .ok (.ireturn, 1) := by decide +kernel
theorem dX7_planned_0 : decode cX7_planned 0 = .ok (.iload_n 1, 1) := by decide +kernel
theorem dX7_planned_1 : decode cX7_planned 1 = .ok (.bipush 7, 2) := by decide +kernel
theorem dX7_planned_3 : decode cX7_planned 3 = .ok (.invokestatic 48, 3) := by decide +kernel
theorem dX7_planned_6 : decode cX7_planned 6 = .ok (.ifCond .ne 5, 3) := by decide +kernel
theorem dX7_planned_9 : decode cX7_planned 9 = .ok (.iconst (-1), 1) := by decide +kernel
theorem dX7_planned_10 : decode cX7_planned 10 = .ok (.ireturn, 1) := by decide +kernel
theorem dX7_planned_11 : decode cX7_planned 11 = .ok (.aload_n 0, 1) := by decide +kernel
theorem dX7_planned_12 : decode cX7_planned 12 = .ok (.invokevirtual 217, 3) := by decide +kernel
theorem dX7_planned_15 : decode cX7_planned 15 = .ok (.iload_n 1, 1) := by decide +kernel
theorem dX7_planned_16 : decode cX7_planned 16 = .ok (.lookupswitch 44 #[(0, 28), (1, 36)], 28) := by decide +kernel
theorem dX7_planned_44 : decode cX7_planned 44 = .ok (.aload_n 0, 1) := by decide +kernel
theorem dX7_planned_45 : decode cX7_planned 45 = .ok (.getfield 29, 3) := by decide +kernel
theorem dX7_planned_48 : decode cX7_planned 48 = .ok (.getfield 223, 3) := by decide +kernel
theorem dX7_planned_51 : decode cX7_planned 51 = .ok (.ireturn, 1) := by decide +kernel
theorem dX7_planned_52 : decode cX7_planned 52 = .ok (.aload_n 0, 1) := by decide +kernel
theorem dX7_planned_53 : decode cX7_planned 53 = .ok (.getfield 29, 3) := by decide +kernel
theorem dX7_planned_56 : decode cX7_planned 56 = .ok (.getfield 226, 3) := by decide +kernel
theorem dX7_planned_59 : decode cX7_planned 59 = .ok (.ireturn, 1) := by decide +kernel
theorem dX7_planned_60 : decode cX7_planned 60 = .ok (.aload_n 0, 1) := by decide +kernel
theorem dX7_planned_61 : decode cX7_planned 61 = .ok (.getfield 29, 3) := by decide +kernel
theorem dX7_planned_64 : decode cX7_planned 64 = .ok (.iload_n 1, 1) := by decide +kernel
theorem dX7_planned_65 : decode cX7_planned 65 = .ok (.iconst 2, 1) := by decide +kernel
theorem dX7_planned_66 : decode cX7_planned 66 = .ok (.isub, 1) := by decide +kernel
theorem dX7_planned_67 : decode cX7_planned 67 = .ok (.invokevirtual 229, 3) := by decide +kernel
theorem dX7_planned_70 : decode cX7_planned 70 = .ok (.ireturn, 1) := by decide +kernel
theorem dX7_many_0 : decode cX7_many 0 = .ok (.iload_n 1, 1) := by decide +kernel
theorem dX7_many_1 : decode cX7_many 1 = .ok (.tableswitch 159 0 7 #[47, 58, 69, 80, 91, 102, 113, 136], 47) := by decide +kernel
theorem dX7_many_48 : decode cX7_many 48 = .ok (.aload_n 0, 1) := by decide +kernel
theorem dX7_many_49 : decode cX7_many 49 = .ok (.getfield 12, 3) := by decide +kernel
theorem dX7_many_52 : decode cX7_many 52 = .ok (.getfield 52, 3) := by decide +kernel
theorem dX7_many_55 : decode cX7_many 55 = .ok (.getfield 56, 3) := by decide +kernel
theorem dX7_many_58 : decode cX7_many 58 = .ok (.ireturn, 1) := by decide +kernel
theorem dX7_many_59 : decode cX7_many 59 = .ok (.aload_n 0, 1) := by decide +kernel
theorem dX7_many_60 : decode cX7_many 60 = .ok (.getfield 12, 3) := by decide +kernel
theorem dX7_many_63 : decode cX7_many 63 = .ok (.getfield 52, 3) := by decide +kernel
theorem dX7_many_66 : decode cX7_many 66 = .ok (.getfield 75, 3) := by decide +kernel
theorem dX7_many_69 : decode cX7_many 69 = .ok (.ireturn, 1) := by decide +kernel
theorem dX7_many_70 : decode cX7_many 70 = .ok (.aload_n 0, 1) := by decide +kernel
theorem dX7_many_71 : decode cX7_many 71 = .ok (.getfield 12, 3) := by decide +kernel
theorem dX7_many_74 : decode cX7_many 74 = .ok (.getfield 93, 3) := by decide +kernel
theorem dX7_many_77 : decode cX7_many 77 = .ok (.getfield 97, 3) := by decide +kernel
theorem dX7_many_80 : decode cX7_many 80 = .ok (.ireturn, 1) := by decide +kernel
theorem dX7_many_81 : decode cX7_many 81 = .ok (.aload_n 0, 1) := by decide +kernel
theorem dX7_many_82 : decode cX7_many 82 = .ok (.getfield 12, 3) := by decide +kernel
theorem dX7_many_85 : decode cX7_many 85 = .ok (.getfield 130, 3) := by decide +kernel
theorem dX7_many_88 : decode cX7_many 88 = .ok (.getfield 134, 3) := by decide +kernel
theorem dX7_many_91 : decode cX7_many 91 = .ok (.ireturn, 1) := by decide +kernel
theorem dX7_many_92 : decode cX7_many 92 = .ok (.aload_n 0, 1) := by decide +kernel
theorem dX7_many_93 : decode cX7_many 93 = .ok (.getfield 12, 3) := by decide +kernel
theorem dX7_many_96 : decode cX7_many 96 = .ok (.getfield 93, 3) := by decide +kernel
theorem dX7_many_99 : decode cX7_many 99 = .ok (.getfield 114, 3) := by decide +kernel
theorem dX7_many_102 : decode cX7_many 102 = .ok (.ireturn, 1) := by decide +kernel
theorem dX7_many_103 : decode cX7_many 103 = .ok (.aload_n 0, 1) := by decide +kernel
theorem dX7_many_104 : decode cX7_many 104 = .ok (.getfield 12, 3) := by decide +kernel
theorem dX7_many_107 : decode cX7_many 107 = .ok (.getfield 196, 3) := by decide +kernel
theorem dX7_many_110 : decode cX7_many 110 = .ok (.getfield 200, 3) := by decide +kernel
theorem dX7_many_113 : decode cX7_many 113 = .ok (.ireturn, 1) := by decide +kernel
theorem dX7_many_114 : decode cX7_many 114 = .ok (.aload_n 0, 1) := by decide +kernel
theorem dX7_many_115 : decode cX7_many 115 = .ok (.getfield 22, 3) := by decide +kernel
theorem dX7_many_118 : decode cX7_many 118 = .ok (.aload_n 0, 1) := by decide +kernel
theorem dX7_many_119 : decode cX7_many 119 = .ok (.getfield 12, 3) := by decide +kernel
theorem dX7_many_122 : decode cX7_many 122 = .ok (.invokevirtual 154, 3) := by decide +kernel
theorem dX7_many_125 : decode cX7_many 125 = .ok (.aload_n 0, 1) := by decide +kernel
theorem dX7_many_126 : decode cX7_many 126 = .ok (.getfield 22, 3) := by decide +kernel
theorem dX7_many_129 : decode cX7_many 129 = .ok (.aload_n 0, 1) := by decide +kernel
theorem dX7_many_130 : decode cX7_many 130 = .ok (.getfield 12, 3) := by decide +kernel
theorem dX7_many_133 : decode cX7_many 133 = .ok (.invokevirtual 232, 3) := by decide +kernel
theorem dX7_many_136 : decode cX7_many 136 = .ok (.ireturn, 1) := by decide +kernel
theorem dX7_many_137 : decode cX7_many 137 = .ok (.aload_n 0, 1) := by decide +kernel
theorem dX7_many_138 : decode cX7_many 138 = .ok (.getfield 22, 3) := by decide +kernel
theorem dX7_many_141 : decode cX7_many 141 = .ok (.aload_n 0, 1) := by decide +kernel
theorem dX7_many_142 : decode cX7_many 142 = .ok (.getfield 12, 3) := by decide +kernel
theorem dX7_many_145 : decode cX7_many 145 = .ok (.invokevirtual 154, 3) := by decide +kernel
theorem dX7_many_148 : decode cX7_many 148 = .ok (.aload_n 0, 1) := by decide +kernel
theorem dX7_many_149 : decode cX7_many 149 = .ok (.getfield 22, 3) := by decide +kernel
theorem dX7_many_152 : decode cX7_many 152 = .ok (.aload_n 0, 1) := by decide +kernel
theorem dX7_many_153 : decode cX7_many 153 = .ok (.getfield 12, 3) := by decide +kernel
theorem dX7_many_156 : decode cX7_many 156 = .ok (.invokevirtual 236, 3) := by decide +kernel
theorem dX7_many_159 : decode cX7_many 159 = .ok (.ireturn, 1) := by decide +kernel
theorem dX7_many_160 : decode cX7_many 160 = .ok (.iload_n 1, 1) := by decide +kernel
theorem dX7_many_161 : decode cX7_many 161 = .ok (.bipush 12, 2) := by decide +kernel
theorem dX7_many_163 : decode cX7_many 163 = .ok (.invokestatic 48, 3) := by decide +kernel
theorem dX7_many_166 : decode cX7_many 166 = .ok (.ifCond .eq 20, 3) := by decide +kernel
theorem dX7_many_169 : decode cX7_many 169 = .ok (.aload_n 0, 1) := by decide +kernel
theorem dX7_many_170 : decode cX7_many 170 = .ok (.getfield 12, 3) := by decide +kernel
theorem dX7_many_173 : decode cX7_many 173 = .ok (.getfield 52, 3) := by decide +kernel
theorem dX7_many_176 : decode cX7_many 176 = .ok (.iload_n 1, 1) := by decide +kernel
theorem dX7_many_177 : decode cX7_many 177 = .ok (.bipush 8, 2) := by decide +kernel
theorem dX7_many_179 : decode cX7_many 179 = .ok (.isub, 1) := by decide +kernel
theorem dX7_many_180 : decode cX7_many 180 = .ok (.invokevirtual 239, 3) := by decide +kernel
theorem dX7_many_183 : decode cX7_many 183 = .ok (.goto 4, 3) := by decide +kernel
theorem dX7_many_186 : decode cX7_many 186 = .ok (.iconst (-1), 1) := by decide +kernel
theorem dX7_many_187 : decode cX7_many 187 = .ok (.ireturn, 1) := by decide +kernel
theorem dX7_keep_0 : decode cX7_keep 0 = .ok (.aload_n 0, 1) := by decide +kernel
theorem dX7_keep_1 : decode cX7_keep 1 = .ok (.getfield 16, 3) := by decide +kernel
theorem dX7_keep_4 : decode cX7_keep 4 = .ok (.aload_n 0, 1) := by decide +kernel
theorem dX7_keep_5 : decode cX7_keep 5 = .ok (.getfield 12, 3) := by decide +kernel
theorem dX7_keep_8 : decode cX7_keep 8 = .ok (.invokevirtual 242, 3) := by decide +kernel
theorem dX7_keep_11 : decode cX7_keep 11 = .ok (.aload_n 0, 1) := by decide +kernel
theorem dX7_keep_12 : decode cX7_keep 12 = .ok (.iconst 1, 1) := by decide +kernel
theorem dX7_keep_13 : decode cX7_keep 13 = .ok (.putfield 33, 3) := by decide +kernel
theorem dX7_keep_16 : decode cX7_keep 16 = .ok (.iconst 1, 1) := by decide +kernel
theorem dX7_keep_17 : decode cX7_keep 17 = .ok (.ireturn, 1) := by decide +kernel
theorem dX7_back_0 : decode cX7_back 0 = .ok (.aload_n 0, 1) := by decide +kernel
theorem dX7_back_1 : decode cX7_back 1 = .ok (.getfield 33, 3) := by decide +kernel
theorem dX7_back_4 : decode cX7_back 4 = .ok (.ifCond .ne 6, 3) := by decide +kernel
theorem dX7_back_7 : decode cX7_back 7 = .ok (.bipush (-3), 2) := by decide +kernel
theorem dX7_back_9 : decode cX7_back 9 = .ok (.ireturn, 1) := by decide +kernel
theorem dX7_back_10 : decode cX7_back 10 = .ok (.aload_n 0, 1) := by decide +kernel
theorem dX7_back_11 : decode cX7_back 11 = .ok (.getfield 12, 3) := by decide +kernel
theorem dX7_back_14 : decode cX7_back 14 = .ok (.aload_n 0, 1) := by decide +kernel
theorem dX7_back_15 : decode cX7_back 15 = .ok (.getfield 16, 3) := by decide +kernel
theorem dX7_back_18 : decode cX7_back 18 = .ok (.invokevirtual 242, 3) := by decide +kernel
theorem dX7_back_21 : decode cX7_back 21 = .ok (.aload_n 0, 1) := by decide +kernel
theorem dX7_back_22 : decode cX7_back 22 = .ok (.iconst 1, 1) := by decide +kernel
theorem dX7_back_23 : decode cX7_back 23 = .ok (.putfield 37, 3) := by decide +kernel
theorem dX7_back_26 : decode cX7_back 26 = .ok (.iconst 1, 1) := by decide +kernel
theorem dX7_back_27 : decode cX7_back 27 = .ok (.ireturn, 1) := by decide +kernel
theorem dX7_makePlan_0 : decode cX7_makePlan 0 = .ok (.aload_n 0, 1) := by decide +kernel
theorem dX7_makePlan_1 : decode cX7_makePlan 1 = .ok (.getfield 37, 3) := by decide +kernel
theorem dX7_makePlan_4 : decode cX7_makePlan 4 = .ok (.ifCond .eq 30, 3) := by decide +kernel
theorem dX7_makePlan_7 : decode cX7_makePlan 7 = .ok (.aload_n 0, 1) := by decide +kernel
theorem dX7_makePlan_8 : decode cX7_makePlan 8 = .ok (.getfield 29, 3) := by decide +kernel
theorem dX7_makePlan_11 : decode cX7_makePlan 11 = .ok (.aload_n 0, 1) := by decide +kernel
theorem dX7_makePlan_12 : decode cX7_makePlan 12 = .ok (.getfield 12, 3) := by decide +kernel
theorem dX7_makePlan_15 : decode cX7_makePlan 15 = .ok (.aload_n 0, 1) := by decide +kernel
theorem dX7_makePlan_16 : decode cX7_makePlan 16 = .ok (.getfield 40, 3) := by decide +kernel
theorem dX7_makePlan_19 : decode cX7_makePlan 19 = .ok (.invokevirtual 245, 3) := by decide +kernel
theorem dX7_makePlan_22 : decode cX7_makePlan 22 = .ok (.aload_n 0, 1) := by decide +kernel
theorem dX7_makePlan_23 : decode cX7_makePlan 23 = .ok (.getfield 29, 3) := by decide +kernel
theorem dX7_makePlan_26 : decode cX7_makePlan 26 = .ok (.invokevirtual 248, 3) := by decide +kernel
theorem dX7_makePlan_29 : decode cX7_makePlan 29 = .ok (.aload_n 0, 1) := by decide +kernel
theorem dX7_makePlan_30 : decode cX7_makePlan 30 = .ok (.iconst 0, 1) := by decide +kernel
theorem dX7_makePlan_31 : decode cX7_makePlan 31 = .ok (.putfield 37, 3) := by decide +kernel
theorem dX7_makePlan_34 : decode cX7_makePlan 34 = .ok (.return_, 1) := by decide +kernel
theorem dX7_isChild_0 : decode cX7_isChild 0 = .ok (.iload_n 1, 1) := by decide +kernel
theorem dX7_isChild_1 : decode cX7_isChild 1 = .ok (.aload_n 0, 1) := by decide +kernel
theorem dX7_isChild_2 : decode cX7_isChild 2 = .ok (.getfield 12, 3) := by decide +kernel
theorem dX7_isChild_5 : decode cX7_isChild 5 = .ok (.getfield 52, 3) := by decide +kernel
theorem dX7_isChild_8 : decode cX7_isChild 8 = .ok (.getfield 56, 3) := by decide +kernel
theorem dX7_isChild_11 : decode cX7_isChild 11 = .ok (.invokestatic 48, 3) := by decide +kernel
theorem dX7_isChild_14 : decode cX7_isChild 14 = .ok (.ireturn, 1) := by decide +kernel
theorem dX7_isLeader_0 : decode cX7_isLeader 0 = .ok (.iload_n 1, 1) := by decide +kernel
theorem dX7_isLeader_1 : decode cX7_isLeader 1 = .ok (.aload_n 0, 1) := by decide +kernel
theorem dX7_isLeader_2 : decode cX7_isLeader 2 = .ok (.getfield 12, 3) := by decide +kernel
theorem dX7_isLeader_5 : decode cX7_isLeader 5 = .ok (.getfield 52, 3) := by decide +kernel
theorem dX7_isLeader_8 : decode cX7_isLeader 8 = .ok (.getfield 75, 3) := by decide +kernel
theorem dX7_isLeader_11 : decode cX7_isLeader 11 = .ok (.invokestatic 48, 3) := by decide +kernel
theorem dX7_isLeader_14 : decode cX7_isLeader 14 = .ok (.ireturn, 1) := by decide +kernel
theorem dX7_isTask_0 : decode cX7_isTask 0 = .ok (.iload_n 1, 1) := by decide +kernel
theorem dX7_isTask_1 : decode cX7_isTask 1 = .ok (.aload_n 0, 1) := by decide +kernel
theorem dX7_isTask_2 : decode cX7_isTask 2 = .ok (.getfield 12, 3) := by decide +kernel
theorem dX7_isTask_5 : decode cX7_isTask 5 = .ok (.getfield 93, 3) := by decide +kernel
theorem dX7_isTask_8 : decode cX7_isTask 8 = .ok (.getfield 97, 3) := by decide +kernel
theorem dX7_isTask_11 : decode cX7_isTask 11 = .ok (.invokestatic 48, 3) := by decide +kernel
theorem dX7_isTask_14 : decode cX7_isTask 14 = .ok (.ireturn, 1) := by decide +kernel
theorem dX7_isBadge_0 : decode cX7_isBadge 0 = .ok (.iload_n 1, 1) := by decide +kernel
theorem dX7_isBadge_1 : decode cX7_isBadge 1 = .ok (.aload_n 0, 1) := by decide +kernel
theorem dX7_isBadge_2 : decode cX7_isBadge 2 = .ok (.getfield 12, 3) := by decide +kernel
theorem dX7_isBadge_5 : decode cX7_isBadge 5 = .ok (.getfield 93, 3) := by decide +kernel
theorem dX7_isBadge_8 : decode cX7_isBadge 8 = .ok (.getfield 114, 3) := by decide +kernel
theorem dX7_isBadge_11 : decode cX7_isBadge 11 = .ok (.invokestatic 48, 3) := by decide +kernel
theorem dX7_isBadge_14 : decode cX7_isBadge 14 = .ok (.ireturn, 1) := by decide +kernel
theorem dX7_isSignature_0 : decode cX7_isSignature 0 = .ok (.iload_n 1, 1) := by decide +kernel
theorem dX7_isSignature_1 : decode cX7_isSignature 1 = .ok (.aload_n 0, 1) := by decide +kernel
theorem dX7_isSignature_2 : decode cX7_isSignature 2 = .ok (.getfield 12, 3) := by decide +kernel
theorem dX7_isSignature_5 : decode cX7_isSignature 5 = .ok (.getfield 130, 3) := by decide +kernel
theorem dX7_isSignature_8 : decode cX7_isSignature 8 = .ok (.getfield 134, 3) := by decide +kernel
theorem dX7_isSignature_11 : decode cX7_isSignature 11 = .ok (.invokestatic 48, 3) := by decide +kernel
theorem dX7_isSignature_14 : decode cX7_isSignature 14 = .ok (.ireturn, 1) := by decide +kernel
theorem dX7_isBelow_0 : decode cX7_isBelow 0 = .ok (.iload_n 0, 1) := by decide +kernel
theorem dX7_isBelow_1 : decode cX7_isBelow 1 = .ok (.ifCond .lt 12, 3) := by decide +kernel
theorem dX7_isBelow_4 : decode cX7_isBelow 4 = .ok (.iload_n 0, 1) := by decide +kernel
theorem dX7_isBelow_5 : decode cX7_isBelow 5 = .ok (.iload_n 1, 1) := by decide +kernel
theorem dX7_isBelow_6 : decode cX7_isBelow 6 = .ok (.if_icmp .ge 7, 3) := by decide +kernel
theorem dX7_isBelow_9 : decode cX7_isBelow 9 = .ok (.iconst 1, 1) := by decide +kernel
theorem dX7_isBelow_10 : decode cX7_isBelow 10 = .ok (.goto 4, 3) := by decide +kernel
theorem dX7_isBelow_13 : decode cX7_isBelow 13 = .ok (.iconst 0, 1) := by decide +kernel
theorem dX7_isBelow_14 : decode cX7_isBelow 14 = .ok (.ireturn, 1) := by decide +kernel
theorem dX7_isUpTo_0 : decode cX7_isUpTo 0 = .ok (.iload_n 0, 1) := by decide +kernel
theorem dX7_isUpTo_1 : decode cX7_isUpTo 1 = .ok (.ifCond .lt 12, 3) := by decide +kernel
theorem dX7_isUpTo_4 : decode cX7_isUpTo 4 = .ok (.iload_n 0, 1) := by decide +kernel
theorem dX7_isUpTo_5 : decode cX7_isUpTo 5 = .ok (.iload_n 1, 1) := by decide +kernel
theorem dX7_isUpTo_6 : decode cX7_isUpTo 6 = .ok (.if_icmp .gt 7, 3) := by decide +kernel
theorem dX7_isUpTo_9 : decode cX7_isUpTo 9 = .ok (.iconst 1, 1) := by decide +kernel
theorem dX7_isUpTo_10 : decode cX7_isUpTo 10 = .ok (.goto 4, 3) := by decide +kernel
theorem dX7_isUpTo_13 : decode cX7_isUpTo 13 = .ok (.iconst 0, 1) := by decide +kernel
theorem dX7_isUpTo_14 : decode cX7_isUpTo 14 = .ok (.ireturn, 1) := by decide +kernel
theorem dX7_isDay_0 : decode cX7_isDay 0 = .ok (.iload_n 0, 1) := by decide +kernel
theorem dX7_isDay_1 : decode cX7_isDay 1 = .ok (.sipush 999, 3) := by decide +kernel
theorem dX7_isDay_4 : decode cX7_isDay 4 = .ok (.invokestatic 108, 3) := by decide +kernel
theorem dX7_isDay_7 : decode cX7_isDay 7 = .ok (.ireturn, 1) := by decide +kernel
theorem dX7_isAge_0 : decode cX7_isAge 0 = .ok (.iload_n 0, 1) := by decide +kernel
theorem dX7_isAge_1 : decode cX7_isAge 1 = .ok (.bipush 6, 2) := by decide +kernel
theorem dX7_isAge_3 : decode cX7_isAge 3 = .ok (.if_icmp .lt 13, 3) := by decide +kernel
theorem dX7_isAge_6 : decode cX7_isAge 6 = .ok (.iload_n 0, 1) := by decide +kernel
theorem dX7_isAge_7 : decode cX7_isAge 7 = .ok (.bipush 18, 2) := by decide +kernel
theorem dX7_isAge_9 : decode cX7_isAge 9 = .ok (.if_icmp .gt 7, 3) := by decide +kernel
theorem dX7_isAge_12 : decode cX7_isAge 12 = .ok (.iconst 1, 1) := by decide +kernel
theorem dX7_isAge_13 : decode cX7_isAge 13 = .ok (.goto 4, 3) := by decide +kernel
theorem dX7_isAge_16 : decode cX7_isAge 16 = .ok (.iconst 0, 1) := by decide +kernel
theorem dX7_isAge_17 : decode cX7_isAge 17 = .ok (.ireturn, 1) := by decide +kernel
theorem dX7_hasBit_0 : decode cX7_hasBit 0 = .ok (.iload_n 0, 1) := by decide +kernel
theorem dX7_hasBit_1 : decode cX7_hasBit 1 = .ok (.iload_n 1, 1) := by decide +kernel
theorem dX7_hasBit_2 : decode cX7_hasBit 2 = .ok (.ishr, 1) := by decide +kernel
theorem dX7_hasBit_3 : decode cX7_hasBit 3 = .ok (.iconst 1, 1) := by decide +kernel
theorem dX7_hasBit_4 : decode cX7_hasBit 4 = .ok (.iand, 1) := by decide +kernel
theorem dX7_hasBit_5 : decode cX7_hasBit 5 = .ok (.iconst 1, 1) := by decide +kernel
theorem dX7_hasBit_6 : decode cX7_hasBit 6 = .ok (.if_icmp .ne 7, 3) := by decide +kernel
theorem dX7_hasBit_9 : decode cX7_hasBit 9 = .ok (.iconst 1, 1) := by decide +kernel
theorem dX7_hasBit_10 : decode cX7_hasBit 10 = .ok (.goto 4, 3) := by decide +kernel
theorem dX7_hasBit_13 : decode cX7_hasBit 13 = .ok (.iconst 0, 1) := by decide +kernel
theorem dX7_hasBit_14 : decode cX7_hasBit 14 = .ok (.ireturn, 1) := by decide +kernel
theorem dX7_dayOrNone_0 : decode cX7_dayOrNone 0 = .ok (.iload_n 0, 1) := by decide +kernel
theorem dX7_dayOrNone_1 : decode cX7_dayOrNone 1 = .ok (.sipush 1000, 3) := by decide +kernel
theorem dX7_dayOrNone_4 : decode cX7_dayOrNone 4 = .ok (.if_icmp .ne 8, 3) := by decide +kernel
theorem dX7_dayOrNone_7 : decode cX7_dayOrNone 7 = .ok (.bipush (-3), 2) := by decide +kernel
theorem dX7_dayOrNone_9 : decode cX7_dayOrNone 9 = .ok (.goto 4, 3) := by decide +kernel
theorem dX7_dayOrNone_12 : decode cX7_dayOrNone 12 = .ok (.iload_n 0, 1) := by decide +kernel
theorem dX7_dayOrNone_13 : decode cX7_dayOrNone 13 = .ok (.ireturn, 1) := by decide +kernel
theorem dX7_replace_0 : decode cX7_replace 0 = .ok (.iload_n 1, 1) := by decide +kernel
theorem dX7_replace_1 : decode cX7_replace 1 = .ok (.aload_n 0, 1) := by decide +kernel
theorem dX7_replace_2 : decode cX7_replace 2 = .ok (.arraylength, 1) := by decide +kernel
theorem dX7_replace_3 : decode cX7_replace 3 = .ok (.invokestatic 48, 3) := by decide +kernel
theorem dX7_replace_6 : decode cX7_replace 6 = .ok (.ifCond .ne 5, 3) := by decide +kernel
theorem dX7_replace_9 : decode cX7_replace 9 = .ok (.iconst (-1), 1) := by decide +kernel
theorem dX7_replace_10 : decode cX7_replace 10 = .ok (.ireturn, 1) := by decide +kernel
theorem dX7_replace_11 : decode cX7_replace 11 = .ok (.aload_n 0, 1) := by decide +kernel
theorem dX7_replace_12 : decode cX7_replace 12 = .ok (.iload_n 1, 1) := by decide +kernel
theorem dX7_replace_13 : decode cX7_replace 13 = .ok (.iaload, 1) := by decide +kernel
theorem dX7_replace_14 : decode cX7_replace 14 = .ok (.istore_n 3, 1) := by decide +kernel
theorem dX7_replace_15 : decode cX7_replace 15 = .ok (.aload_n 0, 1) := by decide +kernel
theorem dX7_replace_16 : decode cX7_replace 16 = .ok (.iload_n 1, 1) := by decide +kernel
theorem dX7_replace_17 : decode cX7_replace 17 = .ok (.iload_n 2, 1) := by decide +kernel
theorem dX7_replace_18 : decode cX7_replace 18 = .ok (.iastore, 1) := by decide +kernel
theorem dX7_replace_19 : decode cX7_replace 19 = .ok (.iload_n 3, 1) := by decide +kernel
theorem dX7_replace_20 : decode cX7_replace 20 = .ok (.ireturn, 1) := by decide +kernel
theorem dX7_copyRow_0 : decode cX7_copyRow 0 = .ok (.aload_n 0, 1) := by decide +kernel
theorem dX7_copyRow_1 : decode cX7_copyRow 1 = .ok (.iconst 0, 1) := by decide +kernel
theorem dX7_copyRow_2 : decode cX7_copyRow 2 = .ok (.aload_n 1, 1) := by decide +kernel
theorem dX7_copyRow_3 : decode cX7_copyRow 3 = .ok (.iconst 0, 1) := by decide +kernel
theorem dX7_copyRow_4 : decode cX7_copyRow 4 = .ok (.aload_n 0, 1) := by decide +kernel
theorem dX7_copyRow_5 : decode cX7_copyRow 5 = .ok (.arraylength, 1) := by decide +kernel
theorem dX7_copyRow_6 : decode cX7_copyRow 6 = .ok (.aload_n 1, 1) := by decide +kernel
theorem dX7_copyRow_7 : decode cX7_copyRow 7 = .ok (.arraylength, 1) := by decide +kernel
theorem dX7_copyRow_8 : decode cX7_copyRow 8 = .ok (.invokestatic 251, 3) := by decide +kernel
theorem dX7_copyRow_11 : decode cX7_copyRow 11 = .ok (.invokestatic 254, 3) := by decide +kernel
theorem dX7_copyRow_14 : decode cX7_copyRow 14 = .ok (.return_, 1) := by decide +kernel
theorem dX7_copyMarks_0 : decode cX7_copyMarks 0 = .ok (.iconst 0, 1) := by decide +kernel
theorem dX7_copyMarks_1 : decode cX7_copyMarks 1 = .ok (.istore_n 2, 1) := by decide +kernel
theorem dX7_copyMarks_2 : decode cX7_copyMarks 2 = .ok (.iload_n 2, 1) := by decide +kernel
theorem dX7_copyMarks_3 : decode cX7_copyMarks 3 = .ok (.aload_n 0, 1) := by decide +kernel
theorem dX7_copyMarks_4 : decode cX7_copyMarks 4 = .ok (.arraylength, 1) := by decide +kernel
theorem dX7_copyMarks_5 : decode cX7_copyMarks 5 = .ok (.if_icmp .ge 21, 3) := by decide +kernel
theorem dX7_copyMarks_8 : decode cX7_copyMarks 8 = .ok (.iload_n 2, 1) := by decide +kernel
theorem dX7_copyMarks_9 : decode cX7_copyMarks 9 = .ok (.aload_n 1, 1) := by decide +kernel
theorem dX7_copyMarks_10 : decode cX7_copyMarks 10 = .ok (.arraylength, 1) := by decide +kernel
theorem dX7_copyMarks_11 : decode cX7_copyMarks 11 = .ok (.if_icmp .ge 15, 3) := by decide +kernel
theorem dX7_copyMarks_14 : decode cX7_copyMarks 14 = .ok (.aload_n 1, 1) := by decide +kernel
theorem dX7_copyMarks_15 : decode cX7_copyMarks 15 = .ok (.iload_n 2, 1) := by decide +kernel
theorem dX7_copyMarks_16 : decode cX7_copyMarks 16 = .ok (.aload_n 0, 1) := by decide +kernel
theorem dX7_copyMarks_17 : decode cX7_copyMarks 17 = .ok (.iload_n 2, 1) := by decide +kernel
theorem dX7_copyMarks_18 : decode cX7_copyMarks 18 = .ok (.baload, 1) := by decide +kernel
theorem dX7_copyMarks_19 : decode cX7_copyMarks 19 = .ok (.bastore, 1) := by decide +kernel
theorem dX7_copyMarks_20 : decode cX7_copyMarks 20 = .ok (.iinc 2 1, 3) := by decide +kernel
theorem dX7_copyMarks_23 : decode cX7_copyMarks 23 = .ok (.goto (-21), 3) := by decide +kernel
theorem dX7_copyMarks_26 : decode cX7_copyMarks 26 = .ok (.return_, 1) := by decide +kernel
theorem dX8_init_0 : decode cX8_init 0 = .ok (.aload_n 0, 1) := by decide +kernel
theorem dX8_init_1 : decode cX8_init 1 = .ok (.invokespecial 1, 3) := by decide +kernel
theorem dX8_init_4 : decode cX8_init 4 = .ok (.aload_n 0, 1) := by decide +kernel
theorem dX8_init_5 : decode cX8_init 5 = .ok (.bipush 6, 2) := by decide +kernel
theorem dX8_init_7 : decode cX8_init 7 = .ok (.newarray .int, 2) := by decide +kernel
theorem dX8_init_9 : decode cX8_init 9 = .ok (.putfield 7, 3) := by decide +kernel
theorem dX8_init_12 : decode cX8_init 12 = .ok (.aload_n 0, 1) := by decide +kernel
theorem dX8_init_13 : decode cX8_init 13 = .ok (.bipush 10, 2) := by decide +kernel
theorem dX8_init_15 : decode cX8_init 15 = .ok (.newarray .int, 2) := by decide +kernel
theorem dX8_init_17 : decode cX8_init 17 = .ok (.putfield 13, 3) := by decide +kernel
theorem dX8_init_20 : decode cX8_init 20 = .ok (.aload_n 0, 1) := by decide +kernel
theorem dX8_init_21 : decode cX8_init 21 = .ok (.bipush 10, 2) := by decide +kernel
theorem dX8_init_23 : decode cX8_init 23 = .ok (.newarray .int, 2) := by decide +kernel
theorem dX8_init_25 : decode cX8_init 25 = .ok (.putfield 16, 3) := by decide +kernel
theorem dX8_init_28 : decode cX8_init 28 = .ok (.aload_n 0, 1) := by decide +kernel
theorem dX8_init_29 : decode cX8_init 29 = .ok (.bipush 20, 2) := by decide +kernel
theorem dX8_init_31 : decode cX8_init 31 = .ok (.newarray .int, 2) := by decide +kernel
theorem dX8_init_33 : decode cX8_init 33 = .ok (.putfield 19, 3) := by decide +kernel
theorem dX8_init_36 : decode cX8_init 36 = .ok (.aload_n 0, 1) := by decide +kernel
theorem dX8_init_37 : decode cX8_init 37 = .ok (.bipush 20, 2) := by decide +kernel
theorem dX8_init_39 : decode cX8_init 39 = .ok (.newarray .int, 2) := by decide +kernel
theorem dX8_init_41 : decode cX8_init 41 = .ok (.putfield 22, 3) := by decide +kernel
theorem dX8_init_44 : decode cX8_init 44 = .ok (.aload_n 0, 1) := by decide +kernel
theorem dX8_init_45 : decode cX8_init 45 = .ok (.iconst 5, 1) := by decide +kernel
theorem dX8_init_46 : decode cX8_init 46 = .ok (.newarray .int, 2) := by decide +kernel
theorem dX8_init_48 : decode cX8_init 48 = .ok (.putfield 25, 3) := by decide +kernel
theorem dX8_init_51 : decode cX8_init 51 = .ok (.aload_n 0, 1) := by decide +kernel
theorem dX8_init_52 : decode cX8_init 52 = .ok (.bipush 10, 2) := by decide +kernel
theorem dX8_init_54 : decode cX8_init 54 = .ok (.newarray .int, 2) := by decide +kernel
theorem dX8_init_56 : decode cX8_init 56 = .ok (.putfield 28, 3) := by decide +kernel
theorem dX8_init_59 : decode cX8_init 59 = .ok (.aload_n 0, 1) := by decide +kernel
theorem dX8_init_60 : decode cX8_init 60 = .ok (.bipush 10, 2) := by decide +kernel
theorem dX8_init_62 : decode cX8_init 62 = .ok (.newarray .int, 2) := by decide +kernel
theorem dX8_init_64 : decode cX8_init 64 = .ok (.putfield 31, 3) := by decide +kernel
theorem dX8_init_67 : decode cX8_init 67 = .ok (.aload_n 0, 1) := by decide +kernel
theorem dX8_init_68 : decode cX8_init 68 = .ok (.bipush 40, 2) := by decide +kernel
theorem dX8_init_70 : decode cX8_init 70 = .ok (.newarray .int, 2) := by decide +kernel
theorem dX8_init_72 : decode cX8_init 72 = .ok (.putfield 34, 3) := by decide +kernel
theorem dX8_init_75 : decode cX8_init 75 = .ok (.aload_n 0, 1) := by decide +kernel
theorem dX8_init_76 : decode cX8_init 76 = .ok (.sipush 400, 3) := by decide +kernel
theorem dX8_init_79 : decode cX8_init 79 = .ok (.newarray .int, 2) := by decide +kernel
theorem dX8_init_81 : decode cX8_init 81 = .ok (.putfield 37, 3) := by decide +kernel
theorem dX8_init_84 : decode cX8_init 84 = .ok (.aload_n 0, 1) := by decide +kernel
theorem dX8_init_85 : decode cX8_init 85 = .ok (.iconst 3, 1) := by decide +kernel
theorem dX8_init_86 : decode cX8_init 86 = .ok (.newarray .int, 2) := by decide +kernel
theorem dX8_init_88 : decode cX8_init 88 = .ok (.putfield 40, 3) := by decide +kernel
theorem dX8_init_91 : decode cX8_init 91 = .ok (.aload_n 0, 1) := by decide +kernel
theorem dX8_init_92 : decode cX8_init 92 = .ok (.iconst 3, 1) := by decide +kernel
theorem dX8_init_93 : decode cX8_init 93 = .ok (.newarray .int, 2) := by decide +kernel
theorem dX8_init_95 : decode cX8_init 95 = .ok (.putfield 43, 3) := by decide +kernel
theorem dX8_init_98 : decode cX8_init 98 = .ok (.aload_n 0, 1) := by decide +kernel
theorem dX8_init_99 : decode cX8_init 99 = .ok (.bipush 60, 2) := by decide +kernel
theorem dX8_init_101 : decode cX8_init 101 = .ok (.newarray .int, 2) := by decide +kernel
theorem dX8_init_103 : decode cX8_init 103 = .ok (.putfield 46, 3) := by decide +kernel
theorem dX8_init_106 : decode cX8_init 106 = .ok (.aload_n 0, 1) := by decide +kernel
theorem dX8_init_107 : decode cX8_init 107 = .ok (.iconst 5, 1) := by decide +kernel
theorem dX8_init_108 : decode cX8_init 108 = .ok (.putfield 49, 3) := by decide +kernel
theorem dX8_init_111 : decode cX8_init 111 = .ok (.aload_n 0, 1) := by decide +kernel
theorem dX8_init_112 : decode cX8_init 112 = .ok (.sipush 620, 3) := by decide +kernel
theorem dX8_init_115 : decode cX8_init 115 = .ok (.newarray .int, 2) := by decide +kernel
theorem dX8_init_117 : decode cX8_init 117 = .ok (.putfield 53, 3) := by decide +kernel
theorem dX8_init_120 : decode cX8_init 120 = .ok (.aload_n 0, 1) := by decide +kernel
theorem dX8_init_121 : decode cX8_init 121 = .ok (.bipush 10, 2) := by decide +kernel
theorem dX8_init_123 : decode cX8_init 123 = .ok (.newarray .int, 2) := by decide +kernel
theorem dX8_init_125 : decode cX8_init 125 = .ok (.putfield 56, 3) := by decide +kernel
theorem dX8_init_128 : decode cX8_init 128 = .ok (.aload_n 0, 1) := by decide +kernel
theorem dX8_init_129 : decode cX8_init 129 = .ok (.bipush 8, 2) := by decide +kernel
theorem dX8_init_131 : decode cX8_init 131 = .ok (.newarray .int, 2) := by decide +kernel
theorem dX8_init_133 : decode cX8_init 133 = .ok (.putfield 59, 3) := by decide +kernel
theorem dX8_init_136 : decode cX8_init 136 = .ok (.aload_n 0, 1) := by decide +kernel
theorem dX8_init_137 : decode cX8_init 137 = .ok (.iconst 4, 1) := by decide +kernel
theorem dX8_init_138 : decode cX8_init 138 = .ok (.newarray .int, 2) := by decide +kernel
theorem dX8_init_140 : decode cX8_init 140 = .ok (.putfield 62, 3) := by decide +kernel
theorem dX8_init_143 : decode cX8_init 143 = .ok (.aload_n 0, 1) := by decide +kernel
theorem dX8_init_144 : decode cX8_init 144 = .ok (.iconst 4, 1) := by decide +kernel
theorem dX8_init_145 : decode cX8_init 145 = .ok (.newarray .int, 2) := by decide +kernel
theorem dX8_init_147 : decode cX8_init 147 = .ok (.putfield 65, 3) := by decide +kernel
theorem dX8_init_150 : decode cX8_init 150 = .ok (.aload_n 0, 1) := by decide +kernel
theorem dX8_init_151 : decode cX8_init 151 = .ok (.iconst 4, 1) := by decide +kernel
theorem dX8_init_152 : decode cX8_init 152 = .ok (.newarray .int, 2) := by decide +kernel
theorem dX8_init_154 : decode cX8_init 154 = .ok (.putfield 68, 3) := by decide +kernel
theorem dX8_init_157 : decode cX8_init 157 = .ok (.aload_n 0, 1) := by decide +kernel
theorem dX8_init_158 : decode cX8_init 158 = .ok (.iconst 5, 1) := by decide +kernel
theorem dX8_init_159 : decode cX8_init 159 = .ok (.newarray .int, 2) := by decide +kernel
theorem dX8_init_161 : decode cX8_init 161 = .ok (.putfield 71, 3) := by decide +kernel
theorem dX8_init_164 : decode cX8_init 164 = .ok (.return_, 1) := by decide +kernel
theorem dX8_in_0 : decode cX8_in 0 = .ok (.iload_n 0, 1) := by decide +kernel
theorem dX8_in_1 : decode cX8_in 1 = .ok (.iload_n 1, 1) := by decide +kernel
theorem dX8_in_2 : decode cX8_in 2 = .ok (.if_icmp .lt 12, 3) := by decide +kernel
theorem dX8_in_5 : decode cX8_in 5 = .ok (.iload_n 0, 1) := by decide +kernel
theorem dX8_in_6 : decode cX8_in 6 = .ok (.iload_n 2, 1) := by decide +kernel
theorem dX8_in_7 : decode cX8_in 7 = .ok (.if_icmp .gt 7, 3) := by decide +kernel
theorem dX8_in_10 : decode cX8_in 10 = .ok (.iconst 1, 1) := by decide +kernel
theorem dX8_in_11 : decode cX8_in 11 = .ok (.goto 4, 3) := by decide +kernel
theorem dX8_in_14 : decode cX8_in 14 = .ok (.iconst 0, 1) := by decide +kernel
theorem dX8_in_15 : decode cX8_in 15 = .ok (.ireturn, 1) := by decide +kernel
theorem dX8_is_0 : decode cX8_is 0 = .ok (.iload_n 2, 1) := by decide +kernel
theorem dX8_is_1 : decode cX8_is 1 = .ok (.iconst 0, 1) := by decide +kernel
theorem dX8_is_2 : decode cX8_is 2 = .ok (.aload_n 0, 1) := by decide +kernel
theorem dX8_is_3 : decode cX8_is 3 = .ok (.getfield 7, 3) := by decide +kernel
theorem dX8_is_6 : decode cX8_is 6 = .ok (.iload_n 1, 1) := by decide +kernel
theorem dX8_is_7 : decode cX8_is 7 = .ok (.iaload, 1) := by decide +kernel
theorem dX8_is_8 : decode cX8_is 8 = .ok (.iconst 1, 1) := by decide +kernel
theorem dX8_is_9 : decode cX8_is 9 = .ok (.isub, 1) := by decide +kernel
theorem dX8_is_10 : decode cX8_is 10 = .ok (.invokestatic 74, 3) := by decide +kernel
theorem dX8_is_13 : decode cX8_is 13 = .ok (.ireturn, 1) := by decide +kernel
theorem dX8_isDay_0 : decode cX8_isDay 0 = .ok (.iload_n 0, 1) := by decide +kernel
theorem dX8_isDay_1 : decode cX8_isDay 1 = .ok (.iconst 0, 1) := by decide +kernel
theorem dX8_isDay_2 : decode cX8_isDay 2 = .ok (.sipush 999, 3) := by decide +kernel
theorem dX8_isDay_5 : decode cX8_isDay 5 = .ok (.invokestatic 74, 3) := by decide +kernel
theorem dX8_isDay_8 : decode cX8_isDay 8 = .ok (.ireturn, 1) := by decide +kernel
theorem dX8_isPatrol_0 : decode cX8_isPatrol 0 = .ok (.iload_n 0, 1) := by decide +kernel
theorem dX8_isPatrol_1 : decode cX8_isPatrol 1 = .ok (.iconst 0, 1) := by decide +kernel
theorem dX8_isPatrol_2 : decode cX8_isPatrol 2 = .ok (.iconst 3, 1) := by decide +kernel
theorem dX8_isPatrol_3 : decode cX8_isPatrol 3 = .ok (.invokestatic 74, 3) := by decide +kernel
theorem dX8_isPatrol_6 : decode cX8_isPatrol 6 = .ok (.ireturn, 1) := by decide +kernel
theorem dX8_came_0 : decode cX8_came 0 = .ok (.aload_n 0, 1) := by decide +kernel
theorem dX8_came_1 : decode cX8_came 1 = .ok (.getfield 7, 3) := by decide +kernel
theorem dX8_came_4 : decode cX8_came 4 = .ok (.iload_n 1, 1) := by decide +kernel
theorem dX8_came_5 : decode cX8_came 5 = .ok (.dup2, 1) := by decide +kernel
theorem dX8_came_6 : decode cX8_came 6 = .ok (.iaload, 1) := by decide +kernel
theorem dX8_came_7 : decode cX8_came 7 = .ok (.iconst 1, 1) := by decide +kernel
theorem dX8_came_8 : decode cX8_came 8 = .ok (.iadd, 1) := by decide +kernel
theorem dX8_came_9 : decode cX8_came 9 = .ok (.iastore, 1) := by decide +kernel
theorem dX8_came_10 : decode cX8_came 10 = .ok (.aload_n 0, 1) := by decide +kernel
theorem dX8_came_11 : decode cX8_came 11 = .ok (.getfield 7, 3) := by decide +kernel
theorem dX8_came_14 : decode cX8_came 14 = .ok (.iload_n 1, 1) := by decide +kernel
theorem dX8_came_15 : decode cX8_came 15 = .ok (.iaload, 1) := by decide +kernel
theorem dX8_came_16 : decode cX8_came 16 = .ok (.iconst 1, 1) := by decide +kernel
theorem dX8_came_17 : decode cX8_came 17 = .ok (.isub, 1) := by decide +kernel
theorem dX8_came_18 : decode cX8_came 18 = .ok (.ireturn, 1) := by decide +kernel
theorem dX8_child_0 : decode cX8_child 0 = .ok (.iload_n 1, 1) := by decide +kernel
theorem dX8_child_1 : decode cX8_child 1 = .ok (.bipush 6, 2) := by decide +kernel
theorem dX8_child_3 : decode cX8_child 3 = .ok (.bipush 18, 2) := by decide +kernel
theorem dX8_child_5 : decode cX8_child 5 = .ok (.invokestatic 74, 3) := by decide +kernel
theorem dX8_child_8 : decode cX8_child 8 = .ok (.ifCond .eq 10, 3) := by decide +kernel
theorem dX8_child_11 : decode cX8_child 11 = .ok (.iload_n 2, 1) := by decide +kernel
theorem dX8_child_12 : decode cX8_child 12 = .ok (.invokestatic 78, 3) := by decide +kernel
theorem dX8_child_15 : decode cX8_child 15 = .ok (.ifCond .ne 5, 3) := by decide +kernel
theorem dX8_child_18 : decode cX8_child 18 = .ok (.iconst (-1), 1) := by decide +kernel
theorem dX8_child_19 : decode cX8_child 19 = .ok (.ireturn, 1) := by decide +kernel
theorem dX8_child_20 : decode cX8_child 20 = .ok (.aload_n 0, 1) := by decide +kernel
theorem dX8_child_21 : decode cX8_child 21 = .ok (.getfield 7, 3) := by decide +kernel
theorem dX8_child_24 : decode cX8_child 24 = .ok (.iconst 0, 1) := by decide +kernel
theorem dX8_child_25 : decode cX8_child 25 = .ok (.iaload, 1) := by decide +kernel
theorem dX8_child_26 : decode cX8_child 26 = .ok (.bipush 10, 2) := by decide +kernel
theorem dX8_child_28 : decode cX8_child 28 = .ok (.if_icmp .ne 6, 3) := by decide +kernel
theorem dX8_child_31 : decode cX8_child 31 = .ok (.bipush (-2), 2) := by decide +kernel
theorem dX8_child_33 : decode cX8_child 33 = .ok (.ireturn, 1) := by decide +kernel
theorem dX8_child_34 : decode cX8_child 34 = .ok (.aload_n 0, 1) := by decide +kernel
theorem dX8_child_35 : decode cX8_child 35 = .ok (.getfield 13, 3) := by decide +kernel
theorem dX8_child_38 : decode cX8_child 38 = .ok (.aload_n 0, 1) := by decide +kernel
theorem dX8_child_39 : decode cX8_child 39 = .ok (.getfield 7, 3) := by decide +kernel
theorem dX8_child_42 : decode cX8_child 42 = .ok (.iconst 0, 1) := by decide +kernel
theorem dX8_child_43 : decode cX8_child 43 = .ok (.iaload, 1) := by decide +kernel
theorem dX8_child_44 : decode cX8_child 44 = .ok (.iload_n 1, 1) := by decide +kernel
theorem dX8_child_45 : decode cX8_child 45 = .ok (.iastore, 1) := by decide +kernel
theorem dX8_child_46 : decode cX8_child 46 = .ok (.aload_n 0, 1) := by decide +kernel
theorem dX8_child_47 : decode cX8_child 47 = .ok (.getfield 16, 3) := by decide +kernel
theorem dX8_child_50 : decode cX8_child 50 = .ok (.aload_n 0, 1) := by decide +kernel
theorem dX8_child_51 : decode cX8_child 51 = .ok (.getfield 7, 3) := by decide +kernel
theorem dX8_child_54 : decode cX8_child 54 = .ok (.iconst 0, 1) := by decide +kernel
theorem dX8_child_55 : decode cX8_child 55 = .ok (.iaload, 1) := by decide +kernel
theorem dX8_child_56 : decode cX8_child 56 = .ok (.iload_n 2, 1) := by decide +kernel
theorem dX8_child_57 : decode cX8_child 57 = .ok (.iastore, 1) := by decide +kernel
theorem dX8_child_58 : decode cX8_child 58 = .ok (.aload_n 0, 1) := by decide +kernel
theorem dX8_child_59 : decode cX8_child 59 = .ok (.iconst 0, 1) := by decide +kernel
theorem dX8_child_60 : decode cX8_child 60 = .ok (.invokevirtual 82, 3) := by decide +kernel
theorem dX8_child_63 : decode cX8_child 63 = .ok (.ireturn, 1) := by decide +kernel
theorem dX8_change_0 : decode cX8_change 0 = .ok (.aload_n 0, 1) := by decide +kernel
theorem dX8_change_1 : decode cX8_change 1 = .ok (.iconst 0, 1) := by decide +kernel
theorem dX8_change_2 : decode cX8_change 2 = .ok (.iload_n 1, 1) := by decide +kernel
theorem dX8_change_3 : decode cX8_change 3 = .ok (.invokevirtual 86, 3) := by decide +kernel
theorem dX8_change_6 : decode cX8_change 6 = .ok (.ifCond .eq 39, 3) := by decide +kernel
theorem dX8_change_9 : decode cX8_change 9 = .ok (.iload_n 2, 1) := by decide +kernel
theorem dX8_change_10 : decode cX8_change 10 = .ok (.iconst 0, 1) := by decide +kernel
theorem dX8_change_11 : decode cX8_change 11 = .ok (.iconst 1, 1) := by decide +kernel
theorem dX8_change_12 : decode cX8_change 12 = .ok (.invokestatic 74, 3) := by decide +kernel
theorem dX8_change_15 : decode cX8_change 15 = .ok (.ifCond .eq 30, 3) := by decide +kernel
theorem dX8_change_18 : decode cX8_change 18 = .ok (.iload_n 3, 1) := by decide +kernel
theorem dX8_change_19 : decode cX8_change 19 = .ok (.iload_n 2, 1) := by decide +kernel
theorem dX8_change_20 : decode cX8_change 20 = .ok (.ifCond .ne 8, 3) := by decide +kernel
theorem dX8_change_23 : decode cX8_change 23 = .ok (.bipush 6, 2) := by decide +kernel
theorem dX8_change_25 : decode cX8_change 25 = .ok (.goto 4, 3) := by decide +kernel
theorem dX8_change_28 : decode cX8_change 28 = .ok (.iconst 0, 1) := by decide +kernel
theorem dX8_change_29 : decode cX8_change 29 = .ok (.iload_n 2, 1) := by decide +kernel
theorem dX8_change_30 : decode cX8_change 30 = .ok (.ifCond .ne 8, 3) := by decide +kernel
theorem dX8_change_33 : decode cX8_change 33 = .ok (.bipush 18, 2) := by decide +kernel
theorem dX8_change_35 : decode cX8_change 35 = .ok (.goto 4, 3) := by decide +kernel
theorem dX8_change_38 : decode cX8_change 38 = .ok (.iconst 3, 1) := by decide +kernel
theorem dX8_change_39 : decode cX8_change 39 = .ok (.invokestatic 74, 3) := by decide +kernel
theorem dX8_change_42 : decode cX8_change 42 = .ok (.ifCond .ne 5, 3) := by decide +kernel
theorem dX8_change_45 : decode cX8_change 45 = .ok (.iconst (-1), 1) := by decide +kernel
theorem dX8_change_46 : decode cX8_change 46 = .ok (.ireturn, 1) := by decide +kernel
theorem dX8_change_47 : decode cX8_change 47 = .ok (.iload_n 2, 1) := by decide +kernel
theorem dX8_change_48 : decode cX8_change 48 = .ok (.ifCond .ne 12, 3) := by decide +kernel
theorem dX8_change_51 : decode cX8_change 51 = .ok (.aload_n 0, 1) := by decide +kernel
theorem dX8_change_52 : decode cX8_change 52 = .ok (.getfield 13, 3) := by decide +kernel
theorem dX8_change_55 : decode cX8_change 55 = .ok (.iload_n 1, 1) := by decide +kernel
theorem dX8_change_56 : decode cX8_change 56 = .ok (.iaload, 1) := by decide +kernel
theorem dX8_change_57 : decode cX8_change 57 = .ok (.goto 9, 3) := by decide +kernel
theorem dX8_change_60 : decode cX8_change 60 = .ok (.aload_n 0, 1) := by decide +kernel
theorem dX8_change_61 : decode cX8_change 61 = .ok (.getfield 16, 3) := by decide +kernel
theorem dX8_change_64 : decode cX8_change 64 = .ok (.iload_n 1, 1) := by decide +kernel
theorem dX8_change_65 : decode cX8_change 65 = .ok (.iaload, 1) := by decide +kernel
theorem dX8_change_66 : decode cX8_change 66 = .ok (.istore 4, 2) := by decide +kernel
theorem dX8_change_68 : decode cX8_change 68 = .ok (.iload_n 2, 1) := by decide +kernel
theorem dX8_change_69 : decode cX8_change 69 = .ok (.ifCond .ne 13, 3) := by decide +kernel
theorem dX8_change_72 : decode cX8_change 72 = .ok (.aload_n 0, 1) := by decide +kernel
theorem dX8_change_73 : decode cX8_change 73 = .ok (.getfield 13, 3) := by decide +kernel
theorem dX8_change_76 : decode cX8_change 76 = .ok (.iload_n 1, 1) := by decide +kernel
theorem dX8_change_77 : decode cX8_change 77 = .ok (.iload_n 3, 1) := by decide +kernel
theorem dX8_change_78 : decode cX8_change 78 = .ok (.iastore, 1) := by decide +kernel
theorem dX8_change_79 : decode cX8_change 79 = .ok (.goto 10, 3) := by decide +kernel
theorem dX8_change_82 : decode cX8_change 82 = .ok (.aload_n 0, 1) := by decide +kernel
theorem dX8_change_83 : decode cX8_change 83 = .ok (.getfield 16, 3) := by decide +kernel
theorem dX8_change_86 : decode cX8_change 86 = .ok (.iload_n 1, 1) := by decide +kernel
theorem dX8_change_87 : decode cX8_change 87 = .ok (.iload_n 3, 1) := by decide +kernel
theorem dX8_change_88 : decode cX8_change 88 = .ok (.iastore, 1) := by decide +kernel
theorem dX8_change_89 : decode cX8_change 89 = .ok (.iload 4, 2) := by decide +kernel
theorem dX8_change_91 : decode cX8_change 91 = .ok (.ireturn, 1) := by decide +kernel
theorem dX8_leader_0 : decode cX8_leader 0 = .ok (.aload_n 0, 1) := by decide +kernel
theorem dX8_leader_1 : decode cX8_leader 1 = .ok (.getfield 7, 3) := by decide +kernel
theorem dX8_leader_4 : decode cX8_leader 4 = .ok (.iconst 1, 1) := by decide +kernel
