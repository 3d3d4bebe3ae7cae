theorem dX8_leader_5 : decode cX8_leader 5 = .ok (.iaload, 1) := by decide +kernel
theorem dX8_leader_6 : decode cX8_leader 6 = .ok (.iconst 5, 1) := by decide +kernel
theorem dX8_leader_7 : decode cX8_leader 7 = .ok (.if_icmp .ne 6, 3) := by decide +kernel
theorem dX8_leader_10 : decode cX8_leader 10 = .ok (.bipush (-2), 2) := by decide +kernel
theorem dX8_leader_12 : decode cX8_leader 12 = .ok (.ireturn, 1) := by decide +kernel
theorem dX8_leader_13 : decode cX8_leader 13 = .ok (.aload_n 0, 1) := by decide +kernel
theorem dX8_leader_14 : decode cX8_leader 14 = .ok (.getfield 7, 3) := by decide +kernel
theorem dX8_leader_17 : decode cX8_leader 17 = .ok (.iconst 1, 1) := by decide +kernel
theorem dX8_leader_18 : decode cX8_leader 18 = .ok (.iaload, 1) := by decide +kernel
theorem dX8_leader_19 : decode cX8_leader 19 = .ok (.istore_n 1, 1) := by decide +kernel
theorem dX8_leader_20 : decode cX8_leader 20 = .ok (.aload_n 0, 1) := by decide +kernel
theorem dX8_leader_21 : decode cX8_leader 21 = .ok (.getfield 25, 3) := by decide +kernel
theorem dX8_leader_24 : decode cX8_leader 24 = .ok (.iload_n 1, 1) := by decide +kernel
theorem dX8_leader_25 : decode cX8_leader 25 = .ok (.iconst 0, 1) := by decide +kernel
theorem dX8_leader_26 : decode cX8_leader 26 = .ok (.iastore, 1) := by decide +kernel
theorem dX8_leader_27 : decode cX8_leader 27 = .ok (.iconst 0, 1) := by decide +kernel
theorem dX8_leader_28 : decode cX8_leader 28 = .ok (.istore_n 2, 1) := by decide +kernel
theorem dX8_leader_29 : decode cX8_leader 29 = .ok (.iload_n 2, 1) := by decide +kernel
theorem dX8_leader_30 : decode cX8_leader 30 = .ok (.iconst 4, 1) := by decide +kernel
theorem dX8_leader_31 : decode cX8_leader 31 = .ok (.if_icmp .ge 20, 3) := by decide +kernel
theorem dX8_leader_34 : decode cX8_leader 34 = .ok (.aload_n 0, 1) := by decide +kernel
theorem dX8_leader_35 : decode cX8_leader 35 = .ok (.getfield 19, 3) := by decide +kernel
theorem dX8_leader_38 : decode cX8_leader 38 = .ok (.iconst 4, 1) := by decide +kernel
theorem dX8_leader_39 : decode cX8_leader 39 = .ok (.iload_n 1, 1) := by decide +kernel
theorem dX8_leader_40 : decode cX8_leader 40 = .ok (.imul, 1) := by decide +kernel
theorem dX8_leader_41 : decode cX8_leader 41 = .ok (.iload_n 2, 1) := by decide +kernel
theorem dX8_leader_42 : decode cX8_leader 42 = .ok (.iadd, 1) := by decide +kernel
theorem dX8_leader_43 : decode cX8_leader 43 = .ok (.iconst (-1), 1) := by decide +kernel
theorem dX8_leader_44 : decode cX8_leader 44 = .ok (.iastore, 1) := by decide +kernel
theorem dX8_leader_45 : decode cX8_leader 45 = .ok (.iinc 2 1, 3) := by decide +kernel
theorem dX8_leader_48 : decode cX8_leader 48 = .ok (.goto (-19), 3) := by decide +kernel
theorem dX8_leader_51 : decode cX8_leader 51 = .ok (.aload_n 0, 1) := by decide +kernel
theorem dX8_leader_52 : decode cX8_leader 52 = .ok (.iconst 1, 1) := by decide +kernel
theorem dX8_leader_53 : decode cX8_leader 53 = .ok (.invokevirtual 82, 3) := by decide +kernel
theorem dX8_leader_56 : decode cX8_leader 56 = .ok (.ireturn, 1) := by decide +kernel
theorem dX8_paper_0 : decode cX8_paper 0 = .ok (.aload_n 0, 1) := by decide +kernel
theorem dX8_paper_1 : decode cX8_paper 1 = .ok (.iconst 1, 1) := by decide +kernel
theorem dX8_paper_2 : decode cX8_paper 2 = .ok (.iload_n 1, 1) := by decide +kernel
theorem dX8_paper_3 : decode cX8_paper 3 = .ok (.invokevirtual 86, 3) := by decide +kernel
theorem dX8_paper_6 : decode cX8_paper 6 = .ok (.ifCond .eq 33, 3) := by decide +kernel
theorem dX8_paper_9 : decode cX8_paper 9 = .ok (.iload_n 2, 1) := by decide +kernel
theorem dX8_paper_10 : decode cX8_paper 10 = .ok (.iconst 0, 1) := by decide +kernel
theorem dX8_paper_11 : decode cX8_paper 11 = .ok (.iconst 3, 1) := by decide +kernel
theorem dX8_paper_12 : decode cX8_paper 12 = .ok (.invokestatic 74, 3) := by decide +kernel
theorem dX8_paper_15 : decode cX8_paper 15 = .ok (.ifCond .eq 24, 3) := by decide +kernel
theorem dX8_paper_18 : decode cX8_paper 18 = .ok (.iload_n 3, 1) := by decide +kernel
theorem dX8_paper_19 : decode cX8_paper 19 = .ok (.invokestatic 90, 3) := by decide +kernel
theorem dX8_paper_22 : decode cX8_paper 22 = .ok (.ifCond .eq 17, 3) := by decide +kernel
theorem dX8_paper_25 : decode cX8_paper 25 = .ok (.iload 4, 2) := by decide +kernel
theorem dX8_paper_27 : decode cX8_paper 27 = .ok (.invokestatic 90, 3) := by decide +kernel
theorem dX8_paper_30 : decode cX8_paper 30 = .ok (.ifCond .eq 9, 3) := by decide +kernel
theorem dX8_paper_33 : decode cX8_paper 33 = .ok (.iload_n 3, 1) := by decide +kernel
theorem dX8_paper_34 : decode cX8_paper 34 = .ok (.iload 4, 2) := by decide +kernel
theorem dX8_paper_36 : decode cX8_paper 36 = .ok (.if_icmp .le 5, 3) := by decide +kernel
theorem dX8_paper_39 : decode cX8_paper 39 = .ok (.iconst (-1), 1) := by decide +kernel
theorem dX8_paper_40 : decode cX8_paper 40 = .ok (.ireturn, 1) := by decide +kernel
theorem dX8_paper_41 : decode cX8_paper 41 = .ok (.aload_n 0, 1) := by decide +kernel
theorem dX8_paper_42 : decode cX8_paper 42 = .ok (.getfield 19, 3) := by decide +kernel
theorem dX8_paper_45 : decode cX8_paper 45 = .ok (.iconst 4, 1) := by decide +kernel
theorem dX8_paper_46 : decode cX8_paper 46 = .ok (.iload_n 1, 1) := by decide +kernel
theorem dX8_paper_47 : decode cX8_paper 47 = .ok (.imul, 1) := by decide +kernel
theorem dX8_paper_48 : decode cX8_paper 48 = .ok (.iload_n 2, 1) := by decide +kernel
theorem dX8_paper_49 : decode cX8_paper 49 = .ok (.iadd, 1) := by decide +kernel
theorem dX8_paper_50 : decode cX8_paper 50 = .ok (.iload_n 3, 1) := by decide +kernel
theorem dX8_paper_51 : decode cX8_paper 51 = .ok (.iastore, 1) := by decide +kernel
theorem dX8_paper_52 : decode cX8_paper 52 = .ok (.aload_n 0, 1) := by decide +kernel
theorem dX8_paper_53 : decode cX8_paper 53 = .ok (.getfield 22, 3) := by decide +kernel
theorem dX8_paper_56 : decode cX8_paper 56 = .ok (.iconst 4, 1) := by decide +kernel
theorem dX8_paper_57 : decode cX8_paper 57 = .ok (.iload_n 1, 1) := by decide +kernel
theorem dX8_paper_58 : decode cX8_paper 58 = .ok (.imul, 1) := by decide +kernel
theorem dX8_paper_59 : decode cX8_paper 59 = .ok (.iload_n 2, 1) := by decide +kernel
theorem dX8_paper_60 : decode cX8_paper 60 = .ok (.iadd, 1) := by decide +kernel
theorem dX8_paper_61 : decode cX8_paper 61 = .ok (.iload 4, 2) := by decide +kernel
theorem dX8_paper_63 : decode cX8_paper 63 = .ok (.iastore, 1) := by decide +kernel
theorem dX8_paper_64 : decode cX8_paper 64 = .ok (.iconst 1, 1) := by decide +kernel
theorem dX8_paper_65 : decode cX8_paper 65 = .ok (.ireturn, 1) := by decide +kernel
theorem dX8_lose_0 : decode cX8_lose 0 = .ok (.aload_n 0, 1) := by decide +kernel
theorem dX8_lose_1 : decode cX8_lose 1 = .ok (.iconst 1, 1) := by decide +kernel
theorem dX8_lose_2 : decode cX8_lose 2 = .ok (.iload_n 1, 1) := by decide +kernel
theorem dX8_lose_3 : decode cX8_lose 3 = .ok (.invokevirtual 86, 3) := by decide +kernel
theorem dX8_lose_6 : decode cX8_lose 6 = .ok (.ifCond .eq 12, 3) := by decide +kernel
theorem dX8_lose_9 : decode cX8_lose 9 = .ok (.iload_n 2, 1) := by decide +kernel
theorem dX8_lose_10 : decode cX8_lose 10 = .ok (.iconst 0, 1) := by decide +kernel
theorem dX8_lose_11 : decode cX8_lose 11 = .ok (.iconst 3, 1) := by decide +kernel
theorem dX8_lose_12 : decode cX8_lose 12 = .ok (.invokestatic 74, 3) := by decide +kernel
theorem dX8_lose_15 : decode cX8_lose 15 = .ok (.ifCond .ne 5, 3) := by decide +kernel
theorem dX8_lose_18 : decode cX8_lose 18 = .ok (.iconst (-1), 1) := by decide +kernel
theorem dX8_lose_19 : decode cX8_lose 19 = .ok (.ireturn, 1) := by decide +kernel
theorem dX8_lose_20 : decode cX8_lose 20 = .ok (.aload_n 0, 1) := by decide +kernel
theorem dX8_lose_21 : decode cX8_lose 21 = .ok (.getfield 19, 3) := by decide +kernel
theorem dX8_lose_24 : decode cX8_lose 24 = .ok (.iconst 4, 1) := by decide +kernel
theorem dX8_lose_25 : decode cX8_lose 25 = .ok (.iload_n 1, 1) := by decide +kernel
theorem dX8_lose_26 : decode cX8_lose 26 = .ok (.imul, 1) := by decide +kernel
theorem dX8_lose_27 : decode cX8_lose 27 = .ok (.iload_n 2, 1) := by decide +kernel
theorem dX8_lose_28 : decode cX8_lose 28 = .ok (.iadd, 1) := by decide +kernel
theorem dX8_lose_29 : decode cX8_lose 29 = .ok (.iaload, 1) := by decide +kernel
theorem dX8_lose_30 : decode cX8_lose 30 = .ok (.ifCond .ge 6, 3) := by decide +kernel
theorem dX8_lose_33 : decode cX8_lose 33 = .ok (.bipush (-3), 2) := by decide +kernel
theorem dX8_lose_35 : decode cX8_lose 35 = .ok (.ireturn, 1) := by decide +kernel
theorem dX8_lose_36 : decode cX8_lose 36 = .ok (.aload_n 0, 1) := by decide +kernel
theorem dX8_lose_37 : decode cX8_lose 37 = .ok (.getfield 19, 3) := by decide +kernel
theorem dX8_lose_40 : decode cX8_lose 40 = .ok (.iconst 4, 1) := by decide +kernel
theorem dX8_lose_41 : decode cX8_lose 41 = .ok (.iload_n 1, 1) := by decide +kernel
theorem dX8_lose_42 : decode cX8_lose 42 = .ok (.imul, 1) := by decide +kernel
theorem dX8_lose_43 : decode cX8_lose 43 = .ok (.iload_n 2, 1) := by decide +kernel
theorem dX8_lose_44 : decode cX8_lose 44 = .ok (.iadd, 1) := by decide +kernel
theorem dX8_lose_45 : decode cX8_lose 45 = .ok (.iconst (-1), 1) := by decide +kernel
theorem dX8_lose_46 : decode cX8_lose 46 = .ok (.iastore, 1) := by decide +kernel
theorem dX8_lose_47 : decode cX8_lose 47 = .ok (.iconst 1, 1) := by decide +kernel
theorem dX8_lose_48 : decode cX8_lose 48 = .ok (.ireturn, 1) := by decide +kernel
theorem dX8_task_0 : decode cX8_task 0 = .ok (.iload_n 1, 1) := by decide +kernel
theorem dX8_task_1 : decode cX8_task 1 = .ok (.iconst 0, 1) := by decide +kernel
theorem dX8_task_2 : decode cX8_task 2 = .ok (.iconst 3, 1) := by decide +kernel
theorem dX8_task_3 : decode cX8_task 3 = .ok (.invokestatic 74, 3) := by decide +kernel
theorem dX8_task_6 : decode cX8_task 6 = .ok (.ifCond .eq 17, 3) := by decide +kernel
theorem dX8_task_9 : decode cX8_task 9 = .ok (.iload_n 2, 1) := by decide +kernel
theorem dX8_task_10 : decode cX8_task 10 = .ok (.iconst (-1), 1) := by decide +kernel
theorem dX8_task_11 : decode cX8_task 11 = .ok (.if_icmp .eq 14, 3) := by decide +kernel
theorem dX8_task_14 : decode cX8_task 14 = .ok (.aload_n 0, 1) := by decide +kernel
theorem dX8_task_15 : decode cX8_task 15 = .ok (.iconst 2, 1) := by decide +kernel
theorem dX8_task_16 : decode cX8_task 16 = .ok (.iload_n 2, 1) := by decide +kernel
theorem dX8_task_17 : decode cX8_task 17 = .ok (.invokevirtual 86, 3) := by decide +kernel
theorem dX8_task_20 : decode cX8_task 20 = .ok (.ifCond .ne 5, 3) := by decide +kernel
theorem dX8_task_23 : decode cX8_task 23 = .ok (.iconst (-1), 1) := by decide +kernel
theorem dX8_task_24 : decode cX8_task 24 = .ok (.ireturn, 1) := by decide +kernel
theorem dX8_task_25 : decode cX8_task 25 = .ok (.aload_n 0, 1) := by decide +kernel
theorem dX8_task_26 : decode cX8_task 26 = .ok (.getfield 7, 3) := by decide +kernel
theorem dX8_task_29 : decode cX8_task 29 = .ok (.iconst 2, 1) := by decide +kernel
theorem dX8_task_30 : decode cX8_task 30 = .ok (.iaload, 1) := by decide +kernel
theorem dX8_task_31 : decode cX8_task 31 = .ok (.bipush 10, 2) := by decide +kernel
theorem dX8_task_33 : decode cX8_task 33 = .ok (.if_icmp .ne 6, 3) := by decide +kernel
theorem dX8_task_36 : decode cX8_task 36 = .ok (.bipush (-2), 2) := by decide +kernel
theorem dX8_task_38 : decode cX8_task 38 = .ok (.ireturn, 1) := by decide +kernel
theorem dX8_task_39 : decode cX8_task 39 = .ok (.aload_n 0, 1) := by decide +kernel
theorem dX8_task_40 : decode cX8_task 40 = .ok (.getfield 28, 3) := by decide +kernel
theorem dX8_task_43 : decode cX8_task 43 = .ok (.aload_n 0, 1) := by decide +kernel
theorem dX8_task_44 : decode cX8_task 44 = .ok (.getfield 7, 3) := by decide +kernel
theorem dX8_task_47 : decode cX8_task 47 = .ok (.iconst 2, 1) := by decide +kernel
theorem dX8_task_48 : decode cX8_task 48 = .ok (.iaload, 1) := by decide +kernel
theorem dX8_task_49 : decode cX8_task 49 = .ok (.iload_n 1, 1) := by decide +kernel
theorem dX8_task_50 : decode cX8_task 50 = .ok (.iastore, 1) := by decide +kernel
theorem dX8_task_51 : decode cX8_task 51 = .ok (.aload_n 0, 1) := by decide +kernel
theorem dX8_task_52 : decode cX8_task 52 = .ok (.getfield 31, 3) := by decide +kernel
theorem dX8_task_55 : decode cX8_task 55 = .ok (.aload_n 0, 1) := by decide +kernel
theorem dX8_task_56 : decode cX8_task 56 = .ok (.getfield 7, 3) := by decide +kernel
theorem dX8_task_59 : decode cX8_task 59 = .ok (.iconst 2, 1) := by decide +kernel
theorem dX8_task_60 : decode cX8_task 60 = .ok (.iaload, 1) := by decide +kernel
theorem dX8_task_61 : decode cX8_task 61 = .ok (.iload_n 2, 1) := by decide +kernel
theorem dX8_task_62 : decode cX8_task 62 = .ok (.iastore, 1) := by decide +kernel
theorem dX8_task_63 : decode cX8_task 63 = .ok (.aload_n 0, 1) := by decide +kernel
theorem dX8_task_64 : decode cX8_task 64 = .ok (.iconst 2, 1) := by decide +kernel
theorem dX8_task_65 : decode cX8_task 65 = .ok (.invokevirtual 82, 3) := by decide +kernel
theorem dX8_task_68 : decode cX8_task 68 = .ok (.ireturn, 1) := by decide +kernel
theorem dX8_badge_0 : decode cX8_badge 0 = .ok (.iload_n 1, 1) := by decide +kernel
theorem dX8_badge_1 : decode cX8_badge 1 = .ok (.iconst 0, 1) := by decide +kernel
theorem dX8_badge_2 : decode cX8_badge 2 = .ok (.sipush 1023, 3) := by decide +kernel
theorem dX8_badge_5 : decode cX8_badge 5 = .ok (.invokestatic 74, 3) := by decide +kernel
theorem dX8_badge_8 : decode cX8_badge 8 = .ok (.ifCond .eq 52, 3) := by decide +kernel
theorem dX8_badge_11 : decode cX8_badge 11 = .ok (.iload_n 2, 1) := by decide +kernel
theorem dX8_badge_12 : decode cX8_badge 12 = .ok (.iconst 0, 1) := by decide +kernel
theorem dX8_badge_13 : decode cX8_badge 13 = .ok (.sipush 1023, 3) := by decide +kernel
theorem dX8_badge_16 : decode cX8_badge 16 = .ok (.invokestatic 74, 3) := by decide +kernel
theorem dX8_badge_19 : decode cX8_badge 19 = .ok (.ifCond .eq 41, 3) := by decide +kernel
theorem dX8_badge_22 : decode cX8_badge 22 = .ok (.iload_n 3, 1) := by decide +kernel
theorem dX8_badge_23 : decode cX8_badge 23 = .ok (.iconst 0, 1) := by decide +kernel
theorem dX8_badge_24 : decode cX8_badge 24 = .ok (.bipush 10, 2) := by decide +kernel
theorem dX8_badge_26 : decode cX8_badge 26 = .ok (.invokestatic 74, 3) := by decide +kernel
theorem dX8_badge_29 : decode cX8_badge 29 = .ok (.ifCond .eq 31, 3) := by decide +kernel
theorem dX8_badge_32 : decode cX8_badge 32 = .ok (.iload 4, 2) := by decide +kernel
theorem dX8_badge_34 : decode cX8_badge 34 = .ok (.bipush 6, 2) := by decide +kernel
theorem dX8_badge_36 : decode cX8_badge 36 = .ok (.bipush 18, 2) := by decide +kernel
theorem dX8_badge_38 : decode cX8_badge 38 = .ok (.invokestatic 74, 3) := by decide +kernel
theorem dX8_badge_41 : decode cX8_badge 41 = .ok (.ifCond .eq 19, 3) := by decide +kernel
theorem dX8_badge_44 : decode cX8_badge 44 = .ok (.iload 5, 2) := by decide +kernel
theorem dX8_badge_46 : decode cX8_badge 46 = .ok (.iconst (-1), 1) := by decide +kernel
theorem dX8_badge_47 : decode cX8_badge 47 = .ok (.if_icmp .eq 15, 3) := by decide +kernel
theorem dX8_badge_50 : decode cX8_badge 50 = .ok (.aload_n 0, 1) := by decide +kernel
theorem dX8_badge_51 : decode cX8_badge 51 = .ok (.iconst 4, 1) := by decide +kernel
theorem dX8_badge_52 : decode cX8_badge 52 = .ok (.iload 5, 2) := by decide +kernel
theorem dX8_badge_54 : decode cX8_badge 54 = .ok (.invokevirtual 86, 3) := by decide +kernel
theorem dX8_badge_57 : decode cX8_badge 57 = .ok (.ifCond .ne 5, 3) := by decide +kernel
theorem dX8_badge_60 : decode cX8_badge 60 = .ok (.iconst (-1), 1) := by decide +kernel
theorem dX8_badge_61 : decode cX8_badge 61 = .ok (.ireturn, 1) := by decide +kernel
theorem dX8_badge_62 : decode cX8_badge 62 = .ok (.aload_n 0, 1) := by decide +kernel
theorem dX8_badge_63 : decode cX8_badge 63 = .ok (.getfield 7, 3) := by decide +kernel
theorem dX8_badge_66 : decode cX8_badge 66 = .ok (.iconst 4, 1) := by decide +kernel
theorem dX8_badge_67 : decode cX8_badge 67 = .ok (.iaload, 1) := by decide +kernel
theorem dX8_badge_68 : decode cX8_badge 68 = .ok (.bipush 8, 2) := by decide +kernel
theorem dX8_badge_70 : decode cX8_badge 70 = .ok (.if_icmp .ne 6, 3) := by decide +kernel
theorem dX8_badge_73 : decode cX8_badge 73 = .ok (.bipush (-2), 2) := by decide +kernel
theorem dX8_badge_75 : decode cX8_badge 75 = .ok (.ireturn, 1) := by decide +kernel
theorem dX8_badge_76 : decode cX8_badge 76 = .ok (.iconst 5, 1) := by decide +kernel
theorem dX8_badge_77 : decode cX8_badge 77 = .ok (.aload_n 0, 1) := by decide +kernel
theorem dX8_badge_78 : decode cX8_badge 78 = .ok (.getfield 7, 3) := by decide +kernel
theorem dX8_badge_81 : decode cX8_badge 81 = .ok (.iconst 4, 1) := by decide +kernel
theorem dX8_badge_82 : decode cX8_badge 82 = .ok (.iaload, 1) := by decide +kernel
theorem dX8_badge_83 : decode cX8_badge 83 = .ok (.imul, 1) := by decide +kernel
theorem dX8_badge_84 : decode cX8_badge 84 = .ok (.istore 6, 2) := by decide +kernel
theorem dX8_badge_86 : decode cX8_badge 86 = .ok (.aload_n 0, 1) := by decide +kernel
theorem dX8_badge_87 : decode cX8_badge 87 = .ok (.getfield 34, 3) := by decide +kernel
theorem dX8_badge_90 : decode cX8_badge 90 = .ok (.iload 6, 2) := by decide +kernel
theorem dX8_badge_92 : decode cX8_badge 92 = .ok (.iload_n 1, 1) := by decide +kernel
theorem dX8_badge_93 : decode cX8_badge 93 = .ok (.iastore, 1) := by decide +kernel
theorem dX8_badge_94 : decode cX8_badge 94 = .ok (.aload_n 0, 1) := by decide +kernel
theorem dX8_badge_95 : decode cX8_badge 95 = .ok (.getfield 34, 3) := by decide +kernel
theorem dX8_badge_98 : decode cX8_badge 98 = .ok (.iload 6, 2) := by decide +kernel
theorem dX8_badge_100 : decode cX8_badge 100 = .ok (.iconst 1, 1) := by decide +kernel
theorem dX8_badge_101 : decode cX8_badge 101 = .ok (.iadd, 1) := by decide +kernel
theorem dX8_badge_102 : decode cX8_badge 102 = .ok (.iload_n 2, 1) := by decide +kernel
theorem dX8_badge_103 : decode cX8_badge 103 = .ok (.iastore, 1) := by decide +kernel
theorem dX8_badge_104 : decode cX8_badge 104 = .ok (.aload_n 0, 1) := by decide +kernel
theorem dX8_badge_105 : decode cX8_badge 105 = .ok (.getfield 34, 3) := by decide +kernel
theorem dX8_badge_108 : decode cX8_badge 108 = .ok (.iload 6, 2) := by decide +kernel
theorem dX8_badge_110 : decode cX8_badge 110 = .ok (.iconst 2, 1) := by decide +kernel
theorem dX8_badge_111 : decode cX8_badge 111 = .ok (.iadd, 1) := by decide +kernel
theorem dX8_badge_112 : decode cX8_badge 112 = .ok (.iload_n 3, 1) := by decide +kernel
theorem dX8_badge_113 : decode cX8_badge 113 = .ok (.iastore, 1) := by decide +kernel
theorem dX8_badge_114 : decode cX8_badge 114 = .ok (.aload_n 0, 1) := by decide +kernel
theorem dX8_badge_115 : decode cX8_badge 115 = .ok (.getfield 34, 3) := by decide +kernel
theorem dX8_badge_118 : decode cX8_badge 118 = .ok (.iload 6, 2) := by decide +kernel
theorem dX8_badge_120 : decode cX8_badge 120 = .ok (.iconst 3, 1) := by decide +kernel
theorem dX8_badge_121 : decode cX8_badge 121 = .ok (.iadd, 1) := by decide +kernel
theorem dX8_badge_122 : decode cX8_badge 122 = .ok (.iload 4, 2) := by decide +kernel
theorem dX8_badge_124 : decode cX8_badge 124 = .ok (.iastore, 1) := by decide +kernel
theorem dX8_badge_125 : decode cX8_badge 125 = .ok (.aload_n 0, 1) := by decide +kernel
theorem dX8_badge_126 : decode cX8_badge 126 = .ok (.getfield 34, 3) := by decide +kernel
theorem dX8_badge_129 : decode cX8_badge 129 = .ok (.iload 6, 2) := by decide +kernel
theorem dX8_badge_131 : decode cX8_badge 131 = .ok (.iconst 4, 1) := by decide +kernel
theorem dX8_badge_132 : decode cX8_badge 132 = .ok (.iadd, 1) := by decide +kernel
theorem dX8_badge_133 : decode cX8_badge 133 = .ok (.iload 5, 2) := by decide +kernel
theorem dX8_badge_135 : decode cX8_badge 135 = .ok (.iastore, 1) := by decide +kernel
theorem dX8_badge_136 : decode cX8_badge 136 = .ok (.aload_n 0, 1) := by decide +kernel
theorem dX8_badge_137 : decode cX8_badge 137 = .ok (.iconst 4, 1) := by decide +kernel
theorem dX8_badge_138 : decode cX8_badge 138 = .ok (.invokevirtual 82, 3) := by decide +kernel
theorem dX8_badge_141 : decode cX8_badge 141 = .ok (.ireturn, 1) := by decide +kernel
theorem dX8_sign_0 : decode cX8_sign 0 = .ok (.aload_n 0, 1) := by decide +kernel
theorem dX8_sign_1 : decode cX8_sign 1 = .ok (.iconst 0, 1) := by decide +kernel
theorem dX8_sign_2 : decode cX8_sign 2 = .ok (.iload_n 1, 1) := by decide +kernel
theorem dX8_sign_3 : decode cX8_sign 3 = .ok (.invokevirtual 86, 3) := by decide +kernel
theorem dX8_sign_6 : decode cX8_sign 6 = .ok (.ifCond .eq 29, 3) := by decide +kernel
theorem dX8_sign_9 : decode cX8_sign 9 = .ok (.aload_n 0, 1) := by decide +kernel
theorem dX8_sign_10 : decode cX8_sign 10 = .ok (.iconst 2, 1) := by decide +kernel
theorem dX8_sign_11 : decode cX8_sign 11 = .ok (.iload_n 2, 1) := by decide +kernel
theorem dX8_sign_12 : decode cX8_sign 12 = .ok (.invokevirtual 86, 3) := by decide +kernel
theorem dX8_sign_15 : decode cX8_sign 15 = .ok (.ifCond .eq 20, 3) := by decide +kernel
theorem dX8_sign_18 : decode cX8_sign 18 = .ok (.aload_n 0, 1) := by decide +kernel
theorem dX8_sign_19 : decode cX8_sign 19 = .ok (.iconst 1, 1) := by decide +kernel
theorem dX8_sign_20 : decode cX8_sign 20 = .ok (.iload_n 3, 1) := by decide +kernel
theorem dX8_sign_21 : decode cX8_sign 21 = .ok (.invokevirtual 86, 3) := by decide +kernel
theorem dX8_sign_24 : decode cX8_sign 24 = .ok (.ifCond .eq 11, 3) := by decide +kernel
theorem dX8_sign_27 : decode cX8_sign 27 = .ok (.iload 4, 2) := by decide +kernel
theorem dX8_sign_29 : decode cX8_sign 29 = .ok (.invokestatic 90, 3) := by decide +kernel
theorem dX8_sign_32 : decode cX8_sign 32 = .ok (.ifCond .ne 5, 3) := by decide +kernel
theorem dX8_sign_35 : decode cX8_sign 35 = .ok (.iconst (-1), 1) := by decide +kernel
theorem dX8_sign_36 : decode cX8_sign 36 = .ok (.ireturn, 1) := by decide +kernel
theorem dX8_sign_37 : decode cX8_sign 37 = .ok (.aload_n 0, 1) := by decide +kernel
theorem dX8_sign_38 : decode cX8_sign 38 = .ok (.getfield 7, 3) := by decide +kernel
theorem dX8_sign_41 : decode cX8_sign 41 = .ok (.iconst 3, 1) := by decide +kernel
theorem dX8_sign_42 : decode cX8_sign 42 = .ok (.iaload, 1) := by decide +kernel
theorem dX8_sign_43 : decode cX8_sign 43 = .ok (.bipush 80, 2) := by decide +kernel
theorem dX8_sign_45 : decode cX8_sign 45 = .ok (.if_icmp .ne 6, 3) := by decide +kernel
theorem dX8_sign_48 : decode cX8_sign 48 = .ok (.bipush (-2), 2) := by decide +kernel
theorem dX8_sign_50 : decode cX8_sign 50 = .ok (.ireturn, 1) := by decide +kernel
theorem dX8_sign_51 : decode cX8_sign 51 = .ok (.iconst 5, 1) := by decide +kernel
theorem dX8_sign_52 : decode cX8_sign 52 = .ok (.aload_n 0, 1) := by decide +kernel
theorem dX8_sign_53 : decode cX8_sign 53 = .ok (.getfield 7, 3) := by decide +kernel
theorem dX8_sign_56 : decode cX8_sign 56 = .ok (.iconst 3, 1) := by decide +kernel
theorem dX8_sign_57 : decode cX8_sign 57 = .ok (.iaload, 1) := by decide +kernel
theorem dX8_sign_58 : decode cX8_sign 58 = .ok (.imul, 1) := by decide +kernel
theorem dX8_sign_59 : decode cX8_sign 59 = .ok (.istore 5, 2) := by decide +kernel
theorem dX8_sign_61 : decode cX8_sign 61 = .ok (.aload_n 0, 1) := by decide +kernel
theorem dX8_sign_62 : decode cX8_sign 62 = .ok (.getfield 37, 3) := by decide +kernel
theorem dX8_sign_65 : decode cX8_sign 65 = .ok (.iload 5, 2) := by decide +kernel
theorem dX8_sign_67 : decode cX8_sign 67 = .ok (.iload_n 1, 1) := by decide +kernel
theorem dX8_sign_68 : decode cX8_sign 68 = .ok (.iastore, 1) := by decide +kernel
theorem dX8_sign_69 : decode cX8_sign 69 = .ok (.aload_n 0, 1) := by decide +kernel
theorem dX8_sign_70 : decode cX8_sign 70 = .ok (.getfield 37, 3) := by decide +kernel
theorem dX8_sign_73 : decode cX8_sign 73 = .ok (.iload 5, 2) := by decide +kernel
theorem dX8_sign_75 : decode cX8_sign 75 = .ok (.iconst 1, 1) := by decide +kernel
theorem dX8_sign_76 : decode cX8_sign 76 = .ok (.iadd, 1) := by decide +kernel
theorem dX8_sign_77 : decode cX8_sign 77 = .ok (.iload_n 2, 1) := by decide +kernel
theorem dX8_sign_78 : decode cX8_sign 78 = .ok (.iastore, 1) := by decide +kernel
theorem dX8_sign_79 : decode cX8_sign 79 = .ok (.aload_n 0, 1) := by decide +kernel
theorem dX8_sign_80 : decode cX8_sign 80 = .ok (.getfield 37, 3) := by decide +kernel
theorem dX8_sign_83 : decode cX8_sign 83 = .ok (.iload 5, 2) := by decide +kernel
theorem dX8_sign_85 : decode cX8_sign 85 = .ok (.iconst 2, 1) := by decide +kernel
theorem dX8_sign_86 : decode cX8_sign 86 = .ok (.iadd, 1) := by decide +kernel
theorem dX8_sign_87 : decode cX8_sign 87 = .ok (.iload_n 3, 1) := by decide +kernel
theorem dX8_sign_88 : decode cX8_sign 88 = .ok (.iastore, 1) := by decide +kernel
theorem dX8_sign_89 : decode cX8_sign 89 = .ok (.aload_n 0, 1) := by decide +kernel
theorem dX8_sign_90 : decode cX8_sign 90 = .ok (.getfield 37, 3) := by decide +kernel
theorem dX8_sign_93 : decode cX8_sign 93 = .ok (.iload 5, 2) := by decide +kernel
theorem dX8_sign_95 : decode cX8_sign 95 = .ok (.iconst 3, 1) := by decide +kernel
theorem dX8_sign_96 : decode cX8_sign 96 = .ok (.iadd, 1) := by decide +kernel
theorem dX8_sign_97 : decode cX8_sign 97 = .ok (.iload 4, 2) := by decide +kernel
theorem dX8_sign_99 : decode cX8_sign 99 = .ok (.iastore, 1) := by decide +kernel
theorem dX8_sign_100 : decode cX8_sign 100 = .ok (.aload_n 0, 1) := by decide +kernel
theorem dX8_sign_101 : decode cX8_sign 101 = .ok (.getfield 37, 3) := by decide +kernel
theorem dX8_sign_104 : decode cX8_sign 104 = .ok (.iload 5, 2) := by decide +kernel
theorem dX8_sign_106 : decode cX8_sign 106 = .ok (.iconst 4, 1) := by decide +kernel
theorem dX8_sign_107 : decode cX8_sign 107 = .ok (.iadd, 1) := by decide +kernel
theorem dX8_sign_108 : decode cX8_sign 108 = .ok (.iconst 0, 1) := by decide +kernel
theorem dX8_sign_109 : decode cX8_sign 109 = .ok (.iastore, 1) := by decide +kernel
theorem dX8_sign_110 : decode cX8_sign 110 = .ok (.aload_n 0, 1) := by decide +kernel
theorem dX8_sign_111 : decode cX8_sign 111 = .ok (.iconst 3, 1) := by decide +kernel
theorem dX8_sign_112 : decode cX8_sign 112 = .ok (.invokevirtual 82, 3) := by decide +kernel
theorem dX8_sign_115 : decode cX8_sign 115 = .ok (.ireturn, 1) := by decide +kernel
theorem dX8_strike_0 : decode cX8_strike 0 = .ok (.aload_n 0, 1) := by decide +kernel
theorem dX8_strike_1 : decode cX8_strike 1 = .ok (.iconst 3, 1) := by decide +kernel
theorem dX8_strike_2 : decode cX8_strike 2 = .ok (.iload_n 1, 1) := by decide +kernel
theorem dX8_strike_3 : decode cX8_strike 3 = .ok (.invokevirtual 86, 3) := by decide +kernel
theorem dX8_strike_6 : decode cX8_strike 6 = .ok (.ifCond .ne 5, 3) := by decide +kernel
theorem dX8_strike_9 : decode cX8_strike 9 = .ok (.iconst (-1), 1) := by decide +kernel
theorem dX8_strike_10 : decode cX8_strike 10 = .ok (.ireturn, 1) := by decide +kernel
theorem dX8_strike_11 : decode cX8_strike 11 = .ok (.aload_n 0, 1) := by decide +kernel
theorem dX8_strike_12 : decode cX8_strike 12 = .ok (.getfield 37, 3) := by decide +kernel
theorem dX8_strike_15 : decode cX8_strike 15 = .ok (.iconst 5, 1) := by decide +kernel
theorem dX8_strike_16 : decode cX8_strike 16 = .ok (.iload_n 1, 1) := by decide +kernel
theorem dX8_strike_17 : decode cX8_strike 17 = .ok (.imul, 1) := by decide +kernel
theorem dX8_strike_18 : decode cX8_strike 18 = .ok (.iconst 4, 1) := by decide +kernel
theorem dX8_strike_19 : decode cX8_strike 19 = .ok (.iadd, 1) := by decide +kernel
theorem dX8_strike_20 : decode cX8_strike 20 = .ok (.iaload, 1) := by decide +kernel
theorem dX8_strike_21 : decode cX8_strike 21 = .ok (.iconst 1, 1) := by decide +kernel
theorem dX8_strike_22 : decode cX8_strike 22 = .ok (.if_icmp .ne 6, 3) := by decide +kernel
theorem dX8_strike_25 : decode cX8_strike 25 = .ok (.bipush (-4), 2) := by decide +kernel
theorem dX8_strike_27 : decode cX8_strike 27 = .ok (.ireturn, 1) := by decide +kernel
theorem dX8_strike_28 : decode cX8_strike 28 = .ok (.aload_n 0, 1) := by decide +kernel
theorem dX8_strike_29 : decode cX8_strike 29 = .ok (.getfield 37, 3) := by decide +kernel
theorem dX8_strike_32 : decode cX8_strike 32 = .ok (.iconst 5, 1) := by decide +kernel
theorem dX8_strike_33 : decode cX8_strike 33 = .ok (.iload_n 1, 1) := by decide +kernel
theorem dX8_strike_34 : decode cX8_strike 34 = .ok (.imul, 1) := by decide +kernel
theorem dX8_strike_35 : decode cX8_strike 35 = .ok (.iconst 4, 1) := by decide +kernel
theorem dX8_strike_36 : decode cX8_strike 36 = .ok (.iadd, 1) := by decide +kernel
theorem dX8_strike_37 : decode cX8_strike 37 = .ok (.iconst 1, 1) := by decide +kernel
theorem dX8_strike_38 : decode cX8_strike 38 = .ok (.iastore, 1) := by decide +kernel
theorem dX8_strike_39 : decode cX8_strike 39 = .ok (.iconst 1, 1) := by decide +kernel
theorem dX8_strike_40 : decode cX8_strike 40 = .ok (.ireturn, 1) := by decide +kernel
theorem dX8_counts_0 : decode cX8_counts 0 = .ok (.aload_n 0, 1) := by decide +kernel
theorem dX8_counts_1 : decode cX8_counts 1 = .ok (.getfield 37, 3) := by decide +kernel
theorem dX8_counts_4 : decode cX8_counts 4 = .ok (.iconst 5, 1) := by decide +kernel
theorem dX8_counts_5 : decode cX8_counts 5 = .ok (.iload_n 1, 1) := by decide +kernel
theorem dX8_counts_6 : decode cX8_counts 6 = .ok (.imul, 1) := by decide +kernel
theorem dX8_counts_7 : decode cX8_counts 7 = .ok (.iconst 1, 1) := by decide +kernel
theorem dX8_counts_8 : decode cX8_counts 8 = .ok (.iadd, 1) := by decide +kernel
theorem dX8_counts_9 : decode cX8_counts 9 = .ok (.iaload, 1) := by decide +kernel
theorem dX8_counts_10 : decode cX8_counts 10 = .ok (.istore_n 2, 1) := by decide +kernel
theorem dX8_counts_11 : decode cX8_counts 11 = .ok (.aload_n 0, 1) := by decide +kernel
theorem dX8_counts_12 : decode cX8_counts 12 = .ok (.getfield 37, 3) := by decide +kernel
theorem dX8_counts_15 : decode cX8_counts 15 = .ok (.iconst 5, 1) := by decide +kernel
theorem dX8_counts_16 : decode cX8_counts 16 = .ok (.iload_n 1, 1) := by decide +kernel
theorem dX8_counts_17 : decode cX8_counts 17 = .ok (.imul, 1) := by decide +kernel
theorem dX8_counts_18 : decode cX8_counts 18 = .ok (.iconst 3, 1) := by decide +kernel
theorem dX8_counts_19 : decode cX8_counts 19 = .ok (.iadd, 1) := by decide +kernel
theorem dX8_counts_20 : decode cX8_counts 20 = .ok (.iaload, 1) := by decide +kernel
theorem dX8_counts_21 : decode cX8_counts 21 = .ok (.istore_n 3, 1) := by decide +kernel
theorem dX8_counts_22 : decode cX8_counts 22 = .ok (.iconst 4, 1) := by decide +kernel
theorem dX8_counts_23 : decode cX8_counts 23 = .ok (.aload_n 0, 1) := by decide +kernel
theorem dX8_counts_24 : decode cX8_counts 24 = .ok (.getfield 37, 3) := by decide +kernel
theorem dX8_counts_27 : decode cX8_counts 27 = .ok (.iconst 5, 1) := by decide +kernel
theorem dX8_counts_28 : decode cX8_counts 28 = .ok (.iload_n 1, 1) := by decide +kernel
theorem dX8_counts_29 : decode cX8_counts 29 = .ok (.imul, 1) := by decide +kernel
theorem dX8_counts_30 : decode cX8_counts 30 = .ok (.iconst 2, 1) := by decide +kernel
theorem dX8_counts_31 : decode cX8_counts 31 = .ok (.iadd, 1) := by decide +kernel
theorem dX8_counts_32 : decode cX8_counts 32 = .ok (.iaload, 1) := by decide +kernel
theorem dX8_counts_33 : decode cX8_counts 33 = .ok (.imul, 1) := by decide +kernel
theorem dX8_counts_34 : decode cX8_counts 34 = .ok (.aload_n 0, 1) := by decide +kernel
theorem dX8_counts_35 : decode cX8_counts 35 = .ok (.getfield 28, 3) := by decide +kernel
theorem dX8_counts_38 : decode cX8_counts 38 = .ok (.iload_n 2, 1) := by decide +kernel
theorem dX8_counts_39 : decode cX8_counts 39 = .ok (.iaload, 1) := by decide +kernel
theorem dX8_counts_40 : decode cX8_counts 40 = .ok (.iadd, 1) := by decide +kernel
theorem dX8_counts_41 : decode cX8_counts 41 = .ok (.istore 4, 2) := by decide +kernel
theorem dX8_counts_43 : decode cX8_counts 43 = .ok (.aload_n 0, 1) := by decide +kernel
theorem dX8_counts_44 : decode cX8_counts 44 = .ok (.getfield 37, 3) := by decide +kernel
theorem dX8_counts_47 : decode cX8_counts 47 = .ok (.iconst 5, 1) := by decide +kernel
theorem dX8_counts_48 : decode cX8_counts 48 = .ok (.iload_n 1, 1) := by decide +kernel
theorem dX8_counts_49 : decode cX8_counts 49 = .ok (.imul, 1) := by decide +kernel
theorem dX8_counts_50 : decode cX8_counts 50 = .ok (.iconst 4, 1) := by decide +kernel
theorem dX8_counts_51 : decode cX8_counts 51 = .ok (.iadd, 1) := by decide +kernel
theorem dX8_counts_52 : decode cX8_counts 52 = .ok (.iaload, 1) := by decide +kernel
theorem dX8_counts_53 : decode cX8_counts 53 = .ok (.ifCond .ne 39, 3) := by decide +kernel
theorem dX8_counts_56 : decode cX8_counts 56 = .ok (.aload_n 0, 1) := by decide +kernel
theorem dX8_counts_57 : decode cX8_counts 57 = .ok (.getfield 19, 3) := by decide +kernel
theorem dX8_counts_60 : decode cX8_counts 60 = .ok (.iload 4, 2) := by decide +kernel
theorem dX8_counts_62 : decode cX8_counts 62 = .ok (.iaload, 1) := by decide +kernel
theorem dX8_counts_63 : decode cX8_counts 63 = .ok (.ifCond .lt 29, 3) := by decide +kernel
theorem dX8_counts_66 : decode cX8_counts 66 = .ok (.iload_n 3, 1) := by decide +kernel
theorem dX8_counts_67 : decode cX8_counts 67 = .ok (.aload_n 0, 1) := by decide +kernel
theorem dX8_counts_68 : decode cX8_counts 68 = .ok (.getfield 19, 3) := by decide +kernel
theorem dX8_counts_71 : decode cX8_counts 71 = .ok (.iload 4, 2) := by decide +kernel
theorem dX8_counts_73 : decode cX8_counts 73 = .ok (.iaload, 1) := by decide +kernel
theorem dX8_counts_74 : decode cX8_counts 74 = .ok (.if_icmp .lt 18, 3) := by decide +kernel
theorem dX8_counts_77 : decode cX8_counts 77 = .ok (.iload_n 3, 1) := by decide +kernel
theorem dX8_counts_78 : decode cX8_counts 78 = .ok (.aload_n 0, 1) := by decide +kernel
theorem dX8_counts_79 : decode cX8_counts 79 = .ok (.getfield 22, 3) := by decide +kernel
theorem dX8_counts_82 : decode cX8_counts 82 = .ok (.iload 4, 2) := by decide +kernel
theorem dX8_counts_84 : decode cX8_counts 84 = .ok (.iaload, 1) := by decide +kernel
theorem dX8_counts_85 : decode cX8_counts 85 = .ok (.if_icmp .gt 7, 3) := by decide +kernel
theorem dX8_counts_88 : decode cX8_counts 88 = .ok (.iconst 1, 1) := by decide +kernel
theorem dX8_counts_89 : decode cX8_counts 89 = .ok (.goto 4, 3) := by decide +kernel
theorem dX8_counts_92 : decode cX8_counts 92 = .ok (.iconst 0, 1) := by decide +kernel
theorem dX8_counts_93 : decode cX8_counts 93 = .ok (.istore 5, 2) := by decide +kernel
theorem dX8_counts_95 : decode cX8_counts 95 = .ok (.iload 5, 2) := by decide +kernel
theorem dX8_counts_97 : decode cX8_counts 97 = .ok (.ifCond .eq 45, 3) := by decide +kernel
theorem dX8_counts_100 : decode cX8_counts 100 = .ok (.aload_n 0, 1) := by decide +kernel
theorem dX8_counts_101 : decode cX8_counts 101 = .ok (.getfield 31, 3) := by decide +kernel
theorem dX8_counts_104 : decode cX8_counts 104 = .ok (.iload_n 2, 1) := by decide +kernel
theorem dX8_counts_105 : decode cX8_counts 105 = .ok (.iaload, 1) := by decide +kernel
theorem dX8_counts_106 : decode cX8_counts 106 = .ok (.ifCond .lt 32, 3) := by decide +kernel
theorem dX8_counts_109 : decode cX8_counts 109 = .ok (.aload_n 0, 1) := by decide +kernel
theorem dX8_counts_110 : decode cX8_counts 110 = .ok (.getfield 56, 3) := by decide +kernel
theorem dX8_counts_113 : decode cX8_counts 113 = .ok (.aload_n 0, 1) := by decide +kernel
theorem dX8_counts_114 : decode cX8_counts 114 = .ok (.getfield 31, 3) := by decide +kernel
theorem dX8_counts_117 : decode cX8_counts 117 = .ok (.iload_n 2, 1) := by decide +kernel
theorem dX8_counts_118 : decode cX8_counts 118 = .ok (.iaload, 1) := by decide +kernel
theorem dX8_counts_119 : decode cX8_counts 119 = .ok (.iaload, 1) := by decide +kernel
theorem dX8_counts_120 : decode cX8_counts 120 = .ok (.ifCond .lt 22, 3) := by decide +kernel
theorem dX8_counts_123 : decode cX8_counts 123 = .ok (.aload_n 0, 1) := by decide +kernel
theorem dX8_counts_124 : decode cX8_counts 124 = .ok (.getfield 56, 3) := by decide +kernel
theorem dX8_counts_127 : decode cX8_counts 127 = .ok (.aload_n 0, 1) := by decide +kernel
theorem dX8_counts_128 : decode cX8_counts 128 = .ok (.getfield 31, 3) := by decide +kernel
theorem dX8_counts_131 : decode cX8_counts 131 = .ok (.iload_n 2, 1) := by decide +kernel
theorem dX8_counts_132 : decode cX8_counts 132 = .ok (.iaload, 1) := by decide +kernel
theorem dX8_counts_133 : decode cX8_counts 133 = .ok (.iaload, 1) := by decide +kernel
theorem dX8_counts_134 : decode cX8_counts 134 = .ok (.iload_n 3, 1) := by decide +kernel
theorem dX8_counts_135 : decode cX8_counts 135 = .ok (.if_icmp .gt 7, 3) := by decide +kernel
theorem dX8_counts_138 : decode cX8_counts 138 = .ok (.iconst 1, 1) := by decide +kernel
theorem dX8_counts_139 : decode cX8_counts 139 = .ok (.goto 4, 3) := by decide +kernel
theorem dX8_counts_142 : decode cX8_counts 142 = .ok (.iconst 0, 1) := by decide +kernel
theorem dX8_counts_143 : decode cX8_counts 143 = .ok (.ireturn, 1) := by decide +kernel
theorem dX8_findDone_0 : decode cX8_findDone 0 = .ok (.iconst 0, 1) := by decide +kernel
theorem dX8_findDone_1 : decode cX8_findDone 1 = .ok (.istore_n 2, 1) := by decide +kernel
theorem dX8_findDone_2 : decode cX8_findDone 2 = .ok (.iload_n 2, 1) := by decide +kernel
theorem dX8_findDone_3 : decode cX8_findDone 3 = .ok (.aload_n 0, 1) := by decide +kernel
theorem dX8_findDone_4 : decode cX8_findDone 4 = .ok (.getfield 7, 3) := by decide +kernel
theorem dX8_findDone_7 : decode cX8_findDone 7 = .ok (.iconst 2, 1) := by decide +kernel
theorem dX8_findDone_8 : decode cX8_findDone 8 = .ok (.iaload, 1) := by decide +kernel
theorem dX8_findDone_9 : decode cX8_findDone 9 = .ok (.if_icmp .ge 129, 3) := by decide +kernel
theorem dX8_findDone_12 : decode cX8_findDone 12 = .ok (.aload_n 0, 1) := by decide +kernel
theorem dX8_findDone_13 : decode cX8_findDone 13 = .ok (.getfield 56, 3) := by decide +kernel
theorem dX8_findDone_16 : decode cX8_findDone 16 = .ok (.iload_n 2, 1) := by decide +kernel
theorem dX8_findDone_17 : decode cX8_findDone 17 = .ok (.iconst (-1), 1) := by decide +kernel
theorem dX8_findDone_18 : decode cX8_findDone 18 = .ok (.iastore, 1) := by decide +kernel
theorem dX8_findDone_19 : decode cX8_findDone 19 = .ok (.iconst 0, 1) := by decide +kernel
theorem dX8_findDone_20 : decode cX8_findDone 20 = .ok (.istore_n 3, 1) := by decide +kernel
theorem dX8_findDone_21 : decode cX8_findDone 21 = .ok (.iload_n 3, 1) := by decide +kernel
theorem dX8_findDone_22 : decode cX8_findDone 22 = .ok (.aload_n 0, 1) := by decide +kernel
theorem dX8_findDone_23 : decode cX8_findDone 23 = .ok (.getfield 7, 3) := by decide +kernel
theorem dX8_findDone_26 : decode cX8_findDone 26 = .ok (.iconst 3, 1) := by decide +kernel
theorem dX8_findDone_27 : decode cX8_findDone 27 = .ok (.iaload, 1) := by decide +kernel
theorem dX8_findDone_28 : decode cX8_findDone 28 = .ok (.if_icmp .ge 104, 3) := by decide +kernel
theorem dX8_findDone_31 : decode cX8_findDone 31 = .ok (.aload_n 0, 1) := by decide +kernel
theorem dX8_findDone_32 : decode cX8_findDone 32 = .ok (.getfield 37, 3) := by decide +kernel
theorem dX8_findDone_35 : decode cX8_findDone 35 = .ok (.iconst 5, 1) := by decide +kernel
theorem dX8_findDone_36 : decode cX8_findDone 36 = .ok (.iload_n 3, 1) := by decide +kernel
theorem dX8_findDone_37 : decode cX8_findDone 37 = .ok (.imul, 1) := by decide +kernel
theorem dX8_findDone_38 : decode cX8_findDone 38 = .ok (.iconst 3, 1) := by decide +kernel
theorem dX8_findDone_39 : decode cX8_findDone 39 = .ok (.iadd, 1) := by decide +kernel
theorem dX8_findDone_40 : decode cX8_findDone 40 = .ok (.iaload, 1) := by decide +kernel
theorem dX8_findDone_41 : decode cX8_findDone 41 = .ok (.istore 4, 2) := by decide +kernel
theorem dX8_findDone_43 : decode cX8_findDone 43 = .ok (.aload_n 0, 1) := by decide +kernel
theorem dX8_findDone_44 : decode cX8_findDone 44 = .ok (.getfield 37, 3) := by decide +kernel
theorem dX8_findDone_47 : decode cX8_findDone 47 = .ok (.iconst 5, 1) := by decide +kernel
theorem dX8_findDone_48 : decode cX8_findDone 48 = .ok (.iload_n 3, 1) := by decide +kernel
theorem dX8_findDone_49 : decode cX8_findDone 49 = .ok (.imul, 1) := by decide +kernel
theorem dX8_findDone_50 : decode cX8_findDone 50 = .ok (.iaload, 1) := by decide +kernel
theorem dX8_findDone_51 : decode cX8_findDone 51 = .ok (.iload_n 1, 1) := by decide +kernel
theorem dX8_findDone_52 : decode cX8_findDone 52 = .ok (.if_icmp .ne 29, 3) := by decide +kernel
theorem dX8_findDone_55 : decode cX8_findDone 55 = .ok (.aload_n 0, 1) := by decide +kernel
theorem dX8_findDone_56 : decode cX8_findDone 56 = .ok (.getfield 37, 3) := by decide +kernel
theorem dX8_findDone_59 : decode cX8_findDone 59 = .ok (.iconst 5, 1) := by decide +kernel
theorem dX8_findDone_60 : decode cX8_findDone 60 = .ok (.iload_n 3, 1) := by decide +kernel
theorem dX8_findDone_61 : decode cX8_findDone 61 = .ok (.imul, 1) := by decide +kernel
theorem dX8_findDone_62 : decode cX8_findDone 62 = .ok (.iconst 1, 1) := by decide +kernel
theorem dX8_findDone_63 : decode cX8_findDone 63 = .ok (.iadd, 1) := by decide +kernel
theorem dX8_findDone_64 : decode cX8_findDone 64 = .ok (.iaload, 1) := by decide +kernel
theorem dX8_findDone_65 : decode cX8_findDone 65 = .ok (.iload_n 2, 1) := by decide +kernel
theorem dX8_findDone_66 : decode cX8_findDone 66 = .ok (.if_icmp .ne 15, 3) := by decide +kernel
theorem dX8_findDone_69 : decode cX8_findDone 69 = .ok (.aload_n 0, 1) := by decide +kernel
theorem dX8_findDone_70 : decode cX8_findDone 70 = .ok (.iload_n 3, 1) := by decide +kernel
theorem dX8_findDone_71 : decode cX8_findDone 71 = .ok (.invokevirtual 93, 3) := by decide +kernel
theorem dX8_findDone_74 : decode cX8_findDone 74 = .ok (.ifCond .eq 7, 3) := by decide +kernel
theorem dX8_findDone_77 : decode cX8_findDone 77 = .ok (.iconst 1, 1) := by decide +kernel
theorem dX8_findDone_78 : decode cX8_findDone 78 = .ok (.goto 4, 3) := by decide +kernel
theorem dX8_findDone_81 : decode cX8_findDone 81 = .ok (.iconst 0, 1) := by decide +kernel
theorem dX8_findDone_82 : decode cX8_findDone 82 = .ok (.istore 5, 2) := by decide +kernel
theorem dX8_findDone_84 : decode cX8_findDone 84 = .ok (.aload_n 0, 1) := by decide +kernel
theorem dX8_findDone_85 : decode cX8_findDone 85 = .ok (.getfield 56, 3) := by decide +kernel
theorem dX8_findDone_88 : decode cX8_findDone 88 = .ok (.iload_n 2, 1) := by decide +kernel
theorem dX8_findDone_89 : decode cX8_findDone 89 = .ok (.iload 5, 2) := by decide +kernel
theorem dX8_findDone_91 : decode cX8_findDone 91 = .ok (.ifCond .eq 28, 3) := by decide +kernel
theorem dX8_findDone_94 : decode cX8_findDone 94 = .ok (.aload_n 0, 1) := by decide +kernel
theorem dX8_findDone_95 : decode cX8_findDone 95 = .ok (.getfield 56, 3) := by decide +kernel
theorem dX8_findDone_98 : decode cX8_findDone 98 = .ok (.iload_n 2, 1) := by decide +kernel
theorem dX8_findDone_99 : decode cX8_findDone 99 = .ok (.iaload, 1) := by decide +kernel
theorem dX8_findDone_100 : decode cX8_findDone 100 = .ok (.ifCond .lt 14, 3) := by decide +kernel
theorem dX8_findDone_103 : decode cX8_findDone 103 = .ok (.iload 4, 2) := by decide +kernel
theorem dX8_findDone_105 : decode cX8_findDone 105 = .ok (.aload_n 0, 1) := by decide +kernel
theorem dX8_findDone_106 : decode cX8_findDone 106 = .ok (.getfield 56, 3) := by decide +kernel
theorem dX8_findDone_109 : decode cX8_findDone 109 = .ok (.iload_n 2, 1) := by decide +kernel
theorem dX8_findDone_110 : decode cX8_findDone 110 = .ok (.iaload, 1) := by decide +kernel
theorem dX8_findDone_111 : decode cX8_findDone 111 = .ok (.if_icmp .ge 8, 3) := by decide +kernel
theorem dX8_findDone_114 : decode cX8_findDone 114 = .ok (.iload 4, 2) := by decide +kernel
theorem dX8_findDone_116 : decode cX8_findDone 116 = .ok (.goto 9, 3) := by decide +kernel
theorem dX8_findDone_119 : decode cX8_findDone 119 = .ok (.aload_n 0, 1) := by decide +kernel
theorem dX8_findDone_120 : decode cX8_findDone 120 = .ok (.getfield 56, 3) := by decide +kernel
theorem dX8_findDone_123 : decode cX8_findDone 123 = .ok (.iload_n 2, 1) := by decide +kernel
theorem dX8_findDone_124 : decode cX8_findDone 124 = .ok (.iaload, 1) := by decide +kernel
theorem dX8_findDone_125 : decode cX8_findDone 125 = .ok (.iastore, 1) := by decide +kernel
theorem dX8_findDone_126 : decode cX8_findDone 126 = .ok (.iinc 3 1, 3) := by decide +kernel
theorem dX8_findDone_129 : decode cX8_findDone 129 = .ok (.goto (-108), 3) := by decide +kernel
theorem dX8_findDone_132 : decode cX8_findDone 132 = .ok (.iinc 2 1, 3) := by decide +kernel
theorem dX8_findDone_135 : decode cX8_findDone 135 = .ok (.goto (-133), 3) := by decide +kernel
theorem dX8_findDone_138 : decode cX8_findDone 138 = .ok (.return_, 1) := by decide +kernel
theorem dX8_isDone_0 : decode cX8_isDone 0 = .ok (.iload_n 1, 1) := by decide +kernel
theorem dX8_isDone_1 : decode cX8_isDone 1 = .ok (.aload_n 0, 1) := by decide +kernel
theorem dX8_isDone_2 : decode cX8_isDone 2 = .ok (.getfield 7, 3) := by decide +kernel
theorem dX8_isDone_5 : decode cX8_isDone 5 = .ok (.iconst 2, 1) := by decide +kernel
theorem dX8_isDone_6 : decode cX8_isDone 6 = .ok (.iaload, 1) := by decide +kernel
theorem dX8_isDone_7 : decode cX8_isDone 7 = .ok (.if_icmp .ge 16, 3) := by decide +kernel
theorem dX8_isDone_10 : decode cX8_isDone 10 = .ok (.aload_n 0, 1) := by decide +kernel
theorem dX8_isDone_11 : decode cX8_isDone 11 = .ok (.getfield 56, 3) := by decide +kernel
theorem dX8_isDone_14 : decode cX8_isDone 14 = .ok (.iload_n 1, 1) := by decide +kernel
theorem dX8_isDone_15 : decode cX8_isDone 15 = .ok (.iaload, 1) := by decide +kernel
theorem dX8_isDone_16 : decode cX8_isDone 16 = .ok (.ifCond .lt 7, 3) := by decide +kernel
theorem dX8_isDone_19 : decode cX8_isDone 19 = .ok (.iconst 1, 1) := by decide +kernel
theorem dX8_isDone_20 : decode cX8_isDone 20 = .ok (.goto 4, 3) := by decide +kernel
theorem dX8_isDone_23 : decode cX8_isDone 23 = .ok (.iconst 0, 1) := by decide +kernel
theorem dX8_isDone_24 : decode cX8_isDone 24 = .ok (.ireturn, 1) := by decide +kernel
theorem dX8_dayOf_0 : decode cX8_dayOf 0 = .ok (.iload_n 2, 1) := by decide +kernel
theorem dX8_dayOf_1 : decode cX8_dayOf 1 = .ok (.ifCond .ne 5, 3) := by decide +kernel
theorem dX8_dayOf_4 : decode cX8_dayOf 4 = .ok (.iconst 0, 1) := by decide +kernel
theorem dX8_dayOf_5 : decode cX8_dayOf 5 = .ok (.ireturn, 1) := by decide +kernel
theorem dX8_dayOf_6 : decode cX8_dayOf 6 = .ok (.iconst 0, 1) := by decide +kernel
theorem dX8_dayOf_7 : decode cX8_dayOf 7 = .ok (.istore_n 3, 1) := by decide +kernel
theorem dX8_dayOf_8 : decode cX8_dayOf 8 = .ok (.iload_n 3, 1) := by decide +kernel
theorem dX8_dayOf_9 : decode cX8_dayOf 9 = .ok (.sipush 1000, 3) := by decide +kernel
theorem dX8_dayOf_12 : decode cX8_dayOf 12 = .ok (.if_icmp .ge 76, 3) := by decide +kernel
theorem dX8_dayOf_15 : decode cX8_dayOf 15 = .ok (.iconst 0, 1) := by decide +kernel
theorem dX8_dayOf_16 : decode cX8_dayOf 16 = .ok (.istore 4, 2) := by decide +kernel
theorem dX8_dayOf_18 : decode cX8_dayOf 18 = .ok (.iconst 0, 1) := by decide +kernel
theorem dX8_dayOf_19 : decode cX8_dayOf 19 = .ok (.istore 5, 2) := by decide +kernel
theorem dX8_dayOf_21 : decode cX8_dayOf 21 = .ok (.iload 5, 2) := by decide +kernel
theorem dX8_dayOf_23 : decode cX8_dayOf 23 = .ok (.bipush 10, 2) := by decide +kernel
theorem dX8_dayOf_25 : decode cX8_dayOf 25 = .ok (.if_icmp .ge 49, 3) := by decide +kernel
theorem dX8_dayOf_28 : decode cX8_dayOf 28 = .ok (.iload 4, 2) := by decide +kernel
theorem dX8_dayOf_30 : decode cX8_dayOf 30 = .ok (.iload_n 1, 1) := by decide +kernel
theorem dX8_dayOf_31 : decode cX8_dayOf 31 = .ok (.iload 5, 2) := by decide +kernel
theorem dX8_dayOf_33 : decode cX8_dayOf 33 = .ok (.ishr, 1) := by decide +kernel
theorem dX8_dayOf_34 : decode cX8_dayOf 34 = .ok (.iconst 1, 1) := by decide +kernel
theorem dX8_dayOf_35 : decode cX8_dayOf 35 = .ok (.iand, 1) := by decide +kernel
theorem dX8_dayOf_36 : decode cX8_dayOf 36 = .ok (.iconst 1, 1) := by decide +kernel
theorem dX8_dayOf_37 : decode cX8_dayOf 37 = .ok (.if_icmp .ne 27, 3) := by decide +kernel
theorem dX8_dayOf_40 : decode cX8_dayOf 40 = .ok (.aload_n 0, 1) := by decide +kernel
theorem dX8_dayOf_41 : decode cX8_dayOf 41 = .ok (.iload 5, 2) := by decide +kernel
theorem dX8_dayOf_43 : decode cX8_dayOf 43 = .ok (.invokevirtual 96, 3) := by decide +kernel
theorem dX8_dayOf_46 : decode cX8_dayOf 46 = .ok (.ifCond .eq 18, 3) := by decide +kernel
theorem dX8_dayOf_49 : decode cX8_dayOf 49 = .ok (.aload_n 0, 1) := by decide +kernel
theorem dX8_dayOf_50 : decode cX8_dayOf 50 = .ok (.getfield 56, 3) := by decide +kernel
theorem dX8_dayOf_53 : decode cX8_dayOf 53 = .ok (.iload 5, 2) := by decide +kernel
theorem dX8_dayOf_55 : decode cX8_dayOf 55 = .ok (.iaload, 1) := by decide +kernel
theorem dX8_dayOf_56 : decode cX8_dayOf 56 = .ok (.iload_n 3, 1) := by decide +kernel
theorem dX8_dayOf_57 : decode cX8_dayOf 57 = .ok (.if_icmp .gt 7, 3) := by decide +kernel
theorem dX8_dayOf_60 : decode cX8_dayOf 60 = .ok (.iconst 1, 1) := by decide +kernel
theorem dX8_dayOf_61 : decode cX8_dayOf 61 = .ok (.goto 4, 3) := by decide +kernel
theorem dX8_dayOf_64 : decode cX8_dayOf 64 = .ok (.iconst 0, 1) := by decide +kernel
theorem dX8_dayOf_65 : decode cX8_dayOf 65 = .ok (.iadd, 1) := by decide +kernel
theorem dX8_dayOf_66 : decode cX8_dayOf 66 = .ok (.istore 4, 2) := by decide +kernel
theorem dX8_dayOf_68 : decode cX8_dayOf 68 = .ok (.iinc 5 1, 3) := by decide +kernel
theorem dX8_dayOf_71 : decode cX8_dayOf 71 = .ok (.goto (-50), 3) := by decide +kernel
theorem dX8_dayOf_74 : decode cX8_dayOf 74 = .ok (.iload 4, 2) := by decide +kernel
theorem dX8_dayOf_76 : decode cX8_dayOf 76 = .ok (.iload_n 2, 1) := by decide +kernel
theorem dX8_dayOf_77 : decode cX8_dayOf 77 = .ok (.if_icmp .lt 5, 3) := by decide +kernel
theorem dX8_dayOf_80 : decode cX8_dayOf 80 = .ok (.iload_n 3, 1) := by decide +kernel
theorem dX8_dayOf_81 : decode cX8_dayOf 81 = .ok (.ireturn, 1) := by decide +kernel
theorem dX8_dayOf_82 : decode cX8_dayOf 82 = .ok (.iinc 3 1, 3) := by decide +kernel
theorem dX8_dayOf_85 : decode cX8_dayOf 85 = .ok (.goto (-77), 3) := by decide +kernel
theorem dX8_dayOf_88 : decode cX8_dayOf 88 = .ok (.iconst (-1), 1) := by decide +kernel
theorem dX8_dayOf_89 : decode cX8_dayOf 89 = .ok (.ireturn, 1) := by decide +kernel
theorem dX8_later_0 : decode cX8_later 0 = .ok (.iload_n 0, 1) := by decide +kernel
theorem dX8_later_1 : decode cX8_later 1 = .ok (.ifCond .lt 7, 3) := by decide +kernel
theorem dX8_later_4 : decode cX8_later 4 = .ok (.iload_n 1, 1) := by decide +kernel
theorem dX8_later_5 : decode cX8_later 5 = .ok (.ifCond .ge 7, 3) := by decide +kernel
theorem dX8_later_8 : decode cX8_later 8 = .ok (.iconst (-1), 1) := by decide +kernel
theorem dX8_later_9 : decode cX8_later 9 = .ok (.goto 13, 3) := by decide +kernel
theorem dX8_later_12 : decode cX8_later 12 = .ok (.iload_n 0, 1) := by decide +kernel
theorem dX8_later_13 : decode cX8_later 13 = .ok (.iload_n 1, 1) := by decide +kernel
theorem dX8_later_14 : decode cX8_later 14 = .ok (.if_icmp .le 7, 3) := by decide +kernel
theorem dX8_later_17 : decode cX8_later 17 = .ok (.iload_n 0, 1) := by decide +kernel
theorem dX8_later_18 : decode cX8_later 18 = .ok (.goto 4, 3) := by decide +kernel
theorem dX8_later_21 : decode cX8_later 21 = .ok (.iload_n 1, 1) := by decide +kernel
theorem dX8_later_22 : decode cX8_later 22 = .ok (.ireturn, 1) := by decide +kernel
theorem dX8_ones_0 : decode cX8_ones 0 = .ok (.iconst 0, 1) := by decide +kernel
theorem dX8_ones_1 : decode cX8_ones 1 = .ok (.istore_n 1, 1) := by decide +kernel
theorem dX8_ones_2 : decode cX8_ones 2 = .ok (.iconst 0, 1) := by decide +kernel
theorem dX8_ones_3 : decode cX8_ones 3 = .ok (.istore_n 2, 1) := by decide +kernel
theorem dX8_ones_4 : decode cX8_ones 4 = .ok (.iload_n 2, 1) := by decide +kernel
theorem dX8_ones_5 : decode cX8_ones 5 = .ok (.bipush 10, 2) := by decide +kernel
theorem dX8_ones_7 : decode cX8_ones 7 = .ok (.if_icmp .ge 17, 3) := by decide +kernel
theorem dX8_ones_10 : decode cX8_ones 10 = .ok (.iload_n 1, 1) := by decide +kernel
theorem dX8_ones_11 : decode cX8_ones 11 = .ok (.iload_n 0, 1) := by decide +kernel
theorem dX8_ones_12 : decode cX8_ones 12 = .ok (.iload_n 2, 1) := by decide +kernel
theorem dX8_ones_13 : decode cX8_ones 13 = .ok (.ishr, 1) := by decide +kernel
theorem dX8_ones_14 : decode cX8_ones 14 = .ok (.iconst 1, 1) := by decide +kernel
theorem dX8_ones_15 : decode cX8_ones 15 = .ok (.iand, 1) := by decide +kernel
theorem dX8_ones_16 : decode cX8_ones 16 = .ok (.iadd, 1) := by decide +kernel
theorem dX8_ones_17 : decode cX8_ones 17 = .ok (.istore_n 1, 1) := by decide +kernel
theorem dX8_ones_18 : decode cX8_ones 18 = .ok (.iinc 2 1, 3) := by decide +kernel
theorem dX8_ones_21 : decode cX8_ones 21 = .ok (.goto (-17), 3) := by decide +kernel
theorem dX8_ones_24 : decode cX8_ones 24 = .ok (.iload_n 1, 1) := by decide +kernel
theorem dX8_ones_25 : decode cX8_ones 25 = .ok (.ireturn, 1) := by decide +kernel
theorem dX8_findHeld_0 : decode cX8_findHeld 0 = .ok (.aload_n 0, 1) := by decide +kernel
theorem dX8_findHeld_1 : decode cX8_findHeld 1 = .ok (.iload_n 1, 1) := by decide +kernel
theorem dX8_findHeld_2 : decode cX8_findHeld 2 = .ok (.invokevirtual 99, 3) := by decide +kernel
theorem dX8_findHeld_5 : decode cX8_findHeld 5 = .ok (.iconst 0, 1) := by decide +kernel
theorem dX8_findHeld_6 : decode cX8_findHeld 6 = .ok (.istore_n 2, 1) := by decide +kernel
theorem dX8_findHeld_7 : decode cX8_findHeld 7 = .ok (.iload_n 2, 1) := by decide +kernel
theorem dX8_findHeld_8 : decode cX8_findHeld 8 = .ok (.aload_n 0, 1) := by decide +kernel
theorem dX8_findHeld_9 : decode cX8_findHeld 9 = .ok (.getfield 7, 3) := by decide +kernel
theorem dX8_findHeld_12 : decode cX8_findHeld 12 = .ok (.iconst 4, 1) := by decide +kernel
theorem dX8_findHeld_13 : decode cX8_findHeld 13 = .ok (.iaload, 1) := by decide +kernel
theorem dX8_findHeld_14 : decode cX8_findHeld 14 = .ok (.if_icmp .ge 122, 3) := by decide +kernel
theorem dX8_findHeld_17 : decode cX8_findHeld 17 = .ok (.iconst 5, 1) := by decide +kernel
theorem dX8_findHeld_18 : decode cX8_findHeld 18 = .ok (.iload_n 2, 1) := by decide +kernel
theorem dX8_findHeld_19 : decode cX8_findHeld 19 = .ok (.imul, 1) := by decide +kernel
theorem dX8_findHeld_20 : decode cX8_findHeld 20 = .ok (.istore_n 3, 1) := by decide +kernel
theorem dX8_findHeld_21 : decode cX8_findHeld 21 = .ok (.aload_n 0, 1) := by decide +kernel
theorem dX8_findHeld_22 : decode cX8_findHeld 22 = .ok (.aload_n 0, 1) := by decide +kernel
theorem dX8_findHeld_23 : decode cX8_findHeld 23 = .ok (.getfield 34, 3) := by decide +kernel
theorem dX8_findHeld_26 : decode cX8_findHeld 26 = .ok (.iload_n 3, 1) := by decide +kernel
theorem dX8_findHeld_27 : decode cX8_findHeld 27 = .ok (.iaload, 1) := by decide +kernel
theorem dX8_findHeld_28 : decode cX8_findHeld 28 = .ok (.aload_n 0, 1) := by decide +kernel
theorem dX8_findHeld_29 : decode cX8_findHeld 29 = .ok (.getfield 34, 3) := by decide +kernel
theorem dX8_findHeld_32 : decode cX8_findHeld 32 = .ok (.iload_n 3, 1) := by decide +kernel
theorem dX8_findHeld_33 : decode cX8_findHeld 33 = .ok (.iaload, 1) := by decide +kernel
theorem dX8_findHeld_34 : decode cX8_findHeld 34 = .ok (.invokestatic 103, 3) := by decide +kernel
theorem dX8_findHeld_37 : decode cX8_findHeld 37 = .ok (.invokevirtual 106, 3) := by decide +kernel
theorem dX8_findHeld_40 : decode cX8_findHeld 40 = .ok (.aload_n 0, 1) := by decide +kernel
theorem dX8_findHeld_41 : decode cX8_findHeld 41 = .ok (.aload_n 0, 1) := by decide +kernel
theorem dX8_findHeld_42 : decode cX8_findHeld 42 = .ok (.getfield 34, 3) := by decide +kernel
theorem dX8_findHeld_45 : decode cX8_findHeld 45 = .ok (.iload_n 3, 1) := by decide +kernel
theorem dX8_findHeld_46 : decode cX8_findHeld 46 = .ok (.iconst 1, 1) := by decide +kernel
theorem dX8_findHeld_47 : decode cX8_findHeld 47 = .ok (.iadd, 1) := by decide +kernel
theorem dX8_findHeld_48 : decode cX8_findHeld 48 = .ok (.iaload, 1) := by decide +kernel
theorem dX8_findHeld_49 : decode cX8_findHeld 49 = .ok (.aload_n 0, 1) := by decide +kernel
theorem dX8_findHeld_50 : decode cX8_findHeld 50 = .ok (.getfield 34, 3) := by decide +kernel
theorem dX8_findHeld_53 : decode cX8_findHeld 53 = .ok (.iload_n 3, 1) := by decide +kernel
theorem dX8_findHeld_54 : decode cX8_findHeld 54 = .ok (.iconst 2, 1) := by decide +kernel
theorem dX8_findHeld_55 : decode cX8_findHeld 55 = .ok (.iadd, 1) := by decide +kernel
theorem dX8_findHeld_56 : decode cX8_findHeld 56 = .ok (.iaload, 1) := by decide +kernel
theorem dX8_findHeld_57 : decode cX8_findHeld 57 = .ok (.invokevirtual 106, 3) := by decide +kernel
theorem dX8_findHeld_60 : decode cX8_findHeld 60 = .ok (.invokestatic 110, 3) := by decide +kernel
theorem dX8_findHeld_63 : decode cX8_findHeld 63 = .ok (.istore 4, 2) := by decide +kernel
theorem dX8_findHeld_65 : decode cX8_findHeld 65 = .ok (.aload_n 0, 1) := by decide +kernel
theorem dX8_findHeld_66 : decode cX8_findHeld 66 = .ok (.getfield 34, 3) := by decide +kernel
theorem dX8_findHeld_69 : decode cX8_findHeld 69 = .ok (.iload_n 3, 1) := by decide +kernel
theorem dX8_findHeld_70 : decode cX8_findHeld 70 = .ok (.iconst 4, 1) := by decide +kernel
theorem dX8_findHeld_71 : decode cX8_findHeld 71 = .ok (.iadd, 1) := by decide +kernel
theorem dX8_findHeld_72 : decode cX8_findHeld 72 = .ok (.iaload, 1) := by decide +kernel
theorem dX8_findHeld_73 : decode cX8_findHeld 73 = .ok (.ifCond .ge 8, 3) := by decide +kernel
theorem dX8_findHeld_76 : decode cX8_findHeld 76 = .ok (.iload 4, 2) := by decide +kernel
theorem dX8_findHeld_78 : decode cX8_findHeld 78 = .ok (.goto 21, 3) := by decide +kernel
theorem dX8_findHeld_81 : decode cX8_findHeld 81 = .ok (.iload 4, 2) := by decide +kernel
theorem dX8_findHeld_83 : decode cX8_findHeld 83 = .ok (.aload_n 0, 1) := by decide +kernel
theorem dX8_findHeld_84 : decode cX8_findHeld 84 = .ok (.getfield 59, 3) := by decide +kernel
theorem dX8_findHeld_87 : decode cX8_findHeld 87 = .ok (.aload_n 0, 1) := by decide +kernel
theorem dX8_findHeld_88 : decode cX8_findHeld 88 = .ok (.getfield 34, 3) := by decide +kernel
theorem dX8_findHeld_91 : decode cX8_findHeld 91 = .ok (.iload_n 3, 1) := by decide +kernel
theorem dX8_findHeld_92 : decode cX8_findHeld 92 = .ok (.iconst 4, 1) := by decide +kernel
theorem dX8_findHeld_93 : decode cX8_findHeld 93 = .ok (.iadd, 1) := by decide +kernel
theorem dX8_findHeld_94 : decode cX8_findHeld 94 = .ok (.iaload, 1) := by decide +kernel
theorem dX8_findHeld_95 : decode cX8_findHeld 95 = .ok (.iaload, 1) := by decide +kernel
theorem dX8_findHeld_96 : decode cX8_findHeld 96 = .ok (.invokestatic 110, 3) := by decide +kernel
theorem dX8_findHeld_99 : decode cX8_findHeld 99 = .ok (.istore 4, 2) := by decide +kernel
theorem dX8_findHeld_101 : decode cX8_findHeld 101 = .ok (.aload_n 0, 1) := by decide +kernel
theorem dX8_findHeld_102 : decode cX8_findHeld 102 = .ok (.getfield 59, 3) := by decide +kernel
theorem dX8_findHeld_105 : decode cX8_findHeld 105 = .ok (.iload_n 2, 1) := by decide +kernel
theorem dX8_findHeld_106 : decode cX8_findHeld 106 = .ok (.aload_n 0, 1) := by decide +kernel
theorem dX8_findHeld_107 : decode cX8_findHeld 107 = .ok (.getfield 13, 3) := by decide +kernel
theorem dX8_findHeld_110 : decode cX8_findHeld 110 = .ok (.iload_n 1, 1) := by decide +kernel
theorem dX8_findHeld_111 : decode cX8_findHeld 111 = .ok (.iaload, 1) := by decide +kernel
theorem dX8_findHeld_112 : decode cX8_findHeld 112 = .ok (.aload_n 0, 1) := by decide +kernel
theorem dX8_findHeld_113 : decode cX8_findHeld 113 = .ok (.getfield 34, 3) := by decide +kernel
theorem dX8_findHeld_116 : decode cX8_findHeld 116 = .ok (.iload_n 3, 1) := by decide +kernel
theorem dX8_findHeld_117 : decode cX8_findHeld 117 = .ok (.iconst 3, 1) := by decide +kernel
theorem dX8_findHeld_118 : decode cX8_findHeld 118 = .ok (.iadd, 1) := by decide +kernel
theorem dX8_findHeld_119 : decode cX8_findHeld 119 = .ok (.iaload, 1) := by decide +kernel
theorem dX8_findHeld_120 : decode cX8_findHeld 120 = .ok (.if_icmp .lt 8, 3) := by decide +kernel
theorem dX8_findHeld_123 : decode cX8_findHeld 123 = .ok (.iload 4, 2) := by decide +kernel
theorem dX8_findHeld_125 : decode cX8_findHeld 125 = .ok (.goto 4, 3) := by decide +kernel
theorem dX8_findHeld_128 : decode cX8_findHeld 128 = .ok (.iconst (-1), 1) := by decide +kernel
theorem dX8_findHeld_129 : decode cX8_findHeld 129 = .ok (.iastore, 1) := by decide +kernel
theorem dX8_findHeld_130 : decode cX8_findHeld 130 = .ok (.iinc 2 1, 3) := by decide +kernel
theorem dX8_findHeld_133 : decode cX8_findHeld 133 = .ok (.goto (-126), 3) := by decide +kernel
theorem dX8_findHeld_136 : decode cX8_findHeld 136 = .ok (.return_, 1) := by decide +kernel
theorem dX8_of_0 : decode cX8_of 0 = .ok (.aload_n 0, 1) := by decide +kernel
theorem dX8_of_1 : decode cX8_of 1 = .ok (.iconst 3, 1) := by decide +kernel
theorem dX8_of_2 : decode cX8_of 2 = .ok (.iload_n 1, 1) := by decide +kernel
theorem dX8_of_3 : decode cX8_of 3 = .ok (.invokevirtual 86, 3) := by decide +kernel
theorem dX8_of_6 : decode cX8_of 6 = .ok (.ifCond .eq 12, 3) := by decide +kernel
theorem dX8_of_9 : decode cX8_of 9 = .ok (.iload_n 2, 1) := by decide +kernel
theorem dX8_of_10 : decode cX8_of 10 = .ok (.iconst 0, 1) := by decide +kernel
theorem dX8_of_11 : decode cX8_of 11 = .ok (.iconst 5, 1) := by decide +kernel
theorem dX8_of_12 : decode cX8_of 12 = .ok (.invokestatic 74, 3) := by decide +kernel
theorem dX8_of_15 : decode cX8_of 15 = .ok (.ifCond .ne 5, 3) := by decide +kernel
theorem dX8_of_18 : decode cX8_of 18 = .ok (.iconst (-1), 1) := by decide +kernel
theorem dX8_of_19 : decode cX8_of 19 = .ok (.ireturn, 1) := by decide +kernel
theorem dX8_of_20 : decode cX8_of 20 = .ok (.iload_n 2, 1) := by decide +kernel
theorem dX8_of_21 : decode cX8_of 21 = .ok (.iconst 5, 1) := by decide +kernel
theorem dX8_of_22 : decode cX8_of 22 = .ok (.if_icmp .ge 14, 3) := by decide +kernel
theorem dX8_of_25 : decode cX8_of 25 = .ok (.aload_n 0, 1) := by decide +kernel
theorem dX8_of_26 : decode cX8_of 26 = .ok (.getfield 37, 3) := by decide +kernel
theorem dX8_of_29 : decode cX8_of 29 = .ok (.iconst 5, 1) := by decide +kernel
theorem dX8_of_30 : decode cX8_of 30 = .ok (.iload_n 1, 1) := by decide +kernel
theorem dX8_of_31 : decode cX8_of 31 = .ok (.imul, 1) := by decide +kernel
theorem dX8_of_32 : decode cX8_of 32 = .ok (.iload_n 2, 1) := by decide +kernel
theorem dX8_of_33 : decode cX8_of 33 = .ok (.iadd, 1) := by decide +kernel
theorem dX8_of_34 : decode cX8_of 34 = .ok (.iaload, 1) := by decide +kernel
theorem dX8_of_35 : decode cX8_of 35 = .ok (.ireturn, 1) := by decide +kernel
theorem dX8_of_36 : decode cX8_of 36 = .ok (.aload_n 0, 1) := by decide +kernel
theorem dX8_of_37 : decode cX8_of 37 = .ok (.aload_n 0, 1) := by decide +kernel
theorem dX8_of_38 : decode cX8_of 38 = .ok (.getfield 37, 3) := by decide +kernel
theorem dX8_of_41 : decode cX8_of 41 = .ok (.iconst 5, 1) := by decide +kernel
theorem dX8_of_42 : decode cX8_of 42 = .ok (.iload_n 1, 1) := by decide +kernel
theorem dX8_of_43 : decode cX8_of 43 = .ok (.imul, 1) := by decide +kernel
theorem dX8_of_44 : decode cX8_of 44 = .ok (.iaload, 1) := by decide +kernel
theorem dX8_of_45 : decode cX8_of 45 = .ok (.invokevirtual 99, 3) := by decide +kernel
theorem dX8_of_48 : decode cX8_of 48 = .ok (.aload_n 0, 1) := by decide +kernel
theorem dX8_of_49 : decode cX8_of 49 = .ok (.iload_n 1, 1) := by decide +kernel
theorem dX8_of_50 : decode cX8_of 50 = .ok (.invokevirtual 93, 3) := by decide +kernel
theorem dX8_of_53 : decode cX8_of 53 = .ok (.ifCond .eq 7, 3) := by decide +kernel
theorem dX8_of_56 : decode cX8_of 56 = .ok (.iconst 1, 1) := by decide +kernel
theorem dX8_of_57 : decode cX8_of 57 = .ok (.goto 4, 3) := by decide +kernel
theorem dX8_of_60 : decode cX8_of 60 = .ok (.iconst 0, 1) := by decide +kernel
theorem dX8_of_61 : decode cX8_of 61 = .ok (.ireturn, 1) := by decide +kernel
theorem dX8_done_0 : decode cX8_done 0 = .ok (.aload_n 0, 1) := by decide +kernel
theorem dX8_done_1 : decode cX8_done 1 = .ok (.iconst 0, 1) := by decide +kernel
theorem dX8_done_2 : decode cX8_done 2 = .ok (.iload_n 1, 1) := by decide +kernel
theorem dX8_done_3 : decode cX8_done 3 = .ok (.invokevirtual 86, 3) := by decide +kernel
theorem dX8_done_6 : decode cX8_done 6 = .ok (.ifCond .eq 12, 3) := by decide +kernel
theorem dX8_done_9 : decode cX8_done 9 = .ok (.aload_n 0, 1) := by decide +kernel
theorem dX8_done_10 : decode cX8_done 10 = .ok (.iconst 2, 1) := by decide +kernel
theorem dX8_done_11 : decode cX8_done 11 = .ok (.iload_n 2, 1) := by decide +kernel
theorem dX8_done_12 : decode cX8_done 12 = .ok (.invokevirtual 86, 3) := by decide +kernel
theorem dX8_done_15 : decode cX8_done 15 = .ok (.ifCond .ne 5, 3) := by decide +kernel
theorem dX8_done_18 : decode cX8_done 18 = .ok (.iconst (-1), 1) := by decide +kernel
theorem dX8_done_19 : decode cX8_done 19 = .ok (.ireturn, 1) := by decide +kernel
theorem dX8_done_20 : decode cX8_done 20 = .ok (.aload_n 0, 1) := by decide +kernel
theorem dX8_done_21 : decode cX8_done 21 = .ok (.iload_n 1, 1) := by decide +kernel
theorem dX8_done_22 : decode cX8_done 22 = .ok (.invokevirtual 99, 3) := by decide +kernel
theorem dX8_done_25 : decode cX8_done 25 = .ok (.aload_n 0, 1) := by decide +kernel
theorem dX8_done_26 : decode cX8_done 26 = .ok (.getfield 56, 3) := by decide +kernel
theorem dX8_done_29 : decode cX8_done 29 = .ok (.iload_n 2, 1) := by decide +kernel
theorem dX8_done_30 : decode cX8_done 30 = .ok (.iaload, 1) := by decide +kernel
theorem dX8_done_31 : decode cX8_done 31 = .ok (.ifCond .ge 8, 3) := by decide +kernel
theorem dX8_done_34 : decode cX8_done 34 = .ok (.bipush (-3), 2) := by decide +kernel
theorem dX8_done_36 : decode cX8_done 36 = .ok (.goto 9, 3) := by decide +kernel
theorem dX8_done_39 : decode cX8_done 39 = .ok (.aload_n 0, 1) := by decide +kernel
theorem dX8_done_40 : decode cX8_done 40 = .ok (.getfield 56, 3) := by decide +kernel
theorem dX8_done_43 : decode cX8_done 43 = .ok (.iload_n 2, 1) := by decide +kernel
theorem dX8_done_44 : decode cX8_done 44 = .ok (.iaload, 1) := by decide +kernel
theorem dX8_done_45 : decode cX8_done 45 = .ok (.ireturn, 1) := by decide +kernel
theorem dX8_held_0 : decode cX8_held 0 = .ok (.aload_n 0, 1) := by decide +kernel
theorem dX8_held_1 : decode cX8_held 1 = .ok (.iconst 0, 1) := by decide +kernel
theorem dX8_held_2 : decode cX8_held 2 = .ok (.iload_n 1, 1) := by decide +kernel
theorem dX8_held_3 : decode cX8_held 3 = .ok (.invokevirtual 86, 3) := by decide +kernel
theorem dX8_held_6 : decode cX8_held 6 = .ok (.ifCond .eq 12, 3) := by decide +kernel
theorem dX8_held_9 : decode cX8_held 9 = .ok (.aload_n 0, 1) := by decide +kernel
theorem dX8_held_10 : decode cX8_held 10 = .ok (.iconst 4, 1) := by decide +kernel
theorem dX8_held_11 : decode cX8_held 11 = .ok (.iload_n 2, 1) := by decide +kernel
theorem dX8_held_12 : decode cX8_held 12 = .ok (.invokevirtual 86, 3) := by decide +kernel
theorem dX8_held_15 : decode cX8_held 15 = .ok (.ifCond .ne 5, 3) := by decide +kernel
theorem dX8_held_18 : decode cX8_held 18 = .ok (.iconst (-1), 1) := by decide +kernel
theorem dX8_held_19 : decode cX8_held 19 = .ok (.ireturn, 1) := by decide +kernel
theorem dX8_held_20 : decode cX8_held 20 = .ok (.aload_n 0, 1) := by decide +kernel
theorem dX8_held_21 : decode cX8_held 21 = .ok (.iload_n 1, 1) := by decide +kernel
theorem dX8_held_22 : decode cX8_held 22 = .ok (.invokevirtual 113, 3) := by decide +kernel
theorem dX8_held_25 : decode cX8_held 25 = .ok (.aload_n 0, 1) := by decide +kernel
theorem dX8_held_26 : decode cX8_held 26 = .ok (.getfield 59, 3) := by decide +kernel
theorem dX8_held_29 : decode cX8_held 29 = .ok (.iload_n 2, 1) := by decide +kernel
theorem dX8_held_30 : decode cX8_held 30 = .ok (.iaload, 1) := by decide +kernel
theorem dX8_held_31 : decode cX8_held 31 = .ok (.ifCond .ge 8, 3) := by decide +kernel
theorem dX8_held_34 : decode cX8_held 34 = .ok (.bipush (-3), 2) := by decide +kernel
theorem dX8_held_36 : decode cX8_held 36 = .ok (.goto 9, 3) := by decide +kernel
theorem dX8_held_39 : decode cX8_held 39 = .ok (.aload_n 0, 1) := by decide +kernel
theorem dX8_held_40 : decode cX8_held 40 = .ok (.getfield 59, 3) := by decide +kernel
theorem dX8_held_43 : decode cX8_held 43 = .ok (.iload_n 2, 1) := by decide +kernel
theorem dX8_held_44 : decode cX8_held 44 = .ok (.iaload, 1) := by decide +kernel
theorem dX8_held_45 : decode cX8_held 45 = .ok (.ireturn, 1) := by decide +kernel
theorem dX8_lacks_0 : decode cX8_lacks 0 = .ok (.aload_n 0, 1) := by decide +kernel
theorem dX8_lacks_1 : decode cX8_lacks 1 = .ok (.iconst 0, 1) := by decide +kernel
theorem dX8_lacks_2 : decode cX8_lacks 2 = .ok (.iload_n 1, 1) := by decide +kernel
theorem dX8_lacks_3 : decode cX8_lacks 3 = .ok (.invokevirtual 86, 3) := by decide +kernel
theorem dX8_lacks_6 : decode cX8_lacks 6 = .ok (.ifCond .eq 21, 3) := by decide +kernel
theorem dX8_lacks_9 : decode cX8_lacks 9 = .ok (.aload_n 0, 1) := by decide +kernel
theorem dX8_lacks_10 : decode cX8_lacks 10 = .ok (.iconst 4, 1) := by decide +kernel
theorem dX8_lacks_11 : decode cX8_lacks 11 = .ok (.iload_n 2, 1) := by decide +kernel
theorem dX8_lacks_12 : decode cX8_lacks 12 = .ok (.invokevirtual 86, 3) := by decide +kernel
theorem dX8_lacks_15 : decode cX8_lacks 15 = .ok (.ifCond .eq 12, 3) := by decide +kernel
theorem dX8_lacks_18 : decode cX8_lacks 18 = .ok (.iload_n 3, 1) := by decide +kernel
theorem dX8_lacks_19 : decode cX8_lacks 19 = .ok (.iconst 0, 1) := by decide +kernel
theorem dX8_lacks_20 : decode cX8_lacks 20 = .ok (.iconst 3, 1) := by decide +kernel
theorem dX8_lacks_21 : decode cX8_lacks 21 = .ok (.invokestatic 74, 3) := by decide +kernel
theorem dX8_lacks_24 : decode cX8_lacks 24 = .ok (.ifCond .ne 5, 3) := by decide +kernel
theorem dX8_lacks_27 : decode cX8_lacks 27 = .ok (.iconst (-1), 1) := by decide +kernel
theorem dX8_lacks_28 : decode cX8_lacks 28 = .ok (.ireturn, 1) := by decide +kernel
theorem dX8_lacks_29 : decode cX8_lacks 29 = .ok (.aload_n 0, 1) := by decide +kernel
theorem dX8_lacks_30 : decode cX8_lacks 30 = .ok (.iload_n 1, 1) := by decide +kernel
theorem dX8_lacks_31 : decode cX8_lacks 31 = .ok (.invokevirtual 113, 3) := by decide +kernel
theorem dX8_lacks_34 : decode cX8_lacks 34 = .ok (.iconst 5, 1) := by decide +kernel
theorem dX8_lacks_35 : decode cX8_lacks 35 = .ok (.iload_n 2, 1) := by decide +kernel
theorem dX8_lacks_36 : decode cX8_lacks 36 = .ok (.imul, 1) := by decide +kernel
theorem dX8_lacks_37 : decode cX8_lacks 37 = .ok (.istore 4, 2) := by decide +kernel
theorem dX8_lacks_39 : decode cX8_lacks 39 = .ok (.iconst 0, 1) := by decide +kernel
theorem dX8_lacks_40 : decode cX8_lacks 40 = .ok (.istore 5, 2) := by decide +kernel
theorem dX8_lacks_42 : decode cX8_lacks 42 = .ok (.iconst 0, 1) := by decide +kernel
theorem dX8_lacks_43 : decode cX8_lacks 43 = .ok (.istore 6, 2) := by decide +kernel
theorem dX8_lacks_45 : decode cX8_lacks 45 = .ok (.iconst 0, 1) := by decide +kernel
theorem dX8_lacks_46 : decode cX8_lacks 46 = .ok (.istore 7, 2) := by decide +kernel
theorem dX8_lacks_48 : decode cX8_lacks 48 = .ok (.iload 7, 2) := by decide +kernel
theorem dX8_lacks_50 : decode cX8_lacks 50 = .ok (.bipush 10, 2) := by decide +kernel
theorem dX8_lacks_52 : decode cX8_lacks 52 = .ok (.if_icmp .ge 84, 3) := by decide +kernel
theorem dX8_lacks_55 : decode cX8_lacks 55 = .ok (.iload 5, 2) := by decide +kernel
theorem dX8_lacks_57 : decode cX8_lacks 57 = .ok (.aload_n 0, 1) := by decide +kernel
theorem dX8_lacks_58 : decode cX8_lacks 58 = .ok (.getfield 34, 3) := by decide +kernel
theorem dX8_lacks_61 : decode cX8_lacks 61 = .ok (.iload 4, 2) := by decide +kernel
theorem dX8_lacks_63 : decode cX8_lacks 63 = .ok (.iaload, 1) := by decide +kernel
theorem dX8_lacks_64 : decode cX8_lacks 64 = .ok (.iload 7, 2) := by decide +kernel
theorem dX8_lacks_66 : decode cX8_lacks 66 = .ok (.ishr, 1) := by decide +kernel
theorem dX8_lacks_67 : decode cX8_lacks 67 = .ok (.iconst 1, 1) := by decide +kernel
theorem dX8_lacks_68 : decode cX8_lacks 68 = .ok (.iand, 1) := by decide +kernel
theorem dX8_lacks_69 : decode cX8_lacks 69 = .ok (.iconst 1, 1) := by decide +kernel
theorem dX8_lacks_70 : decode cX8_lacks 70 = .ok (.if_icmp .ne 19, 3) := by decide +kernel
theorem dX8_lacks_73 : decode cX8_lacks 73 = .ok (.aload_n 0, 1) := by decide +kernel
theorem dX8_lacks_74 : decode cX8_lacks 74 = .ok (.iload 7, 2) := by decide +kernel
theorem dX8_lacks_76 : decode cX8_lacks 76 = .ok (.invokevirtual 96, 3) := by decide +kernel
theorem dX8_lacks_79 : decode cX8_lacks 79 = .ok (.ifCond .ne 10, 3) := by decide +kernel
theorem dX8_lacks_82 : decode cX8_lacks 82 = .ok (.iconst 1, 1) := by decide +kernel
theorem dX8_lacks_83 : decode cX8_lacks 83 = .ok (.iload 7, 2) := by decide +kernel
theorem dX8_lacks_85 : decode cX8_lacks 85 = .ok (.ishl, 1) := by decide +kernel
theorem dX8_lacks_86 : decode cX8_lacks 86 = .ok (.goto 4, 3) := by decide +kernel
theorem dX8_lacks_89 : decode cX8_lacks 89 = .ok (.iconst 0, 1) := by decide +kernel
theorem dX8_lacks_90 : decode cX8_lacks 90 = .ok (.ior, 1) := by decide +kernel
theorem dX8_lacks_91 : decode cX8_lacks 91 = .ok (.istore 5, 2) := by decide +kernel
theorem dX8_lacks_93 : decode cX8_lacks 93 = .ok (.iload 6, 2) := by decide +kernel
theorem dX8_lacks_95 : decode cX8_lacks 95 = .ok (.aload_n 0, 1) := by decide +kernel
theorem dX8_lacks_96 : decode cX8_lacks 96 = .ok (.getfield 34, 3) := by decide +kernel
theorem dX8_lacks_99 : decode cX8_lacks 99 = .ok (.iload 4, 2) := by decide +kernel
theorem dX8_lacks_101 : decode cX8_lacks 101 = .ok (.iconst 1, 1) := by decide +kernel
theorem dX8_lacks_102 : decode cX8_lacks 102 = .ok (.iadd, 1) := by decide +kernel
theorem dX8_lacks_103 : decode cX8_lacks 103 = .ok (.iaload, 1) := by decide +kernel
theorem dX8_lacks_104 : decode cX8_lacks 104 = .ok (.iload 7, 2) := by decide +kernel
theorem dX8_lacks_106 : decode cX8_lacks 106 = .ok (.ishr, 1) := by decide +kernel
theorem dX8_lacks_107 : decode cX8_lacks 107 = .ok (.iconst 1, 1) := by decide +kernel
theorem dX8_lacks_108 : decode cX8_lacks 108 = .ok (.iand, 1) := by decide +kernel
theorem dX8_lacks_109 : decode cX8_lacks 109 = .ok (.iconst 1, 1) := by decide +kernel
theorem dX8_lacks_110 : decode cX8_lacks 110 = .ok (.if_icmp .ne 16, 3) := by decide +kernel
theorem dX8_lacks_113 : decode cX8_lacks 113 = .ok (.aload_n 0, 1) := by decide +kernel
theorem dX8_lacks_114 : decode cX8_lacks 114 = .ok (.iload 7, 2) := by decide +kernel
theorem dX8_lacks_116 : decode cX8_lacks 116 = .ok (.invokevirtual 96, 3) := by decide +kernel
theorem dX8_lacks_119 : decode cX8_lacks 119 = .ok (.ifCond .eq 7, 3) := by decide +kernel
theorem dX8_lacks_122 : decode cX8_lacks 122 = .ok (.iconst 1, 1) := by decide +kernel
theorem dX8_lacks_123 : decode cX8_lacks 123 = .ok (.goto 4, 3) := by decide +kernel
theorem dX8_lacks_126 : decode cX8_lacks 126 = .ok (.iconst 0, 1) := by decide +kernel
theorem dX8_lacks_127 : decode cX8_lacks 127 = .ok (.iadd, 1) := by decide +kernel
theorem dX8_lacks_128 : decode cX8_lacks 128 = .ok (.istore 6, 2) := by decide +kernel
theorem dX8_lacks_130 : decode cX8_lacks 130 = .ok (.iinc 7 1, 3) := by decide +kernel
theorem dX8_lacks_133 : decode cX8_lacks 133 = .ok (.goto (-85), 3) := by decide +kernel
theorem dX8_lacks_136 : decode cX8_lacks 136 = .ok (.iload_n 3, 1) := by decide +kernel
theorem dX8_lacks_137 : decode cX8_lacks 137 = .ok (.tableswitch 100 0 2 #[27, 30, 61], 27) := by decide +kernel
theorem dX8_lacks_164 : decode cX8_lacks 164 = .ok (.iload 5, 2) := by decide +kernel
theorem dX8_lacks_166 : decode cX8_lacks 166 = .ok (.ireturn, 1) := by decide +kernel
theorem dX8_lacks_167 : decode cX8_lacks 167 = .ok (.aload_n 0, 1) := by decide +kernel
theorem dX8_lacks_168 : decode cX8_lacks 168 = .ok (.getfield 34, 3) := by decide +kernel
theorem dX8_lacks_171 : decode cX8_lacks 171 = .ok (.iload 4, 2) := by decide +kernel
theorem dX8_lacks_173 : decode cX8_lacks 173 = .ok (.iconst 2, 1) := by decide +kernel
theorem dX8_lacks_174 : decode cX8_lacks 174 = .ok (.iadd, 1) := by decide +kernel
theorem dX8_lacks_175 : decode cX8_lacks 175 = .ok (.iaload, 1) := by decide +kernel
theorem dX8_lacks_176 : decode cX8_lacks 176 = .ok (.iload 6, 2) := by decide +kernel
theorem dX8_lacks_178 : decode cX8_lacks 178 = .ok (.if_icmp .le 18, 3) := by decide +kernel
theorem dX8_lacks_181 : decode cX8_lacks 181 = .ok (.aload_n 0, 1) := by decide +kernel
theorem dX8_lacks_182 : decode cX8_lacks 182 = .ok (.getfield 34, 3) := by decide +kernel
theorem dX8_lacks_185 : decode cX8_lacks 185 = .ok (.iload 4, 2) := by decide +kernel
theorem dX8_lacks_187 : decode cX8_lacks 187 = .ok (.iconst 2, 1) := by decide +kernel
theorem dX8_lacks_188 : decode cX8_lacks 188 = .ok (.iadd, 1) := by decide +kernel
theorem dX8_lacks_189 : decode cX8_lacks 189 = .ok (.iaload, 1) := by decide +kernel
theorem dX8_lacks_190 : decode cX8_lacks 190 = .ok (.iload 6, 2) := by decide +kernel
theorem dX8_lacks_192 : decode cX8_lacks 192 = .ok (.isub, 1) := by decide +kernel
theorem dX8_lacks_193 : decode cX8_lacks 193 = .ok (.goto 4, 3) := by decide +kernel
theorem dX8_lacks_196 : decode cX8_lacks 196 = .ok (.iconst 0, 1) := by decide +kernel
theorem dX8_lacks_197 : decode cX8_lacks 197 = .ok (.ireturn, 1) := by decide +kernel
theorem dX8_lacks_198 : decode cX8_lacks 198 = .ok (.aload_n 0, 1) := by decide +kernel
theorem dX8_lacks_199 : decode cX8_lacks 199 = .ok (.getfield 34, 3) := by decide +kernel
theorem dX8_lacks_202 : decode cX8_lacks 202 = .ok (.iload 4, 2) := by decide +kernel
theorem dX8_lacks_204 : decode cX8_lacks 204 = .ok (.iconst 3, 1) := by decide +kernel
theorem dX8_lacks_205 : decode cX8_lacks 205 = .ok (.iadd, 1) := by decide +kernel
theorem dX8_lacks_206 : decode cX8_lacks 206 = .ok (.iaload, 1) := by decide +kernel
theorem dX8_lacks_207 : decode cX8_lacks 207 = .ok (.aload_n 0, 1) := by decide +kernel
theorem dX8_lacks_208 : decode cX8_lacks 208 = .ok (.getfield 13, 3) := by decide +kernel
theorem dX8_lacks_211 : decode cX8_lacks 211 = .ok (.iload_n 1, 1) := by decide +kernel
theorem dX8_lacks_212 : decode cX8_lacks 212 = .ok (.iaload, 1) := by decide +kernel
theorem dX8_lacks_213 : decode cX8_lacks 213 = .ok (.if_icmp .le 22, 3) := by decide +kernel
theorem dX8_lacks_216 : decode cX8_lacks 216 = .ok (.aload_n 0, 1) := by decide +kernel
theorem dX8_lacks_217 : decode cX8_lacks 217 = .ok (.getfield 34, 3) := by decide +kernel
theorem dX8_lacks_220 : decode cX8_lacks 220 = .ok (.iload 4, 2) := by decide +kernel
theorem dX8_lacks_222 : decode cX8_lacks 222 = .ok (.iconst 3, 1) := by decide +kernel
theorem dX8_lacks_223 : decode cX8_lacks 223 = .ok (.iadd, 1) := by decide +kernel
theorem dX8_lacks_224 : decode cX8_lacks 224 = .ok (.iaload, 1) := by decide +kernel
theorem dX8_lacks_225 : decode cX8_lacks 225 = .ok (.aload_n 0, 1) := by decide +kernel
theorem dX8_lacks_226 : decode cX8_lacks 226 = .ok (.getfield 13, 3) := by decide +kernel
theorem dX8_lacks_229 : decode cX8_lacks 229 = .ok (.iload_n 1, 1) := by decide +kernel
theorem dX8_lacks_230 : decode cX8_lacks 230 = .ok (.iaload, 1) := by decide +kernel
theorem dX8_lacks_231 : decode cX8_lacks 231 = .ok (.isub, 1) := by decide +kernel
theorem dX8_lacks_232 : decode cX8_lacks 232 = .ok (.goto 4, 3) := by decide +kernel
theorem dX8_lacks_235 : decode cX8_lacks 235 = .ok (.iconst 0, 1) := by decide +kernel
theorem dX8_lacks_236 : decode cX8_lacks 236 = .ok (.ireturn, 1) := by decide +kernel
theorem dX8_lacks_237 : decode cX8_lacks 237 = .ok (.aload_n 0, 1) := by decide +kernel
theorem dX8_lacks_238 : decode cX8_lacks 238 = .ok (.getfield 34, 3) := by decide +kernel
theorem dX8_lacks_241 : decode cX8_lacks 241 = .ok (.iload 4, 2) := by decide +kernel
theorem dX8_lacks_243 : decode cX8_lacks 243 = .ok (.iconst 4, 1) := by decide +kernel
theorem dX8_lacks_244 : decode cX8_lacks 244 = .ok (.iadd, 1) := by decide +kernel
theorem dX8_lacks_245 : decode cX8_lacks 245 = .ok (.iaload, 1) := by decide +kernel
theorem dX8_lacks_246 : decode cX8_lacks 246 = .ok (.ifCond .lt 24, 3) := by decide +kernel
theorem dX8_lacks_249 : decode cX8_lacks 249 = .ok (.aload_n 0, 1) := by decide +kernel
theorem dX8_lacks_250 : decode cX8_lacks 250 = .ok (.getfield 59, 3) := by decide +kernel
theorem dX8_lacks_253 : decode cX8_lacks 253 = .ok (.aload_n 0, 1) := by decide +kernel
theorem dX8_lacks_254 : decode cX8_lacks 254 = .ok (.getfield 34, 3) := by decide +kernel
theorem dX8_lacks_257 : decode cX8_lacks 257 = .ok (.iload 4, 2) := by decide +kernel
theorem dX8_lacks_259 : decode cX8_lacks 259 = .ok (.iconst 4, 1) := by decide +kernel
theorem dX8_lacks_260 : decode cX8_lacks 260 = .ok (.iadd, 1) := by decide +kernel
theorem dX8_lacks_261 : decode cX8_lacks 261 = .ok (.iaload, 1) := by decide +kernel
theorem dX8_lacks_262 : decode cX8_lacks 262 = .ok (.iaload, 1) := by decide +kernel
theorem dX8_lacks_263 : decode cX8_lacks 263 = .ok (.ifCond .ge 7, 3) := by decide +kernel
theorem dX8_lacks_266 : decode cX8_lacks 266 = .ok (.iconst 1, 1) := by decide +kernel
theorem dX8_lacks_267 : decode cX8_lacks 267 = .ok (.goto 4, 3) := by decide +kernel
theorem dX8_lacks_270 : decode cX8_lacks 270 = .ok (.iconst 0, 1) := by decide +kernel
theorem dX8_lacks_271 : decode cX8_lacks 271 = .ok (.ireturn, 1) := by decide +kernel
theorem dX8_badges_0 : decode cX8_badges 0 = .ok (.aload_n 0, 1) := by decide +kernel
theorem dX8_badges_1 : decode cX8_badges 1 = .ok (.iconst 0, 1) := by decide +kernel
theorem dX8_badges_2 : decode cX8_badges 2 = .ok (.iload_n 1, 1) := by decide +kernel
theorem dX8_badges_3 : decode cX8_badges 3 = .ok (.invokevirtual 86, 3) := by decide +kernel
theorem dX8_badges_6 : decode cX8_badges 6 = .ok (.ifCond .eq 10, 3) := by decide +kernel
theorem dX8_badges_9 : decode cX8_badges 9 = .ok (.iload_n 2, 1) := by decide +kernel
theorem dX8_badges_10 : decode cX8_badges 10 = .ok (.invokestatic 90, 3) := by decide +kernel
theorem dX8_badges_13 : decode cX8_badges 13 = .ok (.ifCond .ne 5, 3) := by decide +kernel
theorem dX8_badges_16 : decode cX8_badges 16 = .ok (.iconst (-1), 1) := by decide +kernel
theorem dX8_badges_17 : decode cX8_badges 17 = .ok (.ireturn, 1) := by decide +kernel
theorem dX8_badges_18 : decode cX8_badges 18 = .ok (.aload_n 0, 1) := by decide +kernel
theorem dX8_badges_19 : decode cX8_badges 19 = .ok (.iload_n 1, 1) := by decide +kernel
theorem dX8_badges_20 : decode cX8_badges 20 = .ok (.invokevirtual 113, 3) := by decide +kernel
theorem dX8_badges_23 : decode cX8_badges 23 = .ok (.iconst 0, 1) := by decide +kernel
theorem dX8_badges_24 : decode cX8_badges 24 = .ok (.istore_n 3, 1) := by decide +kernel
theorem dX8_badges_25 : decode cX8_badges 25 = .ok (.iconst 0, 1) := by decide +kernel
theorem dX8_badges_26 : decode cX8_badges 26 = .ok (.istore 4, 2) := by decide +kernel
theorem dX8_badges_28 : decode cX8_badges 28 = .ok (.iload 4, 2) := by decide +kernel
theorem dX8_badges_30 : decode cX8_badges 30 = .ok (.aload_n 0, 1) := by decide +kernel
theorem dX8_badges_31 : decode cX8_badges 31 = .ok (.getfield 7, 3) := by decide +kernel
theorem dX8_badges_34 : decode cX8_badges 34 = .ok (.iconst 4, 1) := by decide +kernel
theorem dX8_badges_35 : decode cX8_badges 35 = .ok (.iaload, 1) := by decide +kernel
theorem dX8_badges_36 : decode cX8_badges 36 = .ok (.if_icmp .ge 38, 3) := by decide +kernel
theorem dX8_badges_39 : decode cX8_badges 39 = .ok (.iload_n 3, 1) := by decide +kernel
theorem dX8_badges_40 : decode cX8_badges 40 = .ok (.aload_n 0, 1) := by decide +kernel
theorem dX8_badges_41 : decode cX8_badges 41 = .ok (.getfield 59, 3) := by decide +kernel
theorem dX8_badges_44 : decode cX8_badges 44 = .ok (.iload 4, 2) := by decide +kernel
theorem dX8_badges_46 : decode cX8_badges 46 = .ok (.iaload, 1) := by decide +kernel
theorem dX8_badges_47 : decode cX8_badges 47 = .ok (.ifCond .lt 18, 3) := by decide +kernel
theorem dX8_badges_50 : decode cX8_badges 50 = .ok (.aload_n 0, 1) := by decide +kernel
theorem dX8_badges_51 : decode cX8_badges 51 = .ok (.getfield 59, 3) := by decide +kernel
theorem dX8_badges_54 : decode cX8_badges 54 = .ok (.iload 4, 2) := by decide +kernel
theorem dX8_badges_56 : decode cX8_badges 56 = .ok (.iaload, 1) := by decide +kernel
theorem dX8_badges_57 : decode cX8_badges 57 = .ok (.iload_n 2, 1) := by decide +kernel
theorem dX8_badges_58 : decode cX8_badges 58 = .ok (.if_icmp .gt 7, 3) := by decide +kernel
theorem dX8_badges_61 : decode cX8_badges 61 = .ok (.iconst 1, 1) := by decide +kernel
theorem dX8_badges_62 : decode cX8_badges 62 = .ok (.goto 4, 3) := by decide +kernel
theorem dX8_badges_65 : decode cX8_badges 65 = .ok (.iconst 0, 1) := by decide +kernel
theorem dX8_badges_66 : decode cX8_badges 66 = .ok (.iadd, 1) := by decide +kernel
theorem dX8_badges_67 : decode cX8_badges 67 = .ok (.istore_n 3, 1) := by decide +kernel
theorem dX8_badges_68 : decode cX8_badges 68 = .ok (.iinc 4 1, 3) := by decide +kernel
theorem dX8_badges_71 : decode cX8_badges 71 = .ok (.goto (-43), 3) := by decide +kernel
theorem dX8_badges_74 : decode cX8_badges 74 = .ok (.iload_n 3, 1) := by decide +kernel
theorem dX8_badges_75 : decode cX8_badges 75 = .ok (.ireturn, 1) := by decide +kernel
theorem dX8_site_0 : decode cX8_site 0 = .ok (.iload_n 1, 1) := by decide +kernel
theorem dX8_site_1 : decode cX8_site 1 = .ok (.iconst 1, 1) := by decide +kernel
theorem dX8_site_2 : decode cX8_site 2 = .ok (.bipush 10, 2) := by decide +kernel
theorem dX8_site_4 : decode cX8_site 4 = .ok (.invokestatic 74, 3) := by decide +kernel
theorem dX8_site_7 : decode cX8_site 7 = .ok (.ifCond .ne 5, 3) := by decide +kernel
theorem dX8_site_10 : decode cX8_site 10 = .ok (.iconst (-1), 1) := by decide +kernel
theorem dX8_site_11 : decode cX8_site 11 = .ok (.ireturn, 1) := by decide +kernel
theorem dX8_site_12 : decode cX8_site 12 = .ok (.aload_n 0, 1) := by decide +kernel
theorem dX8_site_13 : decode cX8_site 13 = .ok (.getfield 7, 3) := by decide +kernel
theorem dX8_site_16 : decode cX8_site 16 = .ok (.iconst 5, 1) := by decide +kernel
theorem dX8_site_17 : decode cX8_site 17 = .ok (.iaload, 1) := by decide +kernel
theorem dX8_site_18 : decode cX8_site 18 = .ok (.iconst 3, 1) := by decide +kernel
theorem dX8_site_19 : decode cX8_site 19 = .ok (.if_icmp .ne 6, 3) := by decide +kernel
theorem dX8_site_22 : decode cX8_site 22 = .ok (.bipush (-2), 2) := by decide +kernel
theorem dX8_site_24 : decode cX8_site 24 = .ok (.ireturn, 1) := by decide +kernel
theorem dX8_site_25 : decode cX8_site 25 = .ok (.aload_n 0, 1) := by decide +kernel
theorem dX8_site_26 : decode cX8_site 26 = .ok (.getfield 40, 3) := by decide +kernel
theorem dX8_site_29 : decode cX8_site 29 = .ok (.aload_n 0, 1) := by decide +kernel
theorem dX8_site_30 : decode cX8_site 30 = .ok (.getfield 7, 3) := by decide +kernel
theorem dX8_site_33 : decode cX8_site 33 = .ok (.iconst 5, 1) := by decide +kernel
theorem dX8_site_34 : decode cX8_site 34 = .ok (.iaload, 1) := by decide +kernel
theorem dX8_site_35 : decode cX8_site 35 = .ok (.iload_n 1, 1) := by decide +kernel
theorem dX8_site_36 : decode cX8_site 36 = .ok (.iastore, 1) := by decide +kernel
theorem dX8_site_37 : decode cX8_site 37 = .ok (.aload_n 0, 1) := by decide +kernel
theorem dX8_site_38 : decode cX8_site 38 = .ok (.getfield 43, 3) := by decide +kernel
theorem dX8_site_41 : decode cX8_site 41 = .ok (.aload_n 0, 1) := by decide +kernel
theorem dX8_site_42 : decode cX8_site 42 = .ok (.getfield 7, 3) := by decide +kernel
theorem dX8_site_45 : decode cX8_site 45 = .ok (.iconst 5, 1) := by decide +kernel
theorem dX8_site_46 : decode cX8_site 46 = .ok (.iaload, 1) := by decide +kernel
theorem dX8_site_47 : decode cX8_site 47 = .ok (.iload_n 2, 1) := by decide +kernel
theorem dX8_site_48 : decode cX8_site 48 = .ok (.ifCond .eq 7, 3) := by decide +kernel
theorem dX8_site_51 : decode cX8_site 51 = .ok (.iconst 1, 1) := by decide +kernel
theorem dX8_site_52 : decode cX8_site 52 = .ok (.goto 4, 3) := by decide +kernel
theorem dX8_site_55 : decode cX8_site 55 = .ok (.iconst 0, 1) := by decide +kernel
theorem dX8_site_56 : decode cX8_site 56 = .ok (.iastore, 1) := by decide +kernel
theorem dX8_site_57 : decode cX8_site 57 = .ok (.aload_n 0, 1) := by decide +kernel
theorem dX8_site_58 : decode cX8_site 58 = .ok (.iconst 5, 1) := by decide +kernel
theorem dX8_site_59 : decode cX8_site 59 = .ok (.invokevirtual 82, 3) := by decide +kernel
theorem dX8_site_62 : decode cX8_site 62 = .ok (.ireturn, 1) := by decide +kernel
theorem dX8_wish_0 : decode cX8_wish 0 = .ok (.iload_n 1, 1) := by decide +kernel
theorem dX8_wish_1 : decode cX8_wish 1 = .ok (.invokestatic 78, 3) := by decide +kernel
theorem dX8_wish_4 : decode cX8_wish 4 = .ok (.ifCond .eq 32, 3) := by decide +kernel
theorem dX8_wish_7 : decode cX8_wish 7 = .ok (.iload_n 2, 1) := by decide +kernel
theorem dX8_wish_8 : decode cX8_wish 8 = .ok (.iconst 0, 1) := by decide +kernel
theorem dX8_wish_9 : decode cX8_wish 9 = .ok (.iconst 4, 1) := by decide +kernel
theorem dX8_wish_10 : decode cX8_wish 10 = .ok (.invokestatic 74, 3) := by decide +kernel
theorem dX8_wish_13 : decode cX8_wish 13 = .ok (.ifCond .eq 23, 3) := by decide +kernel
theorem dX8_wish_16 : decode cX8_wish 16 = .ok (.iload_n 3, 1) := by decide +kernel
theorem dX8_wish_17 : decode cX8_wish 17 = .ok (.iconst 0, 1) := by decide +kernel
theorem dX8_wish_18 : decode cX8_wish 18 = .ok (.iconst 2, 1) := by decide +kernel
theorem dX8_wish_19 : decode cX8_wish 19 = .ok (.invokestatic 74, 3) := by decide +kernel
theorem dX8_wish_22 : decode cX8_wish 22 = .ok (.ifCond .eq 14, 3) := by decide +kernel
theorem dX8_wish_25 : decode cX8_wish 25 = .ok (.iload 4, 2) := by decide +kernel
theorem dX8_wish_27 : decode cX8_wish 27 = .ok (.iconst 0, 1) := by decide +kernel
theorem dX8_wish_28 : decode cX8_wish 28 = .ok (.bipush 9, 2) := by decide +kernel
theorem dX8_wish_30 : decode cX8_wish 30 = .ok (.invokestatic 74, 3) := by decide +kernel
theorem dX8_wish_33 : decode cX8_wish 33 = .ok (.ifCond .ne 5, 3) := by decide +kernel
theorem dX8_wish_36 : decode cX8_wish 36 = .ok (.iconst (-1), 1) := by decide +kernel
theorem dX8_wish_37 : decode cX8_wish 37 = .ok (.ireturn, 1) := by decide +kernel
theorem dX8_wish_38 : decode cX8_wish 38 = .ok (.bipush 15, 2) := by decide +kernel
theorem dX8_wish_40 : decode cX8_wish 40 = .ok (.iload_n 1, 1) := by decide +kernel
theorem dX8_wish_41 : decode cX8_wish 41 = .ok (.imul, 1) := by decide +kernel
theorem dX8_wish_42 : decode cX8_wish 42 = .ok (.iconst 3, 1) := by decide +kernel
theorem dX8_wish_43 : decode cX8_wish 43 = .ok (.iload_n 2, 1) := by decide +kernel
theorem dX8_wish_44 : decode cX8_wish 44 = .ok (.imul, 1) := by decide +kernel
theorem dX8_wish_45 : decode cX8_wish 45 = .ok (.iadd, 1) := by decide +kernel
theorem dX8_wish_46 : decode cX8_wish 46 = .ok (.iload_n 3, 1) := by decide +kernel
theorem dX8_wish_47 : decode cX8_wish 47 = .ok (.iadd, 1) := by decide +kernel
theorem dX8_wish_48 : decode cX8_wish 48 = .ok (.istore 5, 2) := by decide +kernel
theorem dX8_wish_50 : decode cX8_wish 50 = .ok (.aload_n 0, 1) := by decide +kernel
theorem dX8_wish_51 : decode cX8_wish 51 = .ok (.getfield 46, 3) := by decide +kernel
theorem dX8_wish_54 : decode cX8_wish 54 = .ok (.iload 5, 2) := by decide +kernel
theorem dX8_wish_56 : decode cX8_wish 56 = .ok (.iaload, 1) := by decide +kernel
theorem dX8_wish_57 : decode cX8_wish 57 = .ok (.istore 6, 2) := by decide +kernel
theorem dX8_wish_59 : decode cX8_wish 59 = .ok (.aload_n 0, 1) := by decide +kernel
theorem dX8_wish_60 : decode cX8_wish 60 = .ok (.getfield 46, 3) := by decide +kernel
theorem dX8_wish_63 : decode cX8_wish 63 = .ok (.iload 5, 2) := by decide +kernel
theorem dX8_wish_65 : decode cX8_wish 65 = .ok (.iload 4, 2) := by decide +kernel
theorem dX8_wish_67 : decode cX8_wish 67 = .ok (.iastore, 1) := by decide +kernel
theorem dX8_wish_68 : decode cX8_wish 68 = .ok (.iload 6, 2) := by decide +kernel
theorem dX8_wish_70 : decode cX8_wish 70 = .ok (.ireturn, 1) := by decide +kernel
theorem dX8_free_0 : decode cX8_free 0 = .ok (.aload_n 0, 1) := by decide +kernel
theorem dX8_free_1 : decode cX8_free 1 = .ok (.iconst 1, 1) := by decide +kernel
theorem dX8_free_2 : decode cX8_free 2 = .ok (.iload_n 1, 1) := by decide +kernel
theorem dX8_free_3 : decode cX8_free 3 = .ok (.invokevirtual 86, 3) := by decide +kernel
theorem dX8_free_6 : decode cX8_free 6 = .ok (.ifCond .eq 13, 3) := by decide +kernel
theorem dX8_free_9 : decode cX8_free 9 = .ok (.iload_n 2, 1) := by decide +kernel
theorem dX8_free_10 : decode cX8_free 10 = .ok (.iconst 0, 1) := by decide +kernel
theorem dX8_free_11 : decode cX8_free 11 = .ok (.bipush 31, 2) := by decide +kernel
theorem dX8_free_13 : decode cX8_free 13 = .ok (.invokestatic 74, 3) := by decide +kernel
theorem dX8_free_16 : decode cX8_free 16 = .ok (.ifCond .ne 5, 3) := by decide +kernel
theorem dX8_free_19 : decode cX8_free 19 = .ok (.iconst (-1), 1) := by decide +kernel
theorem dX8_free_20 : decode cX8_free 20 = .ok (.ireturn, 1) := by decide +kernel
theorem dX8_free_21 : decode cX8_free 21 = .ok (.aload_n 0, 1) := by decide +kernel
theorem dX8_free_22 : decode cX8_free 22 = .ok (.getfield 25, 3) := by decide +kernel
theorem dX8_free_25 : decode cX8_free 25 = .ok (.iload_n 1, 1) := by decide +kernel
theorem dX8_free_26 : decode cX8_free 26 = .ok (.iaload, 1) := by decide +kernel
theorem dX8_free_27 : decode cX8_free 27 = .ok (.istore_n 3, 1) := by decide +kernel
theorem dX8_free_28 : decode cX8_free 28 = .ok (.aload_n 0, 1) := by decide +kernel
theorem dX8_free_29 : decode cX8_free 29 = .ok (.getfield 25, 3) := by decide +kernel
theorem dX8_free_32 : decode cX8_free 32 = .ok (.iload_n 1, 1) := by decide +kernel
theorem dX8_free_33 : decode cX8_free 33 = .ok (.iload_n 2, 1) := by decide +kernel
theorem dX8_free_34 : decode cX8_free 34 = .ok (.iastore, 1) := by decide +kernel
theorem dX8_free_35 : decode cX8_free 35 = .ok (.iload_n 3, 1) := by decide +kernel
theorem dX8_free_36 : decode cX8_free 36 = .ok (.ireturn, 1) := by decide +kernel
theorem dX8_ratio_0 : decode cX8_ratio 0 = .ok (.iload_n 1, 1) := by decide +kernel
theorem dX8_ratio_1 : decode cX8_ratio 1 = .ok (.iconst 1, 1) := by decide +kernel
theorem dX8_ratio_2 : decode cX8_ratio 2 = .ok (.bipush 10, 2) := by decide +kernel
theorem dX8_ratio_4 : decode cX8_ratio 4 = .ok (.invokestatic 74, 3) := by decide +kernel
theorem dX8_ratio_7 : decode cX8_ratio 7 = .ok (.ifCond .ne 5, 3) := by decide +kernel
theorem dX8_ratio_10 : decode cX8_ratio 10 = .ok (.iconst (-1), 1) := by decide +kernel
theorem dX8_ratio_11 : decode cX8_ratio 11 = .ok (.ireturn, 1) := by decide +kernel
theorem dX8_ratio_12 : decode cX8_ratio 12 = .ok (.aload_n 0, 1) := by decide +kernel
theorem dX8_ratio_13 : decode cX8_ratio 13 = .ok (.getfield 49, 3) := by decide +kernel
theorem dX8_ratio_16 : decode cX8_ratio 16 = .ok (.istore_n 2, 1) := by decide +kernel
theorem dX8_ratio_17 : decode cX8_ratio 17 = .ok (.aload_n 0, 1) := by decide +kernel
theorem dX8_ratio_18 : decode cX8_ratio 18 = .ok (.iload_n 1, 1) := by decide +kernel
theorem dX8_ratio_19 : decode cX8_ratio 19 = .ok (.putfield 49, 3) := by decide +kernel
theorem dX8_ratio_22 : decode cX8_ratio 22 = .ok (.iload_n 2, 1) := by decide +kernel
theorem dX8_ratio_23 : decode cX8_ratio 23 = .ok (.ireturn, 1) := by decide +kernel
theorem dX8_sizeOf_0 : decode cX8_sizeOf 0 = .ok (.iconst 0, 1) := by decide +kernel
theorem dX8_sizeOf_1 : decode cX8_sizeOf 1 = .ok (.istore_n 2, 1) := by decide +kernel
theorem dX8_sizeOf_2 : decode cX8_sizeOf 2 = .ok (.iconst 0, 1) := by decide +kernel
theorem dX8_sizeOf_3 : decode cX8_sizeOf 3 = .ok (.istore_n 3, 1) := by decide +kernel
theorem dX8_sizeOf_4 : decode cX8_sizeOf 4 = .ok (.iload_n 3, 1) := by decide +kernel
theorem dX8_sizeOf_5 : decode cX8_sizeOf 5 = .ok (.aload_n 0, 1) := by decide +kernel
theorem dX8_sizeOf_6 : decode cX8_sizeOf 6 = .ok (.getfield 7, 3) := by decide +kernel
theorem dX8_sizeOf_9 : decode cX8_sizeOf 9 = .ok (.iconst 0, 1) := by decide +kernel
theorem dX8_sizeOf_10 : decode cX8_sizeOf 10 = .ok (.iaload, 1) := by decide +kernel
theorem dX8_sizeOf_11 : decode cX8_sizeOf 11 = .ok (.if_icmp .ge 27, 3) := by decide +kernel
theorem dX8_sizeOf_14 : decode cX8_sizeOf 14 = .ok (.iload_n 2, 1) := by decide +kernel
theorem dX8_sizeOf_15 : decode cX8_sizeOf 15 = .ok (.aload_n 0, 1) := by decide +kernel
theorem dX8_sizeOf_16 : decode cX8_sizeOf 16 = .ok (.getfield 16, 3) := by decide +kernel
theorem dX8_sizeOf_19 : decode cX8_sizeOf 19 = .ok (.iload_n 3, 1) := by decide +kernel
theorem dX8_sizeOf_20 : decode cX8_sizeOf 20 = .ok (.iaload, 1) := by decide +kernel
theorem dX8_sizeOf_21 : decode cX8_sizeOf 21 = .ok (.iload_n 1, 1) := by decide +kernel
theorem dX8_sizeOf_22 : decode cX8_sizeOf 22 = .ok (.if_icmp .ne 7, 3) := by decide +kernel
theorem dX8_sizeOf_25 : decode cX8_sizeOf 25 = .ok (.iconst 1, 1) := by decide +kernel
theorem dX8_sizeOf_26 : decode cX8_sizeOf 26 = .ok (.goto 4, 3) := by decide +kernel
theorem dX8_sizeOf_29 : decode cX8_sizeOf 29 = .ok (.iconst 0, 1) := by decide +kernel
theorem dX8_sizeOf_30 : decode cX8_sizeOf 30 = .ok (.iadd, 1) := by decide +kernel
theorem dX8_sizeOf_31 : decode cX8_sizeOf 31 = .ok (.istore_n 2, 1) := by decide +kernel
theorem dX8_sizeOf_32 : decode cX8_sizeOf 32 = .ok (.iinc 3 1, 3) := by decide +kernel
theorem dX8_sizeOf_35 : decode cX8_sizeOf 35 = .ok (.goto (-31), 3) := by decide +kernel
theorem dX8_sizeOf_38 : decode cX8_sizeOf 38 = .ok (.iload_n 2, 1) := by decide +kernel
theorem dX8_sizeOf_39 : decode cX8_sizeOf 39 = .ok (.ireturn, 1) := by decide +kernel
theorem dX8_fits_0 : decode cX8_fits 0 = .ok (.aload_n 0, 1) := by decide +kernel
theorem dX8_fits_1 : decode cX8_fits 1 = .ok (.getfield 62, 3) := by decide +kernel
theorem dX8_fits_4 : decode cX8_fits 4 = .ok (.iload_n 1, 1) := by decide +kernel
theorem dX8_fits_5 : decode cX8_fits 5 = .ok (.iaload, 1) := by decide +kernel
theorem dX8_fits_6 : decode cX8_fits 6 = .ok (.istore_n 2, 1) := by decide +kernel
theorem dX8_fits_7 : decode cX8_fits 7 = .ok (.iload_n 2, 1) := by decide +kernel
theorem dX8_fits_8 : decode cX8_fits 8 = .ok (.bipush 15, 2) := by decide +kernel
theorem dX8_fits_10 : decode cX8_fits 10 = .ok (.if_icmp .ne 5, 3) := by decide +kernel
theorem dX8_fits_13 : decode cX8_fits 13 = .ok (.iconst 1, 1) := by decide +kernel
theorem dX8_fits_14 : decode cX8_fits 14 = .ok (.ireturn, 1) := by decide +kernel
theorem dX8_fits_15 : decode cX8_fits 15 = .ok (.iload_n 2, 1) := by decide +kernel
theorem dX8_fits_16 : decode cX8_fits 16 = .ok (.iconst 3, 1) := by decide +kernel
theorem dX8_fits_17 : decode cX8_fits 17 = .ok (.irem, 1) := by decide +kernel
theorem dX8_fits_18 : decode cX8_fits 18 = .ok (.istore_n 3, 1) := by decide +kernel
theorem dX8_fits_19 : decode cX8_fits 19 = .ok (.iload_n 2, 1) := by decide +kernel
theorem dX8_fits_20 : decode cX8_fits 20 = .ok (.iconst 3, 1) := by decide +kernel
theorem dX8_fits_21 : decode cX8_fits 21 = .ok (.idiv, 1) := by decide +kernel
theorem dX8_fits_22 : decode cX8_fits 22 = .ok (.istore 4, 2) := by decide +kernel
theorem dX8_fits_24 : decode cX8_fits 24 = .ok (.aload_n 0, 1) := by decide +kernel
theorem dX8_fits_25 : decode cX8_fits 25 = .ok (.getfield 68, 3) := by decide +kernel
theorem dX8_fits_28 : decode cX8_fits 28 = .ok (.iload_n 1, 1) := by decide +kernel
theorem dX8_fits_29 : decode cX8_fits 29 = .ok (.iaload, 1) := by decide +kernel
theorem dX8_fits_30 : decode cX8_fits 30 = .ok (.ifCond .le 32, 3) := by decide +kernel
theorem dX8_fits_33 : decode cX8_fits 33 = .ok (.iload_n 3, 1) := by decide +kernel
theorem dX8_fits_34 : decode cX8_fits 34 = .ok (.aload_n 0, 1) := by decide +kernel
theorem dX8_fits_35 : decode cX8_fits 35 = .ok (.getfield 7, 3) := by decide +kernel
theorem dX8_fits_38 : decode cX8_fits 38 = .ok (.iconst 5, 1) := by decide +kernel
theorem dX8_fits_39 : decode cX8_fits 39 = .ok (.iaload, 1) := by decide +kernel
theorem dX8_fits_40 : decode cX8_fits 40 = .ok (.if_icmp .ge 22, 3) := by decide +kernel
theorem dX8_fits_43 : decode cX8_fits 43 = .ok (.aload_n 0, 1) := by decide +kernel
theorem dX8_fits_44 : decode cX8_fits 44 = .ok (.getfield 68, 3) := by decide +kernel
theorem dX8_fits_47 : decode cX8_fits 47 = .ok (.iload_n 1, 1) := by decide +kernel
theorem dX8_fits_48 : decode cX8_fits 48 = .ok (.iaload, 1) := by decide +kernel
theorem dX8_fits_49 : decode cX8_fits 49 = .ok (.aload_n 0, 1) := by decide +kernel
theorem dX8_fits_50 : decode cX8_fits 50 = .ok (.getfield 40, 3) := by decide +kernel
theorem dX8_fits_53 : decode cX8_fits 53 = .ok (.iload_n 3, 1) := by decide +kernel
theorem dX8_fits_54 : decode cX8_fits 54 = .ok (.iaload, 1) := by decide +kernel
theorem dX8_fits_55 : decode cX8_fits 55 = .ok (.if_icmp .gt 7, 3) := by decide +kernel
theorem dX8_fits_58 : decode cX8_fits 58 = .ok (.iconst 1, 1) := by decide +kernel
theorem dX8_fits_59 : decode cX8_fits 59 = .ok (.goto 4, 3) := by decide +kernel
theorem dX8_fits_62 : decode cX8_fits 62 = .ok (.iconst 0, 1) := by decide +kernel
theorem dX8_fits_63 : decode cX8_fits 63 = .ok (.istore 5, 2) := by decide +kernel
theorem dX8_fits_65 : decode cX8_fits 65 = .ok (.aload_n 0, 1) := by decide +kernel
theorem dX8_fits_66 : decode cX8_fits 66 = .ok (.getfield 68, 3) := by decide +kernel
theorem dX8_fits_69 : decode cX8_fits 69 = .ok (.iload_n 1, 1) := by decide +kernel
theorem dX8_fits_70 : decode cX8_fits 70 = .ok (.iaload, 1) := by decide +kernel
theorem dX8_fits_71 : decode cX8_fits 71 = .ok (.istore 6, 2) := by decide +kernel
theorem dX8_fits_73 : decode cX8_fits 73 = .ok (.iconst 0, 1) := by decide +kernel
theorem dX8_fits_74 : decode cX8_fits 74 = .ok (.istore 7, 2) := by decide +kernel
theorem dX8_fits_76 : decode cX8_fits 76 = .ok (.iload 7, 2) := by decide +kernel
theorem dX8_fits_78 : decode cX8_fits 78 = .ok (.iload_n 1, 1) := by decide +kernel
theorem dX8_fits_79 : decode cX8_fits 79 = .ok (.if_icmp .ge 126, 3) := by decide +kernel
theorem dX8_fits_82 : decode cX8_fits 82 = .ok (.iload 5, 2) := by decide +kernel
theorem dX8_fits_84 : decode cX8_fits 84 = .ok (.ifCond .eq 121, 3) := by decide +kernel
theorem dX8_fits_87 : decode cX8_fits 87 = .ok (.aload_n 0, 1) := by decide +kernel
theorem dX8_fits_88 : decode cX8_fits 88 = .ok (.getfield 62, 3) := by decide +kernel
theorem dX8_fits_91 : decode cX8_fits 91 = .ok (.iload 7, 2) := by decide +kernel
theorem dX8_fits_93 : decode cX8_fits 93 = .ok (.iaload, 1) := by decide +kernel
theorem dX8_fits_94 : decode cX8_fits 94 = .ok (.istore 8, 2) := by decide +kernel
theorem dX8_fits_96 : decode cX8_fits 96 = .ok (.iload 8, 2) := by decide +kernel
theorem dX8_fits_98 : decode cX8_fits 98 = .ok (.bipush 15, 2) := by decide +kernel
theorem dX8_fits_100 : decode cX8_fits 100 = .ok (.if_icmp .eq 15, 3) := by decide +kernel
theorem dX8_fits_103 : decode cX8_fits 103 = .ok (.iload 8, 2) := by decide +kernel
theorem dX8_fits_105 : decode cX8_fits 105 = .ok (.iconst 3, 1) := by decide +kernel
theorem dX8_fits_106 : decode cX8_fits 106 = .ok (.irem, 1) := by decide +kernel
theorem dX8_fits_107 : decode cX8_fits 107 = .ok (.iload_n 3, 1) := by decide +kernel
theorem dX8_fits_108 : decode cX8_fits 108 = .ok (.if_icmp .ne 7, 3) := by decide +kernel
theorem dX8_fits_111 : decode cX8_fits 111 = .ok (.iconst 1, 1) := by decide +kernel
theorem dX8_fits_112 : decode cX8_fits 112 = .ok (.goto 4, 3) := by decide +kernel
theorem dX8_fits_115 : decode cX8_fits 115 = .ok (.iconst 0, 1) := by decide +kernel
theorem dX8_fits_116 : decode cX8_fits 116 = .ok (.istore 9, 2) := by decide +kernel
theorem dX8_fits_118 : decode cX8_fits 118 = .ok (.iload 8, 2) := by decide +kernel
theorem dX8_fits_120 : decode cX8_fits 120 = .ok (.iconst 3, 1) := by decide +kernel
theorem dX8_fits_121 : decode cX8_fits 121 = .ok (.idiv, 1) := by decide +kernel
theorem dX8_fits_122 : decode cX8_fits 122 = .ok (.iload 4, 2) := by decide +kernel
theorem dX8_fits_124 : decode cX8_fits 124 = .ok (.isub, 1) := by decide +kernel
theorem dX8_fits_125 : decode cX8_fits 125 = .ok (.istore 10, 2) := by decide +kernel
theorem dX8_fits_127 : decode cX8_fits 127 = .ok (.iload 8, 2) := by decide +kernel
theorem dX8_fits_129 : decode cX8_fits 129 = .ok (.iload_n 2, 1) := by decide +kernel
theorem dX8_fits_130 : decode cX8_fits 130 = .ok (.if_icmp .eq 34, 3) := by decide +kernel
theorem dX8_fits_133 : decode cX8_fits 133 = .ok (.iload 9, 2) := by decide +kernel
theorem dX8_fits_135 : decode cX8_fits 135 = .ok (.ifCond .eq 25, 3) := by decide +kernel
theorem dX8_fits_138 : decode cX8_fits 138 = .ok (.aload_n 0, 1) := by decide +kernel
theorem dX8_fits_139 : decode cX8_fits 139 = .ok (.getfield 43, 3) := by decide +kernel
theorem dX8_fits_142 : decode cX8_fits 142 = .ok (.iload_n 3, 1) := by decide +kernel
theorem dX8_fits_143 : decode cX8_fits 143 = .ok (.iaload, 1) := by decide +kernel
theorem dX8_fits_144 : decode cX8_fits 144 = .ok (.iconst 1, 1) := by decide +kernel
theorem dX8_fits_145 : decode cX8_fits 145 = .ok (.if_icmp .ne 15, 3) := by decide +kernel
theorem dX8_fits_148 : decode cX8_fits 148 = .ok (.iload 10, 2) := by decide +kernel
theorem dX8_fits_150 : decode cX8_fits 150 = .ok (.iconst 1, 1) := by decide +kernel
theorem dX8_fits_151 : decode cX8_fits 151 = .ok (.if_icmp .eq 13, 3) := by decide +kernel
theorem dX8_fits_154 : decode cX8_fits 154 = .ok (.iload 10, 2) := by decide +kernel
theorem dX8_fits_156 : decode cX8_fits 156 = .ok (.iconst (-1), 1) := by decide +kernel
theorem dX8_fits_157 : decode cX8_fits 157 = .ok (.if_icmp .eq 7, 3) := by decide +kernel
theorem dX8_fits_160 : decode cX8_fits 160 = .ok (.iconst 1, 1) := by decide +kernel
theorem dX8_fits_161 : decode cX8_fits 161 = .ok (.goto 4, 3) := by decide +kernel
theorem dX8_fits_164 : decode cX8_fits 164 = .ok (.iconst 0, 1) := by decide +kernel
theorem dX8_fits_165 : decode cX8_fits 165 = .ok (.istore 5, 2) := by decide +kernel
theorem dX8_fits_167 : decode cX8_fits 167 = .ok (.iload 6, 2) := by decide +kernel
theorem dX8_fits_169 : decode cX8_fits 169 = .ok (.iload 8, 2) := by decide +kernel
theorem dX8_fits_171 : decode cX8_fits 171 = .ok (.bipush 15, 2) := by decide +kernel
theorem dX8_fits_173 : decode cX8_fits 173 = .ok (.if_icmp .eq 22, 3) := by decide +kernel
theorem dX8_fits_176 : decode cX8_fits 176 = .ok (.iload 8, 2) := by decide +kernel
theorem dX8_fits_178 : decode cX8_fits 178 = .ok (.iconst 3, 1) := by decide +kernel
theorem dX8_fits_179 : decode cX8_fits 179 = .ok (.idiv, 1) := by decide +kernel
theorem dX8_fits_180 : decode cX8_fits 180 = .ok (.iload 4, 2) := by decide +kernel
theorem dX8_fits_182 : decode cX8_fits 182 = .ok (.if_icmp .ne 13, 3) := by decide +kernel
theorem dX8_fits_185 : decode cX8_fits 185 = .ok (.aload_n 0, 1) := by decide +kernel
theorem dX8_fits_186 : decode cX8_fits 186 = .ok (.getfield 68, 3) := by decide +kernel
theorem dX8_fits_189 : decode cX8_fits 189 = .ok (.iload 7, 2) := by decide +kernel
theorem dX8_fits_191 : decode cX8_fits 191 = .ok (.iaload, 1) := by decide +kernel
theorem dX8_fits_192 : decode cX8_fits 192 = .ok (.goto 4, 3) := by decide +kernel
theorem dX8_fits_195 : decode cX8_fits 195 = .ok (.iconst 0, 1) := by decide +kernel
theorem dX8_fits_196 : decode cX8_fits 196 = .ok (.iadd, 1) := by decide +kernel
theorem dX8_fits_197 : decode cX8_fits 197 = .ok (.istore 6, 2) := by decide +kernel
theorem dX8_fits_199 : decode cX8_fits 199 = .ok (.iinc 7 1, 3) := by decide +kernel
theorem dX8_fits_202 : decode cX8_fits 202 = .ok (.goto (-126), 3) := by decide +kernel
theorem dX8_fits_205 : decode cX8_fits 205 = .ok (.iload 5, 2) := by decide +kernel
theorem dX8_fits_207 : decode cX8_fits 207 = .ok (.ifCond .eq 19, 3) := by decide +kernel
theorem dX8_fits_210 : decode cX8_fits 210 = .ok (.iload 6, 2) := by decide +kernel
theorem dX8_fits_212 : decode cX8_fits 212 = .ok (.aload_n 0, 1) := by decide +kernel
theorem dX8_fits_213 : decode cX8_fits 213 = .ok (.getfield 71, 3) := by decide +kernel
theorem dX8_fits_216 : decode cX8_fits 216 = .ok (.iload 4, 2) := by decide +kernel
theorem dX8_fits_218 : decode cX8_fits 218 = .ok (.iaload, 1) := by decide +kernel
theorem dX8_fits_219 : decode cX8_fits 219 = .ok (.if_icmp .gt 7, 3) := by decide +kernel
theorem dX8_fits_222 : decode cX8_fits 222 = .ok (.iconst 1, 1) := by decide +kernel
theorem dX8_fits_223 : decode cX8_fits 223 = .ok (.goto 4, 3) := by decide +kernel
theorem dX8_fits_226 : decode cX8_fits 226 = .ok (.iconst 0, 1) := by decide +kernel
theorem dX8_fits_227 : decode cX8_fits 227 = .ok (.ireturn, 1) := by decide +kernel
theorem dX8_worthOf_0 : decode cX8_worthOf 0 = .ok (.aload_n 0, 1) := by decide +kernel
theorem dX8_worthOf_1 : decode cX8_worthOf 1 = .ok (.getfield 62, 3) := by decide +kernel
theorem dX8_worthOf_4 : decode cX8_worthOf 4 = .ok (.iload_n 1, 1) := by decide +kernel
theorem dX8_worthOf_5 : decode cX8_worthOf 5 = .ok (.iaload, 1) := by decide +kernel
theorem dX8_worthOf_6 : decode cX8_worthOf 6 = .ok (.bipush 15, 2) := by decide +kernel
theorem dX8_worthOf_8 : decode cX8_worthOf 8 = .ok (.if_icmp .ne 7, 3) := by decide +kernel
theorem dX8_worthOf_11 : decode cX8_worthOf 11 = .ok (.iconst 0, 1) := by decide +kernel
theorem dX8_worthOf_12 : decode cX8_worthOf 12 = .ok (.goto 19, 3) := by decide +kernel
theorem dX8_worthOf_15 : decode cX8_worthOf 15 = .ok (.aload_n 0, 1) := by decide +kernel
theorem dX8_worthOf_16 : decode cX8_worthOf 16 = .ok (.getfield 46, 3) := by decide +kernel
theorem dX8_worthOf_19 : decode cX8_worthOf 19 = .ok (.bipush 15, 2) := by decide +kernel
theorem dX8_worthOf_21 : decode cX8_worthOf 21 = .ok (.iload_n 1, 1) := by decide +kernel
theorem dX8_worthOf_22 : decode cX8_worthOf 22 = .ok (.imul, 1) := by decide +kernel
theorem dX8_worthOf_23 : decode cX8_worthOf 23 = .ok (.aload_n 0, 1) := by decide +kernel
theorem dX8_worthOf_24 : decode cX8_worthOf 24 = .ok (.getfield 62, 3) := by decide +kernel
theorem dX8_worthOf_27 : decode cX8_worthOf 27 = .ok (.iload_n 1, 1) := by decide +kernel
theorem dX8_worthOf_28 : decode cX8_worthOf 28 = .ok (.iaload, 1) := by decide +kernel
theorem dX8_worthOf_29 : decode cX8_worthOf 29 = .ok (.iadd, 1) := by decide +kernel
theorem dX8_worthOf_30 : decode cX8_worthOf 30 = .ok (.iaload, 1) := by decide +kernel
theorem dX8_worthOf_31 : decode cX8_worthOf 31 = .ok (.ireturn, 1) := by decide +kernel
theorem dX8_findPlan_0 : decode cX8_findPlan 0 = .ok (.iconst 0, 1) := by decide +kernel
theorem dX8_findPlan_1 : decode cX8_findPlan 1 = .ok (.istore_n 1, 1) := by decide +kernel
theorem dX8_findPlan_2 : decode cX8_findPlan 2 = .ok (.iload_n 1, 1) := by decide +kernel
theorem dX8_findPlan_3 : decode cX8_findPlan 3 = .ok (.iconst 4, 1) := by decide +kernel
theorem dX8_findPlan_4 : decode cX8_findPlan 4 = .ok (.if_icmp .ge 20, 3) := by decide +kernel
theorem dX8_findPlan_7 : decode cX8_findPlan 7 = .ok (.aload_n 0, 1) := by decide +kernel
theorem dX8_findPlan_8 : decode cX8_findPlan 8 = .ok (.getfield 68, 3) := by decide +kernel
theorem dX8_findPlan_11 : decode cX8_findPlan 11 = .ok (.iload_n 1, 1) := by decide +kernel
theorem dX8_findPlan_12 : decode cX8_findPlan 12 = .ok (.aload_n 0, 1) := by decide +kernel
theorem dX8_findPlan_13 : decode cX8_findPlan 13 = .ok (.iload_n 1, 1) := by decide +kernel
theorem dX8_findPlan_14 : decode cX8_findPlan 14 = .ok (.invokevirtual 116, 3) := by decide +kernel
theorem dX8_findPlan_17 : decode cX8_findPlan 17 = .ok (.iastore, 1) := by decide +kernel
theorem dX8_findPlan_18 : decode cX8_findPlan 18 = .ok (.iinc 1 1, 3) := by decide +kernel
theorem dX8_findPlan_21 : decode cX8_findPlan 21 = .ok (.goto (-19), 3) := by decide +kernel
theorem dX8_findPlan_24 : decode cX8_findPlan 24 = .ok (.iconst 0, 1) := by decide +kernel
theorem dX8_findPlan_25 : decode cX8_findPlan 25 = .ok (.istore_n 1, 1) := by decide +kernel
theorem dX8_findPlan_26 : decode cX8_findPlan 26 = .ok (.iload_n 1, 1) := by decide +kernel
theorem dX8_findPlan_27 : decode cX8_findPlan 27 = .ok (.iconst 5, 1) := by decide +kernel
theorem dX8_findPlan_28 : decode cX8_findPlan 28 = .ok (.if_icmp .ge 65, 3) := by decide +kernel
theorem dX8_findPlan_31 : decode cX8_findPlan 31 = .ok (.aload_n 0, 1) := by decide +kernel
theorem dX8_findPlan_32 : decode cX8_findPlan 32 = .ok (.getfield 71, 3) := by decide +kernel
theorem dX8_findPlan_35 : decode cX8_findPlan 35 = .ok (.iload_n 1, 1) := by decide +kernel
theorem dX8_findPlan_36 : decode cX8_findPlan 36 = .ok (.iconst 0, 1) := by decide +kernel
theorem dX8_findPlan_37 : decode cX8_findPlan 37 = .ok (.iastore, 1) := by decide +kernel
theorem dX8_findPlan_38 : decode cX8_findPlan 38 = .ok (.iconst 0, 1) := by decide +kernel
theorem dX8_findPlan_39 : decode cX8_findPlan 39 = .ok (.istore_n 2, 1) := by decide +kernel
theorem dX8_findPlan_40 : decode cX8_findPlan 40 = .ok (.iload_n 2, 1) := by decide +kernel
theorem dX8_findPlan_41 : decode cX8_findPlan 41 = .ok (.aload_n 0, 1) := by decide +kernel
theorem dX8_findPlan_42 : decode cX8_findPlan 42 = .ok (.getfield 7, 3) := by decide +kernel
theorem dX8_findPlan_45 : decode cX8_findPlan 45 = .ok (.iconst 1, 1) := by decide +kernel
theorem dX8_findPlan_46 : decode cX8_findPlan 46 = .ok (.iaload, 1) := by decide +kernel
theorem dX8_findPlan_47 : decode cX8_findPlan 47 = .ok (.if_icmp .ge 40, 3) := by decide +kernel
theorem dX8_findPlan_50 : decode cX8_findPlan 50 = .ok (.aload_n 0, 1) := by decide +kernel
theorem dX8_findPlan_51 : decode cX8_findPlan 51 = .ok (.getfield 71, 3) := by decide +kernel
theorem dX8_findPlan_54 : decode cX8_findPlan 54 = .ok (.iload_n 1, 1) := by decide +kernel
theorem dX8_findPlan_55 : decode cX8_findPlan 55 = .ok (.dup2, 1) := by decide +kernel
theorem dX8_findPlan_56 : decode cX8_findPlan 56 = .ok (.iaload, 1) := by decide +kernel
theorem dX8_findPlan_57 : decode cX8_findPlan 57 = .ok (.aload_n 0, 1) := by decide +kernel
theorem dX8_findPlan_58 : decode cX8_findPlan 58 = .ok (.getfield 25, 3) := by decide +kernel
theorem dX8_findPlan_61 : decode cX8_findPlan 61 = .ok (.iload_n 2, 1) := by decide +kernel
theorem dX8_findPlan_62 : decode cX8_findPlan 62 = .ok (.iaload, 1) := by decide +kernel
theorem dX8_findPlan_63 : decode cX8_findPlan 63 = .ok (.iload_n 1, 1) := by decide +kernel
theorem dX8_findPlan_64 : decode cX8_findPlan 64 = .ok (.ishr, 1) := by decide +kernel
theorem dX8_findPlan_65 : decode cX8_findPlan 65 = .ok (.iconst 1, 1) := by decide +kernel
theorem dX8_findPlan_66 : decode cX8_findPlan 66 = .ok (.iand, 1) := by decide +kernel
theorem dX8_findPlan_67 : decode cX8_findPlan 67 = .ok (.iconst 1, 1) := by decide +kernel
theorem dX8_findPlan_68 : decode cX8_findPlan 68 = .ok (.if_icmp .ne 10, 3) := by decide +kernel
theorem dX8_findPlan_71 : decode cX8_findPlan 71 = .ok (.aload_n 0, 1) := by decide +kernel
theorem dX8_findPlan_72 : decode cX8_findPlan 72 = .ok (.getfield 49, 3) := by decide +kernel
theorem dX8_findPlan_75 : decode cX8_findPlan 75 = .ok (.goto 4, 3) := by decide +kernel
theorem dX8_findPlan_78 : decode cX8_findPlan 78 = .ok (.iconst 0, 1) := by decide +kernel
theorem dX8_findPlan_79 : decode cX8_findPlan 79 = .ok (.iadd, 1) := by decide +kernel
theorem dX8_findPlan_80 : decode cX8_findPlan 80 = .ok (.iastore, 1) := by decide +kernel
theorem dX8_findPlan_81 : decode cX8_findPlan 81 = .ok (.iinc 2 1, 3) := by decide +kernel
theorem dX8_findPlan_84 : decode cX8_findPlan 84 = .ok (.goto (-44), 3) := by decide +kernel
theorem dX8_findPlan_87 : decode cX8_findPlan 87 = .ok (.iinc 1 1, 3) := by decide +kernel
theorem dX8_findPlan_90 : decode cX8_findPlan 90 = .ok (.goto (-64), 3) := by decide +kernel
theorem dX8_findPlan_93 : decode cX8_findPlan 93 = .ok (.aload_n 0, 1) := by decide +kernel
theorem dX8_findPlan_94 : decode cX8_findPlan 94 = .ok (.iconst (-1), 1) := by decide +kernel
theorem dX8_findPlan_95 : decode cX8_findPlan 95 = .ok (.putfield 119, 3) := by decide +kernel
theorem dX8_findPlan_98 : decode cX8_findPlan 98 = .ok (.aload_n 0, 1) := by decide +kernel
theorem dX8_findPlan_99 : decode cX8_findPlan 99 = .ok (.iconst 0, 1) := by decide +kernel
theorem dX8_findPlan_100 : decode cX8_findPlan 100 = .ok (.putfield 122, 3) := by decide +kernel
theorem dX8_findPlan_103 : decode cX8_findPlan 103 = .ok (.iconst 0, 1) := by decide +kernel
theorem dX8_findPlan_104 : decode cX8_findPlan 104 = .ok (.istore_n 1, 1) := by decide +kernel
theorem dX8_findPlan_105 : decode cX8_findPlan 105 = .ok (.aload_n 0, 1) := by decide +kernel
theorem dX8_findPlan_106 : decode cX8_findPlan 106 = .ok (.getfield 62, 3) := by decide +kernel
theorem dX8_findPlan_109 : decode cX8_findPlan 109 = .ok (.iconst 0, 1) := by decide +kernel
theorem dX8_findPlan_110 : decode cX8_findPlan 110 = .ok (.iconst (-1), 1) := by decide +kernel
theorem dX8_findPlan_111 : decode cX8_findPlan 111 = .ok (.iastore, 1) := by decide +kernel
theorem dX8_findPlan_112 : decode cX8_findPlan 112 = .ok (.iload_n 1, 1) := by decide +kernel
theorem dX8_findPlan_113 : decode cX8_findPlan 113 = .ok (.ifCond .lt 66, 3) := by decide +kernel
theorem dX8_findPlan_116 : decode cX8_findPlan 116 = .ok (.aload_n 0, 1) := by decide +kernel
theorem dX8_findPlan_117 : decode cX8_findPlan 117 = .ok (.getfield 62, 3) := by decide +kernel
theorem dX8_findPlan_120 : decode cX8_findPlan 120 = .ok (.iload_n 1, 1) := by decide +kernel
theorem dX8_findPlan_121 : decode cX8_findPlan 121 = .ok (.dup2, 1) := by decide +kernel
theorem dX8_findPlan_122 : decode cX8_findPlan 122 = .ok (.iaload, 1) := by decide +kernel
theorem dX8_findPlan_123 : decode cX8_findPlan 123 = .ok (.iconst 1, 1) := by decide +kernel
theorem dX8_findPlan_124 : decode cX8_findPlan 124 = .ok (.iadd, 1) := by decide +kernel
theorem dX8_findPlan_125 : decode cX8_findPlan 125 = .ok (.iastore, 1) := by decide +kernel
theorem dX8_findPlan_126 : decode cX8_findPlan 126 = .ok (.aload_n 0, 1) := by decide +kernel
theorem dX8_findPlan_127 : decode cX8_findPlan 127 = .ok (.getfield 62, 3) := by decide +kernel
theorem dX8_findPlan_130 : decode cX8_findPlan 130 = .ok (.iload_n 1, 1) := by decide +kernel
theorem dX8_findPlan_131 : decode cX8_findPlan 131 = .ok (.iaload, 1) := by decide +kernel
theorem dX8_findPlan_132 : decode cX8_findPlan 132 = .ok (.bipush 15, 2) := by decide +kernel
theorem dX8_findPlan_134 : decode cX8_findPlan 134 = .ok (.if_icmp .le 9, 3) := by decide +kernel
theorem dX8_findPlan_137 : decode cX8_findPlan 137 = .ok (.iinc 1 (-1), 3) := by decide +kernel
theorem dX8_findPlan_140 : decode cX8_findPlan 140 = .ok (.goto (-28), 3) := by decide +kernel
theorem dX8_findPlan_143 : decode cX8_findPlan 143 = .ok (.aload_n 0, 1) := by decide +kernel
theorem dX8_findPlan_144 : decode cX8_findPlan 144 = .ok (.iload_n 1, 1) := by decide +kernel
theorem dX8_findPlan_145 : decode cX8_findPlan 145 = .ok (.invokevirtual 125, 3) := by decide +kernel
theorem dX8_findPlan_148 : decode cX8_findPlan 148 = .ok (.ifCond .ne 6, 3) := by decide +kernel
theorem dX8_findPlan_151 : decode cX8_findPlan 151 = .ok (.goto (-39), 3) := by decide +kernel
theorem dX8_findPlan_154 : decode cX8_findPlan 154 = .ok (.iload_n 1, 1) := by decide +kernel
theorem dX8_findPlan_155 : decode cX8_findPlan 155 = .ok (.iconst 3, 1) := by decide +kernel
theorem dX8_findPlan_156 : decode cX8_findPlan 156 = .ok (.if_icmp .ge 16, 3) := by decide +kernel
theorem dX8_findPlan_159 : decode cX8_findPlan 159 = .ok (.iinc 1 1, 3) := by decide +kernel
theorem dX8_findPlan_162 : decode cX8_findPlan 162 = .ok (.aload_n 0, 1) := by decide +kernel
theorem dX8_findPlan_163 : decode cX8_findPlan 163 = .ok (.getfield 62, 3) := by decide +kernel
theorem dX8_findPlan_166 : decode cX8_findPlan 166 = .ok (.iload_n 1, 1) := by decide +kernel
theorem dX8_findPlan_167 : decode cX8_findPlan 167 = .ok (.iconst (-1), 1) := by decide +kernel
theorem dX8_findPlan_168 : decode cX8_findPlan 168 = .ok (.iastore, 1) := by decide +kernel
theorem dX8_findPlan_169 : decode cX8_findPlan 169 = .ok (.goto (-57), 3) := by decide +kernel
theorem dX8_findPlan_172 : decode cX8_findPlan 172 = .ok (.aload_n 0, 1) := by decide +kernel
theorem dX8_findPlan_173 : decode cX8_findPlan 173 = .ok (.invokevirtual 128, 3) := by decide +kernel
theorem dX8_findPlan_176 : decode cX8_findPlan 176 = .ok (.goto (-64), 3) := by decide +kernel
theorem dX8_findPlan_179 : decode cX8_findPlan 179 = .ok (.return_, 1) := by decide +kernel
theorem dX8_takes_0 : decode cX8_takes 0 = .ok (.iconst 0, 1) := by decide +kernel
theorem dX8_takes_1 : decode cX8_takes 1 = .ok (.istore_n 1, 1) := by decide +kernel
theorem dX8_takes_2 : decode cX8_takes 2 = .ok (.iconst 0, 1) := by decide +kernel
theorem dX8_takes_3 : decode cX8_takes 3 = .ok (.istore_n 2, 1) := by decide +kernel
theorem dX8_takes_4 : decode cX8_takes 4 = .ok (.iconst 0, 1) := by decide +kernel
theorem dX8_takes_5 : decode cX8_takes 5 = .ok (.istore_n 3, 1) := by decide +kernel
theorem dX8_takes_6 : decode cX8_takes 6 = .ok (.iload_n 3, 1) := by decide +kernel
theorem dX8_takes_7 : decode cX8_takes 7 = .ok (.iconst 4, 1) := by decide +kernel
theorem dX8_takes_8 : decode cX8_takes 8 = .ok (.if_icmp .ge 36, 3) := by decide +kernel
theorem dX8_takes_11 : decode cX8_takes 11 = .ok (.iload_n 1, 1) := by decide +kernel
theorem dX8_takes_12 : decode cX8_takes 12 = .ok (.aload_n 0, 1) := by decide +kernel
theorem dX8_takes_13 : decode cX8_takes 13 = .ok (.iload_n 3, 1) := by decide +kernel
theorem dX8_takes_14 : decode cX8_takes 14 = .ok (.invokevirtual 131, 3) := by decide +kernel
theorem dX8_takes_17 : decode cX8_takes 17 = .ok (.iadd, 1) := by decide +kernel
theorem dX8_takes_18 : decode cX8_takes 18 = .ok (.istore_n 1, 1) := by decide +kernel
theorem dX8_takes_19 : decode cX8_takes 19 = .ok (.iload_n 2, 1) := by decide +kernel
theorem dX8_takes_20 : decode cX8_takes 20 = .ok (.aload_n 0, 1) := by decide +kernel
theorem dX8_takes_21 : decode cX8_takes 21 = .ok (.getfield 62, 3) := by decide +kernel
theorem dX8_takes_24 : decode cX8_takes 24 = .ok (.iload_n 3, 1) := by decide +kernel
theorem dX8_takes_25 : decode cX8_takes 25 = .ok (.iaload, 1) := by decide +kernel
theorem dX8_takes_26 : decode cX8_takes 26 = .ok (.bipush 15, 2) := by decide +kernel
theorem dX8_takes_28 : decode cX8_takes 28 = .ok (.if_icmp .ne 7, 3) := by decide +kernel
theorem dX8_takes_31 : decode cX8_takes 31 = .ok (.iconst 0, 1) := by decide +kernel
theorem dX8_takes_32 : decode cX8_takes 32 = .ok (.goto 4, 3) := by decide +kernel
theorem dX8_takes_35 : decode cX8_takes 35 = .ok (.iconst 1, 1) := by decide +kernel
theorem dX8_takes_36 : decode cX8_takes 36 = .ok (.iadd, 1) := by decide +kernel
theorem dX8_takes_37 : decode cX8_takes 37 = .ok (.istore_n 2, 1) := by decide +kernel
theorem dX8_takes_38 : decode cX8_takes 38 = .ok (.iinc 3 1, 3) := by decide +kernel
theorem dX8_takes_41 : decode cX8_takes 41 = .ok (.goto (-35), 3) := by decide +kernel
theorem dX8_takes_44 : decode cX8_takes 44 = .ok (.iload_n 1, 1) := by decide +kernel
theorem dX8_takes_45 : decode cX8_takes 45 = .ok (.aload_n 0, 1) := by decide +kernel
theorem dX8_takes_46 : decode cX8_takes 46 = .ok (.getfield 119, 3) := by decide +kernel
theorem dX8_takes_49 : decode cX8_takes 49 = .ok (.if_icmp .gt 19, 3) := by decide +kernel
theorem dX8_takes_52 : decode cX8_takes 52 = .ok (.iload_n 1, 1) := by decide +kernel
theorem dX8_takes_53 : decode cX8_takes 53 = .ok (.aload_n 0, 1) := by decide +kernel
theorem dX8_takes_54 : decode cX8_takes 54 = .ok (.getfield 119, 3) := by decide +kernel
theorem dX8_takes_57 : decode cX8_takes 57 = .ok (.if_icmp .ne 46, 3) := by decide +kernel
theorem dX8_takes_60 : decode cX8_takes 60 = .ok (.iload_n 2, 1) := by decide +kernel
theorem dX8_takes_61 : decode cX8_takes 61 = .ok (.aload_n 0, 1) := by decide +kernel
theorem dX8_takes_62 : decode cX8_takes 62 = .ok (.getfield 122, 3) := by decide +kernel
theorem dX8_takes_65 : decode cX8_takes 65 = .ok (.if_icmp .ge 38, 3) := by decide +kernel
theorem dX8_takes_68 : decode cX8_takes 68 = .ok (.aload_n 0, 1) := by decide +kernel
theorem dX8_takes_69 : decode cX8_takes 69 = .ok (.iload_n 1, 1) := by decide +kernel
theorem dX8_takes_70 : decode cX8_takes 70 = .ok (.putfield 119, 3) := by decide +kernel
theorem dX8_takes_73 : decode cX8_takes 73 = .ok (.aload_n 0, 1) := by decide +kernel
theorem dX8_takes_74 : decode cX8_takes 74 = .ok (.iload_n 2, 1) := by decide +kernel
theorem dX8_takes_75 : decode cX8_takes 75 = .ok (.putfield 122, 3) := by decide +kernel
theorem dX8_takes_78 : decode cX8_takes 78 = .ok (.iconst 0, 1) := by decide +kernel
theorem dX8_takes_79 : decode cX8_takes 79 = .ok (.istore_n 3, 1) := by decide +kernel
theorem dX8_takes_80 : decode cX8_takes 80 = .ok (.iload_n 3, 1) := by decide +kernel
theorem dX8_takes_81 : decode cX8_takes 81 = .ok (.iconst 4, 1) := by decide +kernel
theorem dX8_takes_82 : decode cX8_takes 82 = .ok (.if_icmp .ge 21, 3) := by decide +kernel
theorem dX8_takes_85 : decode cX8_takes 85 = .ok (.aload_n 0, 1) := by decide +kernel
theorem dX8_takes_86 : decode cX8_takes 86 = .ok (.getfield 65, 3) := by decide +kernel
theorem dX8_takes_89 : decode cX8_takes 89 = .ok (.iload_n 3, 1) := by decide +kernel
theorem dX8_takes_90 : decode cX8_takes 90 = .ok (.aload_n 0, 1) := by decide +kernel
theorem dX8_takes_91 : decode cX8_takes 91 = .ok (.getfield 62, 3) := by decide +kernel
theorem dX8_takes_94 : decode cX8_takes 94 = .ok (.iload_n 3, 1) := by decide +kernel
theorem dX8_takes_95 : decode cX8_takes 95 = .ok (.iaload, 1) := by decide +kernel
theorem dX8_takes_96 : decode cX8_takes 96 = .ok (.iastore, 1) := by decide +kernel
theorem dX8_takes_97 : decode cX8_takes 97 = .ok (.iinc 3 1, 3) := by decide +kernel
theorem dX8_takes_100 : decode cX8_takes 100 = .ok (.goto (-20), 3) := by decide +kernel
theorem dX8_takes_103 : decode cX8_takes 103 = .ok (.return_, 1) := by decide +kernel
theorem dX8_plan_0 : decode cX8_plan 0 = .ok (.iload_n 1, 1) := by decide +kernel
theorem dX8_plan_1 : decode cX8_plan 1 = .ok (.invokestatic 78, 3) := by decide +kernel
theorem dX8_plan_4 : decode cX8_plan 4 = .ok (.ifCond .ne 5, 3) := by decide +kernel
theorem dX8_plan_7 : decode cX8_plan 7 = .ok (.iconst (-1), 1) := by decide +kernel
theorem dX8_plan_8 : decode cX8_plan 8 = .ok (.ireturn, 1) := by decide +kernel
theorem dX8_plan_9 : decode cX8_plan 9 = .ok (.aload_n 0, 1) := by decide +kernel
theorem dX8_plan_10 : decode cX8_plan 10 = .ok (.invokevirtual 134, 3) := by decide +kernel
theorem dX8_plan_13 : decode cX8_plan 13 = .ok (.aload_n 0, 1) := by decide +kernel
theorem dX8_plan_14 : decode cX8_plan 14 = .ok (.getfield 65, 3) := by decide +kernel
theorem dX8_plan_17 : decode cX8_plan 17 = .ok (.iload_n 1, 1) := by decide +kernel
theorem dX8_plan_18 : decode cX8_plan 18 = .ok (.iaload, 1) := by decide +kernel
theorem dX8_plan_19 : decode cX8_plan 19 = .ok (.bipush 15, 2) := by decide +kernel
theorem dX8_plan_21 : decode cX8_plan 21 = .ok (.if_icmp .ne 8, 3) := by decide +kernel
theorem dX8_plan_24 : decode cX8_plan 24 = .ok (.bipush (-3), 2) := by decide +kernel
theorem dX8_plan_26 : decode cX8_plan 26 = .ok (.goto 9, 3) := by decide +kernel
theorem dX8_plan_29 : decode cX8_plan 29 = .ok (.aload_n 0, 1) := by decide +kernel
theorem dX8_plan_30 : decode cX8_plan 30 = .ok (.getfield 65, 3) := by decide +kernel
theorem dX8_plan_33 : decode cX8_plan 33 = .ok (.iload_n 1, 1) := by decide +kernel
theorem dX8_plan_34 : decode cX8_plan 34 = .ok (.iaload, 1) := by decide +kernel
theorem dX8_plan_35 : decode cX8_plan 35 = .ok (.ireturn, 1) := by decide +kernel
theorem dX8_planned_0 : decode cX8_planned 0 = .ok (.iload_n 1, 1) := by decide +kernel
theorem dX8_planned_1 : decode cX8_planned 1 = .ok (.iconst 0, 1) := by decide +kernel
theorem dX8_planned_2 : decode cX8_planned 2 = .ok (.bipush 6, 2) := by decide +kernel
theorem dX8_planned_4 : decode cX8_planned 4 = .ok (.invokestatic 74, 3) := by decide +kernel
theorem dX8_planned_7 : decode cX8_planned 7 = .ok (.ifCond .ne 5, 3) := by decide +kernel
theorem dX8_planned_10 : decode cX8_planned 10 = .ok (.iconst (-1), 1) := by decide +kernel
theorem dX8_planned_11 : decode cX8_planned 11 = .ok (.ireturn, 1) := by decide +kernel
theorem dX8_planned_12 : decode cX8_planned 12 = .ok (.aload_n 0, 1) := by decide +kernel
theorem dX8_planned_13 : decode cX8_planned 13 = .ok (.invokevirtual 134, 3) := by decide +kernel
theorem dX8_planned_16 : decode cX8_planned 16 = .ok (.iload_n 1, 1) := by decide +kernel
theorem dX8_planned_17 : decode cX8_planned 17 = .ok (.iconst 2, 1) := by decide +kernel
theorem dX8_planned_18 : decode cX8_planned 18 = .ok (.if_icmp .ge 19, 3) := by decide +kernel
theorem dX8_planned_21 : decode cX8_planned 21 = .ok (.iload_n 1, 1) := by decide +kernel
theorem dX8_planned_22 : decode cX8_planned 22 = .ok (.ifCond .ne 10, 3) := by decide +kernel
theorem dX8_planned_25 : decode cX8_planned 25 = .ok (.aload_n 0, 1) := by decide +kernel
theorem dX8_planned_26 : decode cX8_planned 26 = .ok (.getfield 119, 3) := by decide +kernel
theorem dX8_planned_29 : decode cX8_planned 29 = .ok (.goto 7, 3) := by decide +kernel
theorem dX8_planned_32 : decode cX8_planned 32 = .ok (.aload_n 0, 1) := by decide +kernel
theorem dX8_planned_33 : decode cX8_planned 33 = .ok (.getfield 122, 3) := by decide +kernel
theorem dX8_planned_36 : decode cX8_planned 36 = .ok (.ireturn, 1) := by decide +kernel
theorem dX8_planned_37 : decode cX8_planned 37 = .ok (.iconst 0, 1) := by decide +kernel
theorem dX8_planned_38 : decode cX8_planned 38 = .ok (.istore_n 2, 1) := by decide +kernel
theorem dX8_planned_39 : decode cX8_planned 39 = .ok (.iconst 0, 1) := by decide +kernel
theorem dX8_planned_40 : decode cX8_planned 40 = .ok (.istore_n 3, 1) := by decide +kernel
theorem dX8_planned_41 : decode cX8_planned 41 = .ok (.iload_n 3, 1) := by decide +kernel
theorem dX8_planned_42 : decode cX8_planned 42 = .ok (.iconst 4, 1) := by decide +kernel
theorem dX8_planned_43 : decode cX8_planned 43 = .ok (.if_icmp .ge 47, 3) := by decide +kernel
theorem dX8_planned_46 : decode cX8_planned 46 = .ok (.iload_n 2, 1) := by decide +kernel
theorem dX8_planned_47 : decode cX8_planned 47 = .ok (.aload_n 0, 1) := by decide +kernel
theorem dX8_planned_48 : decode cX8_planned 48 = .ok (.getfield 65, 3) := by decide +kernel
theorem dX8_planned_51 : decode cX8_planned 51 = .ok (.iload_n 3, 1) := by decide +kernel
theorem dX8_planned_52 : decode cX8_planned 52 = .ok (.iaload, 1) := by decide +kernel
theorem dX8_planned_53 : decode cX8_planned 53 = .ok (.bipush 15, 2) := by decide +kernel
theorem dX8_planned_55 : decode cX8_planned 55 = .ok (.if_icmp .eq 26, 3) := by decide +kernel
theorem dX8_planned_58 : decode cX8_planned 58 = .ok (.aload_n 0, 1) := by decide +kernel
theorem dX8_planned_59 : decode cX8_planned 59 = .ok (.getfield 65, 3) := by decide +kernel
theorem dX8_planned_62 : decode cX8_planned 62 = .ok (.iload_n 3, 1) := by decide +kernel
theorem dX8_planned_63 : decode cX8_planned 63 = .ok (.iaload, 1) := by decide +kernel
theorem dX8_planned_64 : decode cX8_planned 64 = .ok (.iconst 3, 1) := by decide +kernel
theorem dX8_planned_65 : decode cX8_planned 65 = .ok (.idiv, 1) := by decide +kernel
theorem dX8_planned_66 : decode cX8_planned 66 = .ok (.iload_n 1, 1) := by decide +kernel
theorem dX8_planned_67 : decode cX8_planned 67 = .ok (.iconst 2, 1) := by decide +kernel
theorem dX8_planned_68 : decode cX8_planned 68 = .ok (.isub, 1) := by decide +kernel
theorem dX8_planned_69 : decode cX8_planned 69 = .ok (.if_icmp .ne 12, 3) := by decide +kernel
theorem dX8_planned_72 : decode cX8_planned 72 = .ok (.aload_n 0, 1) := by decide +kernel
theorem dX8_planned_73 : decode cX8_planned 73 = .ok (.getfield 68, 3) := by decide +kernel
theorem dX8_planned_76 : decode cX8_planned 76 = .ok (.iload_n 3, 1) := by decide +kernel
theorem dX8_planned_77 : decode cX8_planned 77 = .ok (.iaload, 1) := by decide +kernel
theorem dX8_planned_78 : decode cX8_planned 78 = .ok (.goto 4, 3) := by decide +kernel
theorem dX8_planned_81 : decode cX8_planned 81 = .ok (.iconst 0, 1) := by decide +kernel
theorem dX8_planned_82 : decode cX8_planned 82 = .ok (.iadd, 1) := by decide +kernel
theorem dX8_planned_83 : decode cX8_planned 83 = .ok (.istore_n 2, 1) := by decide +kernel
theorem dX8_planned_84 : decode cX8_planned 84 = .ok (.iinc 3 1, 3) := by decide +kernel
theorem dX8_planned_87 : decode cX8_planned 87 = .ok (.goto (-46), 3) := by decide +kernel
theorem dX8_planned_90 : decode cX8_planned 90 = .ok (.iload_n 2, 1) := by decide +kernel
theorem dX8_planned_91 : decode cX8_planned 91 = .ok (.ireturn, 1) := by decide +kernel
theorem dX8_counting_0 : decode cX8_counting 0 = .ok (.iconst 0, 1) := by decide +kernel
theorem dX8_counting_1 : decode cX8_counting 1 = .ok (.istore_n 1, 1) := by decide +kernel
theorem dX8_counting_2 : decode cX8_counting 2 = .ok (.iconst 0, 1) := by decide +kernel
theorem dX8_counting_3 : decode cX8_counting 3 = .ok (.istore_n 2, 1) := by decide +kernel
theorem dX8_counting_4 : decode cX8_counting 4 = .ok (.iload_n 2, 1) := by decide +kernel
theorem dX8_counting_5 : decode cX8_counting 5 = .ok (.aload_n 0, 1) := by decide +kernel
theorem dX8_counting_6 : decode cX8_counting 6 = .ok (.getfield 7, 3) := by decide +kernel
theorem dX8_counting_9 : decode cX8_counting 9 = .ok (.iconst 3, 1) := by decide +kernel
theorem dX8_counting_10 : decode cX8_counting 10 = .ok (.iaload, 1) := by decide +kernel
theorem dX8_counting_11 : decode cX8_counting 11 = .ok (.if_icmp .ge 18, 3) := by decide +kernel
theorem dX8_counting_14 : decode cX8_counting 14 = .ok (.iload_n 1, 1) := by decide +kernel
theorem dX8_counting_15 : decode cX8_counting 15 = .ok (.aload_n 0, 1) := by decide +kernel
theorem dX8_counting_16 : decode cX8_counting 16 = .ok (.iload_n 2, 1) := by decide +kernel
theorem dX8_counting_17 : decode cX8_counting 17 = .ok (.iconst 5, 1) := by decide +kernel
theorem dX8_counting_18 : decode cX8_counting 18 = .ok (.invokevirtual 137, 3) := by decide +kernel
theorem dX8_counting_21 : decode cX8_counting 21 = .ok (.iadd, 1) := by decide +kernel
theorem dX8_counting_22 : decode cX8_counting 22 = .ok (.istore_n 1, 1) := by decide +kernel
theorem dX8_counting_23 : decode cX8_counting 23 = .ok (.iinc 2 1, 3) := by decide +kernel
theorem dX8_counting_26 : decode cX8_counting 26 = .ok (.goto (-22), 3) := by decide +kernel
theorem dX8_counting_29 : decode cX8_counting 29 = .ok (.iload_n 1, 1) := by decide +kernel
theorem dX8_counting_30 : decode cX8_counting 30 = .ok (.ireturn, 1) := by decide +kernel
theorem dX8_holding_0 : decode cX8_holding 0 = .ok (.iconst 0, 1) := by decide +kernel
theorem dX8_holding_1 : decode cX8_holding 1 = .ok (.istore_n 1, 1) := by decide +kernel
theorem dX8_holding_2 : decode cX8_holding 2 = .ok (.iconst 0, 1) := by decide +kernel
theorem dX8_holding_3 : decode cX8_holding 3 = .ok (.istore_n 2, 1) := by decide +kernel
theorem dX8_holding_4 : decode cX8_holding 4 = .ok (.iload_n 2, 1) := by decide +kernel
theorem dX8_holding_5 : decode cX8_holding 5 = .ok (.aload_n 0, 1) := by decide +kernel
theorem dX8_holding_6 : decode cX8_holding 6 = .ok (.getfield 7, 3) := by decide +kernel
theorem dX8_holding_9 : decode cX8_holding 9 = .ok (.iconst 0, 1) := by decide +kernel
theorem dX8_holding_10 : decode cX8_holding 10 = .ok (.iaload, 1) := by decide +kernel
theorem dX8_holding_11 : decode cX8_holding 11 = .ok (.if_icmp .ge 20, 3) := by decide +kernel
theorem dX8_holding_14 : decode cX8_holding 14 = .ok (.iload_n 1, 1) := by decide +kernel
theorem dX8_holding_15 : decode cX8_holding 15 = .ok (.aload_n 0, 1) := by decide +kernel
theorem dX8_holding_16 : decode cX8_holding 16 = .ok (.iload_n 2, 1) := by decide +kernel
theorem dX8_holding_17 : decode cX8_holding 17 = .ok (.sipush 999, 3) := by decide +kernel
theorem dX8_holding_20 : decode cX8_holding 20 = .ok (.invokevirtual 140, 3) := by decide +kernel
theorem dX8_holding_23 : decode cX8_holding 23 = .ok (.iadd, 1) := by decide +kernel
theorem dX8_holding_24 : decode cX8_holding 24 = .ok (.istore_n 1, 1) := by decide +kernel
theorem dX8_holding_25 : decode cX8_holding 25 = .ok (.iinc 2 1, 3) := by decide +kernel
theorem dX8_holding_28 : decode cX8_holding 28 = .ok (.goto (-24), 3) := by decide +kernel
theorem dX8_holding_31 : decode cX8_holding 31 = .ok (.iload_n 1, 1) := by decide +kernel
theorem dX8_holding_32 : decode cX8_holding 32 = .ok (.ireturn, 1) := by decide +kernel
theorem dX8_many_0 : decode cX8_many 0 = .ok (.iload_n 1, 1) := by decide +kernel
theorem dX8_many_1 : decode cX8_many 1 = .ok (.iconst 0, 1) := by decide +kernel
theorem dX8_many_2 : decode cX8_many 2 = .ok (.bipush 11, 2) := by decide +kernel
theorem dX8_many_4 : decode cX8_many 4 = .ok (.invokestatic 74, 3) := by decide +kernel
theorem dX8_many_7 : decode cX8_many 7 = .ok (.ifCond .ne 5, 3) := by decide +kernel
theorem dX8_many_10 : decode cX8_many 10 = .ok (.iconst (-1), 1) := by decide +kernel
theorem dX8_many_11 : decode cX8_many 11 = .ok (.ireturn, 1) := by decide +kernel
theorem dX8_many_12 : decode cX8_many 12 = .ok (.iload_n 1, 1) := by decide +kernel
theorem dX8_many_13 : decode cX8_many 13 = .ok (.bipush 6, 2) := by decide +kernel
theorem dX8_many_15 : decode cX8_many 15 = .ok (.if_icmp .ge 12, 3) := by decide +kernel
theorem dX8_many_18 : decode cX8_many 18 = .ok (.aload_n 0, 1) := by decide +kernel
theorem dX8_many_19 : decode cX8_many 19 = .ok (.getfield 7, 3) := by decide +kernel
theorem dX8_many_22 : decode cX8_many 22 = .ok (.iload_n 1, 1) := by decide +kernel
theorem dX8_many_23 : decode cX8_many 23 = .ok (.iaload, 1) := by decide +kernel
theorem dX8_many_24 : decode cX8_many 24 = .ok (.goto 37, 3) := by decide +kernel
theorem dX8_many_27 : decode cX8_many 27 = .ok (.iload_n 1, 1) := by decide +kernel
theorem dX8_many_28 : decode cX8_many 28 = .ok (.bipush 6, 2) := by decide +kernel
theorem dX8_many_30 : decode cX8_many 30 = .ok (.if_icmp .ne 10, 3) := by decide +kernel
theorem dX8_many_33 : decode cX8_many 33 = .ok (.aload_n 0, 1) := by decide +kernel
theorem dX8_many_34 : decode cX8_many 34 = .ok (.invokevirtual 142, 3) := by decide +kernel
theorem dX8_many_37 : decode cX8_many 37 = .ok (.goto 24, 3) := by decide +kernel
theorem dX8_many_40 : decode cX8_many 40 = .ok (.iload_n 1, 1) := by decide +kernel
theorem dX8_many_41 : decode cX8_many 41 = .ok (.bipush 7, 2) := by decide +kernel
theorem dX8_many_43 : decode cX8_many 43 = .ok (.if_icmp .ne 10, 3) := by decide +kernel
theorem dX8_many_46 : decode cX8_many 46 = .ok (.aload_n 0, 1) := by decide +kernel
theorem dX8_many_47 : decode cX8_many 47 = .ok (.invokevirtual 146, 3) := by decide +kernel
theorem dX8_many_50 : decode cX8_many 50 = .ok (.goto 11, 3) := by decide +kernel
theorem dX8_many_53 : decode cX8_many 53 = .ok (.aload_n 0, 1) := by decide +kernel
theorem dX8_many_54 : decode cX8_many 54 = .ok (.iload_n 1, 1) := by decide +kernel
theorem dX8_many_55 : decode cX8_many 55 = .ok (.bipush 8, 2) := by decide +kernel
theorem dX8_many_57 : decode cX8_many 57 = .ok (.isub, 1) := by decide +kernel
theorem dX8_many_58 : decode cX8_many 58 = .ok (.invokevirtual 116, 3) := by decide +kernel
theorem dX8_many_61 : decode cX8_many 61 = .ok (.ireturn, 1) := by decide +kernel
theorem dX8_move_0 : decode cX8_move 0 = .ok (.iconst 0, 1) := by decide +kernel
theorem dX8_move_1 : decode cX8_move 1 = .ok (.istore 4, 2) := by decide +kernel
theorem dX8_move_3 : decode cX8_move 3 = .ok (.iload 4, 2) := by decide +kernel
theorem dX8_move_5 : decode cX8_move 5 = .ok (.iload_n 2, 1) := by decide +kernel
theorem dX8_move_6 : decode cX8_move 6 = .ok (.if_icmp .ge 52, 3) := by decide +kernel
theorem dX8_move_9 : decode cX8_move 9 = .ok (.iload_n 3, 1) := by decide +kernel
theorem dX8_move_10 : decode cX8_move 10 = .ok (.ifCond .eq 19, 3) := by decide +kernel
theorem dX8_move_13 : decode cX8_move 13 = .ok (.aload_n 0, 1) := by decide +kernel
theorem dX8_move_14 : decode cX8_move 14 = .ok (.getfield 53, 3) := by decide +kernel
theorem dX8_move_17 : decode cX8_move 17 = .ok (.aload_n 0, 1) := by decide +kernel
theorem dX8_move_18 : decode cX8_move 18 = .ok (.getfield 149, 3) := by decide +kernel
theorem dX8_move_21 : decode cX8_move 21 = .ok (.aload_n 1, 1) := by decide +kernel
theorem dX8_move_22 : decode cX8_move 22 = .ok (.iload 4, 2) := by decide +kernel
theorem dX8_move_24 : decode cX8_move 24 = .ok (.iaload, 1) := by decide +kernel
theorem dX8_move_25 : decode cX8_move 25 = .ok (.iastore, 1) := by decide +kernel
theorem dX8_move_26 : decode cX8_move 26 = .ok (.goto 16, 3) := by decide +kernel
theorem dX8_move_29 : decode cX8_move 29 = .ok (.aload_n 1, 1) := by decide +kernel
theorem dX8_move_30 : decode cX8_move 30 = .ok (.iload 4, 2) := by decide +kernel
theorem dX8_move_32 : decode cX8_move 32 = .ok (.aload_n 0, 1) := by decide +kernel
theorem dX8_move_33 : decode cX8_move 33 = .ok (.getfield 53, 3) := by decide +kernel
theorem dX8_move_36 : decode cX8_move 36 = .ok (.aload_n 0, 1) := by decide +kernel
theorem dX8_move_37 : decode cX8_move 37 = .ok (.getfield 149, 3) := by decide +kernel
theorem dX8_move_40 : decode cX8_move 40 = .ok (.iaload, 1) := by decide +kernel
theorem dX8_move_41 : decode cX8_move 41 = .ok (.iastore, 1) := by decide +kernel
theorem dX8_move_42 : decode cX8_move 42 = .ok (.aload_n 0, 1) := by decide +kernel
theorem dX8_move_43 : decode cX8_move 43 = .ok (.dup, 1) := by decide +kernel
theorem dX8_move_44 : decode cX8_move 44 = .ok (.getfield 149, 3) := by decide +kernel
theorem dX8_move_47 : decode cX8_move 47 = .ok (.iconst 1, 1) := by decide +kernel
theorem dX8_move_48 : decode cX8_move 48 = .ok (.iadd, 1) := by decide +kernel
theorem dX8_move_49 : decode cX8_move 49 = .ok (.putfield 149, 3) := by decide +kernel
theorem dX8_move_52 : decode cX8_move 52 = .ok (.iinc 4 1, 3) := by decide +kernel
theorem dX8_move_55 : decode cX8_move 55 = .ok (.goto (-52), 3) := by decide +kernel
theorem dX8_move_58 : decode cX8_move 58 = .ok (.return_, 1) := by decide +kernel
theorem dX8_moveAll_0 : decode cX8_moveAll 0 = .ok (.aload_n 0, 1) := by decide +kernel
theorem dX8_moveAll_1 : decode cX8_moveAll 1 = .ok (.iconst 0, 1) := by decide +kernel
theorem dX8_moveAll_2 : decode cX8_moveAll 2 = .ok (.putfield 149, 3) := by decide +kernel
theorem dX8_moveAll_5 : decode cX8_moveAll 5 = .ok (.aload_n 0, 1) := by decide +kernel
theorem dX8_moveAll_6 : decode cX8_moveAll 6 = .ok (.aload_n 0, 1) := by decide +kernel
theorem dX8_moveAll_7 : decode cX8_moveAll 7 = .ok (.getfield 7, 3) := by decide +kernel
theorem dX8_moveAll_10 : decode cX8_moveAll 10 = .ok (.bipush 6, 2) := by decide +kernel
theorem dX8_moveAll_12 : decode cX8_moveAll 12 = .ok (.iload_n 1, 1) := by decide +kernel
theorem dX8_moveAll_13 : decode cX8_moveAll 13 = .ok (.invokevirtual 152, 3) := by decide +kernel
theorem dX8_moveAll_16 : decode cX8_moveAll 16 = .ok (.aload_n 0, 1) := by decide +kernel
theorem dX8_moveAll_17 : decode cX8_moveAll 17 = .ok (.aload_n 0, 1) := by decide +kernel
theorem dX8_moveAll_18 : decode cX8_moveAll 18 = .ok (.getfield 13, 3) := by decide +kernel
theorem dX8_moveAll_21 : decode cX8_moveAll 21 = .ok (.bipush 10, 2) := by decide +kernel
theorem dX8_moveAll_23 : decode cX8_moveAll 23 = .ok (.iload_n 1, 1) := by decide +kernel
theorem dX8_moveAll_24 : decode cX8_moveAll 24 = .ok (.invokevirtual 152, 3) := by decide +kernel
theorem dX8_moveAll_27 : decode cX8_moveAll 27 = .ok (.aload_n 0, 1) := by decide +kernel
theorem dX8_moveAll_28 : decode cX8_moveAll 28 = .ok (.aload_n 0, 1) := by decide +kernel
theorem dX8_moveAll_29 : decode cX8_moveAll 29 = .ok (.getfield 16, 3) := by decide +kernel
theorem dX8_moveAll_32 : decode cX8_moveAll 32 = .ok (.bipush 10, 2) := by decide +kernel
theorem dX8_moveAll_34 : decode cX8_moveAll 34 = .ok (.iload_n 1, 1) := by decide +kernel
theorem dX8_moveAll_35 : decode cX8_moveAll 35 = .ok (.invokevirtual 152, 3) := by decide +kernel
theorem dX8_moveAll_38 : decode cX8_moveAll 38 = .ok (.aload_n 0, 1) := by decide +kernel
theorem dX8_moveAll_39 : decode cX8_moveAll 39 = .ok (.aload_n 0, 1) := by decide +kernel
theorem dX8_moveAll_40 : decode cX8_moveAll 40 = .ok (.getfield 19, 3) := by decide +kernel
theorem dX8_moveAll_43 : decode cX8_moveAll 43 = .ok (.bipush 20, 2) := by decide +kernel
theorem dX8_moveAll_45 : decode cX8_moveAll 45 = .ok (.iload_n 1, 1) := by decide +kernel
theorem dX8_moveAll_46 : decode cX8_moveAll 46 = .ok (.invokevirtual 152, 3) := by decide +kernel
theorem dX8_moveAll_49 : decode cX8_moveAll 49 = .ok (.aload_n 0, 1) := by decide +kernel
theorem dX8_moveAll_50 : decode cX8_moveAll 50 = .ok (.aload_n 0, 1) := by decide +kernel
theorem dX8_moveAll_51 : decode cX8_moveAll 51 = .ok (.getfield 22, 3) := by decide +kernel
theorem dX8_moveAll_54 : decode cX8_moveAll 54 = .ok (.bipush 20, 2) := by decide +kernel
theorem dX8_moveAll_56 : decode cX8_moveAll 56 = .ok (.iload_n 1, 1) := by decide +kernel
theorem dX8_moveAll_57 : decode cX8_moveAll 57 = .ok (.invokevirtual 152, 3) := by decide +kernel
theorem dX8_moveAll_60 : decode cX8_moveAll 60 = .ok (.aload_n 0, 1) := by decide +kernel
theorem dX8_moveAll_61 : decode cX8_moveAll 61 = .ok (.aload_n 0, 1) := by decide +kernel
theorem dX8_moveAll_62 : decode cX8_moveAll 62 = .ok (.getfield 25, 3) := by decide +kernel
theorem dX8_moveAll_65 : decode cX8_moveAll 65 = .ok (.iconst 5, 1) := by decide +kernel
theorem dX8_moveAll_66 : decode cX8_moveAll 66 = .ok (.iload_n 1, 1) := by decide +kernel
theorem dX8_moveAll_67 : decode cX8_moveAll 67 = .ok (.invokevirtual 152, 3) := by decide +kernel
theorem dX8_moveAll_70 : decode cX8_moveAll 70 = .ok (.aload_n 0, 1) := by decide +kernel
theorem dX8_moveAll_71 : decode cX8_moveAll 71 = .ok (.aload_n 0, 1) := by decide +kernel
theorem dX8_moveAll_72 : decode cX8_moveAll 72 = .ok (.getfield 28, 3) := by decide +kernel
theorem dX8_moveAll_75 : decode cX8_moveAll 75 = .ok (.bipush 10, 2) := by decide +kernel
theorem dX8_moveAll_77 : decode cX8_moveAll 77 = .ok (.iload_n 1, 1) := by decide +kernel
theorem dX8_moveAll_78 : decode cX8_moveAll 78 = .ok (.invokevirtual 152, 3) := by decide +kernel
theorem dX8_moveAll_81 : decode cX8_moveAll 81 = .ok (.aload_n 0, 1) := by decide +kernel
theorem dX8_moveAll_82 : decode cX8_moveAll 82 = .ok (.aload_n 0, 1) := by decide +kernel
theorem dX8_moveAll_83 : decode cX8_moveAll 83 = .ok (.getfield 31, 3) := by decide +kernel
theorem dX8_moveAll_86 : decode cX8_moveAll 86 = .ok (.bipush 10, 2) := by decide +kernel
theorem dX8_moveAll_88 : decode cX8_moveAll 88 = .ok (.iload_n 1, 1) := by decide +kernel
theorem dX8_moveAll_89 : decode cX8_moveAll 89 = .ok (.invokevirtual 152, 3) := by decide +kernel
theorem dX8_moveAll_92 : decode cX8_moveAll 92 = .ok (.aload_n 0, 1) := by decide +kernel
theorem dX8_moveAll_93 : decode cX8_moveAll 93 = .ok (.aload_n 0, 1) := by decide +kernel
theorem dX8_moveAll_94 : decode cX8_moveAll 94 = .ok (.getfield 34, 3) := by decide +kernel
theorem dX8_moveAll_97 : decode cX8_moveAll 97 = .ok (.bipush 40, 2) := by decide +kernel
theorem dX8_moveAll_99 : decode cX8_moveAll 99 = .ok (.iload_n 1, 1) := by decide +kernel
theorem dX8_moveAll_100 : decode cX8_moveAll 100 = .ok (.invokevirtual 152, 3) := by decide +kernel
theorem dX8_moveAll_103 : decode cX8_moveAll 103 = .ok (.aload_n 0, 1) := by decide +kernel
theorem dX8_moveAll_104 : decode cX8_moveAll 104 = .ok (.aload_n 0, 1) := by decide +kernel
theorem dX8_moveAll_105 : decode cX8_moveAll 105 = .ok (.getfield 37, 3) := by decide +kernel
theorem dX8_moveAll_108 : decode cX8_moveAll 108 = .ok (.sipush 400, 3) := by decide +kernel
theorem dX8_moveAll_111 : decode cX8_moveAll 111 = .ok (.iload_n 1, 1) := by decide +kernel
theorem dX8_moveAll_112 : decode cX8_moveAll 112 = .ok (.invokevirtual 152, 3) := by decide +kernel
theorem dX8_moveAll_115 : decode cX8_moveAll 115 = .ok (.aload_n 0, 1) := by decide +kernel
theorem dX8_moveAll_116 : decode cX8_moveAll 116 = .ok (.aload_n 0, 1) := by decide +kernel
theorem dX8_moveAll_117 : decode cX8_moveAll 117 = .ok (.getfield 40, 3) := by decide +kernel
theorem dX8_moveAll_120 : decode cX8_moveAll 120 = .ok (.iconst 3, 1) := by decide +kernel
theorem dX8_moveAll_121 : decode cX8_moveAll 121 = .ok (.iload_n 1, 1) := by decide +kernel
theorem dX8_moveAll_122 : decode cX8_moveAll 122 = .ok (.invokevirtual 152, 3) := by decide +kernel
theorem dX8_moveAll_125 : decode cX8_moveAll 125 = .ok (.aload_n 0, 1) := by decide +kernel
theorem dX8_moveAll_126 : decode cX8_moveAll 126 = .ok (.aload_n 0, 1) := by decide +kernel
theorem dX8_moveAll_127 : decode cX8_moveAll 127 = .ok (.getfield 43, 3) := by decide +kernel
theorem dX8_moveAll_130 : decode cX8_moveAll 130 = .ok (.iconst 3, 1) := by decide +kernel
theorem dX8_moveAll_131 : decode cX8_moveAll 131 = .ok (.iload_n 1, 1) := by decide +kernel
theorem dX8_moveAll_132 : decode cX8_moveAll 132 = .ok (.invokevirtual 152, 3) := by decide +kernel
theorem dX8_moveAll_135 : decode cX8_moveAll 135 = .ok (.aload_n 0, 1) := by decide +kernel
theorem dX8_moveAll_136 : decode cX8_moveAll 136 = .ok (.aload_n 0, 1) := by decide +kernel
theorem dX8_moveAll_137 : decode cX8_moveAll 137 = .ok (.getfield 46, 3) := by decide +kernel
theorem dX8_moveAll_140 : decode cX8_moveAll 140 = .ok (.bipush 60, 2) := by decide +kernel
theorem dX8_moveAll_142 : decode cX8_moveAll 142 = .ok (.iload_n 1, 1) := by decide +kernel
theorem dX8_moveAll_143 : decode cX8_moveAll 143 = .ok (.invokevirtual 152, 3) := by decide +kernel
theorem dX8_moveAll_146 : decode cX8_moveAll 146 = .ok (.return_, 1) := by decide +kernel
theorem dX8_keep_0 : decode cX8_keep 0 = .ok (.aload_n 0, 1) := by decide +kernel
theorem dX8_keep_1 : decode cX8_keep 1 = .ok (.iconst 1, 1) := by decide +kernel
theorem dX8_keep_2 : decode cX8_keep 2 = .ok (.invokevirtual 156, 3) := by decide +kernel
theorem dX8_keep_5 : decode cX8_keep 5 = .ok (.aload_n 0, 1) := by decide +kernel
theorem dX8_keep_6 : decode cX8_keep 6 = .ok (.iconst 1, 1) := by decide +kernel
theorem dX8_keep_7 : decode cX8_keep 7 = .ok (.putfield 160, 3) := by decide +kernel
theorem dX8_keep_10 : decode cX8_keep 10 = .ok (.iconst 1, 1) := by decide +kernel
theorem dX8_keep_11 : decode cX8_keep 11 = .ok (.ireturn, 1) := by decide +kernel
theorem dX8_back_0 : decode cX8_back 0 = .ok (.aload_n 0, 1) := by decide +kernel
theorem dX8_back_1 : decode cX8_back 1 = .ok (.getfield 160, 3) := by decide +kernel
theorem dX8_back_4 : decode cX8_back 4 = .ok (.ifCond .ne 6, 3) := by decide +kernel
theorem dX8_back_7 : decode cX8_back 7 = .ok (.bipush (-3), 2) := by decide +kernel
theorem dX8_back_9 : decode cX8_back 9 = .ok (.ireturn, 1) := by decide +kernel
theorem dX8_back_10 : decode cX8_back 10 = .ok (.aload_n 0, 1) := by decide +kernel
theorem dX8_back_11 : decode cX8_back 11 = .ok (.iconst 0, 1) := by decide +kernel
theorem dX8_back_12 : decode cX8_back 12 = .ok (.invokevirtual 156, 3) := by decide +kernel
theorem dX8_back_15 : decode cX8_back 15 = .ok (.iconst 1, 1) := by decide +kernel
theorem dX8_back_16 : decode cX8_back 16 = .ok (.ireturn, 1) := by decide +kernel
theorem dJ9_max_7cf53_0 : decode cJ9_max_7cf53 0 = .ok (.iload_n 0, 1) := by decide +kernel
theorem dJ9_max_7cf53_1 : decode cJ9_max_7cf53 1 = .ok (.iload_n 1, 1) := by decide +kernel
theorem dJ9_max_7cf53_2 : decode cJ9_max_7cf53 2 = .ok (.if_icmp .lt 7, 3) := by decide +kernel
theorem dJ9_max_7cf53_5 : decode cJ9_max_7cf53 5 = .ok (.iload_n 0, 1) := by decide +kernel
theorem dJ9_max_7cf53_6 : decode cJ9_max_7cf53 6 = .ok (.goto 4, 3) := by decide +kernel
theorem dJ9_max_7cf53_9 : decode cJ9_max_7cf53 9 = .ok (.iload_n 1, 1) := by decide +kernel
theorem dJ9_max_7cf53_10 : decode cJ9_max_7cf53 10 = .ok (.ireturn, 1) := by decide +kernel
theorem dJ9_min_7cf53_0 : decode cJ9_min_7cf53 0 = .ok (.iload_n 0, 1) := by decide +kernel
theorem dJ9_min_7cf53_1 : decode cJ9_min_7cf53 1 = .ok (.iload_n 1, 1) := by decide +kernel
theorem dJ9_min_7cf53_2 : decode cJ9_min_7cf53 2 = .ok (.if_icmp .gt 7, 3) := by decide +kernel
theorem dJ9_min_7cf53_5 : decode cJ9_min_7cf53 5 = .ok (.iload_n 0, 1) := by decide +kernel
theorem dJ9_min_7cf53_6 : decode cJ9_min_7cf53 6 = .ok (.goto 4, 3) := by decide +kernel
theorem dJ9_min_7cf53_9 : decode cJ9_min_7cf53 9 = .ok (.iload_n 1, 1) := by decide +kernel
theorem dJ9_min_7cf53_10 : decode cJ9_min_7cf53 10 = .ok (.ireturn, 1) := by decide +kernel
theorem dJ7_fill_53178_0 : decode cJ7_fill_53178 0 = .ok (.iconst 0, 1) := by decide +kernel
theorem dJ7_fill_53178_1 : decode cJ7_fill_53178 1 = .ok (.istore_n 2, 1) := by decide +kernel
theorem dJ7_fill_53178_2 : decode cJ7_fill_53178 2 = .ok (.aload_n 0, 1) := by decide +kernel
theorem dJ7_fill_53178_3 : decode cJ7_fill_53178 3 = .ok (.arraylength, 1) := by decide +kernel
theorem dJ7_fill_53178_4 : decode cJ7_fill_53178 4 = .ok (.istore_n 3, 1) := by decide +kernel
theorem dJ7_fill_53178_5 : decode cJ7_fill_53178 5 = .ok (.iload_n 2, 1) := by decide +kernel
theorem dJ7_fill_53178_6 : decode cJ7_fill_53178 6 = .ok (.iload_n 3, 1) := by decide +kernel
theorem dJ7_fill_53178_7 : decode cJ7_fill_53178 7 = .ok (.if_icmp .ge 13, 3) := by decide +kernel
theorem dJ7_fill_53178_10 : decode cJ7_fill_53178 10 = .ok (.aload_n 0, 1) := by decide +kernel
theorem dJ7_fill_53178_11 : decode cJ7_fill_53178 11 = .ok (.iload_n 2, 1) := by decide +kernel
theorem dJ7_fill_53178_12 : decode cJ7_fill_53178 12 = .ok (.iload_n 1, 1) := by decide +kernel
theorem dJ7_fill_53178_13 : decode cJ7_fill_53178 13 = .ok (.iastore, 1) := by decide +kernel
theorem dJ7_fill_53178_14 : decode cJ7_fill_53178 14 = .ok (.iinc 2 1, 3) := by decide +kernel
theorem dJ7_fill_53178_17 : decode cJ7_fill_53178 17 = .ok (.goto (-12), 3) := by decide +kernel
theorem dJ7_fill_53178_20 : decode cJ7_fill_53178 20 = .ok (.return_, 1) := by decide +kernel
theorem dL_law_0 : decode cL_law 0 = .ok (.new 7, 3) := by decide +kernel
theorem dL_law_3 : decode cL_law 3 = .ok (.dup, 1) := by decide +kernel
theorem dL_law_4 : decode cL_law 4 = .ok (.invokespecial 9, 3) := by decide +kernel
theorem dL_law_7 : decode cL_law 7 = .ok (.astore_n 1, 1) := by decide +kernel
theorem dL_law_8 : decode cL_law 8 = .ok (.new 10, 3) := by decide +kernel
theorem dL_law_11 : decode cL_law 11 = .ok (.dup, 1) := by decide +kernel
theorem dL_law_12 : decode cL_law 12 = .ok (.invokespecial 12, 3) := by decide +kernel
theorem dL_law_15 : decode cL_law 15 = .ok (.astore_n 2, 1) := by decide +kernel
theorem dL_law_16 : decode cL_law 16 = .ok (.iconst 0, 1) := by decide +kernel
theorem dL_law_17 : decode cL_law 17 = .ok (.istore_n 3, 1) := by decide +kernel
theorem dL_law_18 : decode cL_law 18 = .ok (.iload_n 3, 1) := by decide +kernel
theorem dL_law_19 : decode cL_law 19 = .ok (.aload_n 0, 1) := by decide +kernel
theorem dL_law_20 : decode cL_law 20 = .ok (.arraylength, 1) := by decide +kernel
theorem dL_law_21 : decode cL_law 21 = .ok (.bipush 6, 2) := by decide +kernel
theorem dL_law_23 : decode cL_law 23 = .ok (.isub, 1) := by decide +kernel
theorem dL_law_24 : decode cL_law 24 = .ok (.if_icmp .gt 897, 3) := by decide +kernel
theorem dL_law_27 : decode cL_law 27 = .ok (.aload_n 0, 1) := by decide +kernel
theorem dL_law_28 : decode cL_law 28 = .ok (.iload_n 3, 1) := by decide +kernel
theorem dL_law_29 : decode cL_law 29 = .ok (.iaload, 1) := by decide +kernel
theorem dL_law_30 : decode cL_law 30 = .ok (.bipush 31, 2) := by decide +kernel
theorem dL_law_32 : decode cL_law 32 = .ok (.iand, 1) := by decide +kernel
theorem dL_law_33 : decode cL_law 33 = .ok (.tableswitch 882 0 22 #[107, 140, 183, 196, 249, 282, 315, 378, 431, 454, 487, 520, 553, 596, 629, 678, 731, 764, 787, 810, 833, 856, 869], 107) := by decide +kernel
theorem dL_law_140 : decode cL_law 140 = .ok (.aload_n 1, 1) := by decide +kernel
theorem dL_law_141 : decode cL_law 141 = .ok (.aload_n 0, 1) := by decide +kernel
theorem dL_law_142 : decode cL_law 142 = .ok (.iload_n 3, 1) := by decide +kernel
theorem dL_law_143 : decode cL_law 143 = .ok (.iconst 1, 1) := by decide +kernel
theorem dL_law_144 : decode cL_law 144 = .ok (.iadd, 1) := by decide +kernel
theorem dL_law_145 : decode cL_law 145 = .ok (.iaload, 1) := by decide +kernel
theorem dL_law_146 : decode cL_law 146 = .ok (.aload_n 0, 1) := by decide +kernel
theorem dL_law_147 : decode cL_law 147 = .ok (.iload_n 3, 1) := by decide +kernel
theorem dL_law_148 : decode cL_law 148 = .ok (.iconst 2, 1) := by decide +kernel
theorem dL_law_149 : decode cL_law 149 = .ok (.iadd, 1) := by decide +kernel
theorem dL_law_150 : decode cL_law 150 = .ok (.iaload, 1) := by decide +kernel
theorem dL_law_151 : decode cL_law 151 = .ok (.invokevirtual 13, 3) := by decide +kernel
theorem dL_law_154 : decode cL_law 154 = .ok (.aload_n 2, 1) := by decide +kernel
theorem dL_law_155 : decode cL_law 155 = .ok (.aload_n 0, 1) := by decide +kernel
theorem dL_law_156 : decode cL_law 156 = .ok (.iload_n 3, 1) := by decide +kernel
theorem dL_law_157 : decode cL_law 157 = .ok (.iconst 1, 1) := by decide +kernel
theorem dL_law_158 : decode cL_law 158 = .ok (.iadd, 1) := by decide +kernel
theorem dL_law_159 : decode cL_law 159 = .ok (.iaload, 1) := by decide +kernel
theorem dL_law_160 : decode cL_law 160 = .ok (.aload_n 0, 1) := by decide +kernel
theorem dL_law_161 : decode cL_law 161 = .ok (.iload_n 3, 1) := by decide +kernel
theorem dL_law_162 : decode cL_law 162 = .ok (.iconst 2, 1) := by decide +kernel
theorem dL_law_163 : decode cL_law 163 = .ok (.iadd, 1) := by decide +kernel
theorem dL_law_164 : decode cL_law 164 = .ok (.iaload, 1) := by decide +kernel
theorem dL_law_165 : decode cL_law 165 = .ok (.invokevirtual 17, 3) := by decide +kernel
theorem dL_law_168 : decode cL_law 168 = .ok (.if_icmp .eq 747, 3) := by decide +kernel
theorem dL_law_171 : decode cL_law 171 = .ok (.iconst 0, 1) := by decide +kernel
theorem dL_law_172 : decode cL_law 172 = .ok (.ireturn, 1) := by decide +kernel
theorem dL_law_173 : decode cL_law 173 = .ok (.aload_n 1, 1) := by decide +kernel
theorem dL_law_174 : decode cL_law 174 = .ok (.aload_n 0, 1) := by decide +kernel
theorem dL_law_175 : decode cL_law 175 = .ok (.iload_n 3, 1) := by decide +kernel
theorem dL_law_176 : decode cL_law 176 = .ok (.iconst 1, 1) := by decide +kernel
theorem dL_law_177 : decode cL_law 177 = .ok (.iadd, 1) := by decide +kernel
theorem dL_law_178 : decode cL_law 178 = .ok (.iaload, 1) := by decide +kernel
theorem dL_law_179 : decode cL_law 179 = .ok (.aload_n 0, 1) := by decide +kernel
theorem dL_law_180 : decode cL_law 180 = .ok (.iload_n 3, 1) := by decide +kernel
theorem dL_law_181 : decode cL_law 181 = .ok (.iconst 2, 1) := by decide +kernel
theorem dL_law_182 : decode cL_law 182 = .ok (.iadd, 1) := by decide +kernel
theorem dL_law_183 : decode cL_law 183 = .ok (.iaload, 1) := by decide +kernel
theorem dL_law_184 : decode cL_law 184 = .ok (.aload_n 0, 1) := by decide +kernel
theorem dL_law_185 : decode cL_law 185 = .ok (.iload_n 3, 1) := by decide +kernel
theorem dL_law_186 : decode cL_law 186 = .ok (.iconst 3, 1) := by decide +kernel
theorem dL_law_187 : decode cL_law 187 = .ok (.iadd, 1) := by decide +kernel
theorem dL_law_188 : decode cL_law 188 = .ok (.iaload, 1) := by decide +kernel
theorem dL_law_189 : decode cL_law 189 = .ok (.invokevirtual 18, 3) := by decide +kernel
theorem dL_law_192 : decode cL_law 192 = .ok (.aload_n 2, 1) := by decide +kernel
theorem dL_law_193 : decode cL_law 193 = .ok (.aload_n 0, 1) := by decide +kernel
theorem dL_law_194 : decode cL_law 194 = .ok (.iload_n 3, 1) := by decide +kernel
theorem dL_law_195 : decode cL_law 195 = .ok (.iconst 1, 1) := by decide +kernel
theorem dL_law_196 : decode cL_law 196 = .ok (.iadd, 1) := by decide +kernel
theorem dL_law_197 : decode cL_law 197 = .ok (.iaload, 1) := by decide +kernel
theorem dL_law_198 : decode cL_law 198 = .ok (.aload_n 0, 1) := by decide +kernel
theorem dL_law_199 : decode cL_law 199 = .ok (.iload_n 3, 1) := by decide +kernel
theorem dL_law_200 : decode cL_law 200 = .ok (.iconst 2, 1) := by decide +kernel
theorem dL_law_201 : decode cL_law 201 = .ok (.iadd, 1) := by decide +kernel
theorem dL_law_202 : decode cL_law 202 = .ok (.iaload, 1) := by decide +kernel
theorem dL_law_203 : decode cL_law 203 = .ok (.aload_n 0, 1) := by decide +kernel
theorem dL_law_204 : decode cL_law 204 = .ok (.iload_n 3, 1) := by decide +kernel
theorem dL_law_205 : decode cL_law 205 = .ok (.iconst 3, 1) := by decide +kernel
theorem dL_law_206 : decode cL_law 206 = .ok (.iadd, 1) := by decide +kernel
theorem dL_law_207 : decode cL_law 207 = .ok (.iaload, 1) := by decide +kernel
theorem dL_law_208 : decode cL_law 208 = .ok (.invokevirtual 22, 3) := by decide +kernel
theorem dL_law_211 : decode cL_law 211 = .ok (.if_icmp .eq 704, 3) := by decide +kernel
theorem dL_law_214 : decode cL_law 214 = .ok (.iconst 0, 1) := by decide +kernel
theorem dL_law_215 : decode cL_law 215 = .ok (.ireturn, 1) := by decide +kernel
theorem dL_law_216 : decode cL_law 216 = .ok (.aload_n 1, 1) := by decide +kernel
theorem dL_law_217 : decode cL_law 217 = .ok (.invokevirtual 23, 3) := by decide +kernel
theorem dL_law_220 : decode cL_law 220 = .ok (.aload_n 2, 1) := by decide +kernel
theorem dL_law_221 : decode cL_law 221 = .ok (.invokevirtual 27, 3) := by decide +kernel
theorem dL_law_224 : decode cL_law 224 = .ok (.if_icmp .eq 691, 3) := by decide +kernel
theorem dL_law_227 : decode cL_law 227 = .ok (.iconst 0, 1) := by decide +kernel
theorem dL_law_228 : decode cL_law 228 = .ok (.ireturn, 1) := by decide +kernel
theorem dL_law_229 : decode cL_law 229 = .ok (.aload_n 1, 1) := by decide +kernel
theorem dL_law_230 : decode cL_law 230 = .ok (.aload_n 0, 1) := by decide +kernel
theorem dL_law_231 : decode cL_law 231 = .ok (.iload_n 3, 1) := by decide +kernel
theorem dL_law_232 : decode cL_law 232 = .ok (.iconst 1, 1) := by decide +kernel
theorem dL_law_233 : decode cL_law 233 = .ok (.iadd, 1) := by decide +kernel
theorem dL_law_234 : decode cL_law 234 = .ok (.iaload, 1) := by decide +kernel
theorem dL_law_235 : decode cL_law 235 = .ok (.aload_n 0, 1) := by decide +kernel
theorem dL_law_236 : decode cL_law 236 = .ok (.iload_n 3, 1) := by decide +kernel
theorem dL_law_237 : decode cL_law 237 = .ok (.iconst 2, 1) := by decide +kernel
theorem dL_law_238 : decode cL_law 238 = .ok (.iadd, 1) := by decide +kernel
theorem dL_law_239 : decode cL_law 239 = .ok (.iaload, 1) := by decide +kernel
theorem dL_law_240 : decode cL_law 240 = .ok (.aload_n 0, 1) := by decide +kernel
theorem dL_law_241 : decode cL_law 241 = .ok (.iload_n 3, 1) := by decide +kernel
theorem dL_law_242 : decode cL_law 242 = .ok (.iconst 3, 1) := by decide +kernel
theorem dL_law_243 : decode cL_law 243 = .ok (.iadd, 1) := by decide +kernel
theorem dL_law_244 : decode cL_law 244 = .ok (.iaload, 1) := by decide +kernel
theorem dL_law_245 : decode cL_law 245 = .ok (.aload_n 0, 1) := by decide +kernel
theorem dL_law_246 : decode cL_law 246 = .ok (.iload_n 3, 1) := by decide +kernel
theorem dL_law_247 : decode cL_law 247 = .ok (.iconst 4, 1) := by decide +kernel
theorem dL_law_248 : decode cL_law 248 = .ok (.iadd, 1) := by decide +kernel
theorem dL_law_249 : decode cL_law 249 = .ok (.iaload, 1) := by decide +kernel
theorem dL_law_250 : decode cL_law 250 = .ok (.invokevirtual 28, 3) := by decide +kernel
theorem dL_law_253 : decode cL_law 253 = .ok (.aload_n 2, 1) := by decide +kernel
theorem dL_law_254 : decode cL_law 254 = .ok (.aload_n 0, 1) := by decide +kernel
theorem dL_law_255 : decode cL_law 255 = .ok (.iload_n 3, 1) := by decide +kernel
theorem dL_law_256 : decode cL_law 256 = .ok (.iconst 1, 1) := by decide +kernel
theorem dL_law_257 : decode cL_law 257 = .ok (.iadd, 1) := by decide +kernel
theorem dL_law_258 : decode cL_law 258 = .ok (.iaload, 1) := by decide +kernel
theorem dL_law_259 : decode cL_law 259 = .ok (.aload_n 0, 1) := by decide +kernel
theorem dL_law_260 : decode cL_law 260 = .ok (.iload_n 3, 1) := by decide +kernel
theorem dL_law_261 : decode cL_law 261 = .ok (.iconst 2, 1) := by decide +kernel
theorem dL_law_262 : decode cL_law 262 = .ok (.iadd, 1) := by decide +kernel
theorem dL_law_263 : decode cL_law 263 = .ok (.iaload, 1) := by decide +kernel
theorem dL_law_264 : decode cL_law 264 = .ok (.aload_n 0, 1) := by decide +kernel
theorem dL_law_265 : decode cL_law 265 = .ok (.iload_n 3, 1) := by decide +kernel
theorem dL_law_266 : decode cL_law 266 = .ok (.iconst 3, 1) := by decide +kernel
theorem dL_law_267 : decode cL_law 267 = .ok (.iadd, 1) := by decide +kernel
theorem dL_law_268 : decode cL_law 268 = .ok (.iaload, 1) := by decide +kernel
theorem dL_law_269 : decode cL_law 269 = .ok (.aload_n 0, 1) := by decide +kernel
theorem dL_law_270 : decode cL_law 270 = .ok (.iload_n 3, 1) := by decide +kernel
theorem dL_law_271 : decode cL_law 271 = .ok (.iconst 4, 1) := by decide +kernel
theorem dL_law_272 : decode cL_law 272 = .ok (.iadd, 1) := by decide +kernel
theorem dL_law_273 : decode cL_law 273 = .ok (.iaload, 1) := by decide +kernel
theorem dL_law_274 : decode cL_law 274 = .ok (.invokevirtual 32, 3) := by decide +kernel
theorem dL_law_277 : decode cL_law 277 = .ok (.if_icmp .eq 638, 3) := by decide +kernel
theorem dL_law_280 : decode cL_law 280 = .ok (.iconst 0, 1) := by decide +kernel
theorem dL_law_281 : decode cL_law 281 = .ok (.ireturn, 1) := by decide +kernel
theorem dL_law_282 : decode cL_law 282 = .ok (.aload_n 1, 1) := by decide +kernel
theorem dL_law_283 : decode cL_law 283 = .ok (.aload_n 0, 1) := by decide +kernel
theorem dL_law_284 : decode cL_law 284 = .ok (.iload_n 3, 1) := by decide +kernel
theorem dL_law_285 : decode cL_law 285 = .ok (.iconst 1, 1) := by decide +kernel
theorem dL_law_286 : decode cL_law 286 = .ok (.iadd, 1) := by decide +kernel
theorem dL_law_287 : decode cL_law 287 = .ok (.iaload, 1) := by decide +kernel
theorem dL_law_288 : decode cL_law 288 = .ok (.aload_n 0, 1) := by decide +kernel
theorem dL_law_289 : decode cL_law 289 = .ok (.iload_n 3, 1) := by decide +kernel
theorem dL_law_290 : decode cL_law 290 = .ok (.iconst 2, 1) := by decide +kernel
theorem dL_law_291 : decode cL_law 291 = .ok (.iadd, 1) := by decide +kernel
theorem dL_law_292 : decode cL_law 292 = .ok (.iaload, 1) := by decide +kernel
theorem dL_law_293 : decode cL_law 293 = .ok (.invokevirtual 33, 3) := by decide +kernel
theorem dL_law_296 : decode cL_law 296 = .ok (.aload_n 2, 1) := by decide +kernel
theorem dL_law_297 : decode cL_law 297 = .ok (.aload_n 0, 1) := by decide +kernel
theorem dL_law_298 : decode cL_law 298 = .ok (.iload_n 3, 1) := by decide +kernel
theorem dL_law_299 : decode cL_law 299 = .ok (.iconst 1, 1) := by decide +kernel
theorem dL_law_300 : decode cL_law 300 = .ok (.iadd, 1) := by decide +kernel
theorem dL_law_301 : decode cL_law 301 = .ok (.iaload, 1) := by decide +kernel
theorem dL_law_302 : decode cL_law 302 = .ok (.aload_n 0, 1) := by decide +kernel
theorem dL_law_303 : decode cL_law 303 = .ok (.iload_n 3, 1) := by decide +kernel
theorem dL_law_304 : decode cL_law 304 = .ok (.iconst 2, 1) := by decide +kernel
theorem dL_law_305 : decode cL_law 305 = .ok (.iadd, 1) := by decide +kernel
theorem dL_law_306 : decode cL_law 306 = .ok (.iaload, 1) := by decide +kernel
theorem dL_law_307 : decode cL_law 307 = .ok (.invokevirtual 36, 3) := by decide +kernel
theorem dL_law_310 : decode cL_law 310 = .ok (.if_icmp .eq 605, 3) := by decide +kernel
theorem dL_law_313 : decode cL_law 313 = .ok (.iconst 0, 1) := by decide +kernel
theorem dL_law_314 : decode cL_law 314 = .ok (.ireturn, 1) := by decide +kernel
theorem dL_law_315 : decode cL_law 315 = .ok (.aload_n 1, 1) := by decide +kernel
theorem dL_law_316 : decode cL_law 316 = .ok (.aload_n 0, 1) := by decide +kernel
theorem dL_law_317 : decode cL_law 317 = .ok (.iload_n 3, 1) := by decide +kernel
theorem dL_law_318 : decode cL_law 318 = .ok (.iconst 1, 1) := by decide +kernel
theorem dL_law_319 : decode cL_law 319 = .ok (.iadd, 1) := by decide +kernel
theorem dL_law_320 : decode cL_law 320 = .ok (.iaload, 1) := by decide +kernel
theorem dL_law_321 : decode cL_law 321 = .ok (.aload_n 0, 1) := by decide +kernel
theorem dL_law_322 : decode cL_law 322 = .ok (.iload_n 3, 1) := by decide +kernel
theorem dL_law_323 : decode cL_law 323 = .ok (.iconst 2, 1) := by decide +kernel
theorem dL_law_324 : decode cL_law 324 = .ok (.iadd, 1) := by decide +kernel
theorem dL_law_325 : decode cL_law 325 = .ok (.iaload, 1) := by decide +kernel
theorem dL_law_326 : decode cL_law 326 = .ok (.invokevirtual 37, 3) := by decide +kernel
theorem dL_law_329 : decode cL_law 329 = .ok (.aload_n 2, 1) := by decide +kernel
theorem dL_law_330 : decode cL_law 330 = .ok (.aload_n 0, 1) := by decide +kernel
theorem dL_law_331 : decode cL_law 331 = .ok (.iload_n 3, 1) := by decide +kernel
theorem dL_law_332 : decode cL_law 332 = .ok (.iconst 1, 1) := by decide +kernel
theorem dL_law_333 : decode cL_law 333 = .ok (.iadd, 1) := by decide +kernel
theorem dL_law_334 : decode cL_law 334 = .ok (.iaload, 1) := by decide +kernel
theorem dL_law_335 : decode cL_law 335 = .ok (.aload_n 0, 1) := by decide +kernel
theorem dL_law_336 : decode cL_law 336 = .ok (.iload_n 3, 1) := by decide +kernel
theorem dL_law_337 : decode cL_law 337 = .ok (.iconst 2, 1) := by decide +kernel
theorem dL_law_338 : decode cL_law 338 = .ok (.iadd, 1) := by decide +kernel
theorem dL_law_339 : decode cL_law 339 = .ok (.iaload, 1) := by decide +kernel
theorem dL_law_340 : decode cL_law 340 = .ok (.invokevirtual 40, 3) := by decide +kernel
theorem dL_law_343 : decode cL_law 343 = .ok (.if_icmp .eq 572, 3) := by decide +kernel
theorem dL_law_346 : decode cL_law 346 = .ok (.iconst 0, 1) := by decide +kernel
theorem dL_law_347 : decode cL_law 347 = .ok (.ireturn, 1) := by decide +kernel
theorem dL_law_348 : decode cL_law 348 = .ok (.aload_n 1, 1) := by decide +kernel
theorem dL_law_349 : decode cL_law 349 = .ok (.aload_n 0, 1) := by decide +kernel
theorem dL_law_350 : decode cL_law 350 = .ok (.iload_n 3, 1) := by decide +kernel
theorem dL_law_351 : decode cL_law 351 = .ok (.iconst 1, 1) := by decide +kernel
theorem dL_law_352 : decode cL_law 352 = .ok (.iadd, 1) := by decide +kernel
theorem dL_law_353 : decode cL_law 353 = .ok (.iaload, 1) := by decide +kernel
theorem dL_law_354 : decode cL_law 354 = .ok (.aload_n 0, 1) := by decide +kernel
theorem dL_law_355 : decode cL_law 355 = .ok (.iload_n 3, 1) := by decide +kernel
theorem dL_law_356 : decode cL_law 356 = .ok (.iconst 2, 1) := by decide +kernel
theorem dL_law_357 : decode cL_law 357 = .ok (.iadd, 1) := by decide +kernel
theorem dL_law_358 : decode cL_law 358 = .ok (.iaload, 1) := by decide +kernel
theorem dL_law_359 : decode cL_law 359 = .ok (.aload_n 0, 1) := by decide +kernel
theorem dL_law_360 : decode cL_law 360 = .ok (.iload_n 3, 1) := by decide +kernel
theorem dL_law_361 : decode cL_law 361 = .ok (.iconst 3, 1) := by decide +kernel
theorem dL_law_362 : decode cL_law 362 = .ok (.iadd, 1) := by decide +kernel
theorem dL_law_363 : decode cL_law 363 = .ok (.iaload, 1) := by decide +kernel
theorem dL_law_364 : decode cL_law 364 = .ok (.aload_n 0, 1) := by decide +kernel
theorem dL_law_365 : decode cL_law 365 = .ok (.iload_n 3, 1) := by decide +kernel
theorem dL_law_366 : decode cL_law 366 = .ok (.iconst 4, 1) := by decide +kernel
theorem dL_law_367 : decode cL_law 367 = .ok (.iadd, 1) := by decide +kernel
theorem dL_law_368 : decode cL_law 368 = .ok (.iaload, 1) := by decide +kernel
theorem dL_law_369 : decode cL_law 369 = .ok (.aload_n 0, 1) := by decide +kernel
theorem dL_law_370 : decode cL_law 370 = .ok (.iload_n 3, 1) := by decide +kernel
theorem dL_law_371 : decode cL_law 371 = .ok (.iconst 5, 1) := by decide +kernel
theorem dL_law_372 : decode cL_law 372 = .ok (.iadd, 1) := by decide +kernel
theorem dL_law_373 : decode cL_law 373 = .ok (.iaload, 1) := by decide +kernel
theorem dL_law_374 : decode cL_law 374 = .ok (.invokevirtual 41, 3) := by decide +kernel
theorem dL_law_377 : decode cL_law 377 = .ok (.aload_n 2, 1) := by decide +kernel
theorem dL_law_378 : decode cL_law 378 = .ok (.aload_n 0, 1) := by decide +kernel
theorem dL_law_379 : decode cL_law 379 = .ok (.iload_n 3, 1) := by decide +kernel
theorem dL_law_380 : decode cL_law 380 = .ok (.iconst 1, 1) := by decide +kernel
theorem dL_law_381 : decode cL_law 381 = .ok (.iadd, 1) := by decide +kernel
theorem dL_law_382 : decode cL_law 382 = .ok (.iaload, 1) := by decide +kernel
theorem dL_law_383 : decode cL_law 383 = .ok (.aload_n 0, 1) := by decide +kernel
theorem dL_law_384 : decode cL_law 384 = .ok (.iload_n 3, 1) := by decide +kernel
theorem dL_law_385 : decode cL_law 385 = .ok (.iconst 2, 1) := by decide +kernel
theorem dL_law_386 : decode cL_law 386 = .ok (.iadd, 1) := by decide +kernel
theorem dL_law_387 : decode cL_law 387 = .ok (.iaload, 1) := by decide +kernel
theorem dL_law_388 : decode cL_law 388 = .ok (.aload_n 0, 1) := by decide +kernel
theorem dL_law_389 : decode cL_law 389 = .ok (.iload_n 3, 1) := by decide +kernel
theorem dL_law_390 : decode cL_law 390 = .ok (.iconst 3, 1) := by decide +kernel
theorem dL_law_391 : decode cL_law 391 = .ok (.iadd, 1) := by decide +kernel
theorem dL_law_392 : decode cL_law 392 = .ok (.iaload, 1) := by decide +kernel
theorem dL_law_393 : decode cL_law 393 = .ok (.aload_n 0, 1) := by decide +kernel
theorem dL_law_394 : decode cL_law 394 = .ok (.iload_n 3, 1) := by decide +kernel
theorem dL_law_395 : decode cL_law 395 = .ok (.iconst 4, 1) := by decide +kernel
theorem dL_law_396 : decode cL_law 396 = .ok (.iadd, 1) := by decide +kernel
theorem dL_law_397 : decode cL_law 397 = .ok (.iaload, 1) := by decide +kernel
theorem dL_law_398 : decode cL_law 398 = .ok (.aload_n 0, 1) := by decide +kernel
theorem dL_law_399 : decode cL_law 399 = .ok (.iload_n 3, 1) := by decide +kernel
theorem dL_law_400 : decode cL_law 400 = .ok (.iconst 5, 1) := by decide +kernel
theorem dL_law_401 : decode cL_law 401 = .ok (.iadd, 1) := by decide +kernel
theorem dL_law_402 : decode cL_law 402 = .ok (.iaload, 1) := by decide +kernel
theorem dL_law_403 : decode cL_law 403 = .ok (.invokevirtual 45, 3) := by decide +kernel
theorem dL_law_406 : decode cL_law 406 = .ok (.if_icmp .eq 509, 3) := by decide +kernel
theorem dL_law_409 : decode cL_law 409 = .ok (.iconst 0, 1) := by decide +kernel
theorem dL_law_410 : decode cL_law 410 = .ok (.ireturn, 1) := by decide +kernel
theorem dL_law_411 : decode cL_law 411 = .ok (.aload_n 1, 1) := by decide +kernel
theorem dL_law_412 : decode cL_law 412 = .ok (.aload_n 0, 1) := by decide +kernel
theorem dL_law_413 : decode cL_law 413 = .ok (.iload_n 3, 1) := by decide +kernel
theorem dL_law_414 : decode cL_law 414 = .ok (.iconst 1, 1) := by decide +kernel
theorem dL_law_415 : decode cL_law 415 = .ok (.iadd, 1) := by decide +kernel
theorem dL_law_416 : decode cL_law 416 = .ok (.iaload, 1) := by decide +kernel
theorem dL_law_417 : decode cL_law 417 = .ok (.aload_n 0, 1) := by decide +kernel
theorem dL_law_418 : decode cL_law 418 = .ok (.iload_n 3, 1) := by decide +kernel
theorem dL_law_419 : decode cL_law 419 = .ok (.iconst 2, 1) := by decide +kernel
theorem dL_law_420 : decode cL_law 420 = .ok (.iadd, 1) := by decide +kernel
theorem dL_law_421 : decode cL_law 421 = .ok (.iaload, 1) := by decide +kernel
theorem dL_law_422 : decode cL_law 422 = .ok (.aload_n 0, 1) := by decide +kernel
theorem dL_law_423 : decode cL_law 423 = .ok (.iload_n 3, 1) := by decide +kernel
theorem dL_law_424 : decode cL_law 424 = .ok (.iconst 3, 1) := by decide +kernel
theorem dL_law_425 : decode cL_law 425 = .ok (.iadd, 1) := by decide +kernel
theorem dL_law_426 : decode cL_law 426 = .ok (.iaload, 1) := by decide +kernel
theorem dL_law_427 : decode cL_law 427 = .ok (.aload_n 0, 1) := by decide +kernel
theorem dL_law_428 : decode cL_law 428 = .ok (.iload_n 3, 1) := by decide +kernel
theorem dL_law_429 : decode cL_law 429 = .ok (.iconst 4, 1) := by decide +kernel
theorem dL_law_430 : decode cL_law 430 = .ok (.iadd, 1) := by decide +kernel
theorem dL_law_431 : decode cL_law 431 = .ok (.iaload, 1) := by decide +kernel
theorem dL_law_432 : decode cL_law 432 = .ok (.invokevirtual 46, 3) := by decide +kernel
theorem dL_law_435 : decode cL_law 435 = .ok (.aload_n 2, 1) := by decide +kernel
theorem dL_law_436 : decode cL_law 436 = .ok (.aload_n 0, 1) := by decide +kernel
theorem dL_law_437 : decode cL_law 437 = .ok (.iload_n 3, 1) := by decide +kernel
theorem dL_law_438 : decode cL_law 438 = .ok (.iconst 1, 1) := by decide +kernel
theorem dL_law_439 : decode cL_law 439 = .ok (.iadd, 1) := by decide +kernel
theorem dL_law_440 : decode cL_law 440 = .ok (.iaload, 1) := by decide +kernel
theorem dL_law_441 : decode cL_law 441 = .ok (.aload_n 0, 1) := by decide +kernel
theorem dL_law_442 : decode cL_law 442 = .ok (.iload_n 3, 1) := by decide +kernel
theorem dL_law_443 : decode cL_law 443 = .ok (.iconst 2, 1) := by decide +kernel
theorem dL_law_444 : decode cL_law 444 = .ok (.iadd, 1) := by decide +kernel
theorem dL_law_445 : decode cL_law 445 = .ok (.iaload, 1) := by decide +kernel
theorem dL_law_446 : decode cL_law 446 = .ok (.aload_n 0, 1) := by decide +kernel
theorem dL_law_447 : decode cL_law 447 = .ok (.iload_n 3, 1) := by decide +kernel
theorem dL_law_448 : decode cL_law 448 = .ok (.iconst 3, 1) := by decide +kernel
theorem dL_law_449 : decode cL_law 449 = .ok (.iadd, 1) := by decide +kernel
theorem dL_law_450 : decode cL_law 450 = .ok (.iaload, 1) := by decide +kernel
theorem dL_law_451 : decode cL_law 451 = .ok (.aload_n 0, 1) := by decide +kernel
theorem dL_law_452 : decode cL_law 452 = .ok (.iload_n 3, 1) := by decide +kernel
theorem dL_law_453 : decode cL_law 453 = .ok (.iconst 4, 1) := by decide +kernel
theorem dL_law_454 : decode cL_law 454 = .ok (.iadd, 1) := by decide +kernel
theorem dL_law_455 : decode cL_law 455 = .ok (.iaload, 1) := by decide +kernel
theorem dL_law_456 : decode cL_law 456 = .ok (.invokevirtual 49, 3) := by decide +kernel
theorem dL_law_459 : decode cL_law 459 = .ok (.if_icmp .eq 456, 3) := by decide +kernel
theorem dL_law_462 : decode cL_law 462 = .ok (.iconst 0, 1) := by decide +kernel
theorem dL_law_463 : decode cL_law 463 = .ok (.ireturn, 1) := by decide +kernel
theorem dL_law_464 : decode cL_law 464 = .ok (.aload_n 1, 1) := by decide +kernel
theorem dL_law_465 : decode cL_law 465 = .ok (.aload_n 0, 1) := by decide +kernel
theorem dL_law_466 : decode cL_law 466 = .ok (.iload_n 3, 1) := by decide +kernel
theorem dL_law_467 : decode cL_law 467 = .ok (.iconst 1, 1) := by decide +kernel
theorem dL_law_468 : decode cL_law 468 = .ok (.iadd, 1) := by decide +kernel
theorem dL_law_469 : decode cL_law 469 = .ok (.iaload, 1) := by decide +kernel
theorem dL_law_470 : decode cL_law 470 = .ok (.invokevirtual 50, 3) := by decide +kernel
theorem dL_law_473 : decode cL_law 473 = .ok (.aload_n 2, 1) := by decide +kernel
theorem dL_law_474 : decode cL_law 474 = .ok (.aload_n 0, 1) := by decide +kernel
theorem dL_law_475 : decode cL_law 475 = .ok (.iload_n 3, 1) := by decide +kernel
theorem dL_law_476 : decode cL_law 476 = .ok (.iconst 1, 1) := by decide +kernel
theorem dL_law_477 : decode cL_law 477 = .ok (.iadd, 1) := by decide +kernel
theorem dL_law_478 : decode cL_law 478 = .ok (.iaload, 1) := by decide +kernel
theorem dL_law_479 : decode cL_law 479 = .ok (.invokevirtual 54, 3) := by decide +kernel
theorem dL_law_482 : decode cL_law 482 = .ok (.if_icmp .eq 433, 3) := by decide +kernel
theorem dL_law_485 : decode cL_law 485 = .ok (.iconst 0, 1) := by decide +kernel
theorem dL_law_486 : decode cL_law 486 = .ok (.ireturn, 1) := by decide +kernel
theorem dL_law_487 : decode cL_law 487 = .ok (.aload_n 1, 1) := by decide +kernel
theorem dL_law_488 : decode cL_law 488 = .ok (.aload_n 0, 1) := by decide +kernel
theorem dL_law_489 : decode cL_law 489 = .ok (.iload_n 3, 1) := by decide +kernel
theorem dL_law_490 : decode cL_law 490 = .ok (.iconst 1, 1) := by decide +kernel
theorem dL_law_491 : decode cL_law 491 = .ok (.iadd, 1) := by decide +kernel
theorem dL_law_492 : decode cL_law 492 = .ok (.iaload, 1) := by decide +kernel
theorem dL_law_493 : decode cL_law 493 = .ok (.aload_n 0, 1) := by decide +kernel
theorem dL_law_494 : decode cL_law 494 = .ok (.iload_n 3, 1) := by decide +kernel
theorem dL_law_495 : decode cL_law 495 = .ok (.iconst 2, 1) := by decide +kernel
theorem dL_law_496 : decode cL_law 496 = .ok (.iadd, 1) := by decide +kernel
theorem dL_law_497 : decode cL_law 497 = .ok (.iaload, 1) := by decide +kernel
theorem dL_law_498 : decode cL_law 498 = .ok (.invokevirtual 55, 3) := by decide +kernel
theorem dL_law_501 : decode cL_law 501 = .ok (.aload_n 2, 1) := by decide +kernel
theorem dL_law_502 : decode cL_law 502 = .ok (.aload_n 0, 1) := by decide +kernel
theorem dL_law_503 : decode cL_law 503 = .ok (.iload_n 3, 1) := by decide +kernel
theorem dL_law_504 : decode cL_law 504 = .ok (.iconst 1, 1) := by decide +kernel
theorem dL_law_505 : decode cL_law 505 = .ok (.iadd, 1) := by decide +kernel
theorem dL_law_506 : decode cL_law 506 = .ok (.iaload, 1) := by decide +kernel
theorem dL_law_507 : decode cL_law 507 = .ok (.aload_n 0, 1) := by decide +kernel
theorem dL_law_508 : decode cL_law 508 = .ok (.iload_n 3, 1) := by decide +kernel
theorem dL_law_509 : decode cL_law 509 = .ok (.iconst 2, 1) := by decide +kernel
theorem dL_law_510 : decode cL_law 510 = .ok (.iadd, 1) := by decide +kernel
theorem dL_law_511 : decode cL_law 511 = .ok (.iaload, 1) := by decide +kernel
theorem dL_law_512 : decode cL_law 512 = .ok (.invokevirtual 58, 3) := by decide +kernel
theorem dL_law_515 : decode cL_law 515 = .ok (.if_icmp .eq 400, 3) := by decide +kernel
theorem dL_law_518 : decode cL_law 518 = .ok (.iconst 0, 1) := by decide +kernel
theorem dL_law_519 : decode cL_law 519 = .ok (.ireturn, 1) := by decide +kernel
theorem dL_law_520 : decode cL_law 520 = .ok (.aload_n 1, 1) := by decide +kernel
theorem dL_law_521 : decode cL_law 521 = .ok (.aload_n 0, 1) := by decide +kernel
theorem dL_law_522 : decode cL_law 522 = .ok (.iload_n 3, 1) := by decide +kernel
theorem dL_law_523 : decode cL_law 523 = .ok (.iconst 1, 1) := by decide +kernel
theorem dL_law_524 : decode cL_law 524 = .ok (.iadd, 1) := by decide +kernel
theorem dL_law_525 : decode cL_law 525 = .ok (.iaload, 1) := by decide +kernel
theorem dL_law_526 : decode cL_law 526 = .ok (.aload_n 0, 1) := by decide +kernel
theorem dL_law_527 : decode cL_law 527 = .ok (.iload_n 3, 1) := by decide +kernel
theorem dL_law_528 : decode cL_law 528 = .ok (.iconst 2, 1) := by decide +kernel
theorem dL_law_529 : decode cL_law 529 = .ok (.iadd, 1) := by decide +kernel
theorem dL_law_530 : decode cL_law 530 = .ok (.iaload, 1) := by decide +kernel
theorem dL_law_531 : decode cL_law 531 = .ok (.invokevirtual 59, 3) := by decide +kernel
theorem dL_law_534 : decode cL_law 534 = .ok (.aload_n 2, 1) := by decide +kernel
theorem dL_law_535 : decode cL_law 535 = .ok (.aload_n 0, 1) := by decide +kernel
theorem dL_law_536 : decode cL_law 536 = .ok (.iload_n 3, 1) := by decide +kernel
theorem dL_law_537 : decode cL_law 537 = .ok (.iconst 1, 1) := by decide +kernel
theorem dL_law_538 : decode cL_law 538 = .ok (.iadd, 1) := by decide +kernel
theorem dL_law_539 : decode cL_law 539 = .ok (.iaload, 1) := by decide +kernel
theorem dL_law_540 : decode cL_law 540 = .ok (.aload_n 0, 1) := by decide +kernel
theorem dL_law_541 : decode cL_law 541 = .ok (.iload_n 3, 1) := by decide +kernel
theorem dL_law_542 : decode cL_law 542 = .ok (.iconst 2, 1) := by decide +kernel
theorem dL_law_543 : decode cL_law 543 = .ok (.iadd, 1) := by decide +kernel
theorem dL_law_544 : decode cL_law 544 = .ok (.iaload, 1) := by decide +kernel
theorem dL_law_545 : decode cL_law 545 = .ok (.invokevirtual 62, 3) := by decide +kernel
theorem dL_law_548 : decode cL_law 548 = .ok (.if_icmp .eq 367, 3) := by decide +kernel
theorem dL_law_551 : decode cL_law 551 = .ok (.iconst 0, 1) := by decide +kernel
theorem dL_law_552 : decode cL_law 552 = .ok (.ireturn, 1) := by decide +kernel
theorem dL_law_553 : decode cL_law 553 = .ok (.aload_n 1, 1) := by decide +kernel
theorem dL_law_554 : decode cL_law 554 = .ok (.aload_n 0, 1) := by decide +kernel
theorem dL_law_555 : decode cL_law 555 = .ok (.iload_n 3, 1) := by decide +kernel
theorem dL_law_556 : decode cL_law 556 = .ok (.iconst 1, 1) := by decide +kernel
theorem dL_law_557 : decode cL_law 557 = .ok (.iadd, 1) := by decide +kernel
theorem dL_law_558 : decode cL_law 558 = .ok (.iaload, 1) := by decide +kernel
theorem dL_law_559 : decode cL_law 559 = .ok (.aload_n 0, 1) := by decide +kernel
theorem dL_law_560 : decode cL_law 560 = .ok (.iload_n 3, 1) := by decide +kernel
theorem dL_law_561 : decode cL_law 561 = .ok (.iconst 2, 1) := by decide +kernel
theorem dL_law_562 : decode cL_law 562 = .ok (.iadd, 1) := by decide +kernel
theorem dL_law_563 : decode cL_law 563 = .ok (.iaload, 1) := by decide +kernel
theorem dL_law_564 : decode cL_law 564 = .ok (.invokevirtual 63, 3) := by decide +kernel
theorem dL_law_567 : decode cL_law 567 = .ok (.aload_n 2, 1) := by decide +kernel
theorem dL_law_568 : decode cL_law 568 = .ok (.aload_n 0, 1) := by decide +kernel
theorem dL_law_569 : decode cL_law 569 = .ok (.iload_n 3, 1) := by decide +kernel
theorem dL_law_570 : decode cL_law 570 = .ok (.iconst 1, 1) := by decide +kernel
theorem dL_law_571 : decode cL_law 571 = .ok (.iadd, 1) := by decide +kernel
theorem dL_law_572 : decode cL_law 572 = .ok (.iaload, 1) := by decide +kernel
theorem dL_law_573 : decode cL_law 573 = .ok (.aload_n 0, 1) := by decide +kernel
theorem dL_law_574 : decode cL_law 574 = .ok (.iload_n 3, 1) := by decide +kernel
theorem dL_law_575 : decode cL_law 575 = .ok (.iconst 2, 1) := by decide +kernel
theorem dL_law_576 : decode cL_law 576 = .ok (.iadd, 1) := by decide +kernel
theorem dL_law_577 : decode cL_law 577 = .ok (.iaload, 1) := by decide +kernel
theorem dL_law_578 : decode cL_law 578 = .ok (.invokevirtual 66, 3) := by decide +kernel
theorem dL_law_581 : decode cL_law 581 = .ok (.if_icmp .eq 334, 3) := by decide +kernel
theorem dL_law_584 : decode cL_law 584 = .ok (.iconst 0, 1) := by decide +kernel
theorem dL_law_585 : decode cL_law 585 = .ok (.ireturn, 1) := by decide +kernel
theorem dL_law_586 : decode cL_law 586 = .ok (.aload_n 1, 1) := by decide +kernel
theorem dL_law_587 : decode cL_law 587 = .ok (.aload_n 0, 1) := by decide +kernel
theorem dL_law_588 : decode cL_law 588 = .ok (.iload_n 3, 1) := by decide +kernel
theorem dL_law_589 : decode cL_law 589 = .ok (.iconst 1, 1) := by decide +kernel
theorem dL_law_590 : decode cL_law 590 = .ok (.iadd, 1) := by decide +kernel
theorem dL_law_591 : decode cL_law 591 = .ok (.iaload, 1) := by decide +kernel
theorem dL_law_592 : decode cL_law 592 = .ok (.aload_n 0, 1) := by decide +kernel
theorem dL_law_593 : decode cL_law 593 = .ok (.iload_n 3, 1) := by decide +kernel
theorem dL_law_594 : decode cL_law 594 = .ok (.iconst 2, 1) := by decide +kernel
theorem dL_law_595 : decode cL_law 595 = .ok (.iadd, 1) := by decide +kernel
theorem dL_law_596 : decode cL_law 596 = .ok (.iaload, 1) := by decide +kernel
theorem dL_law_597 : decode cL_law 597 = .ok (.aload_n 0, 1) := by decide +kernel
theorem dL_law_598 : decode cL_law 598 = .ok (.iload_n 3, 1) := by decide +kernel
theorem dL_law_599 : decode cL_law 599 = .ok (.iconst 3, 1) := by decide +kernel
theorem dL_law_600 : decode cL_law 600 = .ok (.iadd, 1) := by decide +kernel
theorem dL_law_601 : decode cL_law 601 = .ok (.iaload, 1) := by decide +kernel
theorem dL_law_602 : decode cL_law 602 = .ok (.invokevirtual 67, 3) := by decide +kernel
theorem dL_law_605 : decode cL_law 605 = .ok (.aload_n 2, 1) := by decide +kernel
theorem dL_law_606 : decode cL_law 606 = .ok (.aload_n 0, 1) := by decide +kernel
theorem dL_law_607 : decode cL_law 607 = .ok (.iload_n 3, 1) := by decide +kernel
theorem dL_law_608 : decode cL_law 608 = .ok (.iconst 1, 1) := by decide +kernel
theorem dL_law_609 : decode cL_law 609 = .ok (.iadd, 1) := by decide +kernel
theorem dL_law_610 : decode cL_law 610 = .ok (.iaload, 1) := by decide +kernel
theorem dL_law_611 : decode cL_law 611 = .ok (.aload_n 0, 1) := by decide +kernel
theorem dL_law_612 : decode cL_law 612 = .ok (.iload_n 3, 1) := by decide +kernel
theorem dL_law_613 : decode cL_law 613 = .ok (.iconst 2, 1) := by decide +kernel
theorem dL_law_614 : decode cL_law 614 = .ok (.iadd, 1) := by decide +kernel
theorem dL_law_615 : decode cL_law 615 = .ok (.iaload, 1) := by decide +kernel
theorem dL_law_616 : decode cL_law 616 = .ok (.aload_n 0, 1) := by decide +kernel
theorem dL_law_617 : decode cL_law 617 = .ok (.iload_n 3, 1) := by decide +kernel
theorem dL_law_618 : decode cL_law 618 = .ok (.iconst 3, 1) := by decide +kernel
theorem dL_law_619 : decode cL_law 619 = .ok (.iadd, 1) := by decide +kernel
theorem dL_law_620 : decode cL_law 620 = .ok (.iaload, 1) := by decide +kernel
theorem dL_law_621 : decode cL_law 621 = .ok (.invokevirtual 70, 3) := by decide +kernel
theorem dL_law_624 : decode cL_law 624 = .ok (.if_icmp .eq 291, 3) := by decide +kernel
theorem dL_law_627 : decode cL_law 627 = .ok (.iconst 0, 1) := by decide +kernel
theorem dL_law_628 : decode cL_law 628 = .ok (.ireturn, 1) := by decide +kernel
theorem dL_law_629 : decode cL_law 629 = .ok (.aload_n 1, 1) := by decide +kernel
theorem dL_law_630 : decode cL_law 630 = .ok (.aload_n 0, 1) := by decide +kernel
theorem dL_law_631 : decode cL_law 631 = .ok (.iload_n 3, 1) := by decide +kernel
theorem dL_law_632 : decode cL_law 632 = .ok (.iconst 1, 1) := by decide +kernel
theorem dL_law_633 : decode cL_law 633 = .ok (.iadd, 1) := by decide +kernel
theorem dL_law_634 : decode cL_law 634 = .ok (.iaload, 1) := by decide +kernel
theorem dL_law_635 : decode cL_law 635 = .ok (.aload_n 0, 1) := by decide +kernel
theorem dL_law_636 : decode cL_law 636 = .ok (.iload_n 3, 1) := by decide +kernel
theorem dL_law_637 : decode cL_law 637 = .ok (.iconst 2, 1) := by decide +kernel
theorem dL_law_638 : decode cL_law 638 = .ok (.iadd, 1) := by decide +kernel
theorem dL_law_639 : decode cL_law 639 = .ok (.iaload, 1) := by decide +kernel
theorem dL_law_640 : decode cL_law 640 = .ok (.invokevirtual 71, 3) := by decide +kernel
theorem dL_law_643 : decode cL_law 643 = .ok (.aload_n 2, 1) := by decide +kernel
theorem dL_law_644 : decode cL_law 644 = .ok (.aload_n 0, 1) := by decide +kernel
theorem dL_law_645 : decode cL_law 645 = .ok (.iload_n 3, 1) := by decide +kernel
theorem dL_law_646 : decode cL_law 646 = .ok (.iconst 1, 1) := by decide +kernel
theorem dL_law_647 : decode cL_law 647 = .ok (.iadd, 1) := by decide +kernel
theorem dL_law_648 : decode cL_law 648 = .ok (.iaload, 1) := by decide +kernel
theorem dL_law_649 : decode cL_law 649 = .ok (.aload_n 0, 1) := by decide +kernel
theorem dL_law_650 : decode cL_law 650 = .ok (.iload_n 3, 1) := by decide +kernel
theorem dL_law_651 : decode cL_law 651 = .ok (.iconst 2, 1) := by decide +kernel
theorem dL_law_652 : decode cL_law 652 = .ok (.iadd, 1) := by decide +kernel
theorem dL_law_653 : decode cL_law 653 = .ok (.iaload, 1) := by decide +kernel
theorem dL_law_654 : decode cL_law 654 = .ok (.invokevirtual 74, 3) := by decide +kernel
theorem dL_law_657 : decode cL_law 657 = .ok (.if_icmp .eq 258, 3) := by decide +kernel
theorem dL_law_660 : decode cL_law 660 = .ok (.iconst 0, 1) := by decide +kernel
theorem dL_law_661 : decode cL_law 661 = .ok (.ireturn, 1) := by decide +kernel
theorem dL_law_662 : decode cL_law 662 = .ok (.aload_n 1, 1) := by decide +kernel
theorem dL_law_663 : decode cL_law 663 = .ok (.aload_n 0, 1) := by decide +kernel
theorem dL_law_664 : decode cL_law 664 = .ok (.iload_n 3, 1) := by decide +kernel
theorem dL_law_665 : decode cL_law 665 = .ok (.iconst 1, 1) := by decide +kernel
theorem dL_law_666 : decode cL_law 666 = .ok (.iadd, 1) := by decide +kernel
theorem dL_law_667 : decode cL_law 667 = .ok (.iaload, 1) := by decide +kernel
theorem dL_law_668 : decode cL_law 668 = .ok (.aload_n 0, 1) := by decide +kernel
theorem dL_law_669 : decode cL_law 669 = .ok (.iload_n 3, 1) := by decide +kernel
theorem dL_law_670 : decode cL_law 670 = .ok (.iconst 2, 1) := by decide +kernel
theorem dL_law_671 : decode cL_law 671 = .ok (.iadd, 1) := by decide +kernel
theorem dL_law_672 : decode cL_law 672 = .ok (.iaload, 1) := by decide +kernel
theorem dL_law_673 : decode cL_law 673 = .ok (.ifCond .eq 7, 3) := by decide +kernel
theorem dL_law_676 : decode cL_law 676 = .ok (.iconst 1, 1) := by decide +kernel
theorem dL_law_677 : decode cL_law 677 = .ok (.goto 4, 3) := by decide +kernel
theorem dL_law_680 : decode cL_law 680 = .ok (.iconst 0, 1) := by decide +kernel
theorem dL_law_681 : decode cL_law 681 = .ok (.invokevirtual 75, 3) := by decide +kernel
theorem dL_law_684 : decode cL_law 684 = .ok (.aload_n 2, 1) := by decide +kernel
theorem dL_law_685 : decode cL_law 685 = .ok (.aload_n 0, 1) := by decide +kernel
theorem dL_law_686 : decode cL_law 686 = .ok (.iload_n 3, 1) := by decide +kernel
theorem dL_law_687 : decode cL_law 687 = .ok (.iconst 1, 1) := by decide +kernel
theorem dL_law_688 : decode cL_law 688 = .ok (.iadd, 1) := by decide +kernel
theorem dL_law_689 : decode cL_law 689 = .ok (.iaload, 1) := by decide +kernel
theorem dL_law_690 : decode cL_law 690 = .ok (.aload_n 0, 1) := by decide +kernel
theorem dL_law_691 : decode cL_law 691 = .ok (.iload_n 3, 1) := by decide +kernel
theorem dL_law_692 : decode cL_law 692 = .ok (.iconst 2, 1) := by decide +kernel
theorem dL_law_693 : decode cL_law 693 = .ok (.iadd, 1) := by decide +kernel
theorem dL_law_694 : decode cL_law 694 = .ok (.iaload, 1) := by decide +kernel
theorem dL_law_695 : decode cL_law 695 = .ok (.ifCond .eq 7, 3) := by decide +kernel
theorem dL_law_698 : decode cL_law 698 = .ok (.iconst 1, 1) := by decide +kernel
theorem dL_law_699 : decode cL_law 699 = .ok (.goto 4, 3) := by decide +kernel
theorem dL_law_702 : decode cL_law 702 = .ok (.iconst 0, 1) := by decide +kernel
theorem dL_law_703 : decode cL_law 703 = .ok (.invokevirtual 79, 3) := by decide +kernel
theorem dL_law_706 : decode cL_law 706 = .ok (.if_icmp .eq 209, 3) := by decide +kernel
theorem dL_law_709 : decode cL_law 709 = .ok (.iconst 0, 1) := by decide +kernel
theorem dL_law_710 : decode cL_law 710 = .ok (.ireturn, 1) := by decide +kernel
theorem dL_law_711 : decode cL_law 711 = .ok (.aload_n 1, 1) := by decide +kernel
theorem dL_law_712 : decode cL_law 712 = .ok (.aload_n 0, 1) := by decide +kernel
theorem dL_law_713 : decode cL_law 713 = .ok (.iload_n 3, 1) := by decide +kernel
theorem dL_law_714 : decode cL_law 714 = .ok (.iconst 1, 1) := by decide +kernel
theorem dL_law_715 : decode cL_law 715 = .ok (.iadd, 1) := by decide +kernel
theorem dL_law_716 : decode cL_law 716 = .ok (.iaload, 1) := by decide +kernel
theorem dL_law_717 : decode cL_law 717 = .ok (.aload_n 0, 1) := by decide +kernel
theorem dL_law_718 : decode cL_law 718 = .ok (.iload_n 3, 1) := by decide +kernel
theorem dL_law_719 : decode cL_law 719 = .ok (.iconst 2, 1) := by decide +kernel
theorem dL_law_720 : decode cL_law 720 = .ok (.iadd, 1) := by decide +kernel
theorem dL_law_721 : decode cL_law 721 = .ok (.iaload, 1) := by decide +kernel
theorem dL_law_722 : decode cL_law 722 = .ok (.aload_n 0, 1) := by decide +kernel
theorem dL_law_723 : decode cL_law 723 = .ok (.iload_n 3, 1) := by decide +kernel
theorem dL_law_724 : decode cL_law 724 = .ok (.iconst 3, 1) := by decide +kernel
theorem dL_law_725 : decode cL_law 725 = .ok (.iadd, 1) := by decide +kernel
theorem dL_law_726 : decode cL_law 726 = .ok (.iaload, 1) := by decide +kernel
theorem dL_law_727 : decode cL_law 727 = .ok (.aload_n 0, 1) := by decide +kernel
theorem dL_law_728 : decode cL_law 728 = .ok (.iload_n 3, 1) := by decide +kernel
theorem dL_law_729 : decode cL_law 729 = .ok (.iconst 4, 1) := by decide +kernel
theorem dL_law_730 : decode cL_law 730 = .ok (.iadd, 1) := by decide +kernel
theorem dL_law_731 : decode cL_law 731 = .ok (.iaload, 1) := by decide +kernel
theorem dL_law_732 : decode cL_law 732 = .ok (.invokevirtual 80, 3) := by decide +kernel
theorem dL_law_735 : decode cL_law 735 = .ok (.aload_n 2, 1) := by decide +kernel
theorem dL_law_736 : decode cL_law 736 = .ok (.aload_n 0, 1) := by decide +kernel
theorem dL_law_737 : decode cL_law 737 = .ok (.iload_n 3, 1) := by decide +kernel
theorem dL_law_738 : decode cL_law 738 = .ok (.iconst 1, 1) := by decide +kernel
theorem dL_law_739 : decode cL_law 739 = .ok (.iadd, 1) := by decide +kernel
theorem dL_law_740 : decode cL_law 740 = .ok (.iaload, 1) := by decide +kernel
theorem dL_law_741 : decode cL_law 741 = .ok (.aload_n 0, 1) := by decide +kernel
theorem dL_law_742 : decode cL_law 742 = .ok (.iload_n 3, 1) := by decide +kernel
theorem dL_law_743 : decode cL_law 743 = .ok (.iconst 2, 1) := by decide +kernel
theorem dL_law_744 : decode cL_law 744 = .ok (.iadd, 1) := by decide +kernel
theorem dL_law_745 : decode cL_law 745 = .ok (.iaload, 1) := by decide +kernel
theorem dL_law_746 : decode cL_law 746 = .ok (.aload_n 0, 1) := by decide +kernel
theorem dL_law_747 : decode cL_law 747 = .ok (.iload_n 3, 1) := by decide +kernel
theorem dL_law_748 : decode cL_law 748 = .ok (.iconst 3, 1) := by decide +kernel
theorem dL_law_749 : decode cL_law 749 = .ok (.iadd, 1) := by decide +kernel
theorem dL_law_750 : decode cL_law 750 = .ok (.iaload, 1) := by decide +kernel
theorem dL_law_751 : decode cL_law 751 = .ok (.aload_n 0, 1) := by decide +kernel
theorem dL_law_752 : decode cL_law 752 = .ok (.iload_n 3, 1) := by decide +kernel
theorem dL_law_753 : decode cL_law 753 = .ok (.iconst 4, 1) := by decide +kernel
theorem dL_law_754 : decode cL_law 754 = .ok (.iadd, 1) := by decide +kernel
theorem dL_law_755 : decode cL_law 755 = .ok (.iaload, 1) := by decide +kernel
theorem dL_law_756 : decode cL_law 756 = .ok (.invokevirtual 83, 3) := by decide +kernel
theorem dL_law_759 : decode cL_law 759 = .ok (.if_icmp .eq 156, 3) := by decide +kernel
theorem dL_law_762 : decode cL_law 762 = .ok (.iconst 0, 1) := by decide +kernel
theorem dL_law_763 : decode cL_law 763 = .ok (.ireturn, 1) := by decide +kernel
theorem dL_law_764 : decode cL_law 764 = .ok (.aload_n 1, 1) := by decide +kernel
theorem dL_law_765 : decode cL_law 765 = .ok (.aload_n 0, 1) := by decide +kernel
theorem dL_law_766 : decode cL_law 766 = .ok (.iload_n 3, 1) := by decide +kernel
theorem dL_law_767 : decode cL_law 767 = .ok (.iconst 1, 1) := by decide +kernel
theorem dL_law_768 : decode cL_law 768 = .ok (.iadd, 1) := by decide +kernel
theorem dL_law_769 : decode cL_law 769 = .ok (.iaload, 1) := by decide +kernel
theorem dL_law_770 : decode cL_law 770 = .ok (.aload_n 0, 1) := by decide +kernel
theorem dL_law_771 : decode cL_law 771 = .ok (.iload_n 3, 1) := by decide +kernel
theorem dL_law_772 : decode cL_law 772 = .ok (.iconst 2, 1) := by decide +kernel
theorem dL_law_773 : decode cL_law 773 = .ok (.iadd, 1) := by decide +kernel
theorem dL_law_774 : decode cL_law 774 = .ok (.iaload, 1) := by decide +kernel
theorem dL_law_775 : decode cL_law 775 = .ok (.invokevirtual 84, 3) := by decide +kernel
theorem dL_law_778 : decode cL_law 778 = .ok (.aload_n 2, 1) := by decide +kernel
theorem dL_law_779 : decode cL_law 779 = .ok (.aload_n 0, 1) := by decide +kernel
theorem dL_law_780 : decode cL_law 780 = .ok (.iload_n 3, 1) := by decide +kernel
theorem dL_law_781 : decode cL_law 781 = .ok (.iconst 1, 1) := by decide +kernel
theorem dL_law_782 : decode cL_law 782 = .ok (.iadd, 1) := by decide +kernel
theorem dL_law_783 : decode cL_law 783 = .ok (.iaload, 1) := by decide +kernel
theorem dL_law_784 : decode cL_law 784 = .ok (.aload_n 0, 1) := by decide +kernel
theorem dL_law_785 : decode cL_law 785 = .ok (.iload_n 3, 1) := by decide +kernel
theorem dL_law_786 : decode cL_law 786 = .ok (.iconst 2, 1) := by decide +kernel
theorem dL_law_787 : decode cL_law 787 = .ok (.iadd, 1) := by decide +kernel
theorem dL_law_788 : decode cL_law 788 = .ok (.iaload, 1) := by decide +kernel
theorem dL_law_789 : decode cL_law 789 = .ok (.invokevirtual 87, 3) := by decide +kernel
theorem dL_law_792 : decode cL_law 792 = .ok (.if_icmp .eq 123, 3) := by decide +kernel
theorem dL_law_795 : decode cL_law 795 = .ok (.iconst 0, 1) := by decide +kernel
theorem dL_law_796 : decode cL_law 796 = .ok (.ireturn, 1) := by decide +kernel
theorem dL_law_797 : decode cL_law 797 = .ok (.aload_n 1, 1) := by decide +kernel
theorem dL_law_798 : decode cL_law 798 = .ok (.aload_n 0, 1) := by decide +kernel
theorem dL_law_799 : decode cL_law 799 = .ok (.iload_n 3, 1) := by decide +kernel
theorem dL_law_800 : decode cL_law 800 = .ok (.iconst 1, 1) := by decide +kernel
theorem dL_law_801 : decode cL_law 801 = .ok (.iadd, 1) := by decide +kernel
theorem dL_law_802 : decode cL_law 802 = .ok (.iaload, 1) := by decide +kernel
theorem dL_law_803 : decode cL_law 803 = .ok (.invokevirtual 88, 3) := by decide +kernel
theorem dL_law_806 : decode cL_law 806 = .ok (.aload_n 2, 1) := by decide +kernel
theorem dL_law_807 : decode cL_law 807 = .ok (.aload_n 0, 1) := by decide +kernel
theorem dL_law_808 : decode cL_law 808 = .ok (.iload_n 3, 1) := by decide +kernel
theorem dL_law_809 : decode cL_law 809 = .ok (.iconst 1, 1) := by decide +kernel
theorem dL_law_810 : decode cL_law 810 = .ok (.iadd, 1) := by decide +kernel
theorem dL_law_811 : decode cL_law 811 = .ok (.iaload, 1) := by decide +kernel
theorem dL_law_812 : decode cL_law 812 = .ok (.invokevirtual 91, 3) := by decide +kernel
theorem dL_law_815 : decode cL_law 815 = .ok (.if_icmp .eq 100, 3) := by decide +kernel
theorem dL_law_818 : decode cL_law 818 = .ok (.iconst 0, 1) := by decide +kernel
theorem dL_law_819 : decode cL_law 819 = .ok (.ireturn, 1) := by decide +kernel
theorem dL_law_820 : decode cL_law 820 = .ok (.aload_n 1, 1) := by decide +kernel
theorem dL_law_821 : decode cL_law 821 = .ok (.aload_n 0, 1) := by decide +kernel
theorem dL_law_822 : decode cL_law 822 = .ok (.iload_n 3, 1) := by decide +kernel
theorem dL_law_823 : decode cL_law 823 = .ok (.iconst 1, 1) := by decide +kernel
theorem dL_law_824 : decode cL_law 824 = .ok (.iadd, 1) := by decide +kernel
theorem dL_law_825 : decode cL_law 825 = .ok (.iaload, 1) := by decide +kernel
theorem dL_law_826 : decode cL_law 826 = .ok (.invokevirtual 92, 3) := by decide +kernel
theorem dL_law_829 : decode cL_law 829 = .ok (.aload_n 2, 1) := by decide +kernel
theorem dL_law_830 : decode cL_law 830 = .ok (.aload_n 0, 1) := by decide +kernel
theorem dL_law_831 : decode cL_law 831 = .ok (.iload_n 3, 1) := by decide +kernel
theorem dL_law_832 : decode cL_law 832 = .ok (.iconst 1, 1) := by decide +kernel
theorem dL_law_833 : decode cL_law 833 = .ok (.iadd, 1) := by decide +kernel
theorem dL_law_834 : decode cL_law 834 = .ok (.iaload, 1) := by decide +kernel
theorem dL_law_835 : decode cL_law 835 = .ok (.invokevirtual 95, 3) := by decide +kernel
theorem dL_law_838 : decode cL_law 838 = .ok (.if_icmp .eq 77, 3) := by decide +kernel
theorem dL_law_841 : decode cL_law 841 = .ok (.iconst 0, 1) := by decide +kernel
theorem dL_law_842 : decode cL_law 842 = .ok (.ireturn, 1) := by decide +kernel
theorem dL_law_843 : decode cL_law 843 = .ok (.aload_n 1, 1) := by decide +kernel
theorem dL_law_844 : decode cL_law 844 = .ok (.aload_n 0, 1) := by decide +kernel
theorem dL_law_845 : decode cL_law 845 = .ok (.iload_n 3, 1) := by decide +kernel
theorem dL_law_846 : decode cL_law 846 = .ok (.iconst 1, 1) := by decide +kernel
theorem dL_law_847 : decode cL_law 847 = .ok (.iadd, 1) := by decide +kernel
theorem dL_law_848 : decode cL_law 848 = .ok (.iaload, 1) := by decide +kernel
theorem dL_law_849 : decode cL_law 849 = .ok (.invokevirtual 96, 3) := by decide +kernel
theorem dL_law_852 : decode cL_law 852 = .ok (.aload_n 2, 1) := by decide +kernel
theorem dL_law_853 : decode cL_law 853 = .ok (.aload_n 0, 1) := by decide +kernel
theorem dL_law_854 : decode cL_law 854 = .ok (.iload_n 3, 1) := by decide +kernel
theorem dL_law_855 : decode cL_law 855 = .ok (.iconst 1, 1) := by decide +kernel
theorem dL_law_856 : decode cL_law 856 = .ok (.iadd, 1) := by decide +kernel
theorem dL_law_857 : decode cL_law 857 = .ok (.iaload, 1) := by decide +kernel
theorem dL_law_858 : decode cL_law 858 = .ok (.invokevirtual 99, 3) := by decide +kernel
theorem dL_law_861 : decode cL_law 861 = .ok (.if_icmp .eq 54, 3) := by decide +kernel
theorem dL_law_864 : decode cL_law 864 = .ok (.iconst 0, 1) := by decide +kernel
theorem dL_law_865 : decode cL_law 865 = .ok (.ireturn, 1) := by decide +kernel
theorem dL_law_866 : decode cL_law 866 = .ok (.aload_n 1, 1) := by decide +kernel
theorem dL_law_867 : decode cL_law 867 = .ok (.aload_n 0, 1) := by decide +kernel
theorem dL_law_868 : decode cL_law 868 = .ok (.iload_n 3, 1) := by decide +kernel
theorem dL_law_869 : decode cL_law 869 = .ok (.iconst 1, 1) := by decide +kernel
theorem dL_law_870 : decode cL_law 870 = .ok (.iadd, 1) := by decide +kernel
theorem dL_law_871 : decode cL_law 871 = .ok (.iaload, 1) := by decide +kernel
theorem dL_law_872 : decode cL_law 872 = .ok (.invokevirtual 100, 3) := by decide +kernel
theorem dL_law_875 : decode cL_law 875 = .ok (.aload_n 2, 1) := by decide +kernel
theorem dL_law_876 : decode cL_law 876 = .ok (.aload_n 0, 1) := by decide +kernel
theorem dL_law_877 : decode cL_law 877 = .ok (.iload_n 3, 1) := by decide +kernel
theorem dL_law_878 : decode cL_law 878 = .ok (.iconst 1, 1) := by decide +kernel
theorem dL_law_879 : decode cL_law 879 = .ok (.iadd, 1) := by decide +kernel
theorem dL_law_880 : decode cL_law 880 = .ok (.iaload, 1) := by decide +kernel
theorem dL_law_881 : decode cL_law 881 = .ok (.invokevirtual 103, 3) := by decide +kernel
theorem dL_law_884 : decode cL_law 884 = .ok (.if_icmp .eq 31, 3) := by decide +kernel
theorem dL_law_887 : decode cL_law 887 = .ok (.iconst 0, 1) := by decide +kernel
theorem dL_law_888 : decode cL_law 888 = .ok (.ireturn, 1) := by decide +kernel
theorem dL_law_889 : decode cL_law 889 = .ok (.aload_n 1, 1) := by decide +kernel
theorem dL_law_890 : decode cL_law 890 = .ok (.invokevirtual 104, 3) := by decide +kernel
theorem dL_law_893 : decode cL_law 893 = .ok (.aload_n 2, 1) := by decide +kernel
theorem dL_law_894 : decode cL_law 894 = .ok (.invokevirtual 107, 3) := by decide +kernel
theorem dL_law_897 : decode cL_law 897 = .ok (.if_icmp .eq 18, 3) := by decide +kernel
theorem dL_law_900 : decode cL_law 900 = .ok (.iconst 0, 1) := by decide +kernel
theorem dL_law_901 : decode cL_law 901 = .ok (.ireturn, 1) := by decide +kernel
theorem dL_law_902 : decode cL_law 902 = .ok (.aload_n 1, 1) := by decide +kernel
theorem dL_law_903 : decode cL_law 903 = .ok (.invokevirtual 108, 3) := by decide +kernel
theorem dL_law_906 : decode cL_law 906 = .ok (.aload_n 2, 1) := by decide +kernel
theorem dL_law_907 : decode cL_law 907 = .ok (.invokevirtual 111, 3) := by decide +kernel
theorem dL_law_910 : decode cL_law 910 = .ok (.if_icmp .eq 5, 3) := by decide +kernel
theorem dL_law_913 : decode cL_law 913 = .ok (.iconst 0, 1) := by decide +kernel
theorem dL_law_914 : decode cL_law 914 = .ok (.ireturn, 1) := by decide +kernel
theorem dL_law_915 : decode cL_law 915 = .ok (.iinc 3 6, 3) := by decide +kernel
theorem dL_law_918 : decode cL_law 918 = .ok (.goto (-900), 3) := by decide +kernel
theorem dL_law_921 : decode cL_law 921 = .ok (.iconst 1, 1) := by decide +kernel
theorem dL_law_922 : decode cL_law 922 = .ok (.ireturn, 1) := by decide +kernel
