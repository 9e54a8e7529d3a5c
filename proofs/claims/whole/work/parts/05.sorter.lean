theorem d_SO_sortByRanks_0 : decode b_SO_sortByRanks 0 = .ok (.aload_n 0, 1) := by decide +kernel
theorem d_SO_sortByRanks_1 : decode b_SO_sortByRanks 1 = .ok (.getfield 18, 3) := by decide +kernel
theorem d_SO_sortByRanks_4 : decode b_SO_sortByRanks 4 = .ok (.iconst 0, 1) := by decide +kernel
theorem d_SO_sortByRanks_5 : decode b_SO_sortByRanks 5 = .ok (.iload_n 1, 1) := by decide +kernel
theorem d_SO_sortByRanks_6 : decode b_SO_sortByRanks 6 = .ok (.iconst 0, 1) := by decide +kernel
theorem d_SO_sortByRanks_7 : decode b_SO_sortByRanks 7 = .ok (.invokestatic 37, 3) := by decide +kernel
theorem d_SO_sortByRanks_10 : decode b_SO_sortByRanks 10 = .ok (.iconst 0, 1) := by decide +kernel
theorem d_SO_sortByRanks_11 : decode b_SO_sortByRanks 11 = .ok (.istore 4, 2) := by decide +kernel
theorem d_SO_sortByRanks_13 : decode b_SO_sortByRanks 13 = .ok (.iload 4, 2) := by decide +kernel
theorem d_SO_sortByRanks_15 : decode b_SO_sortByRanks 15 = .ok (.aload_n 0, 1) := by decide +kernel
theorem d_SO_sortByRanks_16 : decode b_SO_sortByRanks 16 = .ok (.getfield 21, 3) := by decide +kernel
theorem d_SO_sortByRanks_19 : decode b_SO_sortByRanks 19 = .ok (.if_icmp .ge 22, 3) := by decide +kernel
theorem d_SO_sortByRanks_22 : decode b_SO_sortByRanks 22 = .ok (.aload_n 0, 1) := by decide +kernel
theorem d_SO_sortByRanks_23 : decode b_SO_sortByRanks 23 = .ok (.getfield 18, 3) := by decide +kernel
theorem d_SO_sortByRanks_26 : decode b_SO_sortByRanks 26 = .ok (.aload_n 3, 1) := by decide +kernel
theorem d_SO_sortByRanks_27 : decode b_SO_sortByRanks 27 = .ok (.iload 4, 2) := by decide +kernel
theorem d_SO_sortByRanks_29 : decode b_SO_sortByRanks 29 = .ok (.iaload, 1) := by decide +kernel
theorem d_SO_sortByRanks_30 : decode b_SO_sortByRanks 30 = .ok (.dup2, 1) := by decide +kernel
theorem d_SO_sortByRanks_31 : decode b_SO_sortByRanks 31 = .ok (.iaload, 1) := by decide +kernel
theorem d_SO_sortByRanks_32 : decode b_SO_sortByRanks 32 = .ok (.iconst 1, 1) := by decide +kernel
theorem d_SO_sortByRanks_33 : decode b_SO_sortByRanks 33 = .ok (.iadd, 1) := by decide +kernel
theorem d_SO_sortByRanks_34 : decode b_SO_sortByRanks 34 = .ok (.iastore, 1) := by decide +kernel
theorem d_SO_sortByRanks_35 : decode b_SO_sortByRanks 35 = .ok (.iinc 4 1, 3) := by decide +kernel
theorem d_SO_sortByRanks_38 : decode b_SO_sortByRanks 38 = .ok (.goto (-25), 3) := by decide +kernel
theorem d_SO_sortByRanks_41 : decode b_SO_sortByRanks 41 = .ok (.iconst 1, 1) := by decide +kernel
theorem d_SO_sortByRanks_42 : decode b_SO_sortByRanks 42 = .ok (.istore 4, 2) := by decide +kernel
theorem d_SO_sortByRanks_44 : decode b_SO_sortByRanks 44 = .ok (.iload 4, 2) := by decide +kernel
theorem d_SO_sortByRanks_46 : decode b_SO_sortByRanks 46 = .ok (.iload_n 1, 1) := by decide +kernel
theorem d_SO_sortByRanks_47 : decode b_SO_sortByRanks 47 = .ok (.if_icmp .ge 28, 3) := by decide +kernel
theorem d_SO_sortByRanks_50 : decode b_SO_sortByRanks 50 = .ok (.aload_n 0, 1) := by decide +kernel
theorem d_SO_sortByRanks_51 : decode b_SO_sortByRanks 51 = .ok (.getfield 18, 3) := by decide +kernel
theorem d_SO_sortByRanks_54 : decode b_SO_sortByRanks 54 = .ok (.iload 4, 2) := by decide +kernel
theorem d_SO_sortByRanks_56 : decode b_SO_sortByRanks 56 = .ok (.dup2, 1) := by decide +kernel
theorem d_SO_sortByRanks_57 : decode b_SO_sortByRanks 57 = .ok (.iaload, 1) := by decide +kernel
theorem d_SO_sortByRanks_58 : decode b_SO_sortByRanks 58 = .ok (.aload_n 0, 1) := by decide +kernel
theorem d_SO_sortByRanks_59 : decode b_SO_sortByRanks 59 = .ok (.getfield 18, 3) := by decide +kernel
theorem d_SO_sortByRanks_62 : decode b_SO_sortByRanks 62 = .ok (.iload 4, 2) := by decide +kernel
theorem d_SO_sortByRanks_64 : decode b_SO_sortByRanks 64 = .ok (.iconst 1, 1) := by decide +kernel
theorem d_SO_sortByRanks_65 : decode b_SO_sortByRanks 65 = .ok (.isub, 1) := by decide +kernel
theorem d_SO_sortByRanks_66 : decode b_SO_sortByRanks 66 = .ok (.iaload, 1) := by decide +kernel
theorem d_SO_sortByRanks_67 : decode b_SO_sortByRanks 67 = .ok (.iadd, 1) := by decide +kernel
theorem d_SO_sortByRanks_68 : decode b_SO_sortByRanks 68 = .ok (.iastore, 1) := by decide +kernel
theorem d_SO_sortByRanks_69 : decode b_SO_sortByRanks 69 = .ok (.iinc 4 1, 3) := by decide +kernel
theorem d_SO_sortByRanks_72 : decode b_SO_sortByRanks 72 = .ok (.goto (-28), 3) := by decide +kernel
theorem d_SO_sortByRanks_75 : decode b_SO_sortByRanks 75 = .ok (.aload_n 0, 1) := by decide +kernel
theorem d_SO_sortByRanks_76 : decode b_SO_sortByRanks 76 = .ok (.getfield 21, 3) := by decide +kernel
theorem d_SO_sortByRanks_79 : decode b_SO_sortByRanks 79 = .ok (.iconst 1, 1) := by decide +kernel
theorem d_SO_sortByRanks_80 : decode b_SO_sortByRanks 80 = .ok (.isub, 1) := by decide +kernel
theorem d_SO_sortByRanks_81 : decode b_SO_sortByRanks 81 = .ok (.istore 4, 2) := by decide +kernel
theorem d_SO_sortByRanks_83 : decode b_SO_sortByRanks 83 = .ok (.iload 4, 2) := by decide +kernel
theorem d_SO_sortByRanks_85 : decode b_SO_sortByRanks 85 = .ok (.ifCond .lt 48, 3) := by decide +kernel
theorem d_SO_sortByRanks_88 : decode b_SO_sortByRanks 88 = .ok (.aload_n 0, 1) := by decide +kernel
theorem d_SO_sortByRanks_89 : decode b_SO_sortByRanks 89 = .ok (.getfield 9, 3) := by decide +kernel
theorem d_SO_sortByRanks_92 : decode b_SO_sortByRanks 92 = .ok (.iload 4, 2) := by decide +kernel
theorem d_SO_sortByRanks_94 : decode b_SO_sortByRanks 94 = .ok (.iaload, 1) := by decide +kernel
theorem d_SO_sortByRanks_95 : decode b_SO_sortByRanks 95 = .ok (.istore 5, 2) := by decide +kernel
theorem d_SO_sortByRanks_97 : decode b_SO_sortByRanks 97 = .ok (.aload_n 0, 1) := by decide +kernel
theorem d_SO_sortByRanks_98 : decode b_SO_sortByRanks 98 = .ok (.getfield 18, 3) := by decide +kernel
theorem d_SO_sortByRanks_101 : decode b_SO_sortByRanks 101 = .ok (.aload_n 3, 1) := by decide +kernel
theorem d_SO_sortByRanks_102 : decode b_SO_sortByRanks 102 = .ok (.iload 5, 2) := by decide +kernel
theorem d_SO_sortByRanks_104 : decode b_SO_sortByRanks 104 = .ok (.iaload, 1) := by decide +kernel
theorem d_SO_sortByRanks_105 : decode b_SO_sortByRanks 105 = .ok (.iaload, 1) := by decide +kernel
theorem d_SO_sortByRanks_106 : decode b_SO_sortByRanks 106 = .ok (.iconst 1, 1) := by decide +kernel
theorem d_SO_sortByRanks_107 : decode b_SO_sortByRanks 107 = .ok (.isub, 1) := by decide +kernel
theorem d_SO_sortByRanks_108 : decode b_SO_sortByRanks 108 = .ok (.istore 6, 2) := by decide +kernel
theorem d_SO_sortByRanks_110 : decode b_SO_sortByRanks 110 = .ok (.aload_n 0, 1) := by decide +kernel
theorem d_SO_sortByRanks_111 : decode b_SO_sortByRanks 111 = .ok (.getfield 18, 3) := by decide +kernel
theorem d_SO_sortByRanks_114 : decode b_SO_sortByRanks 114 = .ok (.aload_n 3, 1) := by decide +kernel
theorem d_SO_sortByRanks_115 : decode b_SO_sortByRanks 115 = .ok (.iload 5, 2) := by decide +kernel
theorem d_SO_sortByRanks_117 : decode b_SO_sortByRanks 117 = .ok (.iaload, 1) := by decide +kernel
theorem d_SO_sortByRanks_118 : decode b_SO_sortByRanks 118 = .ok (.iload 6, 2) := by decide +kernel
theorem d_SO_sortByRanks_120 : decode b_SO_sortByRanks 120 = .ok (.iastore, 1) := by decide +kernel
theorem d_SO_sortByRanks_121 : decode b_SO_sortByRanks 121 = .ok (.aload_n 2, 1) := by decide +kernel
theorem d_SO_sortByRanks_122 : decode b_SO_sortByRanks 122 = .ok (.iload 6, 2) := by decide +kernel
theorem d_SO_sortByRanks_124 : decode b_SO_sortByRanks 124 = .ok (.iload 5, 2) := by decide +kernel
theorem d_SO_sortByRanks_126 : decode b_SO_sortByRanks 126 = .ok (.iastore, 1) := by decide +kernel
theorem d_SO_sortByRanks_127 : decode b_SO_sortByRanks 127 = .ok (.iinc 4 (-1), 3) := by decide +kernel
theorem d_SO_sortByRanks_130 : decode b_SO_sortByRanks 130 = .ok (.goto (-47), 3) := by decide +kernel
theorem d_SO_sortByRanks_133 : decode b_SO_sortByRanks 133 = .ok (.return_, 1) := by decide +kernel
theorem d_SO_sameRanks_0 : decode b_SO_sameRanks 0 = .ok (.aload 4, 2) := by decide +kernel
theorem d_SO_sameRanks_2 : decode b_SO_sameRanks 2 = .ok (.iload_n 1, 1) := by decide +kernel
theorem d_SO_sameRanks_3 : decode b_SO_sameRanks 3 = .ok (.iaload, 1) := by decide +kernel
theorem d_SO_sameRanks_4 : decode b_SO_sameRanks 4 = .ok (.aload 4, 2) := by decide +kernel
theorem d_SO_sameRanks_6 : decode b_SO_sameRanks 6 = .ok (.iload_n 2, 1) := by decide +kernel
theorem d_SO_sameRanks_7 : decode b_SO_sameRanks 7 = .ok (.iaload, 1) := by decide +kernel
theorem d_SO_sameRanks_8 : decode b_SO_sameRanks 8 = .ok (.if_icmp .eq 5, 3) := by decide +kernel
theorem d_SO_sameRanks_11 : decode b_SO_sameRanks 11 = .ok (.iconst 0, 1) := by decide +kernel
theorem d_SO_sameRanks_12 : decode b_SO_sameRanks 12 = .ok (.ireturn, 1) := by decide +kernel
theorem d_SO_sameRanks_13 : decode b_SO_sameRanks 13 = .ok (.iload_n 1, 1) := by decide +kernel
theorem d_SO_sameRanks_14 : decode b_SO_sameRanks 14 = .ok (.iload_n 3, 1) := by decide +kernel
theorem d_SO_sameRanks_15 : decode b_SO_sameRanks 15 = .ok (.iadd, 1) := by decide +kernel
theorem d_SO_sameRanks_16 : decode b_SO_sameRanks 16 = .ok (.istore 5, 2) := by decide +kernel
theorem d_SO_sameRanks_18 : decode b_SO_sameRanks 18 = .ok (.iload_n 2, 1) := by decide +kernel
theorem d_SO_sameRanks_19 : decode b_SO_sameRanks 19 = .ok (.iload_n 3, 1) := by decide +kernel
theorem d_SO_sameRanks_20 : decode b_SO_sameRanks 20 = .ok (.iadd, 1) := by decide +kernel
theorem d_SO_sameRanks_21 : decode b_SO_sameRanks 21 = .ok (.istore 6, 2) := by decide +kernel
theorem d_SO_sameRanks_23 : decode b_SO_sameRanks 23 = .ok (.iload 5, 2) := by decide +kernel
theorem d_SO_sameRanks_25 : decode b_SO_sameRanks 25 = .ok (.aload_n 0, 1) := by decide +kernel
theorem d_SO_sameRanks_26 : decode b_SO_sameRanks 26 = .ok (.getfield 21, 3) := by decide +kernel
theorem d_SO_sameRanks_29 : decode b_SO_sameRanks 29 = .ok (.if_icmp .ge 29, 3) := by decide +kernel
theorem d_SO_sameRanks_32 : decode b_SO_sameRanks 32 = .ok (.iload 6, 2) := by decide +kernel
theorem d_SO_sameRanks_34 : decode b_SO_sameRanks 34 = .ok (.aload_n 0, 1) := by decide +kernel
theorem d_SO_sameRanks_35 : decode b_SO_sameRanks 35 = .ok (.getfield 21, 3) := by decide +kernel
theorem d_SO_sameRanks_38 : decode b_SO_sameRanks 38 = .ok (.if_icmp .ge 20, 3) := by decide +kernel
theorem d_SO_sameRanks_41 : decode b_SO_sameRanks 41 = .ok (.aload 4, 2) := by decide +kernel
theorem d_SO_sameRanks_43 : decode b_SO_sameRanks 43 = .ok (.iload 5, 2) := by decide +kernel
theorem d_SO_sameRanks_45 : decode b_SO_sameRanks 45 = .ok (.iaload, 1) := by decide +kernel
theorem d_SO_sameRanks_46 : decode b_SO_sameRanks 46 = .ok (.aload 4, 2) := by decide +kernel
theorem d_SO_sameRanks_48 : decode b_SO_sameRanks 48 = .ok (.iload 6, 2) := by decide +kernel
theorem d_SO_sameRanks_50 : decode b_SO_sameRanks 50 = .ok (.iaload, 1) := by decide +kernel
theorem d_SO_sameRanks_51 : decode b_SO_sameRanks 51 = .ok (.if_icmp .ne 7, 3) := by decide +kernel
theorem d_SO_sameRanks_54 : decode b_SO_sameRanks 54 = .ok (.iconst 1, 1) := by decide +kernel
theorem d_SO_sameRanks_55 : decode b_SO_sameRanks 55 = .ok (.goto 4, 3) := by decide +kernel
theorem d_SO_sameRanks_58 : decode b_SO_sameRanks 58 = .ok (.iconst 0, 1) := by decide +kernel
theorem d_SO_sameRanks_59 : decode b_SO_sameRanks 59 = .ok (.ireturn, 1) := by decide +kernel
theorem d_SO_rankAnew_0 : decode b_SO_rankAnew 0 = .ok (.iconst 0, 1) := by decide +kernel
theorem d_SO_rankAnew_1 : decode b_SO_rankAnew 1 = .ok (.istore 4, 2) := by decide +kernel
theorem d_SO_rankAnew_3 : decode b_SO_rankAnew 3 = .ok (.iconst 0, 1) := by decide +kernel
theorem d_SO_rankAnew_4 : decode b_SO_rankAnew 4 = .ok (.istore 5, 2) := by decide +kernel
theorem d_SO_rankAnew_6 : decode b_SO_rankAnew 6 = .ok (.iload 5, 2) := by decide +kernel
theorem d_SO_rankAnew_8 : decode b_SO_rankAnew 8 = .ok (.aload_n 0, 1) := by decide +kernel
theorem d_SO_rankAnew_9 : decode b_SO_rankAnew 9 = .ok (.getfield 21, 3) := by decide +kernel
theorem d_SO_rankAnew_12 : decode b_SO_rankAnew 12 = .ok (.if_icmp .ge 47, 3) := by decide +kernel
theorem d_SO_rankAnew_15 : decode b_SO_rankAnew 15 = .ok (.iload 5, 2) := by decide +kernel
theorem d_SO_rankAnew_17 : decode b_SO_rankAnew 17 = .ok (.ifCond .le 25, 3) := by decide +kernel
theorem d_SO_rankAnew_20 : decode b_SO_rankAnew 20 = .ok (.aload_n 0, 1) := by decide +kernel
theorem d_SO_rankAnew_21 : decode b_SO_rankAnew 21 = .ok (.aload_n 2, 1) := by decide +kernel
theorem d_SO_rankAnew_22 : decode b_SO_rankAnew 22 = .ok (.iload 5, 2) := by decide +kernel
theorem d_SO_rankAnew_24 : decode b_SO_rankAnew 24 = .ok (.iconst 1, 1) := by decide +kernel
theorem d_SO_rankAnew_25 : decode b_SO_rankAnew 25 = .ok (.isub, 1) := by decide +kernel
theorem d_SO_rankAnew_26 : decode b_SO_rankAnew 26 = .ok (.iaload, 1) := by decide +kernel
theorem d_SO_rankAnew_27 : decode b_SO_rankAnew 27 = .ok (.aload_n 2, 1) := by decide +kernel
theorem d_SO_rankAnew_28 : decode b_SO_rankAnew 28 = .ok (.iload 5, 2) := by decide +kernel
theorem d_SO_rankAnew_30 : decode b_SO_rankAnew 30 = .ok (.iaload, 1) := by decide +kernel
theorem d_SO_rankAnew_31 : decode b_SO_rankAnew 31 = .ok (.iload_n 1, 1) := by decide +kernel
theorem d_SO_rankAnew_32 : decode b_SO_rankAnew 32 = .ok (.aload_n 3, 1) := by decide +kernel
theorem d_SO_rankAnew_33 : decode b_SO_rankAnew 33 = .ok (.invokevirtual 43, 3) := by decide +kernel
theorem d_SO_rankAnew_36 : decode b_SO_rankAnew 36 = .ok (.ifCond .ne 6, 3) := by decide +kernel
theorem d_SO_rankAnew_39 : decode b_SO_rankAnew 39 = .ok (.iinc 4 1, 3) := by decide +kernel
theorem d_SO_rankAnew_42 : decode b_SO_rankAnew 42 = .ok (.aload_n 0, 1) := by decide +kernel
theorem d_SO_rankAnew_43 : decode b_SO_rankAnew 43 = .ok (.getfield 15, 3) := by decide +kernel
theorem d_SO_rankAnew_46 : decode b_SO_rankAnew 46 = .ok (.aload_n 2, 1) := by decide +kernel
theorem d_SO_rankAnew_47 : decode b_SO_rankAnew 47 = .ok (.iload 5, 2) := by decide +kernel
theorem d_SO_rankAnew_49 : decode b_SO_rankAnew 49 = .ok (.iaload, 1) := by decide +kernel
theorem d_SO_rankAnew_50 : decode b_SO_rankAnew 50 = .ok (.iload 4, 2) := by decide +kernel
theorem d_SO_rankAnew_52 : decode b_SO_rankAnew 52 = .ok (.iastore, 1) := by decide +kernel
theorem d_SO_rankAnew_53 : decode b_SO_rankAnew 53 = .ok (.iinc 5 1, 3) := by decide +kernel
theorem d_SO_rankAnew_56 : decode b_SO_rankAnew 56 = .ok (.goto (-50), 3) := by decide +kernel
theorem d_SO_rankAnew_59 : decode b_SO_rankAnew 59 = .ok (.aload_n 0, 1) := by decide +kernel
theorem d_SO_rankAnew_60 : decode b_SO_rankAnew 60 = .ok (.getfield 15, 3) := by decide +kernel
theorem d_SO_rankAnew_63 : decode b_SO_rankAnew 63 = .ok (.iconst 0, 1) := by decide +kernel
theorem d_SO_rankAnew_64 : decode b_SO_rankAnew 64 = .ok (.aload_n 3, 1) := by decide +kernel
theorem d_SO_rankAnew_65 : decode b_SO_rankAnew 65 = .ok (.iconst 0, 1) := by decide +kernel
theorem d_SO_rankAnew_66 : decode b_SO_rankAnew 66 = .ok (.aload_n 0, 1) := by decide +kernel
theorem d_SO_rankAnew_67 : decode b_SO_rankAnew 67 = .ok (.getfield 21, 3) := by decide +kernel
theorem d_SO_rankAnew_70 : decode b_SO_rankAnew 70 = .ok (.invokestatic 47, 3) := by decide +kernel
theorem d_SO_rankAnew_73 : decode b_SO_rankAnew 73 = .ok (.iload 4, 2) := by decide +kernel
theorem d_SO_rankAnew_75 : decode b_SO_rankAnew 75 = .ok (.iconst 1, 1) := by decide +kernel
theorem d_SO_rankAnew_76 : decode b_SO_rankAnew 76 = .ok (.iadd, 1) := by decide +kernel
theorem d_SO_rankAnew_77 : decode b_SO_rankAnew 77 = .ok (.ireturn, 1) := by decide +kernel
theorem d_SO_sortByTails_0 : decode b_SO_sortByTails 0 = .ok (.iconst 0, 1) := by decide +kernel
theorem d_SO_sortByTails_1 : decode b_SO_sortByTails 1 = .ok (.istore_n 3, 1) := by decide +kernel
theorem d_SO_sortByTails_2 : decode b_SO_sortByTails 2 = .ok (.aload_n 0, 1) := by decide +kernel
theorem d_SO_sortByTails_3 : decode b_SO_sortByTails 3 = .ok (.getfield 21, 3) := by decide +kernel
theorem d_SO_sortByTails_6 : decode b_SO_sortByTails 6 = .ok (.iload_n 1, 1) := by decide +kernel
theorem d_SO_sortByTails_7 : decode b_SO_sortByTails 7 = .ok (.isub, 1) := by decide +kernel
theorem d_SO_sortByTails_8 : decode b_SO_sortByTails 8 = .ok (.istore 4, 2) := by decide +kernel
theorem d_SO_sortByTails_10 : decode b_SO_sortByTails 10 = .ok (.iload 4, 2) := by decide +kernel
theorem d_SO_sortByTails_12 : decode b_SO_sortByTails 12 = .ok (.aload_n 0, 1) := by decide +kernel
theorem d_SO_sortByTails_13 : decode b_SO_sortByTails 13 = .ok (.getfield 21, 3) := by decide +kernel
theorem d_SO_sortByTails_16 : decode b_SO_sortByTails 16 = .ok (.if_icmp .ge 20, 3) := by decide +kernel
theorem d_SO_sortByTails_19 : decode b_SO_sortByTails 19 = .ok (.aload_n 0, 1) := by decide +kernel
theorem d_SO_sortByTails_20 : decode b_SO_sortByTails 20 = .ok (.getfield 9, 3) := by decide +kernel
theorem d_SO_sortByTails_23 : decode b_SO_sortByTails 23 = .ok (.iload_n 3, 1) := by decide +kernel
theorem d_SO_sortByTails_24 : decode b_SO_sortByTails 24 = .ok (.iload 4, 2) := by decide +kernel
theorem d_SO_sortByTails_26 : decode b_SO_sortByTails 26 = .ok (.iastore, 1) := by decide +kernel
theorem d_SO_sortByTails_27 : decode b_SO_sortByTails 27 = .ok (.iinc 3 1, 3) := by decide +kernel
theorem d_SO_sortByTails_30 : decode b_SO_sortByTails 30 = .ok (.iinc 4 1, 3) := by decide +kernel
theorem d_SO_sortByTails_33 : decode b_SO_sortByTails 33 = .ok (.goto (-23), 3) := by decide +kernel
theorem d_SO_sortByTails_36 : decode b_SO_sortByTails 36 = .ok (.iconst 0, 1) := by decide +kernel
theorem d_SO_sortByTails_37 : decode b_SO_sortByTails 37 = .ok (.istore 4, 2) := by decide +kernel
theorem d_SO_sortByTails_39 : decode b_SO_sortByTails 39 = .ok (.iload 4, 2) := by decide +kernel
theorem d_SO_sortByTails_41 : decode b_SO_sortByTails 41 = .ok (.aload_n 0, 1) := by decide +kernel
theorem d_SO_sortByTails_42 : decode b_SO_sortByTails 42 = .ok (.getfield 21, 3) := by decide +kernel
theorem d_SO_sortByTails_45 : decode b_SO_sortByTails 45 = .ok (.if_icmp .ge 32, 3) := by decide +kernel
theorem d_SO_sortByTails_48 : decode b_SO_sortByTails 48 = .ok (.aload_n 2, 1) := by decide +kernel
theorem d_SO_sortByTails_49 : decode b_SO_sortByTails 49 = .ok (.iload 4, 2) := by decide +kernel
theorem d_SO_sortByTails_51 : decode b_SO_sortByTails 51 = .ok (.iaload, 1) := by decide +kernel
theorem d_SO_sortByTails_52 : decode b_SO_sortByTails 52 = .ok (.iload_n 1, 1) := by decide +kernel
theorem d_SO_sortByTails_53 : decode b_SO_sortByTails 53 = .ok (.if_icmp .lt 18, 3) := by decide +kernel
theorem d_SO_sortByTails_56 : decode b_SO_sortByTails 56 = .ok (.aload_n 0, 1) := by decide +kernel
theorem d_SO_sortByTails_57 : decode b_SO_sortByTails 57 = .ok (.getfield 9, 3) := by decide +kernel
theorem d_SO_sortByTails_60 : decode b_SO_sortByTails 60 = .ok (.iload_n 3, 1) := by decide +kernel
theorem d_SO_sortByTails_61 : decode b_SO_sortByTails 61 = .ok (.aload_n 2, 1) := by decide +kernel
theorem d_SO_sortByTails_62 : decode b_SO_sortByTails 62 = .ok (.iload 4, 2) := by decide +kernel
theorem d_SO_sortByTails_64 : decode b_SO_sortByTails 64 = .ok (.iaload, 1) := by decide +kernel
theorem d_SO_sortByTails_65 : decode b_SO_sortByTails 65 = .ok (.iload_n 1, 1) := by decide +kernel
theorem d_SO_sortByTails_66 : decode b_SO_sortByTails 66 = .ok (.isub, 1) := by decide +kernel
theorem d_SO_sortByTails_67 : decode b_SO_sortByTails 67 = .ok (.iastore, 1) := by decide +kernel
theorem d_SO_sortByTails_68 : decode b_SO_sortByTails 68 = .ok (.iinc 3 1, 3) := by decide +kernel
theorem d_SO_sortByTails_71 : decode b_SO_sortByTails 71 = .ok (.iinc 4 1, 3) := by decide +kernel
theorem d_SO_sortByTails_74 : decode b_SO_sortByTails 74 = .ok (.goto (-35), 3) := by decide +kernel
theorem d_SO_sortByTails_77 : decode b_SO_sortByTails 77 = .ok (.return_, 1) := by decide +kernel
theorem d_SO_sort_0 : decode b_SO_sort 0 = .ok (.aload_n 0, 1) := by decide +kernel
theorem d_SO_sort_1 : decode b_SO_sort 1 = .ok (.iload_n 2, 1) := by decide +kernel
theorem d_SO_sort_2 : decode b_SO_sort 2 = .ok (.putfield 21, 3) := by decide +kernel
theorem d_SO_sort_5 : decode b_SO_sort 5 = .ok (.iconst 0, 1) := by decide +kernel
theorem d_SO_sort_6 : decode b_SO_sort 6 = .ok (.istore 5, 2) := by decide +kernel
theorem d_SO_sort_8 : decode b_SO_sort 8 = .ok (.iload 5, 2) := by decide +kernel
theorem d_SO_sort_10 : decode b_SO_sort 10 = .ok (.aload_n 0, 1) := by decide +kernel
theorem d_SO_sort_11 : decode b_SO_sort 11 = .ok (.getfield 21, 3) := by decide +kernel
theorem d_SO_sort_14 : decode b_SO_sort 14 = .ok (.if_icmp .ge 30, 3) := by decide +kernel
theorem d_SO_sort_17 : decode b_SO_sort 17 = .ok (.aload 4, 2) := by decide +kernel
theorem d_SO_sort_19 : decode b_SO_sort 19 = .ok (.iload 5, 2) := by decide +kernel
theorem d_SO_sort_21 : decode b_SO_sort 21 = .ok (.aload_n 1, 1) := by decide +kernel
theorem d_SO_sort_22 : decode b_SO_sort 22 = .ok (.iload 5, 2) := by decide +kernel
theorem d_SO_sort_24 : decode b_SO_sort 24 = .ok (.iaload, 1) := by decide +kernel
theorem d_SO_sort_25 : decode b_SO_sort 25 = .ok (.bipush 64, 2) := by decide +kernel
theorem d_SO_sort_27 : decode b_SO_sort 27 = .ok (.iadd, 1) := by decide +kernel
theorem d_SO_sort_28 : decode b_SO_sort 28 = .ok (.iastore, 1) := by decide +kernel
theorem d_SO_sort_29 : decode b_SO_sort 29 = .ok (.aload_n 0, 1) := by decide +kernel
theorem d_SO_sort_30 : decode b_SO_sort 30 = .ok (.getfield 9, 3) := by decide +kernel
theorem d_SO_sort_33 : decode b_SO_sort 33 = .ok (.iload 5, 2) := by decide +kernel
theorem d_SO_sort_35 : decode b_SO_sort 35 = .ok (.iload 5, 2) := by decide +kernel
theorem d_SO_sort_37 : decode b_SO_sort 37 = .ok (.iastore, 1) := by decide +kernel
theorem d_SO_sort_38 : decode b_SO_sort 38 = .ok (.iinc 5 1, 3) := by decide +kernel
theorem d_SO_sort_41 : decode b_SO_sort 41 = .ok (.goto (-33), 3) := by decide +kernel
theorem d_SO_sort_44 : decode b_SO_sort 44 = .ok (.aload_n 0, 1) := by decide +kernel
theorem d_SO_sort_45 : decode b_SO_sort 45 = .ok (.sipush 320, 3) := by decide +kernel
theorem d_SO_sort_48 : decode b_SO_sort 48 = .ok (.aload_n 3, 1) := by decide +kernel
theorem d_SO_sort_49 : decode b_SO_sort 49 = .ok (.aload 4, 2) := by decide +kernel
theorem d_SO_sort_51 : decode b_SO_sort 51 = .ok (.invokevirtual 25, 3) := by decide +kernel
theorem d_SO_sort_54 : decode b_SO_sort 54 = .ok (.aload_n 0, 1) := by decide +kernel
theorem d_SO_sort_55 : decode b_SO_sort 55 = .ok (.iconst 0, 1) := by decide +kernel
theorem d_SO_sort_56 : decode b_SO_sort 56 = .ok (.aload_n 3, 1) := by decide +kernel
theorem d_SO_sort_57 : decode b_SO_sort 57 = .ok (.aload 4, 2) := by decide +kernel
theorem d_SO_sort_59 : decode b_SO_sort 59 = .ok (.invokevirtual 29, 3) := by decide +kernel
theorem d_SO_sort_62 : decode b_SO_sort 62 = .ok (.istore 5, 2) := by decide +kernel
theorem d_SO_sort_64 : decode b_SO_sort 64 = .ok (.iconst 1, 1) := by decide +kernel
theorem d_SO_sort_65 : decode b_SO_sort 65 = .ok (.istore 6, 2) := by decide +kernel
theorem d_SO_sort_67 : decode b_SO_sort 67 = .ok (.iload 6, 2) := by decide +kernel
theorem d_SO_sort_69 : decode b_SO_sort 69 = .ok (.aload_n 0, 1) := by decide +kernel
theorem d_SO_sort_70 : decode b_SO_sort 70 = .ok (.getfield 21, 3) := by decide +kernel
theorem d_SO_sort_73 : decode b_SO_sort 73 = .ok (.if_icmp .ge 48, 3) := by decide +kernel
theorem d_SO_sort_76 : decode b_SO_sort 76 = .ok (.iload 5, 2) := by decide +kernel
theorem d_SO_sort_78 : decode b_SO_sort 78 = .ok (.aload_n 0, 1) := by decide +kernel
theorem d_SO_sort_79 : decode b_SO_sort 79 = .ok (.getfield 21, 3) := by decide +kernel
theorem d_SO_sort_82 : decode b_SO_sort 82 = .ok (.if_icmp .ge 39, 3) := by decide +kernel
theorem d_SO_sort_85 : decode b_SO_sort 85 = .ok (.aload_n 0, 1) := by decide +kernel
theorem d_SO_sort_86 : decode b_SO_sort 86 = .ok (.iload 6, 2) := by decide +kernel
theorem d_SO_sort_88 : decode b_SO_sort 88 = .ok (.aload_n 3, 1) := by decide +kernel
theorem d_SO_sort_89 : decode b_SO_sort 89 = .ok (.invokevirtual 33, 3) := by decide +kernel
theorem d_SO_sort_92 : decode b_SO_sort 92 = .ok (.aload_n 0, 1) := by decide +kernel
theorem d_SO_sort_93 : decode b_SO_sort 93 = .ok (.iload 5, 2) := by decide +kernel
theorem d_SO_sort_95 : decode b_SO_sort 95 = .ok (.aload_n 3, 1) := by decide +kernel
theorem d_SO_sort_96 : decode b_SO_sort 96 = .ok (.aload 4, 2) := by decide +kernel
theorem d_SO_sort_98 : decode b_SO_sort 98 = .ok (.invokevirtual 25, 3) := by decide +kernel
theorem d_SO_sort_101 : decode b_SO_sort 101 = .ok (.aload_n 0, 1) := by decide +kernel
theorem d_SO_sort_102 : decode b_SO_sort 102 = .ok (.iload 6, 2) := by decide +kernel
theorem d_SO_sort_104 : decode b_SO_sort 104 = .ok (.aload_n 3, 1) := by decide +kernel
theorem d_SO_sort_105 : decode b_SO_sort 105 = .ok (.aload 4, 2) := by decide +kernel
theorem d_SO_sort_107 : decode b_SO_sort 107 = .ok (.invokevirtual 29, 3) := by decide +kernel
theorem d_SO_sort_110 : decode b_SO_sort 110 = .ok (.istore 5, 2) := by decide +kernel
theorem d_SO_sort_112 : decode b_SO_sort 112 = .ok (.iload 6, 2) := by decide +kernel
theorem d_SO_sort_114 : decode b_SO_sort 114 = .ok (.iconst 2, 1) := by decide +kernel
theorem d_SO_sort_115 : decode b_SO_sort 115 = .ok (.imul, 1) := by decide +kernel
theorem d_SO_sort_116 : decode b_SO_sort 116 = .ok (.istore 6, 2) := by decide +kernel
theorem d_SO_sort_118 : decode b_SO_sort 118 = .ok (.goto (-51), 3) := by decide +kernel
theorem d_SO_sort_121 : decode b_SO_sort 121 = .ok (.return_, 1) := by decide +kernel
def vc_SO_sortByRanks_83 (a_p1 : Int32) (n_p2 : Nat) (n_p3 : Nat) (z_size : Int32) (z_byTail : Nat → Int32) (z_p3 : Nat → Int32) (post : (Nat → Int32) → (Nat → Int32) → Prop) : Nat → Int32 → (Nat → Int32) → (Nat → Int32) → Prop
  | 0, _, _, _ => False
  | k + 1, x4, z_tally, z_p2 => ((x4 < 0 → post z_tally z_p2) ∧ (¬ (x4 < 0) → vp_in x4 16448 ∧ vp_in (z_byTail x4.toNatClampNeg) n_p3 ∧ vp_in (z_p3 (z_byTail x4.toNatClampNeg).toNatClampNeg) 16448 ∧ vp_in (z_byTail x4.toNatClampNeg) n_p3 ∧ vp_in (z_p3 (z_byTail x4.toNatClampNeg).toNatClampNeg) 16448 ∧ vp_in ((z_tally (z_p3 (z_byTail x4.toNatClampNeg).toNatClampNeg).toNatClampNeg) - 1) n_p2 ∧ vc_SO_sortByRanks_83 a_p1 n_p2 n_p3 z_size z_byTail z_p3 post k (x4 + (-1)) (upd z_tally (z_p3 (z_byTail x4.toNatClampNeg).toNatClampNeg).toNatClampNeg ((z_tally (z_p3 (z_byTail x4.toNatClampNeg).toNatClampNeg).toNatClampNeg) - 1)) (upd z_p2 ((z_tally (z_p3 (z_byTail x4.toNatClampNeg).toNatClampNeg).toNatClampNeg) - 1).toNatClampNeg (z_byTail x4.toNatClampNeg))))
def vc_SO_sortByRanks_44 (a_p1 : Int32) (n_p2 : Nat) (n_p3 : Nat) (z_size : Int32) (z_byTail : Nat → Int32) (z_p3 : Nat → Int32) (post : (Nat → Int32) → (Nat → Int32) → Prop) : Nat → Int32 → (Nat → Int32) → (Nat → Int32) → Prop
  | 0, _, _, _ => False
  | k + 1, x4, z_tally, z_p2 => ((a_p1 ≤ x4 → ∃ j : Nat, vc_SO_sortByRanks_83 a_p1 n_p2 n_p3 z_size z_byTail z_p3 post j (z_size - 1) z_tally z_p2) ∧ (¬ (a_p1 ≤ x4) → vp_in x4 16448 ∧ vp_in (x4 - 1) 16448 ∧ vp_in x4 16448 ∧ vc_SO_sortByRanks_44 a_p1 n_p2 n_p3 z_size z_byTail z_p3 post k (x4 + 1) (upd z_tally x4.toNatClampNeg ((z_tally x4.toNatClampNeg) + (z_tally (x4 - 1).toNatClampNeg))) z_p2))
def vc_SO_sortByRanks_13 (a_p1 : Int32) (n_p2 : Nat) (n_p3 : Nat) (z_size : Int32) (z_byTail : Nat → Int32) (z_p3 : Nat → Int32) (post : (Nat → Int32) → (Nat → Int32) → Prop) : Nat → Int32 → (Nat → Int32) → (Nat → Int32) → Prop
  | 0, _, _, _ => False
  | k + 1, x4, z_tally, z_p2 => ((z_size ≤ x4 → ∃ j : Nat, vc_SO_sortByRanks_44 a_p1 n_p2 n_p3 z_size z_byTail z_p3 post j 1 z_tally z_p2) ∧ (¬ (z_size ≤ x4) → vp_in x4 n_p3 ∧ vp_in (z_p3 x4.toNatClampNeg) 16448 ∧ vp_in (z_p3 x4.toNatClampNeg) 16448 ∧ vc_SO_sortByRanks_13 a_p1 n_p2 n_p3 z_size z_byTail z_p3 post k (x4 + 1) (upd z_tally (z_p3 x4.toNatClampNeg).toNatClampNeg ((z_tally (z_p3 x4.toNatClampNeg).toNatClampNeg) + 1)) z_p2))
def vc_SO_sortByRanks (a_p1 : Int32) (n_p2 : Nat) (n_p3 : Nat) (z_size : Int32) (z_byTail : Nat → Int32) (z_p3 : Nat → Int32) (post : (Nat → Int32) → (Nat → Int32) → Prop) (z_tally : Nat → Int32) (z_p2 : Nat → Int32) : Prop :=
  vc_AR_fill1 0 a_p1 0 16448 (fun u4_0 => ∃ j : Nat, vc_SO_sortByRanks_13 a_p1 n_p2 n_p3 z_size z_byTail z_p3 post j 0 u4_0 z_p2) z_tally
def vc_SO_sameRanks (a_p1 : Int32) (a_p2 : Int32) (a_p3 : Int32) (n_p4 : Nat) (z_size : Int32) (z_p4 : Nat → Int32) (post : Int32 → Prop) : Prop :=
  vp_in a_p1 n_p4 ∧ vp_in a_p2 n_p4 ∧ (((z_p4 a_p1.toNatClampNeg) = (z_p4 a_p2.toNatClampNeg) → ((z_size ≤ (a_p1 + a_p3) → post 0) ∧ (¬ (z_size ≤ (a_p1 + a_p3)) → ((z_size ≤ (a_p2 + a_p3) → post 0) ∧ (¬ (z_size ≤ (a_p2 + a_p3)) → vp_in (a_p1 + a_p3) n_p4 ∧ vp_in (a_p2 + a_p3) n_p4 ∧ ((¬ (z_p4 (a_p1 + a_p3).toNatClampNeg) = (z_p4 (a_p2 + a_p3).toNatClampNeg) → post 0) ∧ ((z_p4 (a_p1 + a_p3).toNatClampNeg) = (z_p4 (a_p2 + a_p3).toNatClampNeg) → post 1))))))) ∧ (¬ ((z_p4 a_p1.toNatClampNeg) = (z_p4 a_p2.toNatClampNeg)) → post 0))
def vc_SO_rankAnew_42 (a_p1 : Int32) (n_p2 : Nat) (n_p3 : Nat) (z_size : Int32) (z_p2 : Nat → Int32) (post : Int32 → (Nat → Int32) → (Nat → Int32) → Prop) (K6 : Int32 → Int32 → (Nat → Int32) → (Nat → Int32) → Prop) (x4 : Int32) (x5 : Int32) (z_newRanks : Nat → Int32) (z_p3 : Nat → Int32) : Prop :=
  vp_in x5 n_p2 ∧ vp_in (z_p2 x5.toNatClampNeg) 16448 ∧ K6 x4 (x5 + 1) (upd z_newRanks (z_p2 x5.toNatClampNeg).toNatClampNeg x4) z_p3
def vc_SO_rankAnew_6 (a_p1 : Int32) (n_p2 : Nat) (n_p3 : Nat) (z_size : Int32) (z_p2 : Nat → Int32) (post : Int32 → (Nat → Int32) → (Nat → Int32) → Prop) : Nat → Int32 → Int32 → (Nat → Int32) → (Nat → Int32) → Prop
  | 0, _, _, _, _ => False
  | k + 1, x4, x5, z_newRanks, z_p3 => ((z_size ≤ x5 → (¬ (0 : Int32) < 0) ∧ (¬ (0 : Int32) < 0) ∧ (¬ z_size < 0) ∧ ((0 : Int32).toNatClampNeg + z_size.toNatClampNeg ≤ 16448) ∧ ((0 : Int32).toNatClampNeg + z_size.toNatClampNeg ≤ n_p3) ∧ post (x4 + 1) z_newRanks (va_cpy z_newRanks z_p3 (0 : Int32).toNatClampNeg (0 : Int32).toNatClampNeg z_size.toNatClampNeg)) ∧ (¬ (z_size ≤ x5) → ((x5 ≤ 0 → vc_SO_rankAnew_42 a_p1 n_p2 n_p3 z_size z_p2 post (fun x4' x5' z_newRanks' z_p3' => vc_SO_rankAnew_6 a_p1 n_p2 n_p3 z_size z_p2 post k x4' x5' z_newRanks' z_p3') x4 x5 z_newRanks z_p3) ∧ (¬ (x5 ≤ 0) → vp_in (x5 - 1) n_p2 ∧ vp_in x5 n_p2 ∧ vc_SO_sameRanks (z_p2 (x5 - 1).toNatClampNeg) (z_p2 x5.toNatClampNeg) a_p1 n_p3 z_size z_p3 (fun r3 => ((¬ r3 = 0 → vc_SO_rankAnew_42 a_p1 n_p2 n_p3 z_size z_p2 post (fun x4' x5' z_newRanks' z_p3' => vc_SO_rankAnew_6 a_p1 n_p2 n_p3 z_size z_p2 post k x4' x5' z_newRanks' z_p3') x4 x5 z_newRanks z_p3) ∧ (r3 = 0 → vc_SO_rankAnew_42 a_p1 n_p2 n_p3 z_size z_p2 post (fun x4' x5' z_newRanks' z_p3' => vc_SO_rankAnew_6 a_p1 n_p2 n_p3 z_size z_p2 post k x4' x5' z_newRanks' z_p3') (x4 + 1) x5 z_newRanks z_p3)))))))
def vc_SO_rankAnew (a_p1 : Int32) (n_p2 : Nat) (n_p3 : Nat) (z_size : Int32) (z_p2 : Nat → Int32) (post : Int32 → (Nat → Int32) → (Nat → Int32) → Prop) (z_newRanks : Nat → Int32) (z_p3 : Nat → Int32) : Prop :=
  ∃ j : Nat, vc_SO_rankAnew_6 a_p1 n_p2 n_p3 z_size z_p2 post j 0 0 z_newRanks z_p3
def vc_SO_sortByTails_71 (a_p1 : Int32) (n_p2 : Nat) (z_size : Int32) (z_p2 : Nat → Int32) (post : (Nat → Int32) → Prop) (K39 : Int32 → Int32 → (Nat → Int32) → Prop) (x3 : Int32) (x4 : Int32) (z_byTail : Nat → Int32) : Prop :=
  K39 x3 (x4 + 1) z_byTail
def vc_SO_sortByTails_39 (a_p1 : Int32) (n_p2 : Nat) (z_size : Int32) (z_p2 : Nat → Int32) (post : (Nat → Int32) → Prop) : Nat → Int32 → Int32 → (Nat → Int32) → Prop
  | 0, _, _, _ => False
  | k + 1, x3, x4, z_byTail => ((z_size ≤ x4 → post z_byTail) ∧ (¬ (z_size ≤ x4) → vp_in x4 n_p2 ∧ (((z_p2 x4.toNatClampNeg) < a_p1 → vc_SO_sortByTails_71 a_p1 n_p2 z_size z_p2 post (fun x3' x4' z_byTail' => vc_SO_sortByTails_39 a_p1 n_p2 z_size z_p2 post k x3' x4' z_byTail') x3 x4 z_byTail) ∧ (¬ ((z_p2 x4.toNatClampNeg) < a_p1) → vp_in x4 n_p2 ∧ vp_in x3 16448 ∧ vc_SO_sortByTails_71 a_p1 n_p2 z_size z_p2 post (fun x3' x4' z_byTail' => vc_SO_sortByTails_39 a_p1 n_p2 z_size z_p2 post k x3' x4' z_byTail') (x3 + 1) x4 (upd z_byTail x3.toNatClampNeg ((z_p2 x4.toNatClampNeg) - a_p1))))))
def vc_SO_sortByTails_10 (a_p1 : Int32) (n_p2 : Nat) (z_size : Int32) (z_p2 : Nat → Int32) (post : (Nat → Int32) → Prop) : Nat → Int32 → Int32 → (Nat → Int32) → Prop
  | 0, _, _, _ => False
  | k + 1, x3, x4, z_byTail => ((z_size ≤ x4 → ∃ j : Nat, vc_SO_sortByTails_39 a_p1 n_p2 z_size z_p2 post j x3 0 z_byTail) ∧ (¬ (z_size ≤ x4) → vp_in x3 16448 ∧ vc_SO_sortByTails_10 a_p1 n_p2 z_size z_p2 post k (x3 + 1) (x4 + 1) (upd z_byTail x3.toNatClampNeg x4)))
def vc_SO_sortByTails (a_p1 : Int32) (n_p2 : Nat) (z_size : Int32) (z_p2 : Nat → Int32) (post : (Nat → Int32) → Prop) (z_byTail : Nat → Int32) : Prop :=
  ∃ j : Nat, vc_SO_sortByTails_10 a_p1 n_p2 z_size z_p2 post j 0 (z_size - a_p1) z_byTail
def vc_SO_sort_67 (a_p2 : Int32) (n_p1 : Nat) (n_p3 : Nat) (n_p4 : Nat) (z_p1 : Nat → Int32) (post : Int32 → (Nat → Int32) → (Nat → Int32) → (Nat → Int32) → (Nat → Int32) → (Nat → Int32) → Prop) : Nat → Int32 → Int32 → Int32 → (Nat → Int32) → (Nat → Int32) → (Nat → Int32) → (Nat → Int32) → (Nat → Int32) → Prop
  | 0, _, _, _, _, _, _, _, _ => False
  | k + 1, x5, x6, z_size, z_byTail, z_newRanks, z_tally, z_p3, z_p4 => ((z_size ≤ x6 → post z_size z_byTail z_newRanks z_tally z_p3 z_p4) ∧ (¬ (z_size ≤ x6) → ((z_size ≤ x5 → post z_size z_byTail z_newRanks z_tally z_p3 z_p4) ∧ (¬ (z_size ≤ x5) → vc_SO_sortByTails x6 n_p3 z_size z_p3 (fun u3_0 => vc_SO_sortByRanks x5 n_p3 n_p4 z_size u3_0 z_p4 (fun u4_0 u4_1 => vc_SO_rankAnew x6 n_p3 n_p4 z_size u4_1 (fun r5 u5_0 u5_1 => vc_SO_sort_67 a_p2 n_p1 n_p3 n_p4 z_p1 post k r5 (x6 * 2) z_size u3_0 u5_0 u4_0 u4_1 u5_1) z_newRanks z_p4) z_tally z_p3) z_byTail))))
def vc_SO_sort_8 (a_p2 : Int32) (n_p1 : Nat) (n_p3 : Nat) (n_p4 : Nat) (z_p1 : Nat → Int32) (post : Int32 → (Nat → Int32) → (Nat → Int32) → (Nat → Int32) → (Nat → Int32) → (Nat → Int32) → Prop) : Nat → Int32 → Int32 → (Nat → Int32) → (Nat → Int32) → (Nat → Int32) → (Nat → Int32) → (Nat → Int32) → Prop
  | 0, _, _, _, _, _, _, _ => False
  | k + 1, x5, z_size, z_byTail, z_newRanks, z_tally, z_p3, z_p4 => ((z_size ≤ x5 → vc_SO_sortByRanks 320 n_p3 n_p4 z_size z_byTail z_p4 (fun u7_0 u7_1 => vc_SO_rankAnew 0 n_p3 n_p4 z_size u7_1 (fun r8 u8_0 u8_1 => ∃ j : Nat, vc_SO_sort_67 a_p2 n_p1 n_p3 n_p4 z_p1 post j r8 1 z_size z_byTail u8_0 u7_0 u7_1 u8_1) z_newRanks z_p4) z_tally z_p3) ∧ (¬ (z_size ≤ x5) → vp_in x5 n_p1 ∧ vp_in x5 n_p4 ∧ vp_in x5 16448 ∧ vc_SO_sort_8 a_p2 n_p1 n_p3 n_p4 z_p1 post k (x5 + 1) z_size (upd z_byTail x5.toNatClampNeg x5) z_newRanks z_tally z_p3 (upd z_p4 x5.toNatClampNeg ((z_p1 x5.toNatClampNeg) + 64))))
def vc_SO_sort (a_p2 : Int32) (n_p1 : Nat) (n_p3 : Nat) (n_p4 : Nat) (z_p1 : Nat → Int32) (post : Int32 → (Nat → Int32) → (Nat → Int32) → (Nat → Int32) → (Nat → Int32) → (Nat → Int32) → Prop) (z_size : Int32) (z_byTail : Nat → Int32) (z_newRanks : Nat → Int32) (z_tally : Nat → Int32) (z_p3 : Nat → Int32) (z_p4 : Nat → Int32) : Prop :=
  ∃ j : Nat, vc_SO_sort_8 a_p2 n_p1 n_p3 n_p4 z_p1 post j 0 a_p2 z_byTail z_newRanks z_tally z_p3 z_p4
set_option maxHeartbeats 4000000 in
set_option maxRecDepth 100000 in
theorem wk_SO_sortByRanks_83 {p : Program} {l : Launch} {e : Env} {s : State} {m : MethodId} {below : List Frame} {meth : Method} {c : Code} {A : Nat → Prop} {dC : Nat → ClassId} {dI : Nat → Nat → Nat} {cI cJ cB cZ : ClassId} {h_t : Nat} {h_byTail : Nat} {h_newRanks : Nat} {h_tally : Nat} {h_p2 : Nat} {h_p3 : Nat} {a_p1 : Int32} {n_p2 : Nat} {n_p3 : Nat} {z_size : Int32} {z_byTail : Nat → Int32} {z_p3 : Nat → Int32} {post : (Nat → Int32) → (Nat → Int32) → Prop} (F : CallFix p m c b_SO_sortByRanks 7 s ([.ref h_t, .int a_p1, .ref h_p2, .ref h_p3] : List Value).toArray WT "SuffixIndex$Sorter") (hr : meth.sig.returnType = none) (hlk : meth.locks = false) (hK : va_K (dC, dI) classes (TYS cI cJ cB cZ) s) (hA : ∀ q, s.heap.size ≤ q → A q) : ∀ (k : Nat) (x4 : Int32) (z_tally : Nat → Int32) (z_p2 : Nat → Int32), vc_SO_sortByRanks_83 a_p1 n_p2 n_p3 z_size z_byTail z_p3 post k x4 z_tally z_p2 → ∀ (H : Heap) (locs : List Loc) (ls : Array Slot), va_P (dC, dI) classes [(h_t, .inr (2, [.ref h_byTail, .ref h_newRanks, .ref h_tally, .int z_size])), (h_byTail, .inl (cI, 16448, .inl z_byTail)), (h_tally, .inl (cI, 16448, .inl z_tally)), (h_p2, .inl (cI, n_p2, .inl z_p2)), (h_p3, .inl (cI, n_p3, .inl z_p3))] H → va_D A [(h_t, .inr (2, [.ref h_byTail, .ref h_newRanks, .ref h_tally, .int z_size])), (h_byTail, .inl (cI, 16448, .inl z_byTail)), (h_tally, .inl (cI, 16448, .inl z_tally)), (h_p2, .inl (cI, n_p2, .inl z_p2)), (h_p3, .inl (cI, n_p3, .inl z_p3))] → va_S A s.heap H locs → lv_has ls 7 [(0, .ref h_t), (2, .ref h_p2), (3, .ref h_p3), (4, .int x4)] → W p l e rm_SO_sortByRanks s m ([.ref h_t, .int a_p1, .ref h_p2, .ref h_p3] : List Value).toArray below meth c H locs 0 0 (MQ below (va_Qv (fun u : (Nat → Int32) × (Nat → Int32) => post u.1 u.2) (fun u t => cAft (dC, dI) classes (TYS cI cJ cB cZ) A [(h_t, .inr (2, [.ref h_byTail, .ref h_newRanks, .ref h_tally, .int z_size])), (h_byTail, .inl (cI, 16448, .inl z_byTail)), (h_tally, .inl (cI, 16448, .inl u.1)), (h_p2, .inl (cI, n_p2, .inl u.2)), (h_p3, .inl (cI, n_p3, .inl z_p3))] t) A) ([.ref h_t, .int a_p1, .ref h_p2, .ref h_p3] : List Value).toArray s 0 0 A) (F0 m 83 ls []) := by
  obtain ⟨hx, hb, hml, hown, hw⟩ := id F
  intro k
  induction k with
  | zero =>
    intro x4 z_tally z_p2 hv
    exact False.elim hv
  | succ k ih =>
    intro x4 z_tally z_p2 hv H locs ls hP hD hS hl
    refine lv_iload hx hb d_SO_sortByRanks_83 (lv_at hl 3 rfl) ?_
    obtain ⟨hvt, hvf⟩ := hv
    refine lv_if_lt (tgt := 133) hx hb d_SO_sortByRanks_85 (by decide) (fun c1 => ?_) (fun c1 => ?_)
    · have hv := hvt c1
      exact W.vret hx hb hr (fun t ht hW => ⟨⟨(z_tally, z_p2), rfl, hv, by rw [ht]; exact hP, va_K.moved hW.alike hK, hD⟩, hS.F ht⟩) hS.2.2 d_SO_sortByRanks_133
    · have hv := hvf c1
      refine lv_aload_n hx hb d_SO_sortByRanks_88 rfl (lv_at hl 0 rfl) ?_
      refine va_get (D := (dC, dI)) (ci := 2) (v := .ref h_byTail) (C := "SuffixIndex$Sorter") (T := F_SO) (N := 4) hx hb hw i_SO hown hK hP 0 rfl rfl 0 (by decide) (hw _ m_104) (fun _ h9 => h9) rfl d_SO_sortByRanks_89 ?_
      refine lv_iload hx hb d_SO_sortByRanks_92 (lv_at hl 3 rfl) ?_
      obtain ⟨hin, hv⟩ := hv
      refine va_iald hx hb hK hP 1 0 rfl rfl hin d_SO_sortByRanks_94 ?_
      refine lv_istore (lv' := [(5, .int (z_byTail x4.toNatClampNeg)), (0, .ref h_t), (2, .ref h_p2), (3, .ref h_p3), (4, .int x4)]) hx hb d_SO_sortByRanks_95 hl (by decide) rfl (fun ls hl => ?_)
      refine lv_aload_n hx hb d_SO_sortByRanks_97 rfl (lv_at hl 1 rfl) ?_
      refine va_get (D := (dC, dI)) (ci := 2) (v := .ref h_tally) (C := "SuffixIndex$Sorter") (T := F_SO) (N := 4) hx hb hw i_SO hown hK hP 0 rfl rfl 2 (by decide) (hw _ m_106) (fun _ h9 => h9) rfl d_SO_sortByRanks_98 ?_
      refine lv_aload_n hx hb d_SO_sortByRanks_101 rfl (lv_at hl 3 rfl) ?_
      refine lv_iload hx hb d_SO_sortByRanks_102 (lv_at hl 0 rfl) ?_
      obtain ⟨hin, hv⟩ := hv
      refine va_iald hx hb hK hP 4 0 rfl rfl hin d_SO_sortByRanks_104 ?_
      obtain ⟨hin, hv⟩ := hv
      refine va_iald hx hb hK hP 2 0 rfl rfl hin d_SO_sortByRanks_105 ?_
      refine lv_iconst (v := 1) hx hb d_SO_sortByRanks_106 (by decide) ?_
      refine lv_isub hx hb d_SO_sortByRanks_107 ?_
      refine lv_istore (lv' := [(6, .int ((z_tally (z_p3 (z_byTail x4.toNatClampNeg).toNatClampNeg).toNatClampNeg) - 1)), (5, .int (z_byTail x4.toNatClampNeg)), (0, .ref h_t), (2, .ref h_p2), (3, .ref h_p3), (4, .int x4)]) hx hb d_SO_sortByRanks_108 hl (by decide) rfl (fun ls hl => ?_)
      refine lv_aload_n hx hb d_SO_sortByRanks_110 rfl (lv_at hl 2 rfl) ?_
      refine va_get (D := (dC, dI)) (ci := 2) (v := .ref h_tally) (C := "SuffixIndex$Sorter") (T := F_SO) (N := 4) hx hb hw i_SO hown hK hP 0 rfl rfl 2 (by decide) (hw _ m_106) (fun _ h9 => h9) rfl d_SO_sortByRanks_111 ?_
      refine lv_aload_n hx hb d_SO_sortByRanks_114 rfl (lv_at hl 4 rfl) ?_
      refine lv_iload hx hb d_SO_sortByRanks_115 (lv_at hl 1 rfl) ?_
      obtain ⟨hin, hv⟩ := hv
      refine va_iald hx hb hK hP 4 0 rfl rfl hin d_SO_sortByRanks_117 ?_
      refine lv_iload hx hb d_SO_sortByRanks_118 (lv_at hl 0 rfl) ?_
      obtain ⟨hin, hv⟩ := hv
      refine va_iast hx hb hK hP hD hS 2 0 rfl rfl hin d_SO_sortByRanks_120 (fun H locs hP hD hS => ?_)
      have hP : va_P (dC, dI) classes [(h_t, .inr (2, [.ref h_byTail, .ref h_newRanks, .ref h_tally, .int z_size])), (h_byTail, .inl (cI, 16448, .inl z_byTail)), (h_tally, .inl (cI, 16448, .inl (upd z_tally (z_p3 (z_byTail x4.toNatClampNeg).toNatClampNeg).toNatClampNeg ((z_tally (z_p3 (z_byTail x4.toNatClampNeg).toNatClampNeg).toNatClampNeg) - 1)))), (h_p2, .inl (cI, n_p2, .inl z_p2)), (h_p3, .inl (cI, n_p3, .inl z_p3))] H := hP
      have hD : va_D A [(h_t, .inr (2, [.ref h_byTail, .ref h_newRanks, .ref h_tally, .int z_size])), (h_byTail, .inl (cI, 16448, .inl z_byTail)), (h_tally, .inl (cI, 16448, .inl (upd z_tally (z_p3 (z_byTail x4.toNatClampNeg).toNatClampNeg).toNatClampNeg ((z_tally (z_p3 (z_byTail x4.toNatClampNeg).toNatClampNeg).toNatClampNeg) - 1)))), (h_p2, .inl (cI, n_p2, .inl z_p2)), (h_p3, .inl (cI, n_p3, .inl z_p3))] := hD
      refine lv_aload_n hx hb d_SO_sortByRanks_121 rfl (lv_at hl 3 rfl) ?_
      refine lv_iload hx hb d_SO_sortByRanks_122 (lv_at hl 0 rfl) ?_
      refine lv_iload hx hb d_SO_sortByRanks_124 (lv_at hl 1 rfl) ?_
      obtain ⟨hin, hv⟩ := hv
      refine va_iast hx hb hK hP hD hS 3 0 rfl rfl hin d_SO_sortByRanks_126 (fun H locs hP hD hS => ?_)
      have hP : va_P (dC, dI) classes [(h_t, .inr (2, [.ref h_byTail, .ref h_newRanks, .ref h_tally, .int z_size])), (h_byTail, .inl (cI, 16448, .inl z_byTail)), (h_tally, .inl (cI, 16448, .inl (upd z_tally (z_p3 (z_byTail x4.toNatClampNeg).toNatClampNeg).toNatClampNeg ((z_tally (z_p3 (z_byTail x4.toNatClampNeg).toNatClampNeg).toNatClampNeg) - 1)))), (h_p2, .inl (cI, n_p2, .inl (upd z_p2 ((z_tally (z_p3 (z_byTail x4.toNatClampNeg).toNatClampNeg).toNatClampNeg) - 1).toNatClampNeg (z_byTail x4.toNatClampNeg)))), (h_p3, .inl (cI, n_p3, .inl z_p3))] H := hP
      have hD : va_D A [(h_t, .inr (2, [.ref h_byTail, .ref h_newRanks, .ref h_tally, .int z_size])), (h_byTail, .inl (cI, 16448, .inl z_byTail)), (h_tally, .inl (cI, 16448, .inl (upd z_tally (z_p3 (z_byTail x4.toNatClampNeg).toNatClampNeg).toNatClampNeg ((z_tally (z_p3 (z_byTail x4.toNatClampNeg).toNatClampNeg).toNatClampNeg) - 1)))), (h_p2, .inl (cI, n_p2, .inl (upd z_p2 ((z_tally (z_p3 (z_byTail x4.toNatClampNeg).toNatClampNeg).toNatClampNeg) - 1).toNatClampNeg (z_byTail x4.toNatClampNeg)))), (h_p3, .inl (cI, n_p3, .inl z_p3))] := hD
      refine lv_iinc (v := x4 + (-1)) (lv' := [(4, .int (x4 + (-1))), (6, .int ((z_tally (z_p3 (z_byTail x4.toNatClampNeg).toNatClampNeg).toNatClampNeg) - 1)), (5, .int (z_byTail x4.toNatClampNeg)), (0, .ref h_t), (2, .ref h_p2), (3, .ref h_p3)]) hx hb d_SO_sortByRanks_127 hl (k := 5) rfl (iinc_v (by decide)) (by decide) rfl (fun ls hl => ?_)
      refine lv_goto (tgt := 83) hx hb d_SO_sortByRanks_130 (by decide) ?_
      exact ih (x4 + (-1)) (upd z_tally (z_p3 (z_byTail x4.toNatClampNeg).toNatClampNeg).toNatClampNeg ((z_tally (z_p3 (z_byTail x4.toNatClampNeg).toNatClampNeg).toNatClampNeg) - 1)) (upd z_p2 ((z_tally (z_p3 (z_byTail x4.toNatClampNeg).toNatClampNeg).toNatClampNeg) - 1).toNatClampNeg (z_byTail x4.toNatClampNeg)) hv _ _ _ hP hD hS (lv_sub hl [3, 4, 5, 0] rfl)

set_option maxHeartbeats 4000000 in
set_option maxRecDepth 100000 in
theorem wk_SO_sortByRanks_44 {p : Program} {l : Launch} {e : Env} {s : State} {m : MethodId} {below : List Frame} {meth : Method} {c : Code} {A : Nat → Prop} {dC : Nat → ClassId} {dI : Nat → Nat → Nat} {cI cJ cB cZ : ClassId} {h_t : Nat} {h_byTail : Nat} {h_newRanks : Nat} {h_tally : Nat} {h_p2 : Nat} {h_p3 : Nat} {a_p1 : Int32} {n_p2 : Nat} {n_p3 : Nat} {z_size : Int32} {z_byTail : Nat → Int32} {z_p3 : Nat → Int32} {post : (Nat → Int32) → (Nat → Int32) → Prop} (F : CallFix p m c b_SO_sortByRanks 7 s ([.ref h_t, .int a_p1, .ref h_p2, .ref h_p3] : List Value).toArray WT "SuffixIndex$Sorter") (hr : meth.sig.returnType = none) (hlk : meth.locks = false) (hK : va_K (dC, dI) classes (TYS cI cJ cB cZ) s) (hA : ∀ q, s.heap.size ≤ q → A q) : ∀ (k : Nat) (x4 : Int32) (z_tally : Nat → Int32) (z_p2 : Nat → Int32), vc_SO_sortByRanks_44 a_p1 n_p2 n_p3 z_size z_byTail z_p3 post k x4 z_tally z_p2 → ∀ (H : Heap) (locs : List Loc) (ls : Array Slot), va_P (dC, dI) classes [(h_t, .inr (2, [.ref h_byTail, .ref h_newRanks, .ref h_tally, .int z_size])), (h_byTail, .inl (cI, 16448, .inl z_byTail)), (h_tally, .inl (cI, 16448, .inl z_tally)), (h_p2, .inl (cI, n_p2, .inl z_p2)), (h_p3, .inl (cI, n_p3, .inl z_p3))] H → va_D A [(h_t, .inr (2, [.ref h_byTail, .ref h_newRanks, .ref h_tally, .int z_size])), (h_byTail, .inl (cI, 16448, .inl z_byTail)), (h_tally, .inl (cI, 16448, .inl z_tally)), (h_p2, .inl (cI, n_p2, .inl z_p2)), (h_p3, .inl (cI, n_p3, .inl z_p3))] → va_S A s.heap H locs → lv_has ls 7 [(0, .ref h_t), (1, .int a_p1), (2, .ref h_p2), (3, .ref h_p3), (4, .int x4)] → W p l e rm_SO_sortByRanks s m ([.ref h_t, .int a_p1, .ref h_p2, .ref h_p3] : List Value).toArray below meth c H locs 0 0 (MQ below (va_Qv (fun u : (Nat → Int32) × (Nat → Int32) => post u.1 u.2) (fun u t => cAft (dC, dI) classes (TYS cI cJ cB cZ) A [(h_t, .inr (2, [.ref h_byTail, .ref h_newRanks, .ref h_tally, .int z_size])), (h_byTail, .inl (cI, 16448, .inl z_byTail)), (h_tally, .inl (cI, 16448, .inl u.1)), (h_p2, .inl (cI, n_p2, .inl u.2)), (h_p3, .inl (cI, n_p3, .inl z_p3))] t) A) ([.ref h_t, .int a_p1, .ref h_p2, .ref h_p3] : List Value).toArray s 0 0 A) (F0 m 44 ls []) := by
  obtain ⟨hx, hb, hml, hown, hw⟩ := id F
  intro k
  induction k with
  | zero =>
    intro x4 z_tally z_p2 hv
    exact False.elim hv
  | succ k ih =>
    intro x4 z_tally z_p2 hv H locs ls hP hD hS hl
    refine lv_iload hx hb d_SO_sortByRanks_44 (lv_at hl 4 rfl) ?_
    refine lv_iload_n hx hb d_SO_sortByRanks_46 rfl (lv_at hl 1 rfl) ?_
    obtain ⟨hvt, hvf⟩ := hv
    refine lv_icmp_ge (tgt := 75) hx hb d_SO_sortByRanks_47 (by decide) (fun c2 => ?_) (fun c2 => ?_)
    · have hv := hvt c2
      refine lv_aload_n hx hb d_SO_sortByRanks_75 rfl (lv_at hl 0 rfl) ?_
      refine va_get (D := (dC, dI)) (ci := 2) (v := .int z_size) (C := "SuffixIndex$Sorter") (T := F_SO) (N := 4) hx hb hw i_SO hown hK hP 0 rfl rfl 3 (by decide) (hw _ m_107) (fun _ h9 => h9) rfl d_SO_sortByRanks_76 ?_
      refine lv_iconst (v := 1) hx hb d_SO_sortByRanks_79 (by decide) ?_
      refine lv_isub hx hb d_SO_sortByRanks_80 ?_
      refine lv_istore (lv' := [(4, .int (z_size - 1)), (0, .ref h_t), (1, .int a_p1), (2, .ref h_p2), (3, .ref h_p3)]) hx hb d_SO_sortByRanks_81 hl (by decide) rfl (fun ls hl => ?_)
      obtain ⟨j, hv⟩ := hv
      exact wk_SO_sortByRanks_83 F hr hlk hK hA j (z_size - 1) z_tally z_p2 hv _ _ _ hP hD hS (lv_sub hl [1, 3, 4, 0] rfl)
    · have hv := hvf c2
      refine lv_aload_n hx hb d_SO_sortByRanks_50 rfl (lv_at hl 0 rfl) ?_
      refine va_get (D := (dC, dI)) (ci := 2) (v := .ref h_tally) (C := "SuffixIndex$Sorter") (T := F_SO) (N := 4) hx hb hw i_SO hown hK hP 0 rfl rfl 2 (by decide) (hw _ m_106) (fun _ h9 => h9) rfl d_SO_sortByRanks_51 ?_
      refine lv_iload hx hb d_SO_sortByRanks_54 (lv_at hl 4 rfl) ?_
      refine lv_dup2_11 hx hb d_SO_sortByRanks_56 rfl rfl ?_
      obtain ⟨hin, hv⟩ := hv
      refine va_iald hx hb hK hP 2 0 rfl rfl hin d_SO_sortByRanks_57 ?_
      refine lv_aload_n hx hb d_SO_sortByRanks_58 rfl (lv_at hl 0 rfl) ?_
      refine va_get (D := (dC, dI)) (ci := 2) (v := .ref h_tally) (C := "SuffixIndex$Sorter") (T := F_SO) (N := 4) hx hb hw i_SO hown hK hP 0 rfl rfl 2 (by decide) (hw _ m_106) (fun _ h9 => h9) rfl d_SO_sortByRanks_59 ?_
      refine lv_iload hx hb d_SO_sortByRanks_62 (lv_at hl 4 rfl) ?_
      refine lv_iconst (v := 1) hx hb d_SO_sortByRanks_64 (by decide) ?_
      refine lv_isub hx hb d_SO_sortByRanks_65 ?_
      obtain ⟨hin, hv⟩ := hv
      refine va_iald hx hb hK hP 2 0 rfl rfl hin d_SO_sortByRanks_66 ?_
      refine lv_iadd hx hb d_SO_sortByRanks_67 ?_
      obtain ⟨hin, hv⟩ := hv
      refine va_iast hx hb hK hP hD hS 2 0 rfl rfl hin d_SO_sortByRanks_68 (fun H locs hP hD hS => ?_)
      have hP : va_P (dC, dI) classes [(h_t, .inr (2, [.ref h_byTail, .ref h_newRanks, .ref h_tally, .int z_size])), (h_byTail, .inl (cI, 16448, .inl z_byTail)), (h_tally, .inl (cI, 16448, .inl (upd z_tally x4.toNatClampNeg ((z_tally x4.toNatClampNeg) + (z_tally (x4 - 1).toNatClampNeg))))), (h_p2, .inl (cI, n_p2, .inl z_p2)), (h_p3, .inl (cI, n_p3, .inl z_p3))] H := hP
      have hD : va_D A [(h_t, .inr (2, [.ref h_byTail, .ref h_newRanks, .ref h_tally, .int z_size])), (h_byTail, .inl (cI, 16448, .inl z_byTail)), (h_tally, .inl (cI, 16448, .inl (upd z_tally x4.toNatClampNeg ((z_tally x4.toNatClampNeg) + (z_tally (x4 - 1).toNatClampNeg))))), (h_p2, .inl (cI, n_p2, .inl z_p2)), (h_p3, .inl (cI, n_p3, .inl z_p3))] := hD
      refine lv_iinc (v := x4 + 1) (lv' := [(4, .int (x4 + 1)), (0, .ref h_t), (1, .int a_p1), (2, .ref h_p2), (3, .ref h_p3)]) hx hb d_SO_sortByRanks_69 hl (k := 4) rfl (iinc_v (by decide)) (by decide) rfl (fun ls hl => ?_)
      refine lv_goto (tgt := 44) hx hb d_SO_sortByRanks_72 (by decide) ?_
      exact ih (x4 + 1) (upd z_tally x4.toNatClampNeg ((z_tally x4.toNatClampNeg) + (z_tally (x4 - 1).toNatClampNeg))) z_p2 hv _ _ _ hP hD hS (lv_sub hl [1, 2, 3, 4, 0] rfl)

set_option maxHeartbeats 4000000 in
set_option maxRecDepth 100000 in
theorem wk_SO_sortByRanks_13 {p : Program} {l : Launch} {e : Env} {s : State} {m : MethodId} {below : List Frame} {meth : Method} {c : Code} {A : Nat → Prop} {dC : Nat → ClassId} {dI : Nat → Nat → Nat} {cI cJ cB cZ : ClassId} {h_t : Nat} {h_byTail : Nat} {h_newRanks : Nat} {h_tally : Nat} {h_p2 : Nat} {h_p3 : Nat} {a_p1 : Int32} {n_p2 : Nat} {n_p3 : Nat} {z_size : Int32} {z_byTail : Nat → Int32} {z_p3 : Nat → Int32} {post : (Nat → Int32) → (Nat → Int32) → Prop} (F : CallFix p m c b_SO_sortByRanks 7 s ([.ref h_t, .int a_p1, .ref h_p2, .ref h_p3] : List Value).toArray WT "SuffixIndex$Sorter") (hr : meth.sig.returnType = none) (hlk : meth.locks = false) (hK : va_K (dC, dI) classes (TYS cI cJ cB cZ) s) (hA : ∀ q, s.heap.size ≤ q → A q) : ∀ (k : Nat) (x4 : Int32) (z_tally : Nat → Int32) (z_p2 : Nat → Int32), vc_SO_sortByRanks_13 a_p1 n_p2 n_p3 z_size z_byTail z_p3 post k x4 z_tally z_p2 → ∀ (H : Heap) (locs : List Loc) (ls : Array Slot), va_P (dC, dI) classes [(h_t, .inr (2, [.ref h_byTail, .ref h_newRanks, .ref h_tally, .int z_size])), (h_byTail, .inl (cI, 16448, .inl z_byTail)), (h_tally, .inl (cI, 16448, .inl z_tally)), (h_p2, .inl (cI, n_p2, .inl z_p2)), (h_p3, .inl (cI, n_p3, .inl z_p3))] H → va_D A [(h_t, .inr (2, [.ref h_byTail, .ref h_newRanks, .ref h_tally, .int z_size])), (h_byTail, .inl (cI, 16448, .inl z_byTail)), (h_tally, .inl (cI, 16448, .inl z_tally)), (h_p2, .inl (cI, n_p2, .inl z_p2)), (h_p3, .inl (cI, n_p3, .inl z_p3))] → va_S A s.heap H locs → lv_has ls 7 [(0, .ref h_t), (1, .int a_p1), (2, .ref h_p2), (3, .ref h_p3), (4, .int x4)] → W p l e rm_SO_sortByRanks s m ([.ref h_t, .int a_p1, .ref h_p2, .ref h_p3] : List Value).toArray below meth c H locs 0 0 (MQ below (va_Qv (fun u : (Nat → Int32) × (Nat → Int32) => post u.1 u.2) (fun u t => cAft (dC, dI) classes (TYS cI cJ cB cZ) A [(h_t, .inr (2, [.ref h_byTail, .ref h_newRanks, .ref h_tally, .int z_size])), (h_byTail, .inl (cI, 16448, .inl z_byTail)), (h_tally, .inl (cI, 16448, .inl u.1)), (h_p2, .inl (cI, n_p2, .inl u.2)), (h_p3, .inl (cI, n_p3, .inl z_p3))] t) A) ([.ref h_t, .int a_p1, .ref h_p2, .ref h_p3] : List Value).toArray s 0 0 A) (F0 m 13 ls []) := by
  obtain ⟨hx, hb, hml, hown, hw⟩ := id F
  intro k
  induction k with
  | zero =>
    intro x4 z_tally z_p2 hv
    exact False.elim hv
  | succ k ih =>
    intro x4 z_tally z_p2 hv H locs ls hP hD hS hl
    refine lv_iload hx hb d_SO_sortByRanks_13 (lv_at hl 4 rfl) ?_
    refine lv_aload_n hx hb d_SO_sortByRanks_15 rfl (lv_at hl 0 rfl) ?_
    refine va_get (D := (dC, dI)) (ci := 2) (v := .int z_size) (C := "SuffixIndex$Sorter") (T := F_SO) (N := 4) hx hb hw i_SO hown hK hP 0 rfl rfl 3 (by decide) (hw _ m_107) (fun _ h9 => h9) rfl d_SO_sortByRanks_16 ?_
    obtain ⟨hvt, hvf⟩ := hv
    refine lv_icmp_ge (tgt := 41) hx hb d_SO_sortByRanks_19 (by decide) (fun c3 => ?_) (fun c3 => ?_)
    · have hv := hvt c3
      refine lv_iconst (v := 1) hx hb d_SO_sortByRanks_41 (by decide) ?_
      refine lv_istore (lv' := [(4, .int 1), (0, .ref h_t), (1, .int a_p1), (2, .ref h_p2), (3, .ref h_p3)]) hx hb d_SO_sortByRanks_42 hl (by decide) rfl (fun ls hl => ?_)
      obtain ⟨j, hv⟩ := hv
      exact wk_SO_sortByRanks_44 F hr hlk hK hA j 1 z_tally z_p2 hv _ _ _ hP hD hS (lv_sub hl [1, 2, 3, 4, 0] rfl)
    · have hv := hvf c3
      refine lv_aload_n hx hb d_SO_sortByRanks_22 rfl (lv_at hl 0 rfl) ?_
      refine va_get (D := (dC, dI)) (ci := 2) (v := .ref h_tally) (C := "SuffixIndex$Sorter") (T := F_SO) (N := 4) hx hb hw i_SO hown hK hP 0 rfl rfl 2 (by decide) (hw _ m_106) (fun _ h9 => h9) rfl d_SO_sortByRanks_23 ?_
      refine lv_aload_n hx hb d_SO_sortByRanks_26 rfl (lv_at hl 3 rfl) ?_
      refine lv_iload hx hb d_SO_sortByRanks_27 (lv_at hl 4 rfl) ?_
      obtain ⟨hin, hv⟩ := hv
      refine va_iald hx hb hK hP 4 0 rfl rfl hin d_SO_sortByRanks_29 ?_
      refine lv_dup2_11 hx hb d_SO_sortByRanks_30 rfl rfl ?_
      obtain ⟨hin, hv⟩ := hv
      refine va_iald hx hb hK hP 2 0 rfl rfl hin d_SO_sortByRanks_31 ?_
      refine lv_iconst (v := 1) hx hb d_SO_sortByRanks_32 (by decide) ?_
      refine lv_iadd hx hb d_SO_sortByRanks_33 ?_
      obtain ⟨hin, hv⟩ := hv
      refine va_iast hx hb hK hP hD hS 2 0 rfl rfl hin d_SO_sortByRanks_34 (fun H locs hP hD hS => ?_)
      have hP : va_P (dC, dI) classes [(h_t, .inr (2, [.ref h_byTail, .ref h_newRanks, .ref h_tally, .int z_size])), (h_byTail, .inl (cI, 16448, .inl z_byTail)), (h_tally, .inl (cI, 16448, .inl (upd z_tally (z_p3 x4.toNatClampNeg).toNatClampNeg ((z_tally (z_p3 x4.toNatClampNeg).toNatClampNeg) + 1)))), (h_p2, .inl (cI, n_p2, .inl z_p2)), (h_p3, .inl (cI, n_p3, .inl z_p3))] H := hP
      have hD : va_D A [(h_t, .inr (2, [.ref h_byTail, .ref h_newRanks, .ref h_tally, .int z_size])), (h_byTail, .inl (cI, 16448, .inl z_byTail)), (h_tally, .inl (cI, 16448, .inl (upd z_tally (z_p3 x4.toNatClampNeg).toNatClampNeg ((z_tally (z_p3 x4.toNatClampNeg).toNatClampNeg) + 1)))), (h_p2, .inl (cI, n_p2, .inl z_p2)), (h_p3, .inl (cI, n_p3, .inl z_p3))] := hD
      refine lv_iinc (v := x4 + 1) (lv' := [(4, .int (x4 + 1)), (0, .ref h_t), (1, .int a_p1), (2, .ref h_p2), (3, .ref h_p3)]) hx hb d_SO_sortByRanks_35 hl (k := 4) rfl (iinc_v (by decide)) (by decide) rfl (fun ls hl => ?_)
      refine lv_goto (tgt := 13) hx hb d_SO_sortByRanks_38 (by decide) ?_
      exact ih (x4 + 1) (upd z_tally (z_p3 x4.toNatClampNeg).toNatClampNeg ((z_tally (z_p3 x4.toNatClampNeg).toNatClampNeg) + 1)) z_p2 hv _ _ _ hP hD hS (lv_sub hl [1, 2, 3, 4, 0] rfl)

set_option maxHeartbeats 4000000 in
set_option maxRecDepth 100000 in
theorem c_SO_sortByRanks (l : Launch) (dC : Nat → ClassId) (dI : Nat → Nat → Nat) (cI cJ cB cZ : ClassId) (h_t : Nat) (h_byTail : Nat) (h_newRanks : Nat) (h_tally : Nat) (h_p2 : Nat) (h_p3 : Nat) (n_p2 : Nat) (n_p3 : Nat) (sz : Nat) (z_size : Int32) (z_byTail : Nat → Int32) (z_tally : Nat → Int32) (z_p2 : Nat → Int32) (z_p3 : Nat → Int32) (a_p1 : Int32) (post : (Nat → Int32) → (Nat → Int32) → Prop) (hv : vc_SO_sortByRanks a_p1 n_p2 n_p3 z_size z_byTail z_p3 post z_tally z_p2) : Met l y_SO_sortByRanks (Cond.code y_SO_sortByRanks b_SO_sortByRanks 7 none :: WT) rm_SO_sortByRanks (cPre (dC, dI) classes (TYS cI cJ cB cZ) [(h_t, .inr (2, [.ref h_byTail, .ref h_newRanks, .ref h_tally, .int z_size])), (h_byTail, .inl (cI, 16448, .inl z_byTail)), (h_tally, .inl (cI, 16448, .inl z_tally)), (h_p2, .inl (cI, n_p2, .inl z_p2)), (h_p3, .inl (cI, n_p3, .inl z_p3))] sz [.ref h_t, .int a_p1, .ref h_p2, .ref h_p3]) (va_Qv (fun u : (Nat → Int32) × (Nat → Int32) => post u.1 u.2) (fun u t => cAft (dC, dI) classes (TYS cI cJ cB cZ) (va_A [(h_t, .inr (2, [.ref h_byTail, .ref h_newRanks, .ref h_tally, .int z_size])), (h_byTail, .inl (cI, 16448, .inl z_byTail)), (h_tally, .inl (cI, 16448, .inl z_tally)), (h_p2, .inl (cI, n_p2, .inl z_p2)), (h_p3, .inl (cI, n_p3, .inl z_p3))] sz) [(h_t, .inr (2, [.ref h_byTail, .ref h_newRanks, .ref h_tally, .int z_size])), (h_byTail, .inl (cI, 16448, .inl z_byTail)), (h_tally, .inl (cI, 16448, .inl u.1)), (h_p2, .inl (cI, n_p2, .inl u.2)), (h_p3, .inl (cI, n_p3, .inl z_p3))] t) (va_A [(h_t, .inr (2, [.ref h_byTail, .ref h_newRanks, .ref h_tally, .int z_size])), (h_byTail, .inl (cI, 16448, .inl z_byTail)), (h_tally, .inl (cI, 16448, .inl z_tally)), (h_p2, .inl (cI, n_p2, .inl z_p2)), (h_p3, .inl (cI, n_p3, .inl z_p3))] sz)) 0 0 (va_A [(h_t, .inr (2, [.ref h_byTail, .ref h_newRanks, .ref h_tally, .int z_size])), (h_byTail, .inl (cI, 16448, .inl z_byTail)), (h_tally, .inl (cI, 16448, .inl z_tally)), (h_p2, .inl (cI, n_p2, .inl z_p2)), (h_p3, .inl (cI, n_p3, .inl z_p3))] sz) := by
  refine Met.ofW (cc := b_SO_sortByRanks) (maxL := 7) (ret := none) (by decide) rfl ?_
  intro p e s m args below meth c s₁ B hml hq
  obtain ⟨rfl, hsz, hP, hK, hD0⟩ := hq
  have hts := atoms_spec (ws := Cond.code y_SO_sortByRanks b_SO_sortByRanks 7 none :: WT) B.pre
  have hw : ∀ w ∈ WT, w.before ([.ref h_t, .int a_p1, .ref h_p2, .ref h_p3] : List Value).toArray s = true := fun w h => hts w (List.mem_cons_of_mem _ h)
  have hx := B.exec
  have hb := B.bytes
  have hr := B.returns
  have hlk := B.notSynchronized
  have hown : s.vm.findClass "SuffixIndex$Sorter" = some m.cls := findClass_of_methodNamed B.named
  have F : CallFix p m c b_SO_sortByRanks 7 s ([.ref h_t, .int a_p1, .ref h_p2, .ref h_p3] : List Value).toArray WT "SuffixIndex$Sorter" := ⟨hx, hb, hml, hown, hw⟩
  subst hsz
  have hD := hD0.self (sz := s.heap.size)
  generalize hAe : va_A [(h_t, .inr (2, [.ref h_byTail, .ref h_newRanks, .ref h_tally, .int z_size])), (h_byTail, .inl (cI, 16448, .inl z_byTail)), (h_tally, .inl (cI, 16448, .inl z_tally)), (h_p2, .inl (cI, n_p2, .inl z_p2)), (h_p3, .inl (cI, n_p3, .inl z_p3))] s.heap.size = A at hD ⊢
  have hA : ∀ q : Nat, s.heap.size ≤ q → A q := fun q h => by rw [← hAe]; exact Or.inr h
  have hS : va_S A s.heap s.heap [] := va_S.rf
  have hl := lv_entry ([.ref h_t, .int a_p1, .ref h_p2, .ref h_p3]) (n := 7) (Nat.le_of_ble_eq_true rfl)
  rw [lg_entry_eq]
  generalize (lg_sl ([.ref h_t, .int a_p1, .ref h_p2, .ref h_p3]) ++ List.replicate (7 - (lg_sl ([.ref h_t, .int a_p1, .ref h_p2, .ref h_p3])).length) Slot.unset).toArray = ls at hl ⊢
  have hl : lv_has ls 7 [(0, .ref h_t), (1, .int a_p1), (2, .ref h_p2), (3, .ref h_p3)] := hl
  show W p l e rm_SO_sortByRanks s m _ below meth c s.heap [] 0 0 _ _
  have hP : va_P (dC, dI) classes [(h_t, .inr (2, [.ref h_byTail, .ref h_newRanks, .ref h_tally, .int z_size])), (h_byTail, .inl (cI, 16448, .inl z_byTail)), (h_tally, .inl (cI, 16448, .inl z_tally)), (h_p2, .inl (cI, n_p2, .inl z_p2)), (h_p3, .inl (cI, n_p3, .inl z_p3))] s.heap := hP
  obtain ⟨H, hHe⟩ : ∃ H, H = s.heap := ⟨_, rfl⟩
  have hS : va_S A s.heap H [] := by rw [hHe]; exact hS
  rw [← hHe] at hP
  suffices hgoal : W p l e rm_SO_sortByRanks s m ([.ref h_t, .int a_p1, .ref h_p2, .ref h_p3] : List Value).toArray below meth c H [] 0 0 (MQ below (va_Qv (fun u : (Nat → Int32) × (Nat → Int32) => post u.1 u.2) (fun u t => cAft (dC, dI) classes (TYS cI cJ cB cZ) A [(h_t, .inr (2, [.ref h_byTail, .ref h_newRanks, .ref h_tally, .int z_size])), (h_byTail, .inl (cI, 16448, .inl z_byTail)), (h_tally, .inl (cI, 16448, .inl u.1)), (h_p2, .inl (cI, n_p2, .inl u.2)), (h_p3, .inl (cI, n_p3, .inl z_p3))] t) A) ([.ref h_t, .int a_p1, .ref h_p2, .ref h_p3] : List Value).toArray s 0 0 A) (F0 m 0 ls []) by rw [hHe] at hgoal; exact hgoal
  refine lv_aload_n hx hb d_SO_sortByRanks_0 rfl (lv_at hl 0 rfl) ?_
  refine va_get (D := (dC, dI)) (ci := 2) (v := .ref h_tally) (C := "SuffixIndex$Sorter") (T := F_SO) (N := 4) hx hb hw i_SO hown hK hP 0 rfl rfl 2 (by decide) (hw _ m_106) (fun _ h9 => h9) rfl d_SO_sortByRanks_1 ?_
  refine lv_iconst (v := 0) hx hb d_SO_sortByRanks_4 (by decide) ?_
  refine lv_iload_n hx hb d_SO_sortByRanks_5 rfl (lv_at hl 1 rfl) ?_
  refine lv_iconst (v := 0) hx hb d_SO_sortByRanks_6 (by decide) ?_
  refine cS_v (wr := [(h_t, .inr (2, [.ref h_byTail, .ref h_newRanks, .ref h_tally, .int z_size])), (h_byTail, .inl (cI, 16448, .inl z_byTail)), (h_p2, .inl (cI, n_p2, .inl z_p2)), (h_p3, .inl (cI, n_p3, .inl z_p3))]) (rest := []) (c_AR_fill1 l dC dI cI cJ cB cZ h_tally 16448 H.size z_tally 0 a_p1 0 _ hv) F (cw_S (fun _ h => h) 4 hw m_319 m_320 m_16 m_321 rfl rfl (by decide +kernel) ⟨by decide, by decide⟩) hK hP hD hS hA [2] [0, 1, 3, 4] rfl rfl rfl rfl (by decide) rfl hl.1 rfl (Nat.le_of_ble_eq_true rfl) d_SO_sortByRanks_7 ⟨Nat.le_of_ble_eq_true rfl, Nat.le_of_ble_eq_true rfl⟩ (fun u H locs hv hP hD hS => ?_)
  obtain ⟨u4_0, rfl⟩ : ∃ z, z = u := ⟨_, rfl⟩
  have hP : va_P (dC, dI) classes [(h_t, .inr (2, [.ref h_byTail, .ref h_newRanks, .ref h_tally, .int z_size])), (h_byTail, .inl (cI, 16448, .inl z_byTail)), (h_tally, .inl (cI, 16448, .inl u4_0)), (h_p2, .inl (cI, n_p2, .inl z_p2)), (h_p3, .inl (cI, n_p3, .inl z_p3))] H := P_sub hP [0, 1, 4, 2, 3] rfl
  have hD : va_D A [(h_t, .inr (2, [.ref h_byTail, .ref h_newRanks, .ref h_tally, .int z_size])), (h_byTail, .inl (cI, 16448, .inl z_byTail)), (h_tally, .inl (cI, 16448, .inl u4_0)), (h_p2, .inl (cI, n_p2, .inl z_p2)), (h_p3, .inl (cI, n_p3, .inl z_p3))] := hD.sub [0, 1, 4, 2, 3] rfl rfl
  refine lv_iconst (v := 0) hx hb d_SO_sortByRanks_10 (by decide) ?_
  refine lv_istore (lv' := [(4, .int 0), (0, .ref h_t), (1, .int a_p1), (2, .ref h_p2), (3, .ref h_p3)]) hx hb d_SO_sortByRanks_11 hl (by decide) rfl (fun ls hl => ?_)
  obtain ⟨j, hv⟩ := hv
  exact wk_SO_sortByRanks_13 F hr hlk hK hA j 0 u4_0 z_p2 hv _ _ _ hP hD hS (lv_sub hl [1, 2, 3, 4, 0] rfl)

set_option maxHeartbeats 4000000 in
set_option maxRecDepth 100000 in
theorem c_SO_sameRanks (l : Launch) (dC : Nat → ClassId) (dI : Nat → Nat → Nat) (cI cJ cB cZ : ClassId) (h_t : Nat) (h_byTail : Nat) (h_newRanks : Nat) (h_tally : Nat) (h_p4 : Nat) (n_p4 : Nat) (sz : Nat) (z_size : Int32) (z_p4 : Nat → Int32) (a_p1 : Int32) (a_p2 : Int32) (a_p3 : Int32) (post : Int32 → Prop) (hv : vc_SO_sameRanks a_p1 a_p2 a_p3 n_p4 z_size z_p4 post ) : Met l y_SO_sameRanks (Cond.code y_SO_sameRanks b_SO_sameRanks 7 (some .boolean) :: WT) rm_SO_sameRanks (cPre (dC, dI) classes (TYS cI cJ cB cZ) [(h_t, .inr (2, [.ref h_byTail, .ref h_newRanks, .ref h_tally, .int z_size])), (h_p4, .inl (cI, n_p4, .inl z_p4))] sz [.ref h_t, .int a_p1, .int a_p2, .int a_p3, .ref h_p4]) (va_Qi (fun (r : Int32) (u : Unit) => post r ) (fun u t => cAft (dC, dI) classes (TYS cI cJ cB cZ) (va_A [(h_t, .inr (2, [.ref h_byTail, .ref h_newRanks, .ref h_tally, .int z_size])), (h_p4, .inl (cI, n_p4, .inl z_p4))] sz) [(h_t, .inr (2, [.ref h_byTail, .ref h_newRanks, .ref h_tally, .int z_size])), (h_p4, .inl (cI, n_p4, .inl z_p4))] t) (va_A [(h_t, .inr (2, [.ref h_byTail, .ref h_newRanks, .ref h_tally, .int z_size])), (h_p4, .inl (cI, n_p4, .inl z_p4))] sz)) 0 0 (va_A [(h_t, .inr (2, [.ref h_byTail, .ref h_newRanks, .ref h_tally, .int z_size])), (h_p4, .inl (cI, n_p4, .inl z_p4))] sz) := by
  refine Met.ofW (cc := b_SO_sameRanks) (maxL := 7) (ret := (some .boolean)) (by decide) rfl ?_
  intro p e s m args below meth c s₁ B hml hq
  obtain ⟨rfl, hsz, hP, hK, hD0⟩ := hq
  have hts := atoms_spec (ws := Cond.code y_SO_sameRanks b_SO_sameRanks 7 (some .boolean) :: WT) B.pre
  have hw : ∀ w ∈ WT, w.before ([.ref h_t, .int a_p1, .int a_p2, .int a_p3, .ref h_p4] : List Value).toArray s = true := fun w h => hts w (List.mem_cons_of_mem _ h)
  have hx := B.exec
  have hb := B.bytes
  have hr := B.returns
  have hlk := B.notSynchronized
  have hown : s.vm.findClass "SuffixIndex$Sorter" = some m.cls := findClass_of_methodNamed B.named
  have F : CallFix p m c b_SO_sameRanks 7 s ([.ref h_t, .int a_p1, .int a_p2, .int a_p3, .ref h_p4] : List Value).toArray WT "SuffixIndex$Sorter" := ⟨hx, hb, hml, hown, hw⟩
  subst hsz
  have hD := hD0.self (sz := s.heap.size)
  generalize hAe : va_A [(h_t, .inr (2, [.ref h_byTail, .ref h_newRanks, .ref h_tally, .int z_size])), (h_p4, .inl (cI, n_p4, .inl z_p4))] s.heap.size = A at hD ⊢
  have hA : ∀ q : Nat, s.heap.size ≤ q → A q := fun q h => by rw [← hAe]; exact Or.inr h
  have hS : va_S A s.heap s.heap [] := va_S.rf
  have hl := lv_entry ([.ref h_t, .int a_p1, .int a_p2, .int a_p3, .ref h_p4]) (n := 7) (Nat.le_of_ble_eq_true rfl)
  rw [lg_entry_eq]
  generalize (lg_sl ([.ref h_t, .int a_p1, .int a_p2, .int a_p3, .ref h_p4]) ++ List.replicate (7 - (lg_sl ([.ref h_t, .int a_p1, .int a_p2, .int a_p3, .ref h_p4])).length) Slot.unset).toArray = ls at hl ⊢
  have hl : lv_has ls 7 [(0, .ref h_t), (1, .int a_p1), (2, .int a_p2), (3, .int a_p3), (4, .ref h_p4)] := hl
  show W p l e rm_SO_sameRanks s m _ below meth c s.heap [] 0 0 _ _
  have hP : va_P (dC, dI) classes [(h_t, .inr (2, [.ref h_byTail, .ref h_newRanks, .ref h_tally, .int z_size])), (h_p4, .inl (cI, n_p4, .inl z_p4))] s.heap := hP
  obtain ⟨H, hHe⟩ : ∃ H, H = s.heap := ⟨_, rfl⟩
  have hS : va_S A s.heap H [] := by rw [hHe]; exact hS
  rw [← hHe] at hP
  suffices hgoal : W p l e rm_SO_sameRanks s m ([.ref h_t, .int a_p1, .int a_p2, .int a_p3, .ref h_p4] : List Value).toArray below meth c H [] 0 0 (MQ below (va_Qi (fun (r : Int32) (u : Unit) => post r ) (fun u t => cAft (dC, dI) classes (TYS cI cJ cB cZ) A [(h_t, .inr (2, [.ref h_byTail, .ref h_newRanks, .ref h_tally, .int z_size])), (h_p4, .inl (cI, n_p4, .inl z_p4))] t) A) ([.ref h_t, .int a_p1, .int a_p2, .int a_p3, .ref h_p4] : List Value).toArray s 0 0 A) (F0 m 0 ls []) by rw [hHe] at hgoal; exact hgoal
  refine lv_aload hx hb d_SO_sameRanks_0 (lv_at hl 4 rfl) ?_
  refine lv_iload_n hx hb d_SO_sameRanks_2 rfl (lv_at hl 1 rfl) ?_
  obtain ⟨hin, hv⟩ := hv
  refine va_iald hx hb hK hP 1 0 rfl rfl hin d_SO_sameRanks_3 ?_
  refine lv_aload hx hb d_SO_sameRanks_4 (lv_at hl 4 rfl) ?_
  refine lv_iload_n hx hb d_SO_sameRanks_6 rfl (lv_at hl 2 rfl) ?_
  obtain ⟨hin, hv⟩ := hv
  refine va_iald hx hb hK hP 1 0 rfl rfl hin d_SO_sameRanks_7 ?_
  obtain ⟨hvt, hvf⟩ := hv
  refine lv_icmp_eq (tgt := 13) hx hb d_SO_sameRanks_8 (by decide) (fun c1 => ?_) (fun c1 => ?_)
  · have hv := hvt c1
    refine lv_iload_n hx hb d_SO_sameRanks_13 rfl (lv_at hl 1 rfl) ?_
    refine lv_iload_n hx hb d_SO_sameRanks_14 rfl (lv_at hl 3 rfl) ?_
    refine lv_iadd hx hb d_SO_sameRanks_15 ?_
    refine lv_istore (lv' := [(5, .int (a_p1 + a_p3)), (0, .ref h_t), (1, .int a_p1), (2, .int a_p2), (3, .int a_p3), (4, .ref h_p4)]) hx hb d_SO_sameRanks_16 hl (by decide) rfl (fun ls hl => ?_)
    refine lv_iload_n hx hb d_SO_sameRanks_18 rfl (lv_at hl 3 rfl) ?_
    refine lv_iload_n hx hb d_SO_sameRanks_19 rfl (lv_at hl 4 rfl) ?_
    refine lv_iadd hx hb d_SO_sameRanks_20 ?_
    refine lv_istore (lv' := [(6, .int (a_p2 + a_p3)), (5, .int (a_p1 + a_p3)), (0, .ref h_t), (1, .int a_p1), (2, .int a_p2), (3, .int a_p3), (4, .ref h_p4)]) hx hb d_SO_sameRanks_21 hl (by decide) rfl (fun ls hl => ?_)
    refine lv_iload hx hb d_SO_sameRanks_23 (lv_at hl 1 rfl) ?_
    refine lv_aload_n hx hb d_SO_sameRanks_25 rfl (lv_at hl 2 rfl) ?_
    refine va_get (D := (dC, dI)) (ci := 2) (v := .int z_size) (C := "SuffixIndex$Sorter") (T := F_SO) (N := 4) hx hb hw i_SO hown hK hP 0 rfl rfl 3 (by decide) (hw _ m_107) (fun _ h9 => h9) rfl d_SO_sameRanks_26 ?_
    obtain ⟨hvt, hvf⟩ := hv
    refine lv_icmp_ge (tgt := 58) hx hb d_SO_sameRanks_29 (by decide) (fun c2 => ?_) (fun c2 => ?_)
    · have hv := hvt c2
      refine lv_iconst (v := 0) hx hb d_SO_sameRanks_58 (by decide) ?_
      exact W.zret (v := 0) hx hb hr rfl (fun t ht hW => ⟨⟨0, (), rfl, hv, by rw [ht]; exact hP, va_K.moved hW.alike hK, hD⟩, hS.F ht⟩) hS.2.2 d_SO_sameRanks_59
    · have hv := hvf c2
      refine lv_iload hx hb d_SO_sameRanks_32 (lv_at hl 0 rfl) ?_
      refine lv_aload_n hx hb d_SO_sameRanks_34 rfl (lv_at hl 2 rfl) ?_
      refine va_get (D := (dC, dI)) (ci := 2) (v := .int z_size) (C := "SuffixIndex$Sorter") (T := F_SO) (N := 4) hx hb hw i_SO hown hK hP 0 rfl rfl 3 (by decide) (hw _ m_107) (fun _ h9 => h9) rfl d_SO_sameRanks_35 ?_
      obtain ⟨hvt, hvf⟩ := hv
      refine lv_icmp_ge (tgt := 58) hx hb d_SO_sameRanks_38 (by decide) (fun c3 => ?_) (fun c3 => ?_)
      · have hv := hvt c3
        refine lv_iconst (v := 0) hx hb d_SO_sameRanks_58 (by decide) ?_
        exact W.zret (v := 0) hx hb hr rfl (fun t ht hW => ⟨⟨0, (), rfl, hv, by rw [ht]; exact hP, va_K.moved hW.alike hK, hD⟩, hS.F ht⟩) hS.2.2 d_SO_sameRanks_59
      · have hv := hvf c3
        refine lv_aload hx hb d_SO_sameRanks_41 (lv_at hl 6 rfl) ?_
        refine lv_iload hx hb d_SO_sameRanks_43 (lv_at hl 1 rfl) ?_
        obtain ⟨hin, hv⟩ := hv
        refine va_iald hx hb hK hP 1 0 rfl rfl hin d_SO_sameRanks_45 ?_
        refine lv_aload hx hb d_SO_sameRanks_46 (lv_at hl 6 rfl) ?_
        refine lv_iload hx hb d_SO_sameRanks_48 (lv_at hl 0 rfl) ?_
        obtain ⟨hin, hv⟩ := hv
        refine va_iald hx hb hK hP 1 0 rfl rfl hin d_SO_sameRanks_50 ?_
        obtain ⟨hvt, hvf⟩ := hv
        refine lv_icmp_ne (tgt := 58) hx hb d_SO_sameRanks_51 (by decide) (fun c4 => ?_) (fun c4 => ?_)
        · have hv := hvt c4
          refine lv_iconst (v := 0) hx hb d_SO_sameRanks_58 (by decide) ?_
          exact W.zret (v := 0) hx hb hr rfl (fun t ht hW => ⟨⟨0, (), rfl, hv, by rw [ht]; exact hP, va_K.moved hW.alike hK, hD⟩, hS.F ht⟩) hS.2.2 d_SO_sameRanks_59
        · have hv := hvf c4
          refine lv_iconst (v := 1) hx hb d_SO_sameRanks_54 (by decide) ?_
          refine lv_goto (tgt := 59) hx hb d_SO_sameRanks_55 (by decide) ?_
          exact W.zret (v := 1) hx hb hr rfl (fun t ht hW => ⟨⟨1, (), rfl, hv, by rw [ht]; exact hP, va_K.moved hW.alike hK, hD⟩, hS.F ht⟩) hS.2.2 d_SO_sameRanks_59
  · have hv := hvf c1
    refine lv_iconst (v := 0) hx hb d_SO_sameRanks_11 (by decide) ?_
    exact W.zret (v := 0) hx hb hr rfl (fun t ht hW => ⟨⟨0, (), rfl, hv, by rw [ht]; exact hP, va_K.moved hW.alike hK, hD⟩, hS.F ht⟩) hS.2.2 d_SO_sameRanks_12

set_option maxHeartbeats 4000000 in
set_option maxRecDepth 100000 in
theorem wk_SO_rankAnew_42 {p : Program} {l : Launch} {e : Env} {s : State} {m : MethodId} {below : List Frame} {meth : Method} {c : Code} {A : Nat → Prop} {dC : Nat → ClassId} {dI : Nat → Nat → Nat} {cI cJ cB cZ : ClassId} {h_t : Nat} {h_byTail : Nat} {h_newRanks : Nat} {h_tally : Nat} {h_p2 : Nat} {h_p3 : Nat} {a_p1 : Int32} {n_p2 : Nat} {n_p3 : Nat} {z_size : Int32} {z_p2 : Nat → Int32} {post : Int32 → (Nat → Int32) → (Nat → Int32) → Prop} {K6 : Int32 → Int32 → (Nat → Int32) → (Nat → Int32) → Prop} (F : CallFix p m c b_SO_rankAnew 6 s ([.ref h_t, .int a_p1, .ref h_p2, .ref h_p3] : List Value).toArray WT "SuffixIndex$Sorter") (hr : meth.sig.returnType = (some .int)) (hlk : meth.locks = false) (hK : va_K (dC, dI) classes (TYS cI cJ cB cZ) s) (hA : ∀ q, s.heap.size ≤ q → A q) (hK6 : ∀ (x4 : Int32) (x5 : Int32) (z_newRanks : Nat → Int32) (z_p3 : Nat → Int32), K6 x4 x5 z_newRanks z_p3 → ∀ (H : Heap) (locs : List Loc) (ls : Array Slot), va_P (dC, dI) classes [(h_t, .inr (2, [.ref h_byTail, .ref h_newRanks, .ref h_tally, .int z_size])), (h_newRanks, .inl (cI, 16448, .inl z_newRanks)), (h_p2, .inl (cI, n_p2, .inl z_p2)), (h_p3, .inl (cI, n_p3, .inl z_p3))] H → va_D A [(h_t, .inr (2, [.ref h_byTail, .ref h_newRanks, .ref h_tally, .int z_size])), (h_newRanks, .inl (cI, 16448, .inl z_newRanks)), (h_p2, .inl (cI, n_p2, .inl z_p2)), (h_p3, .inl (cI, n_p3, .inl z_p3))] → va_S A s.heap H locs → lv_has ls 6 [(0, .ref h_t), (1, .int a_p1), (2, .ref h_p2), (3, .ref h_p3), (4, .int x4), (5, .int x5)] → W p l e rm_SO_rankAnew s m ([.ref h_t, .int a_p1, .ref h_p2, .ref h_p3] : List Value).toArray below meth c H locs 0 0 (MQ below (va_Qi (fun (r : Int32) (u : (Nat → Int32) × (Nat → Int32)) => post r u.1 u.2) (fun u t => cAft (dC, dI) classes (TYS cI cJ cB cZ) A [(h_t, .inr (2, [.ref h_byTail, .ref h_newRanks, .ref h_tally, .int z_size])), (h_newRanks, .inl (cI, 16448, .inl u.1)), (h_p2, .inl (cI, n_p2, .inl z_p2)), (h_p3, .inl (cI, n_p3, .inl u.2))] t) A) ([.ref h_t, .int a_p1, .ref h_p2, .ref h_p3] : List Value).toArray s 0 0 A) (F0 m 6 ls [])) : ∀ (x4 : Int32) (x5 : Int32) (z_newRanks : Nat → Int32) (z_p3 : Nat → Int32), vc_SO_rankAnew_42 a_p1 n_p2 n_p3 z_size z_p2 post K6 x4 x5 z_newRanks z_p3 → ∀ (H : Heap) (locs : List Loc) (ls : Array Slot), va_P (dC, dI) classes [(h_t, .inr (2, [.ref h_byTail, .ref h_newRanks, .ref h_tally, .int z_size])), (h_newRanks, .inl (cI, 16448, .inl z_newRanks)), (h_p2, .inl (cI, n_p2, .inl z_p2)), (h_p3, .inl (cI, n_p3, .inl z_p3))] H → va_D A [(h_t, .inr (2, [.ref h_byTail, .ref h_newRanks, .ref h_tally, .int z_size])), (h_newRanks, .inl (cI, 16448, .inl z_newRanks)), (h_p2, .inl (cI, n_p2, .inl z_p2)), (h_p3, .inl (cI, n_p3, .inl z_p3))] → va_S A s.heap H locs → lv_has ls 6 [(0, .ref h_t), (1, .int a_p1), (2, .ref h_p2), (3, .ref h_p3), (4, .int x4), (5, .int x5)] → W p l e rm_SO_rankAnew s m ([.ref h_t, .int a_p1, .ref h_p2, .ref h_p3] : List Value).toArray below meth c H locs 0 0 (MQ below (va_Qi (fun (r : Int32) (u : (Nat → Int32) × (Nat → Int32)) => post r u.1 u.2) (fun u t => cAft (dC, dI) classes (TYS cI cJ cB cZ) A [(h_t, .inr (2, [.ref h_byTail, .ref h_newRanks, .ref h_tally, .int z_size])), (h_newRanks, .inl (cI, 16448, .inl u.1)), (h_p2, .inl (cI, n_p2, .inl z_p2)), (h_p3, .inl (cI, n_p3, .inl u.2))] t) A) ([.ref h_t, .int a_p1, .ref h_p2, .ref h_p3] : List Value).toArray s 0 0 A) (F0 m 42 ls []) := by
  obtain ⟨hx, hb, hml, hown, hw⟩ := id F
  intro x4 x5 z_newRanks z_p3 hv H locs ls hP hD hS hl
  refine lv_aload_n hx hb d_SO_rankAnew_42 rfl (lv_at hl 0 rfl) ?_
  refine va_get (D := (dC, dI)) (ci := 2) (v := .ref h_newRanks) (C := "SuffixIndex$Sorter") (T := F_SO) (N := 4) hx hb hw i_SO hown hK hP 0 rfl rfl 1 (by decide) (hw _ m_105) (fun _ h9 => h9) rfl d_SO_rankAnew_43 ?_
  refine lv_aload_n hx hb d_SO_rankAnew_46 rfl (lv_at hl 2 rfl) ?_
  refine lv_iload hx hb d_SO_rankAnew_47 (lv_at hl 5 rfl) ?_
  obtain ⟨hin, hv⟩ := hv
  refine va_iald hx hb hK hP 2 0 rfl rfl hin d_SO_rankAnew_49 ?_
  refine lv_iload hx hb d_SO_rankAnew_50 (lv_at hl 4 rfl) ?_
  obtain ⟨hin, hv⟩ := hv
  refine va_iast hx hb hK hP hD hS 1 0 rfl rfl hin d_SO_rankAnew_52 (fun H locs hP hD hS => ?_)
  have hP : va_P (dC, dI) classes [(h_t, .inr (2, [.ref h_byTail, .ref h_newRanks, .ref h_tally, .int z_size])), (h_newRanks, .inl (cI, 16448, .inl (upd z_newRanks (z_p2 x5.toNatClampNeg).toNatClampNeg x4))), (h_p2, .inl (cI, n_p2, .inl z_p2)), (h_p3, .inl (cI, n_p3, .inl z_p3))] H := hP
  have hD : va_D A [(h_t, .inr (2, [.ref h_byTail, .ref h_newRanks, .ref h_tally, .int z_size])), (h_newRanks, .inl (cI, 16448, .inl (upd z_newRanks (z_p2 x5.toNatClampNeg).toNatClampNeg x4))), (h_p2, .inl (cI, n_p2, .inl z_p2)), (h_p3, .inl (cI, n_p3, .inl z_p3))] := hD
  refine lv_iinc (v := x5 + 1) (lv' := [(5, .int (x5 + 1)), (0, .ref h_t), (1, .int a_p1), (2, .ref h_p2), (3, .ref h_p3), (4, .int x4)]) hx hb d_SO_rankAnew_53 hl (k := 5) rfl (iinc_v (by decide)) (by decide) rfl (fun ls hl => ?_)
  refine lv_goto (tgt := 6) hx hb d_SO_rankAnew_56 (by decide) ?_
  exact hK6 x4 (x5 + 1) (upd z_newRanks (z_p2 x5.toNatClampNeg).toNatClampNeg x4) z_p3 hv _ _ _ hP hD hS (lv_sub hl [1, 2, 3, 4, 5, 0] rfl)

set_option maxHeartbeats 4000000 in
set_option maxRecDepth 100000 in
theorem wk_SO_rankAnew_6 {p : Program} {l : Launch} {e : Env} {s : State} {m : MethodId} {below : List Frame} {meth : Method} {c : Code} {A : Nat → Prop} {dC : Nat → ClassId} {dI : Nat → Nat → Nat} {cI cJ cB cZ : ClassId} {h_t : Nat} {h_byTail : Nat} {h_newRanks : Nat} {h_tally : Nat} {h_p2 : Nat} {h_p3 : Nat} {a_p1 : Int32} {n_p2 : Nat} {n_p3 : Nat} {z_size : Int32} {z_p2 : Nat → Int32} {post : Int32 → (Nat → Int32) → (Nat → Int32) → Prop} (F : CallFix p m c b_SO_rankAnew 6 s ([.ref h_t, .int a_p1, .ref h_p2, .ref h_p3] : List Value).toArray WT "SuffixIndex$Sorter") (hr : meth.sig.returnType = (some .int)) (hlk : meth.locks = false) (hK : va_K (dC, dI) classes (TYS cI cJ cB cZ) s) (hA : ∀ q, s.heap.size ≤ q → A q) : ∀ (k : Nat) (x4 : Int32) (x5 : Int32) (z_newRanks : Nat → Int32) (z_p3 : Nat → Int32), vc_SO_rankAnew_6 a_p1 n_p2 n_p3 z_size z_p2 post k x4 x5 z_newRanks z_p3 → ∀ (H : Heap) (locs : List Loc) (ls : Array Slot), va_P (dC, dI) classes [(h_t, .inr (2, [.ref h_byTail, .ref h_newRanks, .ref h_tally, .int z_size])), (h_newRanks, .inl (cI, 16448, .inl z_newRanks)), (h_p2, .inl (cI, n_p2, .inl z_p2)), (h_p3, .inl (cI, n_p3, .inl z_p3))] H → va_D A [(h_t, .inr (2, [.ref h_byTail, .ref h_newRanks, .ref h_tally, .int z_size])), (h_newRanks, .inl (cI, 16448, .inl z_newRanks)), (h_p2, .inl (cI, n_p2, .inl z_p2)), (h_p3, .inl (cI, n_p3, .inl z_p3))] → va_S A s.heap H locs → lv_has ls 6 [(0, .ref h_t), (1, .int a_p1), (2, .ref h_p2), (3, .ref h_p3), (4, .int x4), (5, .int x5)] → W p l e rm_SO_rankAnew s m ([.ref h_t, .int a_p1, .ref h_p2, .ref h_p3] : List Value).toArray below meth c H locs 0 0 (MQ below (va_Qi (fun (r : Int32) (u : (Nat → Int32) × (Nat → Int32)) => post r u.1 u.2) (fun u t => cAft (dC, dI) classes (TYS cI cJ cB cZ) A [(h_t, .inr (2, [.ref h_byTail, .ref h_newRanks, .ref h_tally, .int z_size])), (h_newRanks, .inl (cI, 16448, .inl u.1)), (h_p2, .inl (cI, n_p2, .inl z_p2)), (h_p3, .inl (cI, n_p3, .inl u.2))] t) A) ([.ref h_t, .int a_p1, .ref h_p2, .ref h_p3] : List Value).toArray s 0 0 A) (F0 m 6 ls []) := by
  obtain ⟨hx, hb, hml, hown, hw⟩ := id F
  intro k
  induction k with
  | zero =>
    intro x4 x5 z_newRanks z_p3 hv
    exact False.elim hv
  | succ k ih =>
    intro x4 x5 z_newRanks z_p3 hv H locs ls hP hD hS hl
    refine lv_iload hx hb d_SO_rankAnew_6 (lv_at hl 5 rfl) ?_
    refine lv_aload_n hx hb d_SO_rankAnew_8 rfl (lv_at hl 0 rfl) ?_
    refine va_get (D := (dC, dI)) (ci := 2) (v := .int z_size) (C := "SuffixIndex$Sorter") (T := F_SO) (N := 4) hx hb hw i_SO hown hK hP 0 rfl rfl 3 (by decide) (hw _ m_107) (fun _ h9 => h9) rfl d_SO_rankAnew_9 ?_
    obtain ⟨hvt, hvf⟩ := hv
    refine lv_icmp_ge (tgt := 59) hx hb d_SO_rankAnew_12 (by decide) (fun c1 => ?_) (fun c1 => ?_)
    · have hv := hvt c1
      refine lv_aload_n hx hb d_SO_rankAnew_59 rfl (lv_at hl 0 rfl) ?_
      refine va_get (D := (dC, dI)) (ci := 2) (v := .ref h_newRanks) (C := "SuffixIndex$Sorter") (T := F_SO) (N := 4) hx hb hw i_SO hown hK hP 0 rfl rfl 1 (by decide) (hw _ m_105) (fun _ h9 => h9) rfl d_SO_rankAnew_60 ?_
      refine lv_iconst (v := 0) hx hb d_SO_rankAnew_63 (by decide) ?_
      refine lv_aload_n hx hb d_SO_rankAnew_64 rfl (lv_at hl 3 rfl) ?_
      refine lv_iconst (v := 0) hx hb d_SO_rankAnew_65 (by decide) ?_
      refine lv_aload_n hx hb d_SO_rankAnew_66 rfl (lv_at hl 0 rfl) ?_
      refine va_get (D := (dC, dI)) (ci := 2) (v := .int z_size) (C := "SuffixIndex$Sorter") (T := F_SO) (N := 4) hx hb hw i_SO hown hK hP 0 rfl rfl 3 (by decide) (hw _ m_107) (fun _ h9 => h9) rfl d_SO_rankAnew_67 ?_
      obtain ⟨h1, h2, h3, h4, h5, hv⟩ := hv
      refine va_copyi (sp := (0 : Int32)) (dp := (0 : Int32)) (n := z_size) hx hb (hml.trans hl.1.symm) hown (hw _ m_664) (hw _ m_446) (hw _ m_445) (hw _ m_15) hK hP hD hS 1 3 0 0 rfl rfl rfl rfl rfl h1 h2 h3 h4 h5 (fun _ _ => rfl) (by decide) (Nat.le_of_ble_eq_true rfl) d_SO_rankAnew_70 (fun H locs hP hD hS => ?_)
      have hP : va_P (dC, dI) classes [(h_t, .inr (2, [.ref h_byTail, .ref h_newRanks, .ref h_tally, .int z_size])), (h_newRanks, .inl (cI, 16448, .inl z_newRanks)), (h_p2, .inl (cI, n_p2, .inl z_p2)), (h_p3, .inl (cI, n_p3, .inl (va_cpy z_newRanks z_p3 (0 : Int32).toNatClampNeg (0 : Int32).toNatClampNeg z_size.toNatClampNeg)))] H := hP
      have hD : va_D A [(h_t, .inr (2, [.ref h_byTail, .ref h_newRanks, .ref h_tally, .int z_size])), (h_newRanks, .inl (cI, 16448, .inl z_newRanks)), (h_p2, .inl (cI, n_p2, .inl z_p2)), (h_p3, .inl (cI, n_p3, .inl (va_cpy z_newRanks z_p3 (0 : Int32).toNatClampNeg (0 : Int32).toNatClampNeg z_size.toNatClampNeg)))] := hD
      refine lv_iload hx hb d_SO_rankAnew_73 (lv_at hl 4 rfl) ?_
      refine lv_iconst (v := 1) hx hb d_SO_rankAnew_75 (by decide) ?_
      refine lv_iadd hx hb d_SO_rankAnew_76 ?_
      exact W.iret (v := x4 + 1) hx hb hr (fun t ht hW => ⟨⟨x4 + 1, (z_newRanks, va_cpy z_newRanks z_p3 (0 : Int32).toNatClampNeg (0 : Int32).toNatClampNeg z_size.toNatClampNeg), rfl, hv, by rw [ht]; exact hP, va_K.moved hW.alike hK, hD⟩, hS.F ht⟩) hS.2.2 d_SO_rankAnew_77
    · have hv := hvf c1
      refine lv_iload hx hb d_SO_rankAnew_15 (lv_at hl 5 rfl) ?_
      obtain ⟨hvt, hvf⟩ := hv
      refine lv_if_le (tgt := 42) hx hb d_SO_rankAnew_17 (by decide) (fun c2 => ?_) (fun c2 => ?_)
      · have hv := hvt c2
        exact wk_SO_rankAnew_42 F hr hlk hK hA ih x4 x5 z_newRanks z_p3 hv _ _ _ hP hD hS (lv_sub hl [0, 1, 2, 3, 4, 5] rfl)
      · have hv := hvf c2
        refine lv_aload_n hx hb d_SO_rankAnew_20 rfl (lv_at hl 0 rfl) ?_
        refine lv_aload_n hx hb d_SO_rankAnew_21 rfl (lv_at hl 2 rfl) ?_
        refine lv_iload hx hb d_SO_rankAnew_22 (lv_at hl 5 rfl) ?_
        refine lv_iconst (v := 1) hx hb d_SO_rankAnew_24 (by decide) ?_
        refine lv_isub hx hb d_SO_rankAnew_25 ?_
        obtain ⟨hin, hv⟩ := hv
        refine va_iald hx hb hK hP 2 0 rfl rfl hin d_SO_rankAnew_26 ?_
        refine lv_aload_n hx hb d_SO_rankAnew_27 rfl (lv_at hl 2 rfl) ?_
        refine lv_iload hx hb d_SO_rankAnew_28 (lv_at hl 5 rfl) ?_
        obtain ⟨hin, hv⟩ := hv
        refine va_iald hx hb hK hP 2 0 rfl rfl hin d_SO_rankAnew_30 ?_
        refine lv_iload_n hx hb d_SO_rankAnew_31 rfl (lv_at hl 1 rfl) ?_
        refine lv_aload_n hx hb d_SO_rankAnew_32 rfl (lv_at hl 3 rfl) ?_
        refine cV_i (wr := [(h_newRanks, .inl (cI, 16448, .inl z_newRanks)), (h_p2, .inl (cI, n_p2, .inl z_p2))]) (rest := []) (c_SO_sameRanks l dC dI cI cJ cB cZ h_t h_byTail h_newRanks h_tally h_p3 n_p3 H.size z_size z_p3 (z_p2 (x5 - 1).toNatClampNeg) (z_p2 x5.toNatClampNeg) a_p1 _ hv) F (cw_V (fun _ h => h) 4 hw m_660 m_662 ms_4 m_5 m_663 rfl rfl (by decide +kernel) ⟨by decide, by decide⟩) hK hP hD hS hA [0, 3] [1, 2] rfl rfl rfl rfl (by decide) 0 2 rfl rfl rfl hl.1 rfl (Nat.le_of_ble_eq_true rfl) d_SO_rankAnew_33 ⟨Nat.le_of_ble_eq_true rfl, Nat.le_of_ble_eq_true rfl⟩ (fun r3 u H locs hv hP hD hS => ?_)
        have hP : va_P (dC, dI) classes [(h_t, .inr (2, [.ref h_byTail, .ref h_newRanks, .ref h_tally, .int z_size])), (h_newRanks, .inl (cI, 16448, .inl z_newRanks)), (h_p2, .inl (cI, n_p2, .inl z_p2)), (h_p3, .inl (cI, n_p3, .inl z_p3))] H := P_sub hP [2, 0, 1, 3] rfl
        have hD : va_D A [(h_t, .inr (2, [.ref h_byTail, .ref h_newRanks, .ref h_tally, .int z_size])), (h_newRanks, .inl (cI, 16448, .inl z_newRanks)), (h_p2, .inl (cI, n_p2, .inl z_p2)), (h_p3, .inl (cI, n_p3, .inl z_p3))] := hD.sub [2, 0, 1, 3] rfl rfl
        obtain ⟨hvt, hvf⟩ := hv
        refine lv_if_ne (tgt := 42) hx hb d_SO_rankAnew_36 (by decide) (fun c4 => ?_) (fun c4 => ?_)
        · have hv := hvt c4
          exact wk_SO_rankAnew_42 F hr hlk hK hA ih x4 x5 z_newRanks z_p3 hv _ _ _ hP hD hS (lv_sub hl [0, 1, 2, 3, 4, 5] rfl)
        · have hv := hvf c4
          refine lv_iinc (v := x4 + 1) (lv' := [(4, .int (x4 + 1)), (0, .ref h_t), (1, .int a_p1), (2, .ref h_p2), (3, .ref h_p3), (5, .int x5)]) hx hb d_SO_rankAnew_39 hl (k := 4) rfl (iinc_v (by decide)) (by decide) rfl (fun ls hl => ?_)
          exact wk_SO_rankAnew_42 F hr hlk hK hA ih (x4 + 1) x5 z_newRanks z_p3 hv _ _ _ hP hD hS (lv_sub hl [1, 2, 3, 4, 0, 5] rfl)

set_option maxHeartbeats 4000000 in
set_option maxRecDepth 100000 in
theorem c_SO_rankAnew (l : Launch) (dC : Nat → ClassId) (dI : Nat → Nat → Nat) (cI cJ cB cZ : ClassId) (h_t : Nat) (h_byTail : Nat) (h_newRanks : Nat) (h_tally : Nat) (h_p2 : Nat) (h_p3 : Nat) (n_p2 : Nat) (n_p3 : Nat) (sz : Nat) (z_size : Int32) (z_newRanks : Nat → Int32) (z_p2 : Nat → Int32) (z_p3 : Nat → Int32) (a_p1 : Int32) (post : Int32 → (Nat → Int32) → (Nat → Int32) → Prop) (hv : vc_SO_rankAnew a_p1 n_p2 n_p3 z_size z_p2 post z_newRanks z_p3) : Met l y_SO_rankAnew (Cond.code y_SO_rankAnew b_SO_rankAnew 6 (some .int) :: WT) rm_SO_rankAnew (cPre (dC, dI) classes (TYS cI cJ cB cZ) [(h_t, .inr (2, [.ref h_byTail, .ref h_newRanks, .ref h_tally, .int z_size])), (h_newRanks, .inl (cI, 16448, .inl z_newRanks)), (h_p2, .inl (cI, n_p2, .inl z_p2)), (h_p3, .inl (cI, n_p3, .inl z_p3))] sz [.ref h_t, .int a_p1, .ref h_p2, .ref h_p3]) (va_Qi (fun (r : Int32) (u : (Nat → Int32) × (Nat → Int32)) => post r u.1 u.2) (fun u t => cAft (dC, dI) classes (TYS cI cJ cB cZ) (va_A [(h_t, .inr (2, [.ref h_byTail, .ref h_newRanks, .ref h_tally, .int z_size])), (h_newRanks, .inl (cI, 16448, .inl z_newRanks)), (h_p2, .inl (cI, n_p2, .inl z_p2)), (h_p3, .inl (cI, n_p3, .inl z_p3))] sz) [(h_t, .inr (2, [.ref h_byTail, .ref h_newRanks, .ref h_tally, .int z_size])), (h_newRanks, .inl (cI, 16448, .inl u.1)), (h_p2, .inl (cI, n_p2, .inl z_p2)), (h_p3, .inl (cI, n_p3, .inl u.2))] t) (va_A [(h_t, .inr (2, [.ref h_byTail, .ref h_newRanks, .ref h_tally, .int z_size])), (h_newRanks, .inl (cI, 16448, .inl z_newRanks)), (h_p2, .inl (cI, n_p2, .inl z_p2)), (h_p3, .inl (cI, n_p3, .inl z_p3))] sz)) 0 0 (va_A [(h_t, .inr (2, [.ref h_byTail, .ref h_newRanks, .ref h_tally, .int z_size])), (h_newRanks, .inl (cI, 16448, .inl z_newRanks)), (h_p2, .inl (cI, n_p2, .inl z_p2)), (h_p3, .inl (cI, n_p3, .inl z_p3))] sz) := by
  refine Met.ofW (cc := b_SO_rankAnew) (maxL := 6) (ret := (some .int)) (by decide) rfl ?_
  intro p e s m args below meth c s₁ B hml hq
  obtain ⟨rfl, hsz, hP, hK, hD0⟩ := hq
  have hts := atoms_spec (ws := Cond.code y_SO_rankAnew b_SO_rankAnew 6 (some .int) :: WT) B.pre
  have hw : ∀ w ∈ WT, w.before ([.ref h_t, .int a_p1, .ref h_p2, .ref h_p3] : List Value).toArray s = true := fun w h => hts w (List.mem_cons_of_mem _ h)
  have hx := B.exec
  have hb := B.bytes
  have hr := B.returns
  have hlk := B.notSynchronized
  have hown : s.vm.findClass "SuffixIndex$Sorter" = some m.cls := findClass_of_methodNamed B.named
  have F : CallFix p m c b_SO_rankAnew 6 s ([.ref h_t, .int a_p1, .ref h_p2, .ref h_p3] : List Value).toArray WT "SuffixIndex$Sorter" := ⟨hx, hb, hml, hown, hw⟩
  subst hsz
  have hD := hD0.self (sz := s.heap.size)
  generalize hAe : va_A [(h_t, .inr (2, [.ref h_byTail, .ref h_newRanks, .ref h_tally, .int z_size])), (h_newRanks, .inl (cI, 16448, .inl z_newRanks)), (h_p2, .inl (cI, n_p2, .inl z_p2)), (h_p3, .inl (cI, n_p3, .inl z_p3))] s.heap.size = A at hD ⊢
  have hA : ∀ q : Nat, s.heap.size ≤ q → A q := fun q h => by rw [← hAe]; exact Or.inr h
  have hS : va_S A s.heap s.heap [] := va_S.rf
  have hl := lv_entry ([.ref h_t, .int a_p1, .ref h_p2, .ref h_p3]) (n := 6) (Nat.le_of_ble_eq_true rfl)
  rw [lg_entry_eq]
  generalize (lg_sl ([.ref h_t, .int a_p1, .ref h_p2, .ref h_p3]) ++ List.replicate (6 - (lg_sl ([.ref h_t, .int a_p1, .ref h_p2, .ref h_p3])).length) Slot.unset).toArray = ls at hl ⊢
  have hl : lv_has ls 6 [(0, .ref h_t), (1, .int a_p1), (2, .ref h_p2), (3, .ref h_p3)] := hl
  show W p l e rm_SO_rankAnew s m _ below meth c s.heap [] 0 0 _ _
  have hP : va_P (dC, dI) classes [(h_t, .inr (2, [.ref h_byTail, .ref h_newRanks, .ref h_tally, .int z_size])), (h_newRanks, .inl (cI, 16448, .inl z_newRanks)), (h_p2, .inl (cI, n_p2, .inl z_p2)), (h_p3, .inl (cI, n_p3, .inl z_p3))] s.heap := hP
  obtain ⟨H, hHe⟩ : ∃ H, H = s.heap := ⟨_, rfl⟩
  have hS : va_S A s.heap H [] := by rw [hHe]; exact hS
  rw [← hHe] at hP
  suffices hgoal : W p l e rm_SO_rankAnew s m ([.ref h_t, .int a_p1, .ref h_p2, .ref h_p3] : List Value).toArray below meth c H [] 0 0 (MQ below (va_Qi (fun (r : Int32) (u : (Nat → Int32) × (Nat → Int32)) => post r u.1 u.2) (fun u t => cAft (dC, dI) classes (TYS cI cJ cB cZ) A [(h_t, .inr (2, [.ref h_byTail, .ref h_newRanks, .ref h_tally, .int z_size])), (h_newRanks, .inl (cI, 16448, .inl u.1)), (h_p2, .inl (cI, n_p2, .inl z_p2)), (h_p3, .inl (cI, n_p3, .inl u.2))] t) A) ([.ref h_t, .int a_p1, .ref h_p2, .ref h_p3] : List Value).toArray s 0 0 A) (F0 m 0 ls []) by rw [hHe] at hgoal; exact hgoal
  refine lv_iconst (v := 0) hx hb d_SO_rankAnew_0 (by decide) ?_
  refine lv_istore (lv' := [(4, .int 0), (0, .ref h_t), (1, .int a_p1), (2, .ref h_p2), (3, .ref h_p3)]) hx hb d_SO_rankAnew_1 hl (by decide) rfl (fun ls hl => ?_)
  refine lv_iconst (v := 0) hx hb d_SO_rankAnew_3 (by decide) ?_
  refine lv_istore (lv' := [(5, .int 0), (4, .int 0), (0, .ref h_t), (1, .int a_p1), (2, .ref h_p2), (3, .ref h_p3)]) hx hb d_SO_rankAnew_4 hl (by decide) rfl (fun ls hl => ?_)
  obtain ⟨j, hv⟩ := hv
  exact wk_SO_rankAnew_6 F hr hlk hK hA j 0 0 z_newRanks z_p3 hv _ _ _ hP hD hS (lv_sub hl [2, 3, 4, 5, 1, 0] rfl)

set_option maxHeartbeats 4000000 in
set_option maxRecDepth 100000 in
theorem wk_SO_sortByTails_71 {p : Program} {l : Launch} {e : Env} {s : State} {m : MethodId} {below : List Frame} {meth : Method} {c : Code} {A : Nat → Prop} {dC : Nat → ClassId} {dI : Nat → Nat → Nat} {cI cJ cB cZ : ClassId} {h_t : Nat} {h_byTail : Nat} {h_newRanks : Nat} {h_tally : Nat} {h_p2 : Nat} {a_p1 : Int32} {n_p2 : Nat} {z_size : Int32} {z_p2 : Nat → Int32} {post : (Nat → Int32) → Prop} {K39 : Int32 → Int32 → (Nat → Int32) → Prop} (F : CallFix p m c b_SO_sortByTails 5 s ([.ref h_t, .int a_p1, .ref h_p2] : List Value).toArray WT "SuffixIndex$Sorter") (hr : meth.sig.returnType = none) (hlk : meth.locks = false) (hK : va_K (dC, dI) classes (TYS cI cJ cB cZ) s) (hA : ∀ q, s.heap.size ≤ q → A q) (hK39 : ∀ (x3 : Int32) (x4 : Int32) (z_byTail : Nat → Int32), K39 x3 x4 z_byTail → ∀ (H : Heap) (locs : List Loc) (ls : Array Slot), va_P (dC, dI) classes [(h_t, .inr (2, [.ref h_byTail, .ref h_newRanks, .ref h_tally, .int z_size])), (h_byTail, .inl (cI, 16448, .inl z_byTail)), (h_p2, .inl (cI, n_p2, .inl z_p2))] H → va_D A [(h_t, .inr (2, [.ref h_byTail, .ref h_newRanks, .ref h_tally, .int z_size])), (h_byTail, .inl (cI, 16448, .inl z_byTail)), (h_p2, .inl (cI, n_p2, .inl z_p2))] → va_S A s.heap H locs → lv_has ls 5 [(0, .ref h_t), (1, .int a_p1), (2, .ref h_p2), (3, .int x3), (4, .int x4)] → W p l e rm_SO_sortByTails s m ([.ref h_t, .int a_p1, .ref h_p2] : List Value).toArray below meth c H locs 0 0 (MQ below (va_Qv (fun u : (Nat → Int32) => post u) (fun u t => cAft (dC, dI) classes (TYS cI cJ cB cZ) A [(h_t, .inr (2, [.ref h_byTail, .ref h_newRanks, .ref h_tally, .int z_size])), (h_byTail, .inl (cI, 16448, .inl u)), (h_p2, .inl (cI, n_p2, .inl z_p2))] t) A) ([.ref h_t, .int a_p1, .ref h_p2] : List Value).toArray s 0 0 A) (F0 m 39 ls [])) : ∀ (x3 : Int32) (x4 : Int32) (z_byTail : Nat → Int32), vc_SO_sortByTails_71 a_p1 n_p2 z_size z_p2 post K39 x3 x4 z_byTail → ∀ (H : Heap) (locs : List Loc) (ls : Array Slot), va_P (dC, dI) classes [(h_t, .inr (2, [.ref h_byTail, .ref h_newRanks, .ref h_tally, .int z_size])), (h_byTail, .inl (cI, 16448, .inl z_byTail)), (h_p2, .inl (cI, n_p2, .inl z_p2))] H → va_D A [(h_t, .inr (2, [.ref h_byTail, .ref h_newRanks, .ref h_tally, .int z_size])), (h_byTail, .inl (cI, 16448, .inl z_byTail)), (h_p2, .inl (cI, n_p2, .inl z_p2))] → va_S A s.heap H locs → lv_has ls 5 [(0, .ref h_t), (1, .int a_p1), (2, .ref h_p2), (3, .int x3), (4, .int x4)] → W p l e rm_SO_sortByTails s m ([.ref h_t, .int a_p1, .ref h_p2] : List Value).toArray below meth c H locs 0 0 (MQ below (va_Qv (fun u : (Nat → Int32) => post u) (fun u t => cAft (dC, dI) classes (TYS cI cJ cB cZ) A [(h_t, .inr (2, [.ref h_byTail, .ref h_newRanks, .ref h_tally, .int z_size])), (h_byTail, .inl (cI, 16448, .inl u)), (h_p2, .inl (cI, n_p2, .inl z_p2))] t) A) ([.ref h_t, .int a_p1, .ref h_p2] : List Value).toArray s 0 0 A) (F0 m 71 ls []) := by
  obtain ⟨hx, hb, hml, hown, hw⟩ := id F
  intro x3 x4 z_byTail hv H locs ls hP hD hS hl
  refine lv_iinc (v := x4 + 1) (lv' := [(4, .int (x4 + 1)), (0, .ref h_t), (1, .int a_p1), (2, .ref h_p2), (3, .int x3)]) hx hb d_SO_sortByTails_71 hl (k := 4) rfl (iinc_v (by decide)) (by decide) rfl (fun ls hl => ?_)
  refine lv_goto (tgt := 39) hx hb d_SO_sortByTails_74 (by decide) ?_
  exact hK39 x3 (x4 + 1) z_byTail hv _ _ _ hP hD hS (lv_sub hl [1, 2, 3, 4, 0] rfl)

set_option maxHeartbeats 4000000 in
set_option maxRecDepth 100000 in
theorem wk_SO_sortByTails_39 {p : Program} {l : Launch} {e : Env} {s : State} {m : MethodId} {below : List Frame} {meth : Method} {c : Code} {A : Nat → Prop} {dC : Nat → ClassId} {dI : Nat → Nat → Nat} {cI cJ cB cZ : ClassId} {h_t : Nat} {h_byTail : Nat} {h_newRanks : Nat} {h_tally : Nat} {h_p2 : Nat} {a_p1 : Int32} {n_p2 : Nat} {z_size : Int32} {z_p2 : Nat → Int32} {post : (Nat → Int32) → Prop} (F : CallFix p m c b_SO_sortByTails 5 s ([.ref h_t, .int a_p1, .ref h_p2] : List Value).toArray WT "SuffixIndex$Sorter") (hr : meth.sig.returnType = none) (hlk : meth.locks = false) (hK : va_K (dC, dI) classes (TYS cI cJ cB cZ) s) (hA : ∀ q, s.heap.size ≤ q → A q) : ∀ (k : Nat) (x3 : Int32) (x4 : Int32) (z_byTail : Nat → Int32), vc_SO_sortByTails_39 a_p1 n_p2 z_size z_p2 post k x3 x4 z_byTail → ∀ (H : Heap) (locs : List Loc) (ls : Array Slot), va_P (dC, dI) classes [(h_t, .inr (2, [.ref h_byTail, .ref h_newRanks, .ref h_tally, .int z_size])), (h_byTail, .inl (cI, 16448, .inl z_byTail)), (h_p2, .inl (cI, n_p2, .inl z_p2))] H → va_D A [(h_t, .inr (2, [.ref h_byTail, .ref h_newRanks, .ref h_tally, .int z_size])), (h_byTail, .inl (cI, 16448, .inl z_byTail)), (h_p2, .inl (cI, n_p2, .inl z_p2))] → va_S A s.heap H locs → lv_has ls 5 [(0, .ref h_t), (1, .int a_p1), (2, .ref h_p2), (3, .int x3), (4, .int x4)] → W p l e rm_SO_sortByTails s m ([.ref h_t, .int a_p1, .ref h_p2] : List Value).toArray below meth c H locs 0 0 (MQ below (va_Qv (fun u : (Nat → Int32) => post u) (fun u t => cAft (dC, dI) classes (TYS cI cJ cB cZ) A [(h_t, .inr (2, [.ref h_byTail, .ref h_newRanks, .ref h_tally, .int z_size])), (h_byTail, .inl (cI, 16448, .inl u)), (h_p2, .inl (cI, n_p2, .inl z_p2))] t) A) ([.ref h_t, .int a_p1, .ref h_p2] : List Value).toArray s 0 0 A) (F0 m 39 ls []) := by
  obtain ⟨hx, hb, hml, hown, hw⟩ := id F
  intro k
  induction k with
  | zero =>
    intro x3 x4 z_byTail hv
    exact False.elim hv
  | succ k ih =>
    intro x3 x4 z_byTail hv H locs ls hP hD hS hl
    refine lv_iload hx hb d_SO_sortByTails_39 (lv_at hl 4 rfl) ?_
    refine lv_aload_n hx hb d_SO_sortByTails_41 rfl (lv_at hl 0 rfl) ?_
    refine va_get (D := (dC, dI)) (ci := 2) (v := .int z_size) (C := "SuffixIndex$Sorter") (T := F_SO) (N := 4) hx hb hw i_SO hown hK hP 0 rfl rfl 3 (by decide) (hw _ m_107) (fun _ h9 => h9) rfl d_SO_sortByTails_42 ?_
    obtain ⟨hvt, hvf⟩ := hv
    refine lv_icmp_ge (tgt := 77) hx hb d_SO_sortByTails_45 (by decide) (fun c1 => ?_) (fun c1 => ?_)
    · have hv := hvt c1
      exact W.vret hx hb hr (fun t ht hW => ⟨⟨z_byTail, rfl, hv, by rw [ht]; exact hP, va_K.moved hW.alike hK, hD⟩, hS.F ht⟩) hS.2.2 d_SO_sortByTails_77
    · have hv := hvf c1
      refine lv_aload_n hx hb d_SO_sortByTails_48 rfl (lv_at hl 2 rfl) ?_
      refine lv_iload hx hb d_SO_sortByTails_49 (lv_at hl 4 rfl) ?_
      obtain ⟨hin, hv⟩ := hv
      refine va_iald hx hb hK hP 2 0 rfl rfl hin d_SO_sortByTails_51 ?_
      refine lv_iload_n hx hb d_SO_sortByTails_52 rfl (lv_at hl 1 rfl) ?_
      obtain ⟨hvt, hvf⟩ := hv
      refine lv_icmp_lt (tgt := 71) hx hb d_SO_sortByTails_53 (by decide) (fun c2 => ?_) (fun c2 => ?_)
      · have hv := hvt c2
        exact wk_SO_sortByTails_71 F hr hlk hK hA ih x3 x4 z_byTail hv _ _ _ hP hD hS (lv_sub hl [0, 1, 2, 3, 4] rfl)
      · have hv := hvf c2
        refine lv_aload_n hx hb d_SO_sortByTails_56 rfl (lv_at hl 0 rfl) ?_
        refine va_get (D := (dC, dI)) (ci := 2) (v := .ref h_byTail) (C := "SuffixIndex$Sorter") (T := F_SO) (N := 4) hx hb hw i_SO hown hK hP 0 rfl rfl 0 (by decide) (hw _ m_104) (fun _ h9 => h9) rfl d_SO_sortByTails_57 ?_
        refine lv_iload_n hx hb d_SO_sortByTails_60 rfl (lv_at hl 3 rfl) ?_
        refine lv_aload_n hx hb d_SO_sortByTails_61 rfl (lv_at hl 2 rfl) ?_
        refine lv_iload hx hb d_SO_sortByTails_62 (lv_at hl 4 rfl) ?_
        obtain ⟨hin, hv⟩ := hv
        refine va_iald hx hb hK hP 2 0 rfl rfl hin d_SO_sortByTails_64 ?_
        refine lv_iload_n hx hb d_SO_sortByTails_65 rfl (lv_at hl 1 rfl) ?_
        refine lv_isub hx hb d_SO_sortByTails_66 ?_
        obtain ⟨hin, hv⟩ := hv
        refine va_iast hx hb hK hP hD hS 1 0 rfl rfl hin d_SO_sortByTails_67 (fun H locs hP hD hS => ?_)
        have hP : va_P (dC, dI) classes [(h_t, .inr (2, [.ref h_byTail, .ref h_newRanks, .ref h_tally, .int z_size])), (h_byTail, .inl (cI, 16448, .inl (upd z_byTail x3.toNatClampNeg ((z_p2 x4.toNatClampNeg) - a_p1)))), (h_p2, .inl (cI, n_p2, .inl z_p2))] H := hP
        have hD : va_D A [(h_t, .inr (2, [.ref h_byTail, .ref h_newRanks, .ref h_tally, .int z_size])), (h_byTail, .inl (cI, 16448, .inl (upd z_byTail x3.toNatClampNeg ((z_p2 x4.toNatClampNeg) - a_p1)))), (h_p2, .inl (cI, n_p2, .inl z_p2))] := hD
        refine lv_iinc (v := x3 + 1) (lv' := [(3, .int (x3 + 1)), (0, .ref h_t), (1, .int a_p1), (2, .ref h_p2), (4, .int x4)]) hx hb d_SO_sortByTails_68 hl (k := 3) rfl (iinc_v (by decide)) (by decide) rfl (fun ls hl => ?_)
        exact wk_SO_sortByTails_71 F hr hlk hK hA ih (x3 + 1) x4 (upd z_byTail x3.toNatClampNeg ((z_p2 x4.toNatClampNeg) - a_p1)) hv _ _ _ hP hD hS (lv_sub hl [1, 2, 3, 0, 4] rfl)

set_option maxHeartbeats 4000000 in
set_option maxRecDepth 100000 in
theorem wk_SO_sortByTails_10 {p : Program} {l : Launch} {e : Env} {s : State} {m : MethodId} {below : List Frame} {meth : Method} {c : Code} {A : Nat → Prop} {dC : Nat → ClassId} {dI : Nat → Nat → Nat} {cI cJ cB cZ : ClassId} {h_t : Nat} {h_byTail : Nat} {h_newRanks : Nat} {h_tally : Nat} {h_p2 : Nat} {a_p1 : Int32} {n_p2 : Nat} {z_size : Int32} {z_p2 : Nat → Int32} {post : (Nat → Int32) → Prop} (F : CallFix p m c b_SO_sortByTails 5 s ([.ref h_t, .int a_p1, .ref h_p2] : List Value).toArray WT "SuffixIndex$Sorter") (hr : meth.sig.returnType = none) (hlk : meth.locks = false) (hK : va_K (dC, dI) classes (TYS cI cJ cB cZ) s) (hA : ∀ q, s.heap.size ≤ q → A q) : ∀ (k : Nat) (x3 : Int32) (x4 : Int32) (z_byTail : Nat → Int32), vc_SO_sortByTails_10 a_p1 n_p2 z_size z_p2 post k x3 x4 z_byTail → ∀ (H : Heap) (locs : List Loc) (ls : Array Slot), va_P (dC, dI) classes [(h_t, .inr (2, [.ref h_byTail, .ref h_newRanks, .ref h_tally, .int z_size])), (h_byTail, .inl (cI, 16448, .inl z_byTail)), (h_p2, .inl (cI, n_p2, .inl z_p2))] H → va_D A [(h_t, .inr (2, [.ref h_byTail, .ref h_newRanks, .ref h_tally, .int z_size])), (h_byTail, .inl (cI, 16448, .inl z_byTail)), (h_p2, .inl (cI, n_p2, .inl z_p2))] → va_S A s.heap H locs → lv_has ls 5 [(0, .ref h_t), (1, .int a_p1), (2, .ref h_p2), (3, .int x3), (4, .int x4)] → W p l e rm_SO_sortByTails s m ([.ref h_t, .int a_p1, .ref h_p2] : List Value).toArray below meth c H locs 0 0 (MQ below (va_Qv (fun u : (Nat → Int32) => post u) (fun u t => cAft (dC, dI) classes (TYS cI cJ cB cZ) A [(h_t, .inr (2, [.ref h_byTail, .ref h_newRanks, .ref h_tally, .int z_size])), (h_byTail, .inl (cI, 16448, .inl u)), (h_p2, .inl (cI, n_p2, .inl z_p2))] t) A) ([.ref h_t, .int a_p1, .ref h_p2] : List Value).toArray s 0 0 A) (F0 m 10 ls []) := by
  obtain ⟨hx, hb, hml, hown, hw⟩ := id F
  intro k
  induction k with
  | zero =>
    intro x3 x4 z_byTail hv
    exact False.elim hv
  | succ k ih =>
    intro x3 x4 z_byTail hv H locs ls hP hD hS hl
    refine lv_iload hx hb d_SO_sortByTails_10 (lv_at hl 4 rfl) ?_
    refine lv_aload_n hx hb d_SO_sortByTails_12 rfl (lv_at hl 0 rfl) ?_
    refine va_get (D := (dC, dI)) (ci := 2) (v := .int z_size) (C := "SuffixIndex$Sorter") (T := F_SO) (N := 4) hx hb hw i_SO hown hK hP 0 rfl rfl 3 (by decide) (hw _ m_107) (fun _ h9 => h9) rfl d_SO_sortByTails_13 ?_
    obtain ⟨hvt, hvf⟩ := hv
    refine lv_icmp_ge (tgt := 36) hx hb d_SO_sortByTails_16 (by decide) (fun c3 => ?_) (fun c3 => ?_)
    · have hv := hvt c3
      refine lv_iconst (v := 0) hx hb d_SO_sortByTails_36 (by decide) ?_
      refine lv_istore (lv' := [(4, .int 0), (0, .ref h_t), (1, .int a_p1), (2, .ref h_p2), (3, .int x3)]) hx hb d_SO_sortByTails_37 hl (by decide) rfl (fun ls hl => ?_)
      obtain ⟨j, hv⟩ := hv
      exact wk_SO_sortByTails_39 F hr hlk hK hA j x3 0 z_byTail hv _ _ _ hP hD hS (lv_sub hl [1, 2, 3, 4, 0] rfl)
    · have hv := hvf c3
      refine lv_aload_n hx hb d_SO_sortByTails_19 rfl (lv_at hl 0 rfl) ?_
      refine va_get (D := (dC, dI)) (ci := 2) (v := .ref h_byTail) (C := "SuffixIndex$Sorter") (T := F_SO) (N := 4) hx hb hw i_SO hown hK hP 0 rfl rfl 0 (by decide) (hw _ m_104) (fun _ h9 => h9) rfl d_SO_sortByTails_20 ?_
      refine lv_iload_n hx hb d_SO_sortByTails_23 rfl (lv_at hl 3 rfl) ?_
      refine lv_iload hx hb d_SO_sortByTails_24 (lv_at hl 4 rfl) ?_
      obtain ⟨hin, hv⟩ := hv
      refine va_iast hx hb hK hP hD hS 1 0 rfl rfl hin d_SO_sortByTails_26 (fun H locs hP hD hS => ?_)
      have hP : va_P (dC, dI) classes [(h_t, .inr (2, [.ref h_byTail, .ref h_newRanks, .ref h_tally, .int z_size])), (h_byTail, .inl (cI, 16448, .inl (upd z_byTail x3.toNatClampNeg x4))), (h_p2, .inl (cI, n_p2, .inl z_p2))] H := hP
      have hD : va_D A [(h_t, .inr (2, [.ref h_byTail, .ref h_newRanks, .ref h_tally, .int z_size])), (h_byTail, .inl (cI, 16448, .inl (upd z_byTail x3.toNatClampNeg x4))), (h_p2, .inl (cI, n_p2, .inl z_p2))] := hD
      refine lv_iinc (v := x3 + 1) (lv' := [(3, .int (x3 + 1)), (0, .ref h_t), (1, .int a_p1), (2, .ref h_p2), (4, .int x4)]) hx hb d_SO_sortByTails_27 hl (k := 3) rfl (iinc_v (by decide)) (by decide) rfl (fun ls hl => ?_)
      refine lv_iinc (v := x4 + 1) (lv' := [(4, .int (x4 + 1)), (3, .int (x3 + 1)), (0, .ref h_t), (1, .int a_p1), (2, .ref h_p2)]) hx hb d_SO_sortByTails_30 hl (k := 4) rfl (iinc_v (by decide)) (by decide) rfl (fun ls hl => ?_)
      refine lv_goto (tgt := 10) hx hb d_SO_sortByTails_33 (by decide) ?_
      exact ih (x3 + 1) (x4 + 1) (upd z_byTail x3.toNatClampNeg x4) hv _ _ _ hP hD hS (lv_sub hl [2, 3, 4, 1, 0] rfl)

set_option maxHeartbeats 4000000 in
set_option maxRecDepth 100000 in
theorem c_SO_sortByTails (l : Launch) (dC : Nat → ClassId) (dI : Nat → Nat → Nat) (cI cJ cB cZ : ClassId) (h_t : Nat) (h_byTail : Nat) (h_newRanks : Nat) (h_tally : Nat) (h_p2 : Nat) (n_p2 : Nat) (sz : Nat) (z_size : Int32) (z_byTail : Nat → Int32) (z_p2 : Nat → Int32) (a_p1 : Int32) (post : (Nat → Int32) → Prop) (hv : vc_SO_sortByTails a_p1 n_p2 z_size z_p2 post z_byTail) : Met l y_SO_sortByTails (Cond.code y_SO_sortByTails b_SO_sortByTails 5 none :: WT) rm_SO_sortByTails (cPre (dC, dI) classes (TYS cI cJ cB cZ) [(h_t, .inr (2, [.ref h_byTail, .ref h_newRanks, .ref h_tally, .int z_size])), (h_byTail, .inl (cI, 16448, .inl z_byTail)), (h_p2, .inl (cI, n_p2, .inl z_p2))] sz [.ref h_t, .int a_p1, .ref h_p2]) (va_Qv (fun u : (Nat → Int32) => post u) (fun u t => cAft (dC, dI) classes (TYS cI cJ cB cZ) (va_A [(h_t, .inr (2, [.ref h_byTail, .ref h_newRanks, .ref h_tally, .int z_size])), (h_byTail, .inl (cI, 16448, .inl z_byTail)), (h_p2, .inl (cI, n_p2, .inl z_p2))] sz) [(h_t, .inr (2, [.ref h_byTail, .ref h_newRanks, .ref h_tally, .int z_size])), (h_byTail, .inl (cI, 16448, .inl u)), (h_p2, .inl (cI, n_p2, .inl z_p2))] t) (va_A [(h_t, .inr (2, [.ref h_byTail, .ref h_newRanks, .ref h_tally, .int z_size])), (h_byTail, .inl (cI, 16448, .inl z_byTail)), (h_p2, .inl (cI, n_p2, .inl z_p2))] sz)) 0 0 (va_A [(h_t, .inr (2, [.ref h_byTail, .ref h_newRanks, .ref h_tally, .int z_size])), (h_byTail, .inl (cI, 16448, .inl z_byTail)), (h_p2, .inl (cI, n_p2, .inl z_p2))] sz) := by
  refine Met.ofW (cc := b_SO_sortByTails) (maxL := 5) (ret := none) (by decide) rfl ?_
  intro p e s m args below meth c s₁ B hml hq
  obtain ⟨rfl, hsz, hP, hK, hD0⟩ := hq
  have hts := atoms_spec (ws := Cond.code y_SO_sortByTails b_SO_sortByTails 5 none :: WT) B.pre
  have hw : ∀ w ∈ WT, w.before ([.ref h_t, .int a_p1, .ref h_p2] : List Value).toArray s = true := fun w h => hts w (List.mem_cons_of_mem _ h)
  have hx := B.exec
  have hb := B.bytes
  have hr := B.returns
  have hlk := B.notSynchronized
  have hown : s.vm.findClass "SuffixIndex$Sorter" = some m.cls := findClass_of_methodNamed B.named
  have F : CallFix p m c b_SO_sortByTails 5 s ([.ref h_t, .int a_p1, .ref h_p2] : List Value).toArray WT "SuffixIndex$Sorter" := ⟨hx, hb, hml, hown, hw⟩
  subst hsz
  have hD := hD0.self (sz := s.heap.size)
  generalize hAe : va_A [(h_t, .inr (2, [.ref h_byTail, .ref h_newRanks, .ref h_tally, .int z_size])), (h_byTail, .inl (cI, 16448, .inl z_byTail)), (h_p2, .inl (cI, n_p2, .inl z_p2))] s.heap.size = A at hD ⊢
  have hA : ∀ q : Nat, s.heap.size ≤ q → A q := fun q h => by rw [← hAe]; exact Or.inr h
  have hS : va_S A s.heap s.heap [] := va_S.rf
  have hl := lv_entry ([.ref h_t, .int a_p1, .ref h_p2]) (n := 5) (Nat.le_of_ble_eq_true rfl)
  rw [lg_entry_eq]
  generalize (lg_sl ([.ref h_t, .int a_p1, .ref h_p2]) ++ List.replicate (5 - (lg_sl ([.ref h_t, .int a_p1, .ref h_p2])).length) Slot.unset).toArray = ls at hl ⊢
  have hl : lv_has ls 5 [(0, .ref h_t), (1, .int a_p1), (2, .ref h_p2)] := hl
  show W p l e rm_SO_sortByTails s m _ below meth c s.heap [] 0 0 _ _
  have hP : va_P (dC, dI) classes [(h_t, .inr (2, [.ref h_byTail, .ref h_newRanks, .ref h_tally, .int z_size])), (h_byTail, .inl (cI, 16448, .inl z_byTail)), (h_p2, .inl (cI, n_p2, .inl z_p2))] s.heap := hP
  obtain ⟨H, hHe⟩ : ∃ H, H = s.heap := ⟨_, rfl⟩
  have hS : va_S A s.heap H [] := by rw [hHe]; exact hS
  rw [← hHe] at hP
  suffices hgoal : W p l e rm_SO_sortByTails s m ([.ref h_t, .int a_p1, .ref h_p2] : List Value).toArray below meth c H [] 0 0 (MQ below (va_Qv (fun u : (Nat → Int32) => post u) (fun u t => cAft (dC, dI) classes (TYS cI cJ cB cZ) A [(h_t, .inr (2, [.ref h_byTail, .ref h_newRanks, .ref h_tally, .int z_size])), (h_byTail, .inl (cI, 16448, .inl u)), (h_p2, .inl (cI, n_p2, .inl z_p2))] t) A) ([.ref h_t, .int a_p1, .ref h_p2] : List Value).toArray s 0 0 A) (F0 m 0 ls []) by rw [hHe] at hgoal; exact hgoal
  refine lv_iconst (v := 0) hx hb d_SO_sortByTails_0 (by decide) ?_
  refine lv_istore_n (lv' := [(3, .int 0), (0, .ref h_t), (1, .int a_p1), (2, .ref h_p2)]) hx hb d_SO_sortByTails_1 rfl hl (by decide) rfl (fun ls hl => ?_)
  refine lv_aload_n hx hb d_SO_sortByTails_2 rfl (lv_at hl 1 rfl) ?_
  refine va_get (D := (dC, dI)) (ci := 2) (v := .int z_size) (C := "SuffixIndex$Sorter") (T := F_SO) (N := 4) hx hb hw i_SO hown hK hP 0 rfl rfl 3 (by decide) (hw _ m_107) (fun _ h9 => h9) rfl d_SO_sortByTails_3 ?_
  refine lv_iload_n hx hb d_SO_sortByTails_6 rfl (lv_at hl 2 rfl) ?_
  refine lv_isub hx hb d_SO_sortByTails_7 ?_
  refine lv_istore (lv' := [(4, .int (z_size - a_p1)), (3, .int 0), (0, .ref h_t), (1, .int a_p1), (2, .ref h_p2)]) hx hb d_SO_sortByTails_8 hl (by decide) rfl (fun ls hl => ?_)
  obtain ⟨j, hv⟩ := hv
  exact wk_SO_sortByTails_10 F hr hlk hK hA j 0 (z_size - a_p1) z_byTail hv _ _ _ hP hD hS (lv_sub hl [2, 3, 4, 1, 0] rfl)

set_option maxHeartbeats 4000000 in
set_option maxRecDepth 100000 in
theorem wk_SO_sort_67 {p : Program} {l : Launch} {e : Env} {s : State} {m : MethodId} {below : List Frame} {meth : Method} {c : Code} {A : Nat → Prop} {dC : Nat → ClassId} {dI : Nat → Nat → Nat} {cI cJ cB cZ : ClassId} {h_t : Nat} {h_byTail : Nat} {h_newRanks : Nat} {h_tally : Nat} {h_p1 : Nat} {h_p3 : Nat} {h_p4 : Nat} {a_p2 : Int32} {n_p1 : Nat} {n_p3 : Nat} {n_p4 : Nat} {z_p1 : Nat → Int32} {post : Int32 → (Nat → Int32) → (Nat → Int32) → (Nat → Int32) → (Nat → Int32) → (Nat → Int32) → Prop} (F : CallFix p m c b_SO_sort 7 s ([.ref h_t, .ref h_p1, .int a_p2, .ref h_p3, .ref h_p4] : List Value).toArray WT "SuffixIndex$Sorter") (hr : meth.sig.returnType = none) (hlk : meth.locks = false) (hK : va_K (dC, dI) classes (TYS cI cJ cB cZ) s) (hA : ∀ q, s.heap.size ≤ q → A q) : ∀ (k : Nat) (x5 : Int32) (x6 : Int32) (z_size : Int32) (z_byTail : Nat → Int32) (z_newRanks : Nat → Int32) (z_tally : Nat → Int32) (z_p3 : Nat → Int32) (z_p4 : Nat → Int32), vc_SO_sort_67 a_p2 n_p1 n_p3 n_p4 z_p1 post k x5 x6 z_size z_byTail z_newRanks z_tally z_p3 z_p4 → ∀ (H : Heap) (locs : List Loc) (ls : Array Slot), va_P (dC, dI) classes [(h_t, .inr (2, [.ref h_byTail, .ref h_newRanks, .ref h_tally, .int z_size])), (h_byTail, .inl (cI, 16448, .inl z_byTail)), (h_newRanks, .inl (cI, 16448, .inl z_newRanks)), (h_tally, .inl (cI, 16448, .inl z_tally)), (h_p1, .inl (cI, n_p1, .inl z_p1)), (h_p3, .inl (cI, n_p3, .inl z_p3)), (h_p4, .inl (cI, n_p4, .inl z_p4))] H → va_D A [(h_t, .inr (2, [.ref h_byTail, .ref h_newRanks, .ref h_tally, .int z_size])), (h_byTail, .inl (cI, 16448, .inl z_byTail)), (h_newRanks, .inl (cI, 16448, .inl z_newRanks)), (h_tally, .inl (cI, 16448, .inl z_tally)), (h_p1, .inl (cI, n_p1, .inl z_p1)), (h_p3, .inl (cI, n_p3, .inl z_p3)), (h_p4, .inl (cI, n_p4, .inl z_p4))] → va_S A s.heap H locs → lv_has ls 7 [(0, .ref h_t), (3, .ref h_p3), (4, .ref h_p4), (5, .int x5), (6, .int x6)] → W p l e rm_SO_sort s m ([.ref h_t, .ref h_p1, .int a_p2, .ref h_p3, .ref h_p4] : List Value).toArray below meth c H locs 0 0 (MQ below (va_Qv (fun u : Int32 × (Nat → Int32) × (Nat → Int32) × (Nat → Int32) × (Nat → Int32) × (Nat → Int32) => post u.1 u.2.1 u.2.2.1 u.2.2.2.1 u.2.2.2.2.1 u.2.2.2.2.2) (fun u t => cAft (dC, dI) classes (TYS cI cJ cB cZ) A [(h_t, .inr (2, [.ref h_byTail, .ref h_newRanks, .ref h_tally, .int u.1])), (h_byTail, .inl (cI, 16448, .inl u.2.1)), (h_newRanks, .inl (cI, 16448, .inl u.2.2.1)), (h_tally, .inl (cI, 16448, .inl u.2.2.2.1)), (h_p1, .inl (cI, n_p1, .inl z_p1)), (h_p3, .inl (cI, n_p3, .inl u.2.2.2.2.1)), (h_p4, .inl (cI, n_p4, .inl u.2.2.2.2.2))] t) A) ([.ref h_t, .ref h_p1, .int a_p2, .ref h_p3, .ref h_p4] : List Value).toArray s 0 0 A) (F0 m 67 ls []) := by
  obtain ⟨hx, hb, hml, hown, hw⟩ := id F
  intro k
  induction k with
  | zero =>
    intro x5 x6 z_size z_byTail z_newRanks z_tally z_p3 z_p4 hv
    exact False.elim hv
  | succ k ih =>
    intro x5 x6 z_size z_byTail z_newRanks z_tally z_p3 z_p4 hv H locs ls hP hD hS hl
    refine lv_iload hx hb d_SO_sort_67 (lv_at hl 4 rfl) ?_
    refine lv_aload_n hx hb d_SO_sort_69 rfl (lv_at hl 0 rfl) ?_
    refine va_get (D := (dC, dI)) (ci := 2) (v := .int z_size) (C := "SuffixIndex$Sorter") (T := F_SO) (N := 4) hx hb hw i_SO hown hK hP 0 rfl rfl 3 (by decide) (hw _ m_107) (fun _ h9 => h9) rfl d_SO_sort_70 ?_
    obtain ⟨hvt, hvf⟩ := hv
    refine lv_icmp_ge (tgt := 121) hx hb d_SO_sort_73 (by decide) (fun c1 => ?_) (fun c1 => ?_)
    · have hv := hvt c1
      exact W.vret hx hb hr (fun t ht hW => ⟨⟨(z_size, z_byTail, z_newRanks, z_tally, z_p3, z_p4), rfl, hv, by rw [ht]; exact hP, va_K.moved hW.alike hK, hD⟩, hS.F ht⟩) hS.2.2 d_SO_sort_121
    · have hv := hvf c1
      refine lv_iload hx hb d_SO_sort_76 (lv_at hl 3 rfl) ?_
      refine lv_aload_n hx hb d_SO_sort_78 rfl (lv_at hl 0 rfl) ?_
      refine va_get (D := (dC, dI)) (ci := 2) (v := .int z_size) (C := "SuffixIndex$Sorter") (T := F_SO) (N := 4) hx hb hw i_SO hown hK hP 0 rfl rfl 3 (by decide) (hw _ m_107) (fun _ h9 => h9) rfl d_SO_sort_79 ?_
      obtain ⟨hvt, hvf⟩ := hv
      refine lv_icmp_ge (tgt := 121) hx hb d_SO_sort_82 (by decide) (fun c2 => ?_) (fun c2 => ?_)
      · have hv := hvt c2
        exact W.vret hx hb hr (fun t ht hW => ⟨⟨(z_size, z_byTail, z_newRanks, z_tally, z_p3, z_p4), rfl, hv, by rw [ht]; exact hP, va_K.moved hW.alike hK, hD⟩, hS.F ht⟩) hS.2.2 d_SO_sort_121
      · have hv := hvf c2
        refine lv_aload_n hx hb d_SO_sort_85 rfl (lv_at hl 0 rfl) ?_
        refine lv_iload hx hb d_SO_sort_86 (lv_at hl 4 rfl) ?_
        refine lv_aload_n hx hb d_SO_sort_88 rfl (lv_at hl 1 rfl) ?_
        refine cV_v (wr := [(h_newRanks, .inl (cI, 16448, .inl z_newRanks)), (h_tally, .inl (cI, 16448, .inl z_tally)), (h_p1, .inl (cI, n_p1, .inl z_p1)), (h_p4, .inl (cI, n_p4, .inl z_p4))]) (rest := []) (c_SO_sortByTails l dC dI cI cJ cB cZ h_t h_byTail h_newRanks h_tally h_p3 n_p3 H.size z_size z_byTail z_p3 x6 _ hv) F (cw_V (fun _ h => h) 2 hw m_665 m_667 ms_5 m_5 m_668 rfl rfl (by decide +kernel) ⟨by decide, by decide⟩) hK hP hD hS hA [0, 1, 5] [2, 3, 4, 6] rfl rfl rfl rfl (by decide) 0 2 rfl rfl rfl hl.1 rfl (Nat.le_of_ble_eq_true rfl) d_SO_sort_89 ⟨Nat.le_of_ble_eq_true rfl, Nat.le_of_ble_eq_true rfl⟩ (fun u H locs hv hP hD hS => ?_)
        obtain ⟨u3_0, rfl⟩ : ∃ z, z = u := ⟨_, rfl⟩
        have hP : va_P (dC, dI) classes [(h_t, .inr (2, [.ref h_byTail, .ref h_newRanks, .ref h_tally, .int z_size])), (h_byTail, .inl (cI, 16448, .inl u3_0)), (h_newRanks, .inl (cI, 16448, .inl z_newRanks)), (h_tally, .inl (cI, 16448, .inl z_tally)), (h_p1, .inl (cI, n_p1, .inl z_p1)), (h_p3, .inl (cI, n_p3, .inl z_p3)), (h_p4, .inl (cI, n_p4, .inl z_p4))] H := P_sub hP [4, 5, 0, 1, 2, 6, 3] rfl
        have hD : va_D A [(h_t, .inr (2, [.ref h_byTail, .ref h_newRanks, .ref h_tally, .int z_size])), (h_byTail, .inl (cI, 16448, .inl u3_0)), (h_newRanks, .inl (cI, 16448, .inl z_newRanks)), (h_tally, .inl (cI, 16448, .inl z_tally)), (h_p1, .inl (cI, n_p1, .inl z_p1)), (h_p3, .inl (cI, n_p3, .inl z_p3)), (h_p4, .inl (cI, n_p4, .inl z_p4))] := hD.sub [4, 5, 0, 1, 2, 6, 3] rfl rfl
        refine lv_aload_n hx hb d_SO_sort_92 rfl (lv_at hl 0 rfl) ?_
        refine lv_iload hx hb d_SO_sort_93 (lv_at hl 3 rfl) ?_
        refine lv_aload_n hx hb d_SO_sort_95 rfl (lv_at hl 1 rfl) ?_
        refine lv_aload hx hb d_SO_sort_96 (lv_at hl 2 rfl) ?_
        refine cV_v (wr := [(h_newRanks, .inl (cI, 16448, .inl z_newRanks)), (h_p1, .inl (cI, n_p1, .inl z_p1))]) (rest := []) (c_SO_sortByRanks l dC dI cI cJ cB cZ h_t h_byTail h_newRanks h_tally h_p3 h_p4 n_p3 n_p4 H.size z_size u3_0 z_tally z_p3 z_p4 x5 _ hv) F (cw_V (fun _ h => h) 3 hw m_315 m_317 ms_1 m_5 m_318 rfl rfl (by decide +kernel) ⟨by decide, by decide⟩) hK hP hD hS hA [0, 1, 3, 5, 6] [2, 4] rfl rfl rfl rfl (by decide) 0 2 rfl rfl rfl hl.1 rfl (Nat.le_of_ble_eq_true rfl) d_SO_sort_98 ⟨Nat.le_of_ble_eq_true rfl, Nat.le_of_ble_eq_true rfl⟩ (fun u H locs hv hP hD hS => ?_)
        obtain ⟨u4_0, u4_1⟩ := u
        have hP : va_P (dC, dI) classes [(h_t, .inr (2, [.ref h_byTail, .ref h_newRanks, .ref h_tally, .int z_size])), (h_byTail, .inl (cI, 16448, .inl u3_0)), (h_newRanks, .inl (cI, 16448, .inl z_newRanks)), (h_tally, .inl (cI, 16448, .inl u4_0)), (h_p1, .inl (cI, n_p1, .inl z_p1)), (h_p3, .inl (cI, n_p3, .inl u4_1)), (h_p4, .inl (cI, n_p4, .inl z_p4))] H := P_sub hP [2, 3, 0, 4, 1, 5, 6] rfl
        have hD : va_D A [(h_t, .inr (2, [.ref h_byTail, .ref h_newRanks, .ref h_tally, .int z_size])), (h_byTail, .inl (cI, 16448, .inl u3_0)), (h_newRanks, .inl (cI, 16448, .inl z_newRanks)), (h_tally, .inl (cI, 16448, .inl u4_0)), (h_p1, .inl (cI, n_p1, .inl z_p1)), (h_p3, .inl (cI, n_p3, .inl u4_1)), (h_p4, .inl (cI, n_p4, .inl z_p4))] := hD.sub [2, 3, 0, 4, 1, 5, 6] rfl rfl
        refine lv_aload_n hx hb d_SO_sort_101 rfl (lv_at hl 0 rfl) ?_
        refine lv_iload hx hb d_SO_sort_102 (lv_at hl 4 rfl) ?_
        refine lv_aload_n hx hb d_SO_sort_104 rfl (lv_at hl 1 rfl) ?_
        refine lv_aload hx hb d_SO_sort_105 (lv_at hl 2 rfl) ?_
        refine cV_i (wr := [(h_byTail, .inl (cI, 16448, .inl u3_0)), (h_tally, .inl (cI, 16448, .inl u4_0)), (h_p1, .inl (cI, n_p1, .inl z_p1))]) (rest := []) (c_SO_rankAnew l dC dI cI cJ cB cZ h_t h_byTail h_newRanks h_tally h_p3 h_p4 n_p3 n_p4 H.size z_size z_newRanks u4_1 z_p4 x6 _ hv) F (cw_V (fun _ h => h) 3 hw m_656 m_658 ms_3 m_5 m_659 rfl rfl (by decide +kernel) ⟨by decide, by decide⟩) hK hP hD hS hA [0, 2, 5, 6] [1, 3, 4] rfl rfl rfl rfl (by decide) 0 2 rfl rfl rfl hl.1 rfl (Nat.le_of_ble_eq_true rfl) d_SO_sort_107 ⟨Nat.le_of_ble_eq_true rfl, Nat.le_of_ble_eq_true rfl⟩ (fun r5 u H locs hv hP hD hS => ?_)
        obtain ⟨u5_0, u5_1⟩ := u
        have hP : va_P (dC, dI) classes [(h_t, .inr (2, [.ref h_byTail, .ref h_newRanks, .ref h_tally, .int z_size])), (h_byTail, .inl (cI, 16448, .inl u3_0)), (h_newRanks, .inl (cI, 16448, .inl u5_0)), (h_tally, .inl (cI, 16448, .inl u4_0)), (h_p1, .inl (cI, n_p1, .inl z_p1)), (h_p3, .inl (cI, n_p3, .inl u4_1)), (h_p4, .inl (cI, n_p4, .inl u5_1))] H := P_sub hP [3, 0, 4, 1, 2, 5, 6] rfl
        have hD : va_D A [(h_t, .inr (2, [.ref h_byTail, .ref h_newRanks, .ref h_tally, .int z_size])), (h_byTail, .inl (cI, 16448, .inl u3_0)), (h_newRanks, .inl (cI, 16448, .inl u5_0)), (h_tally, .inl (cI, 16448, .inl u4_0)), (h_p1, .inl (cI, n_p1, .inl z_p1)), (h_p3, .inl (cI, n_p3, .inl u4_1)), (h_p4, .inl (cI, n_p4, .inl u5_1))] := hD.sub [3, 0, 4, 1, 2, 5, 6] rfl rfl
        refine lv_istore (lv' := [(5, .int r5), (0, .ref h_t), (3, .ref h_p3), (4, .ref h_p4), (6, .int x6)]) hx hb d_SO_sort_110 hl (by decide) rfl (fun ls hl => ?_)
        refine lv_iload hx hb d_SO_sort_112 (lv_at hl 4 rfl) ?_
        refine lv_iconst (v := 2) hx hb d_SO_sort_114 (by decide) ?_
        refine lv_imul hx hb d_SO_sort_115 ?_
        refine lv_istore (lv' := [(6, .int (x6 * 2)), (5, .int r5), (0, .ref h_t), (3, .ref h_p3), (4, .ref h_p4)]) hx hb d_SO_sort_116 hl (by decide) rfl (fun ls hl => ?_)
        refine lv_goto (tgt := 67) hx hb d_SO_sort_118 (by decide) ?_
        exact ih r5 (x6 * 2) z_size u3_0 u5_0 u4_0 u4_1 u5_1 hv _ _ _ hP hD hS (lv_sub hl [2, 3, 4, 1, 0] rfl)

set_option maxHeartbeats 4000000 in
set_option maxRecDepth 100000 in
theorem wk_SO_sort_8 {p : Program} {l : Launch} {e : Env} {s : State} {m : MethodId} {below : List Frame} {meth : Method} {c : Code} {A : Nat → Prop} {dC : Nat → ClassId} {dI : Nat → Nat → Nat} {cI cJ cB cZ : ClassId} {h_t : Nat} {h_byTail : Nat} {h_newRanks : Nat} {h_tally : Nat} {h_p1 : Nat} {h_p3 : Nat} {h_p4 : Nat} {a_p2 : Int32} {n_p1 : Nat} {n_p3 : Nat} {n_p4 : Nat} {z_p1 : Nat → Int32} {post : Int32 → (Nat → Int32) → (Nat → Int32) → (Nat → Int32) → (Nat → Int32) → (Nat → Int32) → Prop} (F : CallFix p m c b_SO_sort 7 s ([.ref h_t, .ref h_p1, .int a_p2, .ref h_p3, .ref h_p4] : List Value).toArray WT "SuffixIndex$Sorter") (hr : meth.sig.returnType = none) (hlk : meth.locks = false) (hK : va_K (dC, dI) classes (TYS cI cJ cB cZ) s) (hA : ∀ q, s.heap.size ≤ q → A q) : ∀ (k : Nat) (x5 : Int32) (z_size : Int32) (z_byTail : Nat → Int32) (z_newRanks : Nat → Int32) (z_tally : Nat → Int32) (z_p3 : Nat → Int32) (z_p4 : Nat → Int32), vc_SO_sort_8 a_p2 n_p1 n_p3 n_p4 z_p1 post k x5 z_size z_byTail z_newRanks z_tally z_p3 z_p4 → ∀ (H : Heap) (locs : List Loc) (ls : Array Slot), va_P (dC, dI) classes [(h_t, .inr (2, [.ref h_byTail, .ref h_newRanks, .ref h_tally, .int z_size])), (h_byTail, .inl (cI, 16448, .inl z_byTail)), (h_newRanks, .inl (cI, 16448, .inl z_newRanks)), (h_tally, .inl (cI, 16448, .inl z_tally)), (h_p1, .inl (cI, n_p1, .inl z_p1)), (h_p3, .inl (cI, n_p3, .inl z_p3)), (h_p4, .inl (cI, n_p4, .inl z_p4))] H → va_D A [(h_t, .inr (2, [.ref h_byTail, .ref h_newRanks, .ref h_tally, .int z_size])), (h_byTail, .inl (cI, 16448, .inl z_byTail)), (h_newRanks, .inl (cI, 16448, .inl z_newRanks)), (h_tally, .inl (cI, 16448, .inl z_tally)), (h_p1, .inl (cI, n_p1, .inl z_p1)), (h_p3, .inl (cI, n_p3, .inl z_p3)), (h_p4, .inl (cI, n_p4, .inl z_p4))] → va_S A s.heap H locs → lv_has ls 7 [(0, .ref h_t), (1, .ref h_p1), (3, .ref h_p3), (4, .ref h_p4), (5, .int x5)] → W p l e rm_SO_sort s m ([.ref h_t, .ref h_p1, .int a_p2, .ref h_p3, .ref h_p4] : List Value).toArray below meth c H locs 0 0 (MQ below (va_Qv (fun u : Int32 × (Nat → Int32) × (Nat → Int32) × (Nat → Int32) × (Nat → Int32) × (Nat → Int32) => post u.1 u.2.1 u.2.2.1 u.2.2.2.1 u.2.2.2.2.1 u.2.2.2.2.2) (fun u t => cAft (dC, dI) classes (TYS cI cJ cB cZ) A [(h_t, .inr (2, [.ref h_byTail, .ref h_newRanks, .ref h_tally, .int u.1])), (h_byTail, .inl (cI, 16448, .inl u.2.1)), (h_newRanks, .inl (cI, 16448, .inl u.2.2.1)), (h_tally, .inl (cI, 16448, .inl u.2.2.2.1)), (h_p1, .inl (cI, n_p1, .inl z_p1)), (h_p3, .inl (cI, n_p3, .inl u.2.2.2.2.1)), (h_p4, .inl (cI, n_p4, .inl u.2.2.2.2.2))] t) A) ([.ref h_t, .ref h_p1, .int a_p2, .ref h_p3, .ref h_p4] : List Value).toArray s 0 0 A) (F0 m 8 ls []) := by
  obtain ⟨hx, hb, hml, hown, hw⟩ := id F
  intro k
  induction k with
  | zero =>
    intro x5 z_size z_byTail z_newRanks z_tally z_p3 z_p4 hv
    exact False.elim hv
  | succ k ih =>
    intro x5 z_size z_byTail z_newRanks z_tally z_p3 z_p4 hv H locs ls hP hD hS hl
    refine lv_iload hx hb d_SO_sort_8 (lv_at hl 4 rfl) ?_
    refine lv_aload_n hx hb d_SO_sort_10 rfl (lv_at hl 0 rfl) ?_
    refine va_get (D := (dC, dI)) (ci := 2) (v := .int z_size) (C := "SuffixIndex$Sorter") (T := F_SO) (N := 4) hx hb hw i_SO hown hK hP 0 rfl rfl 3 (by decide) (hw _ m_107) (fun _ h9 => h9) rfl d_SO_sort_11 ?_
    obtain ⟨hvt, hvf⟩ := hv
    refine lv_icmp_ge (tgt := 44) hx hb d_SO_sort_14 (by decide) (fun c6 => ?_) (fun c6 => ?_)
    · have hv := hvt c6
      refine lv_aload_n hx hb d_SO_sort_44 rfl (lv_at hl 0 rfl) ?_
      refine lv_sipush (v := 320) hx hb d_SO_sort_45 (by decide) ?_
      refine lv_aload_n hx hb d_SO_sort_48 rfl (lv_at hl 2 rfl) ?_
      refine lv_aload hx hb d_SO_sort_49 (lv_at hl 3 rfl) ?_
      refine cV_v (wr := [(h_newRanks, .inl (cI, 16448, .inl z_newRanks)), (h_p1, .inl (cI, n_p1, .inl z_p1))]) (rest := []) (c_SO_sortByRanks l dC dI cI cJ cB cZ h_t h_byTail h_newRanks h_tally h_p3 h_p4 n_p3 n_p4 H.size z_size z_byTail z_tally z_p3 z_p4 320 _ hv) F (cw_V (fun _ h => h) 3 hw m_315 m_317 ms_1 m_5 m_318 rfl rfl (by decide +kernel) ⟨by decide, by decide⟩) hK hP hD hS hA [0, 1, 3, 5, 6] [2, 4] rfl rfl rfl rfl (by decide) 0 2 rfl rfl rfl hl.1 rfl (Nat.le_of_ble_eq_true rfl) d_SO_sort_51 ⟨Nat.le_of_ble_eq_true rfl, Nat.le_of_ble_eq_true rfl⟩ (fun u H locs hv hP hD hS => ?_)
      obtain ⟨u7_0, u7_1⟩ := u
      have hP : va_P (dC, dI) classes [(h_t, .inr (2, [.ref h_byTail, .ref h_newRanks, .ref h_tally, .int z_size])), (h_byTail, .inl (cI, 16448, .inl z_byTail)), (h_newRanks, .inl (cI, 16448, .inl z_newRanks)), (h_tally, .inl (cI, 16448, .inl u7_0)), (h_p1, .inl (cI, n_p1, .inl z_p1)), (h_p3, .inl (cI, n_p3, .inl u7_1)), (h_p4, .inl (cI, n_p4, .inl z_p4))] H := P_sub hP [2, 3, 0, 4, 1, 5, 6] rfl
      have hD : va_D A [(h_t, .inr (2, [.ref h_byTail, .ref h_newRanks, .ref h_tally, .int z_size])), (h_byTail, .inl (cI, 16448, .inl z_byTail)), (h_newRanks, .inl (cI, 16448, .inl z_newRanks)), (h_tally, .inl (cI, 16448, .inl u7_0)), (h_p1, .inl (cI, n_p1, .inl z_p1)), (h_p3, .inl (cI, n_p3, .inl u7_1)), (h_p4, .inl (cI, n_p4, .inl z_p4))] := hD.sub [2, 3, 0, 4, 1, 5, 6] rfl rfl
      refine lv_aload_n hx hb d_SO_sort_54 rfl (lv_at hl 0 rfl) ?_
      refine lv_iconst (v := 0) hx hb d_SO_sort_55 (by decide) ?_
      refine lv_aload_n hx hb d_SO_sort_56 rfl (lv_at hl 2 rfl) ?_
      refine lv_aload hx hb d_SO_sort_57 (lv_at hl 3 rfl) ?_
      refine cV_i (wr := [(h_byTail, .inl (cI, 16448, .inl z_byTail)), (h_tally, .inl (cI, 16448, .inl u7_0)), (h_p1, .inl (cI, n_p1, .inl z_p1))]) (rest := []) (c_SO_rankAnew l dC dI cI cJ cB cZ h_t h_byTail h_newRanks h_tally h_p3 h_p4 n_p3 n_p4 H.size z_size z_newRanks u7_1 z_p4 0 _ hv) F (cw_V (fun _ h => h) 3 hw m_656 m_658 ms_3 m_5 m_659 rfl rfl (by decide +kernel) ⟨by decide, by decide⟩) hK hP hD hS hA [0, 2, 5, 6] [1, 3, 4] rfl rfl rfl rfl (by decide) 0 2 rfl rfl rfl hl.1 rfl (Nat.le_of_ble_eq_true rfl) d_SO_sort_59 ⟨Nat.le_of_ble_eq_true rfl, Nat.le_of_ble_eq_true rfl⟩ (fun r8 u H locs hv hP hD hS => ?_)
      obtain ⟨u8_0, u8_1⟩ := u
      have hP : va_P (dC, dI) classes [(h_t, .inr (2, [.ref h_byTail, .ref h_newRanks, .ref h_tally, .int z_size])), (h_byTail, .inl (cI, 16448, .inl z_byTail)), (h_newRanks, .inl (cI, 16448, .inl u8_0)), (h_tally, .inl (cI, 16448, .inl u7_0)), (h_p1, .inl (cI, n_p1, .inl z_p1)), (h_p3, .inl (cI, n_p3, .inl u7_1)), (h_p4, .inl (cI, n_p4, .inl u8_1))] H := P_sub hP [3, 0, 4, 1, 2, 5, 6] rfl
      have hD : va_D A [(h_t, .inr (2, [.ref h_byTail, .ref h_newRanks, .ref h_tally, .int z_size])), (h_byTail, .inl (cI, 16448, .inl z_byTail)), (h_newRanks, .inl (cI, 16448, .inl u8_0)), (h_tally, .inl (cI, 16448, .inl u7_0)), (h_p1, .inl (cI, n_p1, .inl z_p1)), (h_p3, .inl (cI, n_p3, .inl u7_1)), (h_p4, .inl (cI, n_p4, .inl u8_1))] := hD.sub [3, 0, 4, 1, 2, 5, 6] rfl rfl
      refine lv_istore (lv' := [(5, .int r8), (0, .ref h_t), (1, .ref h_p1), (3, .ref h_p3), (4, .ref h_p4)]) hx hb d_SO_sort_62 hl (by decide) rfl (fun ls hl => ?_)
      refine lv_iconst (v := 1) hx hb d_SO_sort_64 (by decide) ?_
      refine lv_istore (lv' := [(6, .int 1), (5, .int r8), (0, .ref h_t), (1, .ref h_p1), (3, .ref h_p3), (4, .ref h_p4)]) hx hb d_SO_sort_65 hl (by decide) rfl (fun ls hl => ?_)
      obtain ⟨j, hv⟩ := hv
      exact wk_SO_sort_67 F hr hlk hK hA j r8 1 z_size z_byTail u8_0 u7_0 u7_1 u8_1 hv _ _ _ hP hD hS (lv_sub hl [2, 4, 5, 1, 0] rfl)
    · have hv := hvf c6
      refine lv_aload hx hb d_SO_sort_17 (lv_at hl 3 rfl) ?_
      refine lv_iload hx hb d_SO_sort_19 (lv_at hl 4 rfl) ?_
      refine lv_aload_n hx hb d_SO_sort_21 rfl (lv_at hl 1 rfl) ?_
      refine lv_iload hx hb d_SO_sort_22 (lv_at hl 4 rfl) ?_
      obtain ⟨hin, hv⟩ := hv
      refine va_iald hx hb hK hP 4 0 rfl rfl hin d_SO_sort_24 ?_
      refine lv_bipush (v := 64) hx hb d_SO_sort_25 (by decide) ?_
      refine lv_iadd hx hb d_SO_sort_27 ?_
      obtain ⟨hin, hv⟩ := hv
      refine va_iast hx hb hK hP hD hS 6 0 rfl rfl hin d_SO_sort_28 (fun H locs hP hD hS => ?_)
      have hP : va_P (dC, dI) classes [(h_t, .inr (2, [.ref h_byTail, .ref h_newRanks, .ref h_tally, .int z_size])), (h_byTail, .inl (cI, 16448, .inl z_byTail)), (h_newRanks, .inl (cI, 16448, .inl z_newRanks)), (h_tally, .inl (cI, 16448, .inl z_tally)), (h_p1, .inl (cI, n_p1, .inl z_p1)), (h_p3, .inl (cI, n_p3, .inl z_p3)), (h_p4, .inl (cI, n_p4, .inl (upd z_p4 x5.toNatClampNeg ((z_p1 x5.toNatClampNeg) + 64))))] H := hP
      have hD : va_D A [(h_t, .inr (2, [.ref h_byTail, .ref h_newRanks, .ref h_tally, .int z_size])), (h_byTail, .inl (cI, 16448, .inl z_byTail)), (h_newRanks, .inl (cI, 16448, .inl z_newRanks)), (h_tally, .inl (cI, 16448, .inl z_tally)), (h_p1, .inl (cI, n_p1, .inl z_p1)), (h_p3, .inl (cI, n_p3, .inl z_p3)), (h_p4, .inl (cI, n_p4, .inl (upd z_p4 x5.toNatClampNeg ((z_p1 x5.toNatClampNeg) + 64))))] := hD
      refine lv_aload_n hx hb d_SO_sort_29 rfl (lv_at hl 0 rfl) ?_
      refine va_get (D := (dC, dI)) (ci := 2) (v := .ref h_byTail) (C := "SuffixIndex$Sorter") (T := F_SO) (N := 4) hx hb hw i_SO hown hK hP 0 rfl rfl 0 (by decide) (hw _ m_104) (fun _ h9 => h9) rfl d_SO_sort_30 ?_
      refine lv_iload hx hb d_SO_sort_33 (lv_at hl 4 rfl) ?_
      refine lv_iload hx hb d_SO_sort_35 (lv_at hl 4 rfl) ?_
      obtain ⟨hin, hv⟩ := hv
      refine va_iast hx hb hK hP hD hS 1 0 rfl rfl hin d_SO_sort_37 (fun H locs hP hD hS => ?_)
      have hP : va_P (dC, dI) classes [(h_t, .inr (2, [.ref h_byTail, .ref h_newRanks, .ref h_tally, .int z_size])), (h_byTail, .inl (cI, 16448, .inl (upd z_byTail x5.toNatClampNeg x5))), (h_newRanks, .inl (cI, 16448, .inl z_newRanks)), (h_tally, .inl (cI, 16448, .inl z_tally)), (h_p1, .inl (cI, n_p1, .inl z_p1)), (h_p3, .inl (cI, n_p3, .inl z_p3)), (h_p4, .inl (cI, n_p4, .inl (upd z_p4 x5.toNatClampNeg ((z_p1 x5.toNatClampNeg) + 64))))] H := hP
      have hD : va_D A [(h_t, .inr (2, [.ref h_byTail, .ref h_newRanks, .ref h_tally, .int z_size])), (h_byTail, .inl (cI, 16448, .inl (upd z_byTail x5.toNatClampNeg x5))), (h_newRanks, .inl (cI, 16448, .inl z_newRanks)), (h_tally, .inl (cI, 16448, .inl z_tally)), (h_p1, .inl (cI, n_p1, .inl z_p1)), (h_p3, .inl (cI, n_p3, .inl z_p3)), (h_p4, .inl (cI, n_p4, .inl (upd z_p4 x5.toNatClampNeg ((z_p1 x5.toNatClampNeg) + 64))))] := hD
      refine lv_iinc (v := x5 + 1) (lv' := [(5, .int (x5 + 1)), (0, .ref h_t), (1, .ref h_p1), (3, .ref h_p3), (4, .ref h_p4)]) hx hb d_SO_sort_38 hl (k := 4) rfl (iinc_v (by decide)) (by decide) rfl (fun ls hl => ?_)
      refine lv_goto (tgt := 8) hx hb d_SO_sort_41 (by decide) ?_
      exact ih (x5 + 1) z_size (upd z_byTail x5.toNatClampNeg x5) z_newRanks z_tally z_p3 (upd z_p4 x5.toNatClampNeg ((z_p1 x5.toNatClampNeg) + 64)) hv _ _ _ hP hD hS (lv_sub hl [1, 2, 3, 4, 0] rfl)

set_option maxHeartbeats 4000000 in
set_option maxRecDepth 100000 in
theorem c_SO_sort (l : Launch) (dC : Nat → ClassId) (dI : Nat → Nat → Nat) (cI cJ cB cZ : ClassId) (h_t : Nat) (h_byTail : Nat) (h_newRanks : Nat) (h_tally : Nat) (h_p1 : Nat) (h_p3 : Nat) (h_p4 : Nat) (n_p1 : Nat) (n_p3 : Nat) (n_p4 : Nat) (sz : Nat) (z_size : Int32) (z_byTail : Nat → Int32) (z_newRanks : Nat → Int32) (z_tally : Nat → Int32) (z_p1 : Nat → Int32) (z_p3 : Nat → Int32) (z_p4 : Nat → Int32) (a_p2 : Int32) (post : Int32 → (Nat → Int32) → (Nat → Int32) → (Nat → Int32) → (Nat → Int32) → (Nat → Int32) → Prop) (hv : vc_SO_sort a_p2 n_p1 n_p3 n_p4 z_p1 post z_size z_byTail z_newRanks z_tally z_p3 z_p4) : Met l y_SO_sort (Cond.code y_SO_sort b_SO_sort 7 none :: WT) rm_SO_sort (cPre (dC, dI) classes (TYS cI cJ cB cZ) [(h_t, .inr (2, [.ref h_byTail, .ref h_newRanks, .ref h_tally, .int z_size])), (h_byTail, .inl (cI, 16448, .inl z_byTail)), (h_newRanks, .inl (cI, 16448, .inl z_newRanks)), (h_tally, .inl (cI, 16448, .inl z_tally)), (h_p1, .inl (cI, n_p1, .inl z_p1)), (h_p3, .inl (cI, n_p3, .inl z_p3)), (h_p4, .inl (cI, n_p4, .inl z_p4))] sz [.ref h_t, .ref h_p1, .int a_p2, .ref h_p3, .ref h_p4]) (va_Qv (fun u : Int32 × (Nat → Int32) × (Nat → Int32) × (Nat → Int32) × (Nat → Int32) × (Nat → Int32) => post u.1 u.2.1 u.2.2.1 u.2.2.2.1 u.2.2.2.2.1 u.2.2.2.2.2) (fun u t => cAft (dC, dI) classes (TYS cI cJ cB cZ) (va_A [(h_t, .inr (2, [.ref h_byTail, .ref h_newRanks, .ref h_tally, .int z_size])), (h_byTail, .inl (cI, 16448, .inl z_byTail)), (h_newRanks, .inl (cI, 16448, .inl z_newRanks)), (h_tally, .inl (cI, 16448, .inl z_tally)), (h_p1, .inl (cI, n_p1, .inl z_p1)), (h_p3, .inl (cI, n_p3, .inl z_p3)), (h_p4, .inl (cI, n_p4, .inl z_p4))] sz) [(h_t, .inr (2, [.ref h_byTail, .ref h_newRanks, .ref h_tally, .int u.1])), (h_byTail, .inl (cI, 16448, .inl u.2.1)), (h_newRanks, .inl (cI, 16448, .inl u.2.2.1)), (h_tally, .inl (cI, 16448, .inl u.2.2.2.1)), (h_p1, .inl (cI, n_p1, .inl z_p1)), (h_p3, .inl (cI, n_p3, .inl u.2.2.2.2.1)), (h_p4, .inl (cI, n_p4, .inl u.2.2.2.2.2))] t) (va_A [(h_t, .inr (2, [.ref h_byTail, .ref h_newRanks, .ref h_tally, .int z_size])), (h_byTail, .inl (cI, 16448, .inl z_byTail)), (h_newRanks, .inl (cI, 16448, .inl z_newRanks)), (h_tally, .inl (cI, 16448, .inl z_tally)), (h_p1, .inl (cI, n_p1, .inl z_p1)), (h_p3, .inl (cI, n_p3, .inl z_p3)), (h_p4, .inl (cI, n_p4, .inl z_p4))] sz)) 0 0 (va_A [(h_t, .inr (2, [.ref h_byTail, .ref h_newRanks, .ref h_tally, .int z_size])), (h_byTail, .inl (cI, 16448, .inl z_byTail)), (h_newRanks, .inl (cI, 16448, .inl z_newRanks)), (h_tally, .inl (cI, 16448, .inl z_tally)), (h_p1, .inl (cI, n_p1, .inl z_p1)), (h_p3, .inl (cI, n_p3, .inl z_p3)), (h_p4, .inl (cI, n_p4, .inl z_p4))] sz) := by
  refine Met.ofW (cc := b_SO_sort) (maxL := 7) (ret := none) (by decide) rfl ?_
  intro p e s m args below meth c s₁ B hml hq
  obtain ⟨rfl, hsz, hP, hK, hD0⟩ := hq
  have hts := atoms_spec (ws := Cond.code y_SO_sort b_SO_sort 7 none :: WT) B.pre
  have hw : ∀ w ∈ WT, w.before ([.ref h_t, .ref h_p1, .int a_p2, .ref h_p3, .ref h_p4] : List Value).toArray s = true := fun w h => hts w (List.mem_cons_of_mem _ h)
  have hx := B.exec
  have hb := B.bytes
  have hr := B.returns
  have hlk := B.notSynchronized
  have hown : s.vm.findClass "SuffixIndex$Sorter" = some m.cls := findClass_of_methodNamed B.named
  have F : CallFix p m c b_SO_sort 7 s ([.ref h_t, .ref h_p1, .int a_p2, .ref h_p3, .ref h_p4] : List Value).toArray WT "SuffixIndex$Sorter" := ⟨hx, hb, hml, hown, hw⟩
  subst hsz
  have hD := hD0.self (sz := s.heap.size)
  generalize hAe : va_A [(h_t, .inr (2, [.ref h_byTail, .ref h_newRanks, .ref h_tally, .int z_size])), (h_byTail, .inl (cI, 16448, .inl z_byTail)), (h_newRanks, .inl (cI, 16448, .inl z_newRanks)), (h_tally, .inl (cI, 16448, .inl z_tally)), (h_p1, .inl (cI, n_p1, .inl z_p1)), (h_p3, .inl (cI, n_p3, .inl z_p3)), (h_p4, .inl (cI, n_p4, .inl z_p4))] s.heap.size = A at hD ⊢
  have hA : ∀ q : Nat, s.heap.size ≤ q → A q := fun q h => by rw [← hAe]; exact Or.inr h
  have hS : va_S A s.heap s.heap [] := va_S.rf
  have hl := lv_entry ([.ref h_t, .ref h_p1, .int a_p2, .ref h_p3, .ref h_p4]) (n := 7) (Nat.le_of_ble_eq_true rfl)
  rw [lg_entry_eq]
  generalize (lg_sl ([.ref h_t, .ref h_p1, .int a_p2, .ref h_p3, .ref h_p4]) ++ List.replicate (7 - (lg_sl ([.ref h_t, .ref h_p1, .int a_p2, .ref h_p3, .ref h_p4])).length) Slot.unset).toArray = ls at hl ⊢
  have hl : lv_has ls 7 [(0, .ref h_t), (1, .ref h_p1), (2, .int a_p2), (3, .ref h_p3), (4, .ref h_p4)] := hl
  show W p l e rm_SO_sort s m _ below meth c s.heap [] 0 0 _ _
  have hP : va_P (dC, dI) classes [(h_t, .inr (2, [.ref h_byTail, .ref h_newRanks, .ref h_tally, .int z_size])), (h_byTail, .inl (cI, 16448, .inl z_byTail)), (h_newRanks, .inl (cI, 16448, .inl z_newRanks)), (h_tally, .inl (cI, 16448, .inl z_tally)), (h_p1, .inl (cI, n_p1, .inl z_p1)), (h_p3, .inl (cI, n_p3, .inl z_p3)), (h_p4, .inl (cI, n_p4, .inl z_p4))] s.heap := hP
  obtain ⟨H, hHe⟩ : ∃ H, H = s.heap := ⟨_, rfl⟩
  have hS : va_S A s.heap H [] := by rw [hHe]; exact hS
  rw [← hHe] at hP
  suffices hgoal : W p l e rm_SO_sort s m ([.ref h_t, .ref h_p1, .int a_p2, .ref h_p3, .ref h_p4] : List Value).toArray below meth c H [] 0 0 (MQ below (va_Qv (fun u : Int32 × (Nat → Int32) × (Nat → Int32) × (Nat → Int32) × (Nat → Int32) × (Nat → Int32) => post u.1 u.2.1 u.2.2.1 u.2.2.2.1 u.2.2.2.2.1 u.2.2.2.2.2) (fun u t => cAft (dC, dI) classes (TYS cI cJ cB cZ) A [(h_t, .inr (2, [.ref h_byTail, .ref h_newRanks, .ref h_tally, .int u.1])), (h_byTail, .inl (cI, 16448, .inl u.2.1)), (h_newRanks, .inl (cI, 16448, .inl u.2.2.1)), (h_tally, .inl (cI, 16448, .inl u.2.2.2.1)), (h_p1, .inl (cI, n_p1, .inl z_p1)), (h_p3, .inl (cI, n_p3, .inl u.2.2.2.2.1)), (h_p4, .inl (cI, n_p4, .inl u.2.2.2.2.2))] t) A) ([.ref h_t, .ref h_p1, .int a_p2, .ref h_p3, .ref h_p4] : List Value).toArray s 0 0 A) (F0 m 0 ls []) by rw [hHe] at hgoal; exact hgoal
  refine lv_aload_n hx hb d_SO_sort_0 rfl (lv_at hl 0 rfl) ?_
  refine lv_iload_n hx hb d_SO_sort_1 rfl (lv_at hl 2 rfl) ?_
  refine va_put (D := (dC, dI)) (ci := 2) (v := .int a_p2) (ty := .int) (C := "SuffixIndex$Sorter") (T := F_SO) (N := 4) hx hb hw i_SO t_SO t_SO_ok n_SO hown hK hP hD hS 0 rfl rfl 3 (by decide) (hw _ m_107) (fun _ h9 => h9) rfl (by decide +kernel) rfl rfl (Nat.le_of_ble_eq_true rfl) d_SO_sort_2 (fun H locs hP hD hS => ?_)
  have hP : va_P (dC, dI) classes [(h_t, .inr (2, [.ref h_byTail, .ref h_newRanks, .ref h_tally, .int a_p2])), (h_byTail, .inl (cI, 16448, .inl z_byTail)), (h_newRanks, .inl (cI, 16448, .inl z_newRanks)), (h_tally, .inl (cI, 16448, .inl z_tally)), (h_p1, .inl (cI, n_p1, .inl z_p1)), (h_p3, .inl (cI, n_p3, .inl z_p3)), (h_p4, .inl (cI, n_p4, .inl z_p4))] H := hP
  have hD : va_D A [(h_t, .inr (2, [.ref h_byTail, .ref h_newRanks, .ref h_tally, .int a_p2])), (h_byTail, .inl (cI, 16448, .inl z_byTail)), (h_newRanks, .inl (cI, 16448, .inl z_newRanks)), (h_tally, .inl (cI, 16448, .inl z_tally)), (h_p1, .inl (cI, n_p1, .inl z_p1)), (h_p3, .inl (cI, n_p3, .inl z_p3)), (h_p4, .inl (cI, n_p4, .inl z_p4))] := hD
  refine lv_iconst (v := 0) hx hb d_SO_sort_5 (by decide) ?_
  refine lv_istore (lv' := [(5, .int 0), (0, .ref h_t), (1, .ref h_p1), (2, .int a_p2), (3, .ref h_p3), (4, .ref h_p4)]) hx hb d_SO_sort_6 hl (by decide) rfl (fun ls hl => ?_)
  obtain ⟨j, hv⟩ := hv
  exact wk_SO_sort_8 F hr hlk hK hA j 0 a_p2 z_byTail z_newRanks z_tally z_p3 z_p4 hv _ _ _ hP hD hS (lv_sub hl [1, 2, 4, 5, 0] rfl)

