theorem d_MD_thrown_0 : decode b_MD_thrown 0 = .ok (.aload_n 0, 1) := by decide +kernel
theorem d_MD_thrown_1 : decode b_MD_thrown 1 = .ok (.getfield 7, 3) := by decide +kernel
theorem d_MD_thrown_4 : decode b_MD_thrown 4 = .ok (.ireturn, 1) := by decide +kernel
theorem d_MD_refuse_0 : decode b_MD_refuse 0 = .ok (.iload_n 2, 1) := by decide +kernel
theorem d_MD_refuse_1 : decode b_MD_refuse 1 = .ok (.ifCond .eq 8, 3) := by decide +kernel
theorem d_MD_refuse_4 : decode b_MD_refuse 4 = .ok (.aload_n 0, 1) := by decide +kernel
theorem d_MD_refuse_5 : decode b_MD_refuse 5 = .ok (.iload_n 1, 1) := by decide +kernel
theorem d_MD_refuse_6 : decode b_MD_refuse 6 = .ok (.putfield 7, 3) := by decide +kernel
theorem d_MD_refuse_9 : decode b_MD_refuse 9 = .ok (.iload_n 2, 1) := by decide +kernel
theorem d_MD_refuse_10 : decode b_MD_refuse 10 = .ok (.ireturn, 1) := by decide +kernel
theorem d_MD_feed_0 : decode b_MD_feed 0 = .ok (.aload_n 0, 1) := by decide +kernel
theorem d_MD_feed_1 : decode b_MD_feed 1 = .ok (.iconst 0, 1) := by decide +kernel
theorem d_MD_feed_2 : decode b_MD_feed 2 = .ok (.putfield 7, 3) := by decide +kernel
theorem d_MD_feed_5 : decode b_MD_feed 5 = .ok (.aload_n 0, 1) := by decide +kernel
theorem d_MD_feed_6 : decode b_MD_feed 6 = .ok (.iconst 1, 1) := by decide +kernel
theorem d_MD_feed_7 : decode b_MD_feed 7 = .ok (.aload_n 0, 1) := by decide +kernel
theorem d_MD_feed_8 : decode b_MD_feed 8 = .ok (.getfield 26, 3) := by decide +kernel
theorem d_MD_feed_11 : decode b_MD_feed 11 = .ok (.sipush 16364, 3) := by decide +kernel
theorem d_MD_feed_14 : decode b_MD_feed 14 = .ok (.if_icmp .le 7, 3) := by decide +kernel
theorem d_MD_feed_17 : decode b_MD_feed 17 = .ok (.iconst 1, 1) := by decide +kernel
theorem d_MD_feed_18 : decode b_MD_feed 18 = .ok (.goto 4, 3) := by decide +kernel
theorem d_MD_feed_21 : decode b_MD_feed 21 = .ok (.iconst 0, 1) := by decide +kernel
theorem d_MD_feed_22 : decode b_MD_feed 22 = .ok (.invokevirtual 79, 3) := by decide +kernel
theorem d_MD_feed_25 : decode b_MD_feed 25 = .ok (.ifCond .eq 5, 3) := by decide +kernel
theorem d_MD_feed_28 : decode b_MD_feed 28 = .ok (.iconst 0, 1) := by decide +kernel
theorem d_MD_feed_29 : decode b_MD_feed 29 = .ok (.ireturn, 1) := by decide +kernel
theorem d_MD_feed_30 : decode b_MD_feed 30 = .ok (.iconst 0, 1) := by decide +kernel
theorem d_MD_feed_31 : decode b_MD_feed 31 = .ok (.istore 6, 2) := by decide +kernel
theorem d_MD_feed_33 : decode b_MD_feed 33 = .ok (.iload 6, 2) := by decide +kernel
theorem d_MD_feed_35 : decode b_MD_feed 35 = .ok (.bipush 20, 2) := by decide +kernel
theorem d_MD_feed_37 : decode b_MD_feed 37 = .ok (.if_icmp .ge 87, 3) := by decide +kernel
theorem d_MD_feed_40 : decode b_MD_feed 40 = .ok (.iload 6, 2) := by decide +kernel
theorem d_MD_feed_42 : decode b_MD_feed 42 = .ok (.iconst 4, 1) := by decide +kernel
theorem d_MD_feed_43 : decode b_MD_feed 43 = .ok (.if_icmp .ge 7, 3) := by decide +kernel
theorem d_MD_feed_46 : decode b_MD_feed 46 = .ok (.iload_n 1, 1) := by decide +kernel
theorem d_MD_feed_47 : decode b_MD_feed 47 = .ok (.goto 39, 3) := by decide +kernel
theorem d_MD_feed_50 : decode b_MD_feed 50 = .ok (.iload 6, 2) := by decide +kernel
theorem d_MD_feed_52 : decode b_MD_feed 52 = .ok (.bipush 8, 2) := by decide +kernel
theorem d_MD_feed_54 : decode b_MD_feed 54 = .ok (.if_icmp .ge 7, 3) := by decide +kernel
theorem d_MD_feed_57 : decode b_MD_feed 57 = .ok (.iload_n 2, 1) := by decide +kernel
theorem d_MD_feed_58 : decode b_MD_feed 58 = .ok (.goto 28, 3) := by decide +kernel
theorem d_MD_feed_61 : decode b_MD_feed 61 = .ok (.iload 6, 2) := by decide +kernel
theorem d_MD_feed_63 : decode b_MD_feed 63 = .ok (.bipush 12, 2) := by decide +kernel
theorem d_MD_feed_65 : decode b_MD_feed 65 = .ok (.if_icmp .ge 7, 3) := by decide +kernel
theorem d_MD_feed_68 : decode b_MD_feed 68 = .ok (.iload_n 3, 1) := by decide +kernel
theorem d_MD_feed_69 : decode b_MD_feed 69 = .ok (.goto 17, 3) := by decide +kernel
theorem d_MD_feed_72 : decode b_MD_feed 72 = .ok (.iload 6, 2) := by decide +kernel
theorem d_MD_feed_74 : decode b_MD_feed 74 = .ok (.bipush 16, 2) := by decide +kernel
theorem d_MD_feed_76 : decode b_MD_feed 76 = .ok (.if_icmp .ge 8, 3) := by decide +kernel
theorem d_MD_feed_79 : decode b_MD_feed 79 = .ok (.iload 4, 2) := by decide +kernel
theorem d_MD_feed_81 : decode b_MD_feed 81 = .ok (.goto 5, 3) := by decide +kernel
theorem d_MD_feed_84 : decode b_MD_feed 84 = .ok (.iload 5, 2) := by decide +kernel
theorem d_MD_feed_86 : decode b_MD_feed 86 = .ok (.istore 7, 2) := by decide +kernel
theorem d_MD_feed_88 : decode b_MD_feed 88 = .ok (.aload_n 0, 1) := by decide +kernel
theorem d_MD_feed_89 : decode b_MD_feed 89 = .ok (.getfield 13, 3) := by decide +kernel
theorem d_MD_feed_92 : decode b_MD_feed 92 = .ok (.aload_n 0, 1) := by decide +kernel
theorem d_MD_feed_93 : decode b_MD_feed 93 = .ok (.dup, 1) := by decide +kernel
theorem d_MD_feed_94 : decode b_MD_feed 94 = .ok (.getfield 26, 3) := by decide +kernel
theorem d_MD_feed_97 : decode b_MD_feed 97 = .ok (.dup_x1, 1) := by decide +kernel
theorem d_MD_feed_98 : decode b_MD_feed 98 = .ok (.iconst 1, 1) := by decide +kernel
theorem d_MD_feed_99 : decode b_MD_feed 99 = .ok (.iadd, 1) := by decide +kernel
theorem d_MD_feed_100 : decode b_MD_feed 100 = .ok (.putfield 26, 3) := by decide +kernel
theorem d_MD_feed_103 : decode b_MD_feed 103 = .ok (.iload 7, 2) := by decide +kernel
theorem d_MD_feed_105 : decode b_MD_feed 105 = .ok (.bipush 24, 2) := by decide +kernel
theorem d_MD_feed_107 : decode b_MD_feed 107 = .ok (.bipush 8, 2) := by decide +kernel
theorem d_MD_feed_109 : decode b_MD_feed 109 = .ok (.iload 6, 2) := by decide +kernel
theorem d_MD_feed_111 : decode b_MD_feed 111 = .ok (.iconst 4, 1) := by decide +kernel
theorem d_MD_feed_112 : decode b_MD_feed 112 = .ok (.irem, 1) := by decide +kernel
theorem d_MD_feed_113 : decode b_MD_feed 113 = .ok (.imul, 1) := by decide +kernel
theorem d_MD_feed_114 : decode b_MD_feed 114 = .ok (.isub, 1) := by decide +kernel
theorem d_MD_feed_115 : decode b_MD_feed 115 = .ok (.iushr, 1) := by decide +kernel
theorem d_MD_feed_116 : decode b_MD_feed 116 = .ok (.i2b, 1) := by decide +kernel
theorem d_MD_feed_117 : decode b_MD_feed 117 = .ok (.bastore, 1) := by decide +kernel
theorem d_MD_feed_118 : decode b_MD_feed 118 = .ok (.iinc 6 1, 3) := by decide +kernel
theorem d_MD_feed_121 : decode b_MD_feed 121 = .ok (.goto (-88), 3) := by decide +kernel
theorem d_MD_feed_124 : decode b_MD_feed 124 = .ok (.aload_n 0, 1) := by decide +kernel
theorem d_MD_feed_125 : decode b_MD_feed 125 = .ok (.getfield 26, 3) := by decide +kernel
theorem d_MD_feed_128 : decode b_MD_feed 128 = .ok (.ireturn, 1) := by decide +kernel
theorem d_MD_end_0 : decode b_MD_end 0 = .ok (.aload_n 0, 1) := by decide +kernel
theorem d_MD_end_1 : decode b_MD_end 1 = .ok (.iconst 0, 1) := by decide +kernel
theorem d_MD_end_2 : decode b_MD_end 2 = .ok (.putfield 7, 3) := by decide +kernel
theorem d_MD_end_5 : decode b_MD_end 5 = .ok (.aload_n 0, 1) := by decide +kernel
theorem d_MD_end_6 : decode b_MD_end 6 = .ok (.iconst 1, 1) := by decide +kernel
theorem d_MD_end_7 : decode b_MD_end 7 = .ok (.iload_n 1, 1) := by decide +kernel
theorem d_MD_end_8 : decode b_MD_end 8 = .ok (.ifCond .lt 11, 3) := by decide +kernel
theorem d_MD_end_11 : decode b_MD_end 11 = .ok (.iload_n 1, 1) := by decide +kernel
theorem d_MD_end_12 : decode b_MD_end 12 = .ok (.aload_n 0, 1) := by decide +kernel
theorem d_MD_end_13 : decode b_MD_end 13 = .ok (.getfield 26, 3) := by decide +kernel
theorem d_MD_end_16 : decode b_MD_end 16 = .ok (.if_icmp .le 7, 3) := by decide +kernel
theorem d_MD_end_19 : decode b_MD_end 19 = .ok (.iconst 1, 1) := by decide +kernel
theorem d_MD_end_20 : decode b_MD_end 20 = .ok (.goto 4, 3) := by decide +kernel
theorem d_MD_end_23 : decode b_MD_end 23 = .ok (.iconst 0, 1) := by decide +kernel
theorem d_MD_end_24 : decode b_MD_end 24 = .ok (.invokevirtual 79, 3) := by decide +kernel
theorem d_MD_end_27 : decode b_MD_end 27 = .ok (.ifCond .eq 5, 3) := by decide +kernel
theorem d_MD_end_30 : decode b_MD_end 30 = .ok (.iconst 0, 1) := by decide +kernel
theorem d_MD_end_31 : decode b_MD_end 31 = .ok (.ireturn, 1) := by decide +kernel
theorem d_MD_end_32 : decode b_MD_end 32 = .ok (.aload_n 0, 1) := by decide +kernel
theorem d_MD_end_33 : decode b_MD_end 33 = .ok (.iload_n 1, 1) := by decide +kernel
theorem d_MD_end_34 : decode b_MD_end 34 = .ok (.putfield 26, 3) := by decide +kernel
theorem d_MD_end_37 : decode b_MD_end 37 = .ok (.iload_n 1, 1) := by decide +kernel
theorem d_MD_end_38 : decode b_MD_end 38 = .ok (.ireturn, 1) := by decide +kernel
theorem d_MD_add_0 : decode b_MD_add 0 = .ok (.aload_n 0, 1) := by decide +kernel
theorem d_MD_add_1 : decode b_MD_add 1 = .ok (.iconst 0, 1) := by decide +kernel
theorem d_MD_add_2 : decode b_MD_add 2 = .ok (.putfield 7, 3) := by decide +kernel
theorem d_MD_add_5 : decode b_MD_add 5 = .ok (.aload_n 0, 1) := by decide +kernel
theorem d_MD_add_6 : decode b_MD_add 6 = .ok (.iconst 1, 1) := by decide +kernel
theorem d_MD_add_7 : decode b_MD_add 7 = .ok (.aload_n 0, 1) := by decide +kernel
theorem d_MD_add_8 : decode b_MD_add 8 = .ok (.getfield 26, 3) := by decide +kernel
theorem d_MD_add_11 : decode b_MD_add 11 = .ok (.ifCond .ne 7, 3) := by decide +kernel
theorem d_MD_add_14 : decode b_MD_add 14 = .ok (.iconst 1, 1) := by decide +kernel
theorem d_MD_add_15 : decode b_MD_add 15 = .ok (.goto 4, 3) := by decide +kernel
theorem d_MD_add_18 : decode b_MD_add 18 = .ok (.iconst 0, 1) := by decide +kernel
theorem d_MD_add_19 : decode b_MD_add 19 = .ok (.invokevirtual 79, 3) := by decide +kernel
theorem d_MD_add_22 : decode b_MD_add 22 = .ok (.ifCond .ne 40, 3) := by decide +kernel
theorem d_MD_add_25 : decode b_MD_add 25 = .ok (.aload_n 0, 1) := by decide +kernel
theorem d_MD_add_26 : decode b_MD_add 26 = .ok (.iconst 2, 1) := by decide +kernel
theorem d_MD_add_27 : decode b_MD_add 27 = .ok (.aload_n 0, 1) := by decide +kernel
theorem d_MD_add_28 : decode b_MD_add 28 = .ok (.getfield 35, 3) := by decide +kernel
theorem d_MD_add_31 : decode b_MD_add 31 = .ok (.bipush 64, 2) := by decide +kernel
theorem d_MD_add_33 : decode b_MD_add 33 = .ok (.if_icmp .eq 18, 3) := by decide +kernel
theorem d_MD_add_36 : decode b_MD_add 36 = .ok (.aload_n 0, 1) := by decide +kernel
theorem d_MD_add_37 : decode b_MD_add 37 = .ok (.getfield 44, 3) := by decide +kernel
theorem d_MD_add_40 : decode b_MD_add 40 = .ok (.aload_n 0, 1) := by decide +kernel
theorem d_MD_add_41 : decode b_MD_add 41 = .ok (.getfield 26, 3) := by decide +kernel
theorem d_MD_add_44 : decode b_MD_add 44 = .ok (.iadd, 1) := by decide +kernel
theorem d_MD_add_45 : decode b_MD_add 45 = .ok (.sipush 16384, 3) := by decide +kernel
theorem d_MD_add_48 : decode b_MD_add 48 = .ok (.if_icmp .le 7, 3) := by decide +kernel
theorem d_MD_add_51 : decode b_MD_add 51 = .ok (.iconst 1, 1) := by decide +kernel
theorem d_MD_add_52 : decode b_MD_add 52 = .ok (.goto 4, 3) := by decide +kernel
theorem d_MD_add_55 : decode b_MD_add 55 = .ok (.iconst 0, 1) := by decide +kernel
theorem d_MD_add_56 : decode b_MD_add 56 = .ok (.invokevirtual 79, 3) := by decide +kernel
theorem d_MD_add_59 : decode b_MD_add 59 = .ok (.ifCond .eq 5, 3) := by decide +kernel
theorem d_MD_add_62 : decode b_MD_add 62 = .ok (.iconst 0, 1) := by decide +kernel
theorem d_MD_add_63 : decode b_MD_add 63 = .ok (.ireturn, 1) := by decide +kernel
theorem d_MD_add_64 : decode b_MD_add 64 = .ok (.aload_n 0, 1) := by decide +kernel
theorem d_MD_add_65 : decode b_MD_add 65 = .ok (.getfield 47, 3) := by decide +kernel
theorem d_MD_add_68 : decode b_MD_add 68 = .ok (.aload_n 0, 1) := by decide +kernel
theorem d_MD_add_69 : decode b_MD_add 69 = .ok (.getfield 35, 3) := by decide +kernel
theorem d_MD_add_72 : decode b_MD_add 72 = .ok (.aload_n 0, 1) := by decide +kernel
theorem d_MD_add_73 : decode b_MD_add 73 = .ok (.getfield 44, 3) := by decide +kernel
theorem d_MD_add_76 : decode b_MD_add 76 = .ok (.iastore, 1) := by decide +kernel
theorem d_MD_add_77 : decode b_MD_add 77 = .ok (.iconst 0, 1) := by decide +kernel
theorem d_MD_add_78 : decode b_MD_add 78 = .ok (.istore_n 1, 1) := by decide +kernel
theorem d_MD_add_79 : decode b_MD_add 79 = .ok (.iload_n 1, 1) := by decide +kernel
theorem d_MD_add_80 : decode b_MD_add 80 = .ok (.aload_n 0, 1) := by decide +kernel
theorem d_MD_add_81 : decode b_MD_add 81 = .ok (.getfield 26, 3) := by decide +kernel
theorem d_MD_add_84 : decode b_MD_add 84 = .ok (.if_icmp .ge 44, 3) := by decide +kernel
theorem d_MD_add_87 : decode b_MD_add 87 = .ok (.aload_n 0, 1) := by decide +kernel
theorem d_MD_add_88 : decode b_MD_add 88 = .ok (.getfield 51, 3) := by decide +kernel
theorem d_MD_add_91 : decode b_MD_add 91 = .ok (.aload_n 0, 1) := by decide +kernel
theorem d_MD_add_92 : decode b_MD_add 92 = .ok (.getfield 44, 3) := by decide +kernel
theorem d_MD_add_95 : decode b_MD_add 95 = .ok (.aload_n 0, 1) := by decide +kernel
theorem d_MD_add_96 : decode b_MD_add 96 = .ok (.getfield 35, 3) := by decide +kernel
theorem d_MD_add_99 : decode b_MD_add 99 = .ok (.iastore, 1) := by decide +kernel
theorem d_MD_add_100 : decode b_MD_add 100 = .ok (.aload_n 0, 1) := by decide +kernel
theorem d_MD_add_101 : decode b_MD_add 101 = .ok (.getfield 17, 3) := by decide +kernel
theorem d_MD_add_104 : decode b_MD_add 104 = .ok (.aload_n 0, 1) := by decide +kernel
theorem d_MD_add_105 : decode b_MD_add 105 = .ok (.dup, 1) := by decide +kernel
theorem d_MD_add_106 : decode b_MD_add 106 = .ok (.getfield 44, 3) := by decide +kernel
theorem d_MD_add_109 : decode b_MD_add 109 = .ok (.dup_x1, 1) := by decide +kernel
theorem d_MD_add_110 : decode b_MD_add 110 = .ok (.iconst 1, 1) := by decide +kernel
theorem d_MD_add_111 : decode b_MD_add 111 = .ok (.iadd, 1) := by decide +kernel
theorem d_MD_add_112 : decode b_MD_add 112 = .ok (.putfield 44, 3) := by decide +kernel
theorem d_MD_add_115 : decode b_MD_add 115 = .ok (.aload_n 0, 1) := by decide +kernel
theorem d_MD_add_116 : decode b_MD_add 116 = .ok (.getfield 13, 3) := by decide +kernel
theorem d_MD_add_119 : decode b_MD_add 119 = .ok (.iload_n 1, 1) := by decide +kernel
theorem d_MD_add_120 : decode b_MD_add 120 = .ok (.baload, 1) := by decide +kernel
theorem d_MD_add_121 : decode b_MD_add 121 = .ok (.bastore, 1) := by decide +kernel
theorem d_MD_add_122 : decode b_MD_add 122 = .ok (.iinc 1 1, 3) := by decide +kernel
theorem d_MD_add_125 : decode b_MD_add 125 = .ok (.goto (-46), 3) := by decide +kernel
theorem d_MD_add_128 : decode b_MD_add 128 = .ok (.aload_n 0, 1) := by decide +kernel
theorem d_MD_add_129 : decode b_MD_add 129 = .ok (.iconst 0, 1) := by decide +kernel
theorem d_MD_add_130 : decode b_MD_add 130 = .ok (.putfield 26, 3) := by decide +kernel
theorem d_MD_add_133 : decode b_MD_add 133 = .ok (.aload_n 0, 1) := by decide +kernel
theorem d_MD_add_134 : decode b_MD_add 134 = .ok (.dup, 1) := by decide +kernel
theorem d_MD_add_135 : decode b_MD_add 135 = .ok (.getfield 35, 3) := by decide +kernel
theorem d_MD_add_138 : decode b_MD_add 138 = .ok (.iconst 1, 1) := by decide +kernel
theorem d_MD_add_139 : decode b_MD_add 139 = .ok (.iadd, 1) := by decide +kernel
theorem d_MD_add_140 : decode b_MD_add 140 = .ok (.putfield 35, 3) := by decide +kernel
theorem d_MD_add_143 : decode b_MD_add 143 = .ok (.aload_n 0, 1) := by decide +kernel
theorem d_MD_add_144 : decode b_MD_add 144 = .ok (.getfield 47, 3) := by decide +kernel
theorem d_MD_add_147 : decode b_MD_add 147 = .ok (.aload_n 0, 1) := by decide +kernel
theorem d_MD_add_148 : decode b_MD_add 148 = .ok (.getfield 35, 3) := by decide +kernel
theorem d_MD_add_151 : decode b_MD_add 151 = .ok (.aload_n 0, 1) := by decide +kernel
theorem d_MD_add_152 : decode b_MD_add 152 = .ok (.getfield 44, 3) := by decide +kernel
theorem d_MD_add_155 : decode b_MD_add 155 = .ok (.iastore, 1) := by decide +kernel
theorem d_MD_add_156 : decode b_MD_add 156 = .ok (.aload_n 0, 1) := by decide +kernel
theorem d_MD_add_157 : decode b_MD_add 157 = .ok (.getfield 35, 3) := by decide +kernel
theorem d_MD_add_160 : decode b_MD_add 160 = .ok (.iconst 1, 1) := by decide +kernel
theorem d_MD_add_161 : decode b_MD_add 161 = .ok (.isub, 1) := by decide +kernel
theorem d_MD_add_162 : decode b_MD_add 162 = .ok (.ireturn, 1) := by decide +kernel
theorem d_MD_clear_0 : decode b_MD_clear 0 = .ok (.aload_n 0, 1) := by decide +kernel
theorem d_MD_clear_1 : decode b_MD_clear 1 = .ok (.iconst 0, 1) := by decide +kernel
theorem d_MD_clear_2 : decode b_MD_clear 2 = .ok (.putfield 7, 3) := by decide +kernel
theorem d_MD_clear_5 : decode b_MD_clear 5 = .ok (.aload_n 0, 1) := by decide +kernel
theorem d_MD_clear_6 : decode b_MD_clear 6 = .ok (.getfield 35, 3) := by decide +kernel
theorem d_MD_clear_9 : decode b_MD_clear 9 = .ok (.istore_n 1, 1) := by decide +kernel
theorem d_MD_clear_10 : decode b_MD_clear 10 = .ok (.aload_n 0, 1) := by decide +kernel
theorem d_MD_clear_11 : decode b_MD_clear 11 = .ok (.iconst 0, 1) := by decide +kernel
theorem d_MD_clear_12 : decode b_MD_clear 12 = .ok (.putfield 35, 3) := by decide +kernel
theorem d_MD_clear_15 : decode b_MD_clear 15 = .ok (.aload_n 0, 1) := by decide +kernel
theorem d_MD_clear_16 : decode b_MD_clear 16 = .ok (.iconst 0, 1) := by decide +kernel
theorem d_MD_clear_17 : decode b_MD_clear 17 = .ok (.putfield 38, 3) := by decide +kernel
theorem d_MD_clear_20 : decode b_MD_clear 20 = .ok (.aload_n 0, 1) := by decide +kernel
theorem d_MD_clear_21 : decode b_MD_clear 21 = .ok (.iconst 0, 1) := by decide +kernel
theorem d_MD_clear_22 : decode b_MD_clear 22 = .ok (.putfield 41, 3) := by decide +kernel
theorem d_MD_clear_25 : decode b_MD_clear 25 = .ok (.aload_n 0, 1) := by decide +kernel
theorem d_MD_clear_26 : decode b_MD_clear 26 = .ok (.iconst 0, 1) := by decide +kernel
theorem d_MD_clear_27 : decode b_MD_clear 27 = .ok (.putfield 44, 3) := by decide +kernel
theorem d_MD_clear_30 : decode b_MD_clear 30 = .ok (.aload_n 0, 1) := by decide +kernel
theorem d_MD_clear_31 : decode b_MD_clear 31 = .ok (.iconst 0, 1) := by decide +kernel
theorem d_MD_clear_32 : decode b_MD_clear 32 = .ok (.putfield 32, 3) := by decide +kernel
theorem d_MD_clear_35 : decode b_MD_clear 35 = .ok (.iload_n 1, 1) := by decide +kernel
theorem d_MD_clear_36 : decode b_MD_clear 36 = .ok (.ireturn, 1) := by decide +kernel
theorem d_MD_endOf_0 : decode b_MD_endOf 0 = .ok (.aload_n 0, 1) := by decide +kernel
theorem d_MD_endOf_1 : decode b_MD_endOf 1 = .ok (.getfield 47, 3) := by decide +kernel
theorem d_MD_endOf_4 : decode b_MD_endOf 4 = .ok (.aload_n 0, 1) := by decide +kernel
theorem d_MD_endOf_5 : decode b_MD_endOf 5 = .ok (.getfield 51, 3) := by decide +kernel
theorem d_MD_endOf_8 : decode b_MD_endOf 8 = .ok (.iload_n 1, 1) := by decide +kernel
theorem d_MD_endOf_9 : decode b_MD_endOf 9 = .ok (.iaload, 1) := by decide +kernel
theorem d_MD_endOf_10 : decode b_MD_endOf 10 = .ok (.iconst 1, 1) := by decide +kernel
theorem d_MD_endOf_11 : decode b_MD_endOf 11 = .ok (.iadd, 1) := by decide +kernel
theorem d_MD_endOf_12 : decode b_MD_endOf 12 = .ok (.iaload, 1) := by decide +kernel
theorem d_MD_endOf_13 : decode b_MD_endOf 13 = .ok (.ireturn, 1) := by decide +kernel
theorem d_MD_rankAt_0 : decode b_MD_rankAt 0 = .ok (.iload_n 1, 1) := by decide +kernel
theorem d_MD_rankAt_1 : decode b_MD_rankAt 1 = .ok (.iload_n 2, 1) := by decide +kernel
theorem d_MD_rankAt_2 : decode b_MD_rankAt 2 = .ok (.iadd, 1) := by decide +kernel
theorem d_MD_rankAt_3 : decode b_MD_rankAt 3 = .ok (.aload_n 0, 1) := by decide +kernel
theorem d_MD_rankAt_4 : decode b_MD_rankAt 4 = .ok (.iload_n 1, 1) := by decide +kernel
theorem d_MD_rankAt_5 : decode b_MD_rankAt 5 = .ok (.invokevirtual 83, 3) := by decide +kernel
theorem d_MD_rankAt_8 : decode b_MD_rankAt 8 = .ok (.if_icmp .ge 14, 3) := by decide +kernel
theorem d_MD_rankAt_11 : decode b_MD_rankAt 11 = .ok (.aload_n 0, 1) := by decide +kernel
theorem d_MD_rankAt_12 : decode b_MD_rankAt 12 = .ok (.getfield 57, 3) := by decide +kernel
theorem d_MD_rankAt_15 : decode b_MD_rankAt 15 = .ok (.iload_n 1, 1) := by decide +kernel
theorem d_MD_rankAt_16 : decode b_MD_rankAt 16 = .ok (.iload_n 2, 1) := by decide +kernel
theorem d_MD_rankAt_17 : decode b_MD_rankAt 17 = .ok (.iadd, 1) := by decide +kernel
theorem d_MD_rankAt_18 : decode b_MD_rankAt 18 = .ok (.iaload, 1) := by decide +kernel
theorem d_MD_rankAt_19 : decode b_MD_rankAt 19 = .ok (.goto 4, 3) := by decide +kernel
theorem d_MD_rankAt_22 : decode b_MD_rankAt 22 = .ok (.iconst (-1), 1) := by decide +kernel
theorem d_MD_rankAt_23 : decode b_MD_rankAt 23 = .ok (.ireturn, 1) := by decide +kernel
theorem d_MD_compare_0 : decode b_MD_compare 0 = .ok (.aload_n 0, 1) := by decide +kernel
theorem d_MD_compare_1 : decode b_MD_compare 1 = .ok (.getfield 57, 3) := by decide +kernel
theorem d_MD_compare_4 : decode b_MD_compare 4 = .ok (.iload_n 1, 1) := by decide +kernel
theorem d_MD_compare_5 : decode b_MD_compare 5 = .ok (.iaload, 1) := by decide +kernel
theorem d_MD_compare_6 : decode b_MD_compare 6 = .ok (.aload_n 0, 1) := by decide +kernel
theorem d_MD_compare_7 : decode b_MD_compare 7 = .ok (.getfield 57, 3) := by decide +kernel
theorem d_MD_compare_10 : decode b_MD_compare 10 = .ok (.iload_n 2, 1) := by decide +kernel
theorem d_MD_compare_11 : decode b_MD_compare 11 = .ok (.iaload, 1) := by decide +kernel
theorem d_MD_compare_12 : decode b_MD_compare 12 = .ok (.if_icmp .eq 17, 3) := by decide +kernel
theorem d_MD_compare_15 : decode b_MD_compare 15 = .ok (.aload_n 0, 1) := by decide +kernel
theorem d_MD_compare_16 : decode b_MD_compare 16 = .ok (.getfield 57, 3) := by decide +kernel
theorem d_MD_compare_19 : decode b_MD_compare 19 = .ok (.iload_n 1, 1) := by decide +kernel
theorem d_MD_compare_20 : decode b_MD_compare 20 = .ok (.iaload, 1) := by decide +kernel
theorem d_MD_compare_21 : decode b_MD_compare 21 = .ok (.aload_n 0, 1) := by decide +kernel
theorem d_MD_compare_22 : decode b_MD_compare 22 = .ok (.getfield 57, 3) := by decide +kernel
theorem d_MD_compare_25 : decode b_MD_compare 25 = .ok (.iload_n 2, 1) := by decide +kernel
theorem d_MD_compare_26 : decode b_MD_compare 26 = .ok (.iaload, 1) := by decide +kernel
theorem d_MD_compare_27 : decode b_MD_compare 27 = .ok (.isub, 1) := by decide +kernel
theorem d_MD_compare_28 : decode b_MD_compare 28 = .ok (.ireturn, 1) := by decide +kernel
theorem d_MD_compare_29 : decode b_MD_compare 29 = .ok (.aload_n 0, 1) := by decide +kernel
theorem d_MD_compare_30 : decode b_MD_compare 30 = .ok (.iload_n 1, 1) := by decide +kernel
theorem d_MD_compare_31 : decode b_MD_compare 31 = .ok (.iload_n 3, 1) := by decide +kernel
theorem d_MD_compare_32 : decode b_MD_compare 32 = .ok (.invokevirtual 87, 3) := by decide +kernel
theorem d_MD_compare_35 : decode b_MD_compare 35 = .ok (.aload_n 0, 1) := by decide +kernel
theorem d_MD_compare_36 : decode b_MD_compare 36 = .ok (.iload_n 2, 1) := by decide +kernel
theorem d_MD_compare_37 : decode b_MD_compare 37 = .ok (.iload_n 3, 1) := by decide +kernel
theorem d_MD_compare_38 : decode b_MD_compare 38 = .ok (.invokevirtual 87, 3) := by decide +kernel
theorem d_MD_compare_41 : decode b_MD_compare 41 = .ok (.isub, 1) := by decide +kernel
theorem d_MD_compare_42 : decode b_MD_compare 42 = .ok (.ireturn, 1) := by decide +kernel
theorem d_MD_sort_0 : decode b_MD_sort 0 = .ok (.iload_n 2, 1) := by decide +kernel
theorem d_MD_sort_1 : decode b_MD_sort 1 = .ok (.iload_n 1, 1) := by decide +kernel
theorem d_MD_sort_2 : decode b_MD_sort 2 = .ok (.isub, 1) := by decide +kernel
theorem d_MD_sort_3 : decode b_MD_sort 3 = .ok (.iconst 2, 1) := by decide +kernel
theorem d_MD_sort_4 : decode b_MD_sort 4 = .ok (.if_icmp .ge 4, 3) := by decide +kernel
theorem d_MD_sort_7 : decode b_MD_sort 7 = .ok (.return_, 1) := by decide +kernel
theorem d_MD_sort_8 : decode b_MD_sort 8 = .ok (.iload_n 1, 1) := by decide +kernel
theorem d_MD_sort_9 : decode b_MD_sort 9 = .ok (.iload_n 2, 1) := by decide +kernel
theorem d_MD_sort_10 : decode b_MD_sort 10 = .ok (.iadd, 1) := by decide +kernel
theorem d_MD_sort_11 : decode b_MD_sort 11 = .ok (.iconst 2, 1) := by decide +kernel
theorem d_MD_sort_12 : decode b_MD_sort 12 = .ok (.idiv, 1) := by decide +kernel
theorem d_MD_sort_13 : decode b_MD_sort 13 = .ok (.istore 4, 2) := by decide +kernel
theorem d_MD_sort_15 : decode b_MD_sort 15 = .ok (.aload_n 0, 1) := by decide +kernel
theorem d_MD_sort_16 : decode b_MD_sort 16 = .ok (.iload_n 1, 1) := by decide +kernel
theorem d_MD_sort_17 : decode b_MD_sort 17 = .ok (.iload 4, 2) := by decide +kernel
theorem d_MD_sort_19 : decode b_MD_sort 19 = .ok (.iload_n 3, 1) := by decide +kernel
theorem d_MD_sort_20 : decode b_MD_sort 20 = .ok (.invokevirtual 91, 3) := by decide +kernel
theorem d_MD_sort_23 : decode b_MD_sort 23 = .ok (.aload_n 0, 1) := by decide +kernel
theorem d_MD_sort_24 : decode b_MD_sort 24 = .ok (.iload 4, 2) := by decide +kernel
theorem d_MD_sort_26 : decode b_MD_sort 26 = .ok (.iload_n 2, 1) := by decide +kernel
theorem d_MD_sort_27 : decode b_MD_sort 27 = .ok (.iload_n 3, 1) := by decide +kernel
theorem d_MD_sort_28 : decode b_MD_sort 28 = .ok (.invokevirtual 91, 3) := by decide +kernel
theorem d_MD_sort_31 : decode b_MD_sort 31 = .ok (.iload_n 1, 1) := by decide +kernel
theorem d_MD_sort_32 : decode b_MD_sort 32 = .ok (.istore 5, 2) := by decide +kernel
theorem d_MD_sort_34 : decode b_MD_sort 34 = .ok (.iload 4, 2) := by decide +kernel
theorem d_MD_sort_36 : decode b_MD_sort 36 = .ok (.istore 6, 2) := by decide +kernel
theorem d_MD_sort_38 : decode b_MD_sort 38 = .ok (.iload_n 1, 1) := by decide +kernel
theorem d_MD_sort_39 : decode b_MD_sort 39 = .ok (.istore 7, 2) := by decide +kernel
theorem d_MD_sort_41 : decode b_MD_sort 41 = .ok (.iload 7, 2) := by decide +kernel
theorem d_MD_sort_43 : decode b_MD_sort 43 = .ok (.iload_n 2, 1) := by decide +kernel
theorem d_MD_sort_44 : decode b_MD_sort 44 = .ok (.if_icmp .ge 86, 3) := by decide +kernel
theorem d_MD_sort_47 : decode b_MD_sort 47 = .ok (.iload 6, 2) := by decide +kernel
theorem d_MD_sort_49 : decode b_MD_sort 49 = .ok (.iload_n 2, 1) := by decide +kernel
theorem d_MD_sort_50 : decode b_MD_sort 50 = .ok (.if_icmp .eq 32, 3) := by decide +kernel
theorem d_MD_sort_53 : decode b_MD_sort 53 = .ok (.iload 5, 2) := by decide +kernel
theorem d_MD_sort_55 : decode b_MD_sort 55 = .ok (.iload 4, 2) := by decide +kernel
theorem d_MD_sort_57 : decode b_MD_sort 57 = .ok (.if_icmp .ge 29, 3) := by decide +kernel
theorem d_MD_sort_60 : decode b_MD_sort 60 = .ok (.aload_n 0, 1) := by decide +kernel
theorem d_MD_sort_61 : decode b_MD_sort 61 = .ok (.aload_n 0, 1) := by decide +kernel
theorem d_MD_sort_62 : decode b_MD_sort 62 = .ok (.getfield 54, 3) := by decide +kernel
theorem d_MD_sort_65 : decode b_MD_sort 65 = .ok (.iload 5, 2) := by decide +kernel
theorem d_MD_sort_67 : decode b_MD_sort 67 = .ok (.iaload, 1) := by decide +kernel
theorem d_MD_sort_68 : decode b_MD_sort 68 = .ok (.aload_n 0, 1) := by decide +kernel
theorem d_MD_sort_69 : decode b_MD_sort 69 = .ok (.getfield 54, 3) := by decide +kernel
theorem d_MD_sort_72 : decode b_MD_sort 72 = .ok (.iload 6, 2) := by decide +kernel
theorem d_MD_sort_74 : decode b_MD_sort 74 = .ok (.iaload, 1) := by decide +kernel
theorem d_MD_sort_75 : decode b_MD_sort 75 = .ok (.iload_n 3, 1) := by decide +kernel
theorem d_MD_sort_76 : decode b_MD_sort 76 = .ok (.invokevirtual 95, 3) := by decide +kernel
theorem d_MD_sort_79 : decode b_MD_sort 79 = .ok (.ifCond .gt 7, 3) := by decide +kernel
theorem d_MD_sort_82 : decode b_MD_sort 82 = .ok (.iconst 1, 1) := by decide +kernel
theorem d_MD_sort_83 : decode b_MD_sort 83 = .ok (.goto 4, 3) := by decide +kernel
theorem d_MD_sort_86 : decode b_MD_sort 86 = .ok (.iconst 0, 1) := by decide +kernel
theorem d_MD_sort_87 : decode b_MD_sort 87 = .ok (.istore 8, 2) := by decide +kernel
theorem d_MD_sort_89 : decode b_MD_sort 89 = .ok (.aload_n 0, 1) := by decide +kernel
theorem d_MD_sort_90 : decode b_MD_sort 90 = .ok (.getfield 63, 3) := by decide +kernel
theorem d_MD_sort_93 : decode b_MD_sort 93 = .ok (.iload 7, 2) := by decide +kernel
theorem d_MD_sort_95 : decode b_MD_sort 95 = .ok (.iload 8, 2) := by decide +kernel
theorem d_MD_sort_97 : decode b_MD_sort 97 = .ok (.ifCond .eq 16, 3) := by decide +kernel
theorem d_MD_sort_100 : decode b_MD_sort 100 = .ok (.aload_n 0, 1) := by decide +kernel
theorem d_MD_sort_101 : decode b_MD_sort 101 = .ok (.getfield 54, 3) := by decide +kernel
theorem d_MD_sort_104 : decode b_MD_sort 104 = .ok (.iload 5, 2) := by decide +kernel
theorem d_MD_sort_106 : decode b_MD_sort 106 = .ok (.iinc 5 1, 3) := by decide +kernel
theorem d_MD_sort_109 : decode b_MD_sort 109 = .ok (.iaload, 1) := by decide +kernel
theorem d_MD_sort_110 : decode b_MD_sort 110 = .ok (.goto 13, 3) := by decide +kernel
theorem d_MD_sort_113 : decode b_MD_sort 113 = .ok (.aload_n 0, 1) := by decide +kernel
theorem d_MD_sort_114 : decode b_MD_sort 114 = .ok (.getfield 54, 3) := by decide +kernel
theorem d_MD_sort_117 : decode b_MD_sort 117 = .ok (.iload 6, 2) := by decide +kernel
theorem d_MD_sort_119 : decode b_MD_sort 119 = .ok (.iinc 6 1, 3) := by decide +kernel
theorem d_MD_sort_122 : decode b_MD_sort 122 = .ok (.iaload, 1) := by decide +kernel
theorem d_MD_sort_123 : decode b_MD_sort 123 = .ok (.iastore, 1) := by decide +kernel
theorem d_MD_sort_124 : decode b_MD_sort 124 = .ok (.iinc 7 1, 3) := by decide +kernel
theorem d_MD_sort_127 : decode b_MD_sort 127 = .ok (.goto (-86), 3) := by decide +kernel
theorem d_MD_sort_130 : decode b_MD_sort 130 = .ok (.iload_n 1, 1) := by decide +kernel
theorem d_MD_sort_131 : decode b_MD_sort 131 = .ok (.istore 7, 2) := by decide +kernel
theorem d_MD_sort_133 : decode b_MD_sort 133 = .ok (.iload 7, 2) := by decide +kernel
theorem d_MD_sort_135 : decode b_MD_sort 135 = .ok (.iload_n 2, 1) := by decide +kernel
theorem d_MD_sort_136 : decode b_MD_sort 136 = .ok (.if_icmp .ge 23, 3) := by decide +kernel
theorem d_MD_sort_139 : decode b_MD_sort 139 = .ok (.aload_n 0, 1) := by decide +kernel
theorem d_MD_sort_140 : decode b_MD_sort 140 = .ok (.getfield 54, 3) := by decide +kernel
theorem d_MD_sort_143 : decode b_MD_sort 143 = .ok (.iload 7, 2) := by decide +kernel
theorem d_MD_sort_145 : decode b_MD_sort 145 = .ok (.aload_n 0, 1) := by decide +kernel
theorem d_MD_sort_146 : decode b_MD_sort 146 = .ok (.getfield 63, 3) := by decide +kernel
theorem d_MD_sort_149 : decode b_MD_sort 149 = .ok (.iload 7, 2) := by decide +kernel
theorem d_MD_sort_151 : decode b_MD_sort 151 = .ok (.iaload, 1) := by decide +kernel
theorem d_MD_sort_152 : decode b_MD_sort 152 = .ok (.iastore, 1) := by decide +kernel
theorem d_MD_sort_153 : decode b_MD_sort 153 = .ok (.iinc 7 1, 3) := by decide +kernel
theorem d_MD_sort_156 : decode b_MD_sort 156 = .ok (.goto (-23), 3) := by decide +kernel
theorem d_MD_sort_159 : decode b_MD_sort 159 = .ok (.return_, 1) := by decide +kernel
theorem d_MD_alike_0 : decode b_MD_alike 0 = .ok (.iconst 0, 1) := by decide +kernel
theorem d_MD_alike_1 : decode b_MD_alike 1 = .ok (.istore_n 3, 1) := by decide +kernel
theorem d_MD_alike_2 : decode b_MD_alike 2 = .ok (.iload_n 1, 1) := by decide +kernel
theorem d_MD_alike_3 : decode b_MD_alike 3 = .ok (.iload_n 3, 1) := by decide +kernel
theorem d_MD_alike_4 : decode b_MD_alike 4 = .ok (.iadd, 1) := by decide +kernel
theorem d_MD_alike_5 : decode b_MD_alike 5 = .ok (.aload_n 0, 1) := by decide +kernel
theorem d_MD_alike_6 : decode b_MD_alike 6 = .ok (.iload_n 1, 1) := by decide +kernel
theorem d_MD_alike_7 : decode b_MD_alike 7 = .ok (.invokevirtual 83, 3) := by decide +kernel
theorem d_MD_alike_10 : decode b_MD_alike 10 = .ok (.if_icmp .ge 39, 3) := by decide +kernel
theorem d_MD_alike_13 : decode b_MD_alike 13 = .ok (.iload_n 2, 1) := by decide +kernel
theorem d_MD_alike_14 : decode b_MD_alike 14 = .ok (.iload_n 3, 1) := by decide +kernel
theorem d_MD_alike_15 : decode b_MD_alike 15 = .ok (.iadd, 1) := by decide +kernel
theorem d_MD_alike_16 : decode b_MD_alike 16 = .ok (.aload_n 0, 1) := by decide +kernel
theorem d_MD_alike_17 : decode b_MD_alike 17 = .ok (.iload_n 2, 1) := by decide +kernel
theorem d_MD_alike_18 : decode b_MD_alike 18 = .ok (.invokevirtual 83, 3) := by decide +kernel
theorem d_MD_alike_21 : decode b_MD_alike 21 = .ok (.if_icmp .ge 28, 3) := by decide +kernel
theorem d_MD_alike_24 : decode b_MD_alike 24 = .ok (.aload_n 0, 1) := by decide +kernel
theorem d_MD_alike_25 : decode b_MD_alike 25 = .ok (.getfield 17, 3) := by decide +kernel
theorem d_MD_alike_28 : decode b_MD_alike 28 = .ok (.iload_n 1, 1) := by decide +kernel
theorem d_MD_alike_29 : decode b_MD_alike 29 = .ok (.iload_n 3, 1) := by decide +kernel
theorem d_MD_alike_30 : decode b_MD_alike 30 = .ok (.iadd, 1) := by decide +kernel
theorem d_MD_alike_31 : decode b_MD_alike 31 = .ok (.baload, 1) := by decide +kernel
theorem d_MD_alike_32 : decode b_MD_alike 32 = .ok (.aload_n 0, 1) := by decide +kernel
theorem d_MD_alike_33 : decode b_MD_alike 33 = .ok (.getfield 17, 3) := by decide +kernel
theorem d_MD_alike_36 : decode b_MD_alike 36 = .ok (.iload_n 2, 1) := by decide +kernel
theorem d_MD_alike_37 : decode b_MD_alike 37 = .ok (.iload_n 3, 1) := by decide +kernel
theorem d_MD_alike_38 : decode b_MD_alike 38 = .ok (.iadd, 1) := by decide +kernel
theorem d_MD_alike_39 : decode b_MD_alike 39 = .ok (.baload, 1) := by decide +kernel
theorem d_MD_alike_40 : decode b_MD_alike 40 = .ok (.if_icmp .ne 9, 3) := by decide +kernel
theorem d_MD_alike_43 : decode b_MD_alike 43 = .ok (.iinc 3 1, 3) := by decide +kernel
theorem d_MD_alike_46 : decode b_MD_alike 46 = .ok (.goto (-44), 3) := by decide +kernel
theorem d_MD_alike_49 : decode b_MD_alike 49 = .ok (.iload_n 3, 1) := by decide +kernel
theorem d_MD_alike_50 : decode b_MD_alike 50 = .ok (.ireturn, 1) := by decide +kernel
theorem d_MD_build_0 : decode b_MD_build 0 = .ok (.aload_n 0, 1) := by decide +kernel
theorem d_MD_build_1 : decode b_MD_build 1 = .ok (.iconst 0, 1) := by decide +kernel
theorem d_MD_build_2 : decode b_MD_build 2 = .ok (.putfield 7, 3) := by decide +kernel
theorem d_MD_build_5 : decode b_MD_build 5 = .ok (.aload_n 0, 1) := by decide +kernel
theorem d_MD_build_6 : decode b_MD_build 6 = .ok (.aload_n 0, 1) := by decide +kernel
theorem d_MD_build_7 : decode b_MD_build 7 = .ok (.getfield 35, 3) := by decide +kernel
theorem d_MD_build_10 : decode b_MD_build 10 = .ok (.putfield 38, 3) := by decide +kernel
theorem d_MD_build_13 : decode b_MD_build 13 = .ok (.aload_n 0, 1) := by decide +kernel
theorem d_MD_build_14 : decode b_MD_build 14 = .ok (.aload_n 0, 1) := by decide +kernel
theorem d_MD_build_15 : decode b_MD_build 15 = .ok (.getfield 44, 3) := by decide +kernel
theorem d_MD_build_18 : decode b_MD_build 18 = .ok (.putfield 41, 3) := by decide +kernel
theorem d_MD_build_21 : decode b_MD_build 21 = .ok (.aload_n 0, 1) := by decide +kernel
theorem d_MD_build_22 : decode b_MD_build 22 = .ok (.iconst 0, 1) := by decide +kernel
theorem d_MD_build_23 : decode b_MD_build 23 = .ok (.putfield 32, 3) := by decide +kernel
theorem d_MD_build_26 : decode b_MD_build 26 = .ok (.iconst 0, 1) := by decide +kernel
theorem d_MD_build_27 : decode b_MD_build 27 = .ok (.istore_n 1, 1) := by decide +kernel
theorem d_MD_build_28 : decode b_MD_build 28 = .ok (.iload_n 1, 1) := by decide +kernel
theorem d_MD_build_29 : decode b_MD_build 29 = .ok (.aload_n 0, 1) := by decide +kernel
theorem d_MD_build_30 : decode b_MD_build 30 = .ok (.getfield 41, 3) := by decide +kernel
theorem d_MD_build_33 : decode b_MD_build 33 = .ok (.if_icmp .ge 32, 3) := by decide +kernel
theorem d_MD_build_36 : decode b_MD_build 36 = .ok (.aload_n 0, 1) := by decide +kernel
theorem d_MD_build_37 : decode b_MD_build 37 = .ok (.getfield 54, 3) := by decide +kernel
theorem d_MD_build_40 : decode b_MD_build 40 = .ok (.iload_n 1, 1) := by decide +kernel
theorem d_MD_build_41 : decode b_MD_build 41 = .ok (.iload_n 1, 1) := by decide +kernel
theorem d_MD_build_42 : decode b_MD_build 42 = .ok (.iastore, 1) := by decide +kernel
theorem d_MD_build_43 : decode b_MD_build 43 = .ok (.aload_n 0, 1) := by decide +kernel
theorem d_MD_build_44 : decode b_MD_build 44 = .ok (.getfield 57, 3) := by decide +kernel
theorem d_MD_build_47 : decode b_MD_build 47 = .ok (.iload_n 1, 1) := by decide +kernel
theorem d_MD_build_48 : decode b_MD_build 48 = .ok (.aload_n 0, 1) := by decide +kernel
theorem d_MD_build_49 : decode b_MD_build 49 = .ok (.getfield 17, 3) := by decide +kernel
theorem d_MD_build_52 : decode b_MD_build 52 = .ok (.iload_n 1, 1) := by decide +kernel
theorem d_MD_build_53 : decode b_MD_build 53 = .ok (.baload, 1) := by decide +kernel
theorem d_MD_build_54 : decode b_MD_build 54 = .ok (.sipush 255, 3) := by decide +kernel
theorem d_MD_build_57 : decode b_MD_build 57 = .ok (.iand, 1) := by decide +kernel
theorem d_MD_build_58 : decode b_MD_build 58 = .ok (.iastore, 1) := by decide +kernel
theorem d_MD_build_59 : decode b_MD_build 59 = .ok (.iinc 1 1, 3) := by decide +kernel
theorem d_MD_build_62 : decode b_MD_build 62 = .ok (.goto (-34), 3) := by decide +kernel
theorem d_MD_build_65 : decode b_MD_build 65 = .ok (.aload_n 0, 1) := by decide +kernel
theorem d_MD_build_66 : decode b_MD_build 66 = .ok (.getfield 41, 3) := by decide +kernel
theorem d_MD_build_69 : decode b_MD_build 69 = .ok (.ifCond .le 7, 3) := by decide +kernel
theorem d_MD_build_72 : decode b_MD_build 72 = .ok (.iconst 1, 1) := by decide +kernel
theorem d_MD_build_73 : decode b_MD_build 73 = .ok (.goto 4, 3) := by decide +kernel
theorem d_MD_build_76 : decode b_MD_build 76 = .ok (.iconst 0, 1) := by decide +kernel
theorem d_MD_build_77 : decode b_MD_build 77 = .ok (.istore_n 1, 1) := by decide +kernel
theorem d_MD_build_78 : decode b_MD_build 78 = .ok (.iconst 1, 1) := by decide +kernel
theorem d_MD_build_79 : decode b_MD_build 79 = .ok (.istore_n 2, 1) := by decide +kernel
theorem d_MD_build_80 : decode b_MD_build 80 = .ok (.iload_n 1, 1) := by decide +kernel
theorem d_MD_build_81 : decode b_MD_build 81 = .ok (.ifCond .eq 131, 3) := by decide +kernel
theorem d_MD_build_84 : decode b_MD_build 84 = .ok (.aload_n 0, 1) := by decide +kernel
theorem d_MD_build_85 : decode b_MD_build 85 = .ok (.iconst 0, 1) := by decide +kernel
theorem d_MD_build_86 : decode b_MD_build 86 = .ok (.aload_n 0, 1) := by decide +kernel
theorem d_MD_build_87 : decode b_MD_build 87 = .ok (.getfield 41, 3) := by decide +kernel
theorem d_MD_build_90 : decode b_MD_build 90 = .ok (.iload_n 2, 1) := by decide +kernel
theorem d_MD_build_91 : decode b_MD_build 91 = .ok (.invokevirtual 91, 3) := by decide +kernel
theorem d_MD_build_94 : decode b_MD_build 94 = .ok (.iconst 0, 1) := by decide +kernel
theorem d_MD_build_95 : decode b_MD_build 95 = .ok (.istore_n 3, 1) := by decide +kernel
theorem d_MD_build_96 : decode b_MD_build 96 = .ok (.iconst 0, 1) := by decide +kernel
theorem d_MD_build_97 : decode b_MD_build 97 = .ok (.istore 4, 2) := by decide +kernel
theorem d_MD_build_99 : decode b_MD_build 99 = .ok (.iload 4, 2) := by decide +kernel
theorem d_MD_build_101 : decode b_MD_build 101 = .ok (.aload_n 0, 1) := by decide +kernel
theorem d_MD_build_102 : decode b_MD_build 102 = .ok (.getfield 41, 3) := by decide +kernel
theorem d_MD_build_105 : decode b_MD_build 105 = .ok (.if_icmp .ge 54, 3) := by decide +kernel
theorem d_MD_build_108 : decode b_MD_build 108 = .ok (.iload 4, 2) := by decide +kernel
theorem d_MD_build_110 : decode b_MD_build 110 = .ok (.ifCond .le 30, 3) := by decide +kernel
theorem d_MD_build_113 : decode b_MD_build 113 = .ok (.aload_n 0, 1) := by decide +kernel
theorem d_MD_build_114 : decode b_MD_build 114 = .ok (.aload_n 0, 1) := by decide +kernel
theorem d_MD_build_115 : decode b_MD_build 115 = .ok (.getfield 54, 3) := by decide +kernel
theorem d_MD_build_118 : decode b_MD_build 118 = .ok (.iload 4, 2) := by decide +kernel
theorem d_MD_build_120 : decode b_MD_build 120 = .ok (.iconst 1, 1) := by decide +kernel
theorem d_MD_build_121 : decode b_MD_build 121 = .ok (.isub, 1) := by decide +kernel
theorem d_MD_build_122 : decode b_MD_build 122 = .ok (.iaload, 1) := by decide +kernel
theorem d_MD_build_123 : decode b_MD_build 123 = .ok (.aload_n 0, 1) := by decide +kernel
theorem d_MD_build_124 : decode b_MD_build 124 = .ok (.getfield 54, 3) := by decide +kernel
theorem d_MD_build_127 : decode b_MD_build 127 = .ok (.iload 4, 2) := by decide +kernel
theorem d_MD_build_129 : decode b_MD_build 129 = .ok (.iaload, 1) := by decide +kernel
theorem d_MD_build_130 : decode b_MD_build 130 = .ok (.iload_n 2, 1) := by decide +kernel
theorem d_MD_build_131 : decode b_MD_build 131 = .ok (.invokevirtual 95, 3) := by decide +kernel
theorem d_MD_build_134 : decode b_MD_build 134 = .ok (.ifCond .eq 6, 3) := by decide +kernel
theorem d_MD_build_137 : decode b_MD_build 137 = .ok (.iinc 3 1, 3) := by decide +kernel
theorem d_MD_build_140 : decode b_MD_build 140 = .ok (.aload_n 0, 1) := by decide +kernel
theorem d_MD_build_141 : decode b_MD_build 141 = .ok (.getfield 66, 3) := by decide +kernel
theorem d_MD_build_144 : decode b_MD_build 144 = .ok (.aload_n 0, 1) := by decide +kernel
theorem d_MD_build_145 : decode b_MD_build 145 = .ok (.getfield 54, 3) := by decide +kernel
theorem d_MD_build_148 : decode b_MD_build 148 = .ok (.iload 4, 2) := by decide +kernel
theorem d_MD_build_150 : decode b_MD_build 150 = .ok (.iaload, 1) := by decide +kernel
theorem d_MD_build_151 : decode b_MD_build 151 = .ok (.iload_n 3, 1) := by decide +kernel
theorem d_MD_build_152 : decode b_MD_build 152 = .ok (.iastore, 1) := by decide +kernel
theorem d_MD_build_153 : decode b_MD_build 153 = .ok (.iinc 4 1, 3) := by decide +kernel
theorem d_MD_build_156 : decode b_MD_build 156 = .ok (.goto (-57), 3) := by decide +kernel
theorem d_MD_build_159 : decode b_MD_build 159 = .ok (.iconst 0, 1) := by decide +kernel
theorem d_MD_build_160 : decode b_MD_build 160 = .ok (.istore 4, 2) := by decide +kernel
theorem d_MD_build_162 : decode b_MD_build 162 = .ok (.iload 4, 2) := by decide +kernel
theorem d_MD_build_164 : decode b_MD_build 164 = .ok (.aload_n 0, 1) := by decide +kernel
theorem d_MD_build_165 : decode b_MD_build 165 = .ok (.getfield 41, 3) := by decide +kernel
theorem d_MD_build_168 : decode b_MD_build 168 = .ok (.if_icmp .ge 23, 3) := by decide +kernel
theorem d_MD_build_171 : decode b_MD_build 171 = .ok (.aload_n 0, 1) := by decide +kernel
theorem d_MD_build_172 : decode b_MD_build 172 = .ok (.getfield 57, 3) := by decide +kernel
theorem d_MD_build_175 : decode b_MD_build 175 = .ok (.iload 4, 2) := by decide +kernel
theorem d_MD_build_177 : decode b_MD_build 177 = .ok (.aload_n 0, 1) := by decide +kernel
theorem d_MD_build_178 : decode b_MD_build 178 = .ok (.getfield 66, 3) := by decide +kernel
theorem d_MD_build_181 : decode b_MD_build 181 = .ok (.iload 4, 2) := by decide +kernel
theorem d_MD_build_183 : decode b_MD_build 183 = .ok (.iaload, 1) := by decide +kernel
theorem d_MD_build_184 : decode b_MD_build 184 = .ok (.iastore, 1) := by decide +kernel
theorem d_MD_build_185 : decode b_MD_build 185 = .ok (.iinc 4 1, 3) := by decide +kernel
theorem d_MD_build_188 : decode b_MD_build 188 = .ok (.goto (-26), 3) := by decide +kernel
theorem d_MD_build_191 : decode b_MD_build 191 = .ok (.iload_n 2, 1) := by decide +kernel
theorem d_MD_build_192 : decode b_MD_build 192 = .ok (.aload_n 0, 1) := by decide +kernel
theorem d_MD_build_193 : decode b_MD_build 193 = .ok (.getfield 41, 3) := by decide +kernel
theorem d_MD_build_196 : decode b_MD_build 196 = .ok (.if_icmp .ge 7, 3) := by decide +kernel
theorem d_MD_build_199 : decode b_MD_build 199 = .ok (.iconst 1, 1) := by decide +kernel
theorem d_MD_build_200 : decode b_MD_build 200 = .ok (.goto 4, 3) := by decide +kernel
theorem d_MD_build_203 : decode b_MD_build 203 = .ok (.iconst 0, 1) := by decide +kernel
theorem d_MD_build_204 : decode b_MD_build 204 = .ok (.istore_n 1, 1) := by decide +kernel
theorem d_MD_build_205 : decode b_MD_build 205 = .ok (.iload_n 2, 1) := by decide +kernel
theorem d_MD_build_206 : decode b_MD_build 206 = .ok (.iconst 2, 1) := by decide +kernel
theorem d_MD_build_207 : decode b_MD_build 207 = .ok (.imul, 1) := by decide +kernel
theorem d_MD_build_208 : decode b_MD_build 208 = .ok (.istore_n 2, 1) := by decide +kernel
theorem d_MD_build_209 : decode b_MD_build 209 = .ok (.goto (-129), 3) := by decide +kernel
theorem d_MD_build_212 : decode b_MD_build 212 = .ok (.iconst 0, 1) := by decide +kernel
theorem d_MD_build_213 : decode b_MD_build 213 = .ok (.istore_n 2, 1) := by decide +kernel
theorem d_MD_build_214 : decode b_MD_build 214 = .ok (.iload_n 2, 1) := by decide +kernel
theorem d_MD_build_215 : decode b_MD_build 215 = .ok (.aload_n 0, 1) := by decide +kernel
theorem d_MD_build_216 : decode b_MD_build 216 = .ok (.getfield 41, 3) := by decide +kernel
theorem d_MD_build_219 : decode b_MD_build 219 = .ok (.if_icmp .ge 16, 3) := by decide +kernel
theorem d_MD_build_222 : decode b_MD_build 222 = .ok (.aload_n 0, 1) := by decide +kernel
theorem d_MD_build_223 : decode b_MD_build 223 = .ok (.getfield 54, 3) := by decide +kernel
theorem d_MD_build_226 : decode b_MD_build 226 = .ok (.iload_n 2, 1) := by decide +kernel
theorem d_MD_build_227 : decode b_MD_build 227 = .ok (.iload_n 2, 1) := by decide +kernel
theorem d_MD_build_228 : decode b_MD_build 228 = .ok (.iastore, 1) := by decide +kernel
theorem d_MD_build_229 : decode b_MD_build 229 = .ok (.iinc 2 1, 3) := by decide +kernel
theorem d_MD_build_232 : decode b_MD_build 232 = .ok (.goto (-18), 3) := by decide +kernel
theorem d_MD_build_235 : decode b_MD_build 235 = .ok (.aload_n 0, 1) := by decide +kernel
theorem d_MD_build_236 : decode b_MD_build 236 = .ok (.iconst 0, 1) := by decide +kernel
theorem d_MD_build_237 : decode b_MD_build 237 = .ok (.aload_n 0, 1) := by decide +kernel
theorem d_MD_build_238 : decode b_MD_build 238 = .ok (.getfield 41, 3) := by decide +kernel
theorem d_MD_build_241 : decode b_MD_build 241 = .ok (.sipush 16384, 3) := by decide +kernel
theorem d_MD_build_244 : decode b_MD_build 244 = .ok (.invokevirtual 91, 3) := by decide +kernel
theorem d_MD_build_247 : decode b_MD_build 247 = .ok (.iconst 0, 1) := by decide +kernel
theorem d_MD_build_248 : decode b_MD_build 248 = .ok (.istore_n 2, 1) := by decide +kernel
theorem d_MD_build_249 : decode b_MD_build 249 = .ok (.iload_n 2, 1) := by decide +kernel
theorem d_MD_build_250 : decode b_MD_build 250 = .ok (.aload_n 0, 1) := by decide +kernel
theorem d_MD_build_251 : decode b_MD_build 251 = .ok (.getfield 41, 3) := by decide +kernel
theorem d_MD_build_254 : decode b_MD_build 254 = .ok (.if_icmp .ge 21, 3) := by decide +kernel
theorem d_MD_build_257 : decode b_MD_build 257 = .ok (.aload_n 0, 1) := by decide +kernel
theorem d_MD_build_258 : decode b_MD_build 258 = .ok (.getfield 57, 3) := by decide +kernel
theorem d_MD_build_261 : decode b_MD_build 261 = .ok (.aload_n 0, 1) := by decide +kernel
theorem d_MD_build_262 : decode b_MD_build 262 = .ok (.getfield 54, 3) := by decide +kernel
theorem d_MD_build_265 : decode b_MD_build 265 = .ok (.iload_n 2, 1) := by decide +kernel
theorem d_MD_build_266 : decode b_MD_build 266 = .ok (.iaload, 1) := by decide +kernel
theorem d_MD_build_267 : decode b_MD_build 267 = .ok (.iload_n 2, 1) := by decide +kernel
theorem d_MD_build_268 : decode b_MD_build 268 = .ok (.iastore, 1) := by decide +kernel
theorem d_MD_build_269 : decode b_MD_build 269 = .ok (.iinc 2 1, 3) := by decide +kernel
theorem d_MD_build_272 : decode b_MD_build 272 = .ok (.goto (-23), 3) := by decide +kernel
theorem d_MD_build_275 : decode b_MD_build 275 = .ok (.iconst 0, 1) := by decide +kernel
theorem d_MD_build_276 : decode b_MD_build 276 = .ok (.istore_n 2, 1) := by decide +kernel
theorem d_MD_build_277 : decode b_MD_build 277 = .ok (.iload_n 2, 1) := by decide +kernel
theorem d_MD_build_278 : decode b_MD_build 278 = .ok (.aload_n 0, 1) := by decide +kernel
theorem d_MD_build_279 : decode b_MD_build 279 = .ok (.getfield 41, 3) := by decide +kernel
theorem d_MD_build_282 : decode b_MD_build 282 = .ok (.if_icmp .gt 62, 3) := by decide +kernel
theorem d_MD_build_285 : decode b_MD_build 285 = .ok (.aload_n 0, 1) := by decide +kernel
theorem d_MD_build_286 : decode b_MD_build 286 = .ok (.getfield 60, 3) := by decide +kernel
theorem d_MD_build_289 : decode b_MD_build 289 = .ok (.iload_n 2, 1) := by decide +kernel
theorem d_MD_build_290 : decode b_MD_build 290 = .ok (.sipush 16384, 3) := by decide +kernel
theorem d_MD_build_293 : decode b_MD_build 293 = .ok (.if_icmp .ne 9, 3) := by decide +kernel
theorem d_MD_build_296 : decode b_MD_build 296 = .ok (.sipush 16384, 3) := by decide +kernel
theorem d_MD_build_299 : decode b_MD_build 299 = .ok (.goto 4, 3) := by decide +kernel
theorem d_MD_build_302 : decode b_MD_build 302 = .ok (.iload_n 2, 1) := by decide +kernel
theorem d_MD_build_303 : decode b_MD_build 303 = .ok (.iload_n 2, 1) := by decide +kernel
theorem d_MD_build_304 : decode b_MD_build 304 = .ok (.ifCond .eq 11, 3) := by decide +kernel
theorem d_MD_build_307 : decode b_MD_build 307 = .ok (.iload_n 2, 1) := by decide +kernel
theorem d_MD_build_308 : decode b_MD_build 308 = .ok (.aload_n 0, 1) := by decide +kernel
theorem d_MD_build_309 : decode b_MD_build 309 = .ok (.getfield 41, 3) := by decide +kernel
theorem d_MD_build_312 : decode b_MD_build 312 = .ok (.if_icmp .ne 7, 3) := by decide +kernel
theorem d_MD_build_315 : decode b_MD_build 315 = .ok (.iconst 0, 1) := by decide +kernel
theorem d_MD_build_316 : decode b_MD_build 316 = .ok (.goto 21, 3) := by decide +kernel
theorem d_MD_build_319 : decode b_MD_build 319 = .ok (.aload_n 0, 1) := by decide +kernel
theorem d_MD_build_320 : decode b_MD_build 320 = .ok (.aload_n 0, 1) := by decide +kernel
theorem d_MD_build_321 : decode b_MD_build 321 = .ok (.getfield 54, 3) := by decide +kernel
theorem d_MD_build_324 : decode b_MD_build 324 = .ok (.iload_n 2, 1) := by decide +kernel
theorem d_MD_build_325 : decode b_MD_build 325 = .ok (.iconst 1, 1) := by decide +kernel
theorem d_MD_build_326 : decode b_MD_build 326 = .ok (.isub, 1) := by decide +kernel
theorem d_MD_build_327 : decode b_MD_build 327 = .ok (.iaload, 1) := by decide +kernel
theorem d_MD_build_328 : decode b_MD_build 328 = .ok (.aload_n 0, 1) := by decide +kernel
theorem d_MD_build_329 : decode b_MD_build 329 = .ok (.getfield 54, 3) := by decide +kernel
theorem d_MD_build_332 : decode b_MD_build 332 = .ok (.iload_n 2, 1) := by decide +kernel
theorem d_MD_build_333 : decode b_MD_build 333 = .ok (.iaload, 1) := by decide +kernel
theorem d_MD_build_334 : decode b_MD_build 334 = .ok (.invokevirtual 99, 3) := by decide +kernel
theorem d_MD_build_337 : decode b_MD_build 337 = .ok (.iastore, 1) := by decide +kernel
theorem d_MD_build_338 : decode b_MD_build 338 = .ok (.iinc 2 1, 3) := by decide +kernel
theorem d_MD_build_341 : decode b_MD_build 341 = .ok (.goto (-64), 3) := by decide +kernel
theorem d_MD_build_344 : decode b_MD_build 344 = .ok (.aload_n 0, 1) := by decide +kernel
theorem d_MD_build_345 : decode b_MD_build 345 = .ok (.getfield 41, 3) := by decide +kernel
theorem d_MD_build_348 : decode b_MD_build 348 = .ok (.ireturn, 1) := by decide +kernel
theorem d_MD_where_0 : decode b_MD_where 0 = .ok (.ldc 102, 2) := by decide +kernel
theorem d_MD_where_2 : decode b_MD_where 2 = .ok (.aload_n 0, 1) := by decide +kernel
theorem d_MD_where_3 : decode b_MD_where 3 = .ok (.getfield 51, 3) := by decide +kernel
theorem d_MD_where_6 : decode b_MD_where 6 = .ok (.iload_n 1, 1) := by decide +kernel
theorem d_MD_where_7 : decode b_MD_where 7 = .ok (.iaload, 1) := by decide +kernel
theorem d_MD_where_8 : decode b_MD_where 8 = .ok (.imul, 1) := by decide +kernel
theorem d_MD_where_9 : decode b_MD_where 9 = .ok (.iload_n 1, 1) := by decide +kernel
theorem d_MD_where_10 : decode b_MD_where 10 = .ok (.iadd, 1) := by decide +kernel
theorem d_MD_where_11 : decode b_MD_where 11 = .ok (.aload_n 0, 1) := by decide +kernel
theorem d_MD_where_12 : decode b_MD_where 12 = .ok (.getfield 47, 3) := by decide +kernel
theorem d_MD_where_15 : decode b_MD_where 15 = .ok (.aload_n 0, 1) := by decide +kernel
theorem d_MD_where_16 : decode b_MD_where 16 = .ok (.getfield 51, 3) := by decide +kernel
theorem d_MD_where_19 : decode b_MD_where 19 = .ok (.iload_n 1, 1) := by decide +kernel
theorem d_MD_where_20 : decode b_MD_where 20 = .ok (.iaload, 1) := by decide +kernel
theorem d_MD_where_21 : decode b_MD_where 21 = .ok (.iaload, 1) := by decide +kernel
theorem d_MD_where_22 : decode b_MD_where 22 = .ok (.isub, 1) := by decide +kernel
theorem d_MD_where_23 : decode b_MD_where 23 = .ok (.ireturn, 1) := by decide +kernel
theorem d_MD_placeOf_0 : decode b_MD_placeOf 0 = .ok (.iload_n 1, 1) := by decide +kernel
theorem d_MD_placeOf_1 : decode b_MD_placeOf 1 = .ok (.bipush 16, 2) := by decide +kernel
theorem d_MD_placeOf_3 : decode b_MD_placeOf 3 = .ok (.ishr, 1) := by decide +kernel
theorem d_MD_placeOf_4 : decode b_MD_placeOf 4 = .ok (.istore_n 2, 1) := by decide +kernel
theorem d_MD_placeOf_5 : decode b_MD_placeOf 5 = .ok (.iload_n 1, 1) := by decide +kernel
theorem d_MD_placeOf_6 : decode b_MD_placeOf 6 = .ok (.ldc 103, 2) := by decide +kernel
theorem d_MD_placeOf_8 : decode b_MD_placeOf 8 = .ok (.iand, 1) := by decide +kernel
theorem d_MD_placeOf_9 : decode b_MD_placeOf 9 = .ok (.istore_n 3, 1) := by decide +kernel
theorem d_MD_placeOf_10 : decode b_MD_placeOf 10 = .ok (.iload_n 2, 1) := by decide +kernel
theorem d_MD_placeOf_11 : decode b_MD_placeOf 11 = .ok (.ifCond .lt 30, 3) := by decide +kernel
theorem d_MD_placeOf_14 : decode b_MD_placeOf 14 = .ok (.iload_n 2, 1) := by decide +kernel
theorem d_MD_placeOf_15 : decode b_MD_placeOf 15 = .ok (.aload_n 0, 1) := by decide +kernel
theorem d_MD_placeOf_16 : decode b_MD_placeOf 16 = .ok (.getfield 38, 3) := by decide +kernel
theorem d_MD_placeOf_19 : decode b_MD_placeOf 19 = .ok (.if_icmp .ge 22, 3) := by decide +kernel
theorem d_MD_placeOf_22 : decode b_MD_placeOf 22 = .ok (.iload_n 3, 1) := by decide +kernel
theorem d_MD_placeOf_23 : decode b_MD_placeOf 23 = .ok (.aload_n 0, 1) := by decide +kernel
theorem d_MD_placeOf_24 : decode b_MD_placeOf 24 = .ok (.getfield 47, 3) := by decide +kernel
theorem d_MD_placeOf_27 : decode b_MD_placeOf 27 = .ok (.iload_n 2, 1) := by decide +kernel
theorem d_MD_placeOf_28 : decode b_MD_placeOf 28 = .ok (.iconst 1, 1) := by decide +kernel
theorem d_MD_placeOf_29 : decode b_MD_placeOf 29 = .ok (.iadd, 1) := by decide +kernel
theorem d_MD_placeOf_30 : decode b_MD_placeOf 30 = .ok (.iaload, 1) := by decide +kernel
theorem d_MD_placeOf_31 : decode b_MD_placeOf 31 = .ok (.aload_n 0, 1) := by decide +kernel
theorem d_MD_placeOf_32 : decode b_MD_placeOf 32 = .ok (.getfield 47, 3) := by decide +kernel
theorem d_MD_placeOf_35 : decode b_MD_placeOf 35 = .ok (.iload_n 2, 1) := by decide +kernel
theorem d_MD_placeOf_36 : decode b_MD_placeOf 36 = .ok (.iaload, 1) := by decide +kernel
theorem d_MD_placeOf_37 : decode b_MD_placeOf 37 = .ok (.isub, 1) := by decide +kernel
theorem d_MD_placeOf_38 : decode b_MD_placeOf 38 = .ok (.if_icmp .lt 7, 3) := by decide +kernel
theorem d_MD_placeOf_41 : decode b_MD_placeOf 41 = .ok (.iconst (-1), 1) := by decide +kernel
theorem d_MD_placeOf_42 : decode b_MD_placeOf 42 = .ok (.goto 11, 3) := by decide +kernel
theorem d_MD_placeOf_45 : decode b_MD_placeOf 45 = .ok (.aload_n 0, 1) := by decide +kernel
theorem d_MD_placeOf_46 : decode b_MD_placeOf 46 = .ok (.getfield 47, 3) := by decide +kernel
theorem d_MD_placeOf_49 : decode b_MD_placeOf 49 = .ok (.iload_n 2, 1) := by decide +kernel
theorem d_MD_placeOf_50 : decode b_MD_placeOf 50 = .ok (.iaload, 1) := by decide +kernel
theorem d_MD_placeOf_51 : decode b_MD_placeOf 51 = .ok (.iload_n 3, 1) := by decide +kernel
theorem d_MD_placeOf_52 : decode b_MD_placeOf 52 = .ok (.iadd, 1) := by decide +kernel
theorem d_MD_placeOf_53 : decode b_MD_placeOf 53 = .ok (.ireturn, 1) := by decide +kernel
theorem d_MD_stands_0 : decode b_MD_stands 0 = .ok (.iload_n 1, 1) := by decide +kernel
theorem d_MD_stands_1 : decode b_MD_stands 1 = .ok (.aload_n 0, 1) := by decide +kernel
theorem d_MD_stands_2 : decode b_MD_stands 2 = .ok (.getfield 32, 3) := by decide +kernel
theorem d_MD_stands_5 : decode b_MD_stands 5 = .ok (.iadd, 1) := by decide +kernel
theorem d_MD_stands_6 : decode b_MD_stands 6 = .ok (.aload_n 0, 1) := by decide +kernel
theorem d_MD_stands_7 : decode b_MD_stands 7 = .ok (.iload_n 1, 1) := by decide +kernel
theorem d_MD_stands_8 : decode b_MD_stands 8 = .ok (.invokevirtual 83, 3) := by decide +kernel
theorem d_MD_stands_11 : decode b_MD_stands 11 = .ok (.if_icmp .le 5, 3) := by decide +kernel
theorem d_MD_stands_14 : decode b_MD_stands 14 = .ok (.iconst 0, 1) := by decide +kernel
theorem d_MD_stands_15 : decode b_MD_stands 15 = .ok (.ireturn, 1) := by decide +kernel
theorem d_MD_stands_16 : decode b_MD_stands 16 = .ok (.iconst 0, 1) := by decide +kernel
theorem d_MD_stands_17 : decode b_MD_stands 17 = .ok (.istore_n 2, 1) := by decide +kernel
theorem d_MD_stands_18 : decode b_MD_stands 18 = .ok (.iload_n 2, 1) := by decide +kernel
theorem d_MD_stands_19 : decode b_MD_stands 19 = .ok (.aload_n 0, 1) := by decide +kernel
theorem d_MD_stands_20 : decode b_MD_stands 20 = .ok (.getfield 32, 3) := by decide +kernel
theorem d_MD_stands_23 : decode b_MD_stands 23 = .ok (.if_icmp .ge 28, 3) := by decide +kernel
theorem d_MD_stands_26 : decode b_MD_stands 26 = .ok (.aload_n 0, 1) := by decide +kernel
theorem d_MD_stands_27 : decode b_MD_stands 27 = .ok (.getfield 17, 3) := by decide +kernel
theorem d_MD_stands_30 : decode b_MD_stands 30 = .ok (.iload_n 1, 1) := by decide +kernel
theorem d_MD_stands_31 : decode b_MD_stands 31 = .ok (.iload_n 2, 1) := by decide +kernel
theorem d_MD_stands_32 : decode b_MD_stands 32 = .ok (.iadd, 1) := by decide +kernel
theorem d_MD_stands_33 : decode b_MD_stands 33 = .ok (.baload, 1) := by decide +kernel
theorem d_MD_stands_34 : decode b_MD_stands 34 = .ok (.aload_n 0, 1) := by decide +kernel
theorem d_MD_stands_35 : decode b_MD_stands 35 = .ok (.getfield 23, 3) := by decide +kernel
theorem d_MD_stands_38 : decode b_MD_stands 38 = .ok (.iload_n 2, 1) := by decide +kernel
theorem d_MD_stands_39 : decode b_MD_stands 39 = .ok (.baload, 1) := by decide +kernel
theorem d_MD_stands_40 : decode b_MD_stands 40 = .ok (.if_icmp .eq 5, 3) := by decide +kernel
theorem d_MD_stands_43 : decode b_MD_stands 43 = .ok (.iconst 0, 1) := by decide +kernel
theorem d_MD_stands_44 : decode b_MD_stands 44 = .ok (.ireturn, 1) := by decide +kernel
theorem d_MD_stands_45 : decode b_MD_stands 45 = .ok (.iinc 2 1, 3) := by decide +kernel
theorem d_MD_stands_48 : decode b_MD_stands 48 = .ok (.goto (-30), 3) := by decide +kernel
theorem d_MD_stands_51 : decode b_MD_stands 51 = .ok (.iconst 1, 1) := by decide +kernel
theorem d_MD_stands_52 : decode b_MD_stands 52 = .ok (.ireturn, 1) := by decide +kernel
def vc_MD_thrown (z_thrown : Int32) (post : Int32 → Prop) : Prop :=
  post z_thrown
def vc_MD_refuse (a_p1 : Int32) (a_p2 : Int32) (post : Int32 → Int32 → Prop) (z_thrown : Int32) : Prop :=
  ((a_p2 = 0 → narrow .boolean (.int a_p2) = .int a_p2 ∧ post a_p2 z_thrown) ∧ (¬ (a_p2 = 0) → narrow .boolean (.int a_p2) = .int a_p2 ∧ post a_p2 a_p1))
def vc_MD_feed_86 (a_p1 : Int32) (a_p2 : Int32) (a_p3 : Int32) (a_p4 : Int32) (a_p5 : Int32) (post : Int32 → Int32 → Int32 → (Nat → Int32) → Prop) (K33 : Int32 → Int32 → Int32 → (Nat → Int32) → Prop) (x6 : Int32) (k0 : Int32) (z_thrown : Int32) (z_size : Int32) (z_tape : Nat → Int32) : Prop :=
  vp_in z_size 16384 ∧ K33 (x6 + 1) z_thrown (z_size + 1) (upd z_tape z_size.toNatClampNeg (vp_nar .byte (((k0.toUInt32 >>> ((24 - (8 * (x6 - x6 / 4 * 4))).toUInt32 &&& Int32.toUInt32 31)).toInt32).toInt8.toInt32)))
def vc_MD_feed_33 (a_p1 : Int32) (a_p2 : Int32) (a_p3 : Int32) (a_p4 : Int32) (a_p5 : Int32) (post : Int32 → Int32 → Int32 → (Nat → Int32) → Prop) : Nat → Int32 → Int32 → Int32 → (Nat → Int32) → Prop
  | 0, _, _, _, _ => False
  | k + 1, x6, z_thrown, z_size, z_tape => ((20 ≤ x6 → post z_size z_thrown z_size z_tape) ∧ (¬ (20 ≤ x6) → ((4 ≤ x6 → ((8 ≤ x6 → ((12 ≤ x6 → ((16 ≤ x6 → vc_MD_feed_86 a_p1 a_p2 a_p3 a_p4 a_p5 post (fun x6' z_thrown' z_size' z_tape' => vc_MD_feed_33 a_p1 a_p2 a_p3 a_p4 a_p5 post k x6' z_thrown' z_size' z_tape') x6 a_p5 z_thrown z_size z_tape) ∧ (¬ (16 ≤ x6) → vc_MD_feed_86 a_p1 a_p2 a_p3 a_p4 a_p5 post (fun x6' z_thrown' z_size' z_tape' => vc_MD_feed_33 a_p1 a_p2 a_p3 a_p4 a_p5 post k x6' z_thrown' z_size' z_tape') x6 a_p4 z_thrown z_size z_tape))) ∧ (¬ (12 ≤ x6) → vc_MD_feed_86 a_p1 a_p2 a_p3 a_p4 a_p5 post (fun x6' z_thrown' z_size' z_tape' => vc_MD_feed_33 a_p1 a_p2 a_p3 a_p4 a_p5 post k x6' z_thrown' z_size' z_tape') x6 a_p3 z_thrown z_size z_tape))) ∧ (¬ (8 ≤ x6) → vc_MD_feed_86 a_p1 a_p2 a_p3 a_p4 a_p5 post (fun x6' z_thrown' z_size' z_tape' => vc_MD_feed_33 a_p1 a_p2 a_p3 a_p4 a_p5 post k x6' z_thrown' z_size' z_tape') x6 a_p2 z_thrown z_size z_tape))) ∧ (¬ (4 ≤ x6) → vc_MD_feed_86 a_p1 a_p2 a_p3 a_p4 a_p5 post (fun x6' z_thrown' z_size' z_tape' => vc_MD_feed_33 a_p1 a_p2 a_p3 a_p4 a_p5 post k x6' z_thrown' z_size' z_tape') x6 a_p1 z_thrown z_size z_tape))))
def vc_MD_feed_22 (a_p1 : Int32) (a_p2 : Int32) (a_p3 : Int32) (a_p4 : Int32) (a_p5 : Int32) (post : Int32 → Int32 → Int32 → (Nat → Int32) → Prop) (k1 : Int32) (k2 : Int32) (z_thrown : Int32) (z_size : Int32) (z_tape : Nat → Int32) : Prop :=
  vc_MD_refuse k1 k2 (fun r6 u6_0 => ((r6 = 0 → ∃ j : Nat, vc_MD_feed_33 a_p1 a_p2 a_p3 a_p4 a_p5 post j 0 u6_0 z_size z_tape) ∧ (¬ (r6 = 0) → post 0 u6_0 z_size z_tape))) z_thrown
def vc_MD_feed (a_p1 : Int32) (a_p2 : Int32) (a_p3 : Int32) (a_p4 : Int32) (a_p5 : Int32) (post : Int32 → Int32 → Int32 → (Nat → Int32) → Prop) (z_thrown : Int32) (z_size : Int32) (z_tape : Nat → Int32) : Prop :=
  ((z_size ≤ 16364 → vc_MD_feed_22 a_p1 a_p2 a_p3 a_p4 a_p5 post 1 0 0 z_size z_tape) ∧ (¬ (z_size ≤ 16364) → vc_MD_feed_22 a_p1 a_p2 a_p3 a_p4 a_p5 post 1 1 0 z_size z_tape))
def vc_MD_end_24 (a_p1 : Int32) (post : Int32 → Int32 → Int32 → Prop) (k1 : Int32) (k2 : Int32) (z_thrown : Int32) (z_size : Int32) : Prop :=
  vc_MD_refuse k1 k2 (fun r1 u1_0 => ((r1 = 0 → post a_p1 u1_0 a_p1) ∧ (¬ (r1 = 0) → post 0 u1_0 z_size))) z_thrown
def vc_MD_end_19 (a_p1 : Int32) (post : Int32 → Int32 → Int32 → Prop) (k1 : Int32) (z_thrown : Int32) (z_size : Int32) : Prop :=
  vc_MD_end_24 a_p1 post k1 1 z_thrown z_size
def vc_MD_end (a_p1 : Int32) (post : Int32 → Int32 → Int32 → Prop) (z_thrown : Int32) (z_size : Int32) : Prop :=
  ((a_p1 < 0 → vc_MD_end_19 a_p1 post 1 0 z_size) ∧ (¬ (a_p1 < 0) → ((a_p1 ≤ z_size → vc_MD_end_24 a_p1 post 1 0 0 z_size) ∧ (¬ (a_p1 ≤ z_size) → vc_MD_end_19 a_p1 post 1 0 z_size))))
def vc_MD_add_79 (z_tape : Nat → Int32) (post : Int32 → Int32 → Int32 → Int32 → Int32 → (Nat → Int32) → (Nat → Int32) → (Nat → Int32) → Prop) : Nat → Int32 → Int32 → Int32 → Int32 → Int32 → (Nat → Int32) → (Nat → Int32) → (Nat → Int32) → Prop
  | 0, _, _, _, _, _, _, _, _ => False
  | k + 1, x1, z_thrown, z_size, z_documents, z_rows, z_row, z_start, z_documentOf => ((z_size ≤ x1 → vp_in (z_documents + 1) 66 ∧ post ((z_documents + 1) - 1) z_thrown 0 (z_documents + 1) z_rows z_row (upd z_start (z_documents + 1).toNatClampNeg z_rows) z_documentOf) ∧ (¬ (z_size ≤ x1) → vp_in z_rows 16384 ∧ vp_in x1 16384 ∧ vp_in z_rows 16384 ∧ vc_MD_add_79 z_tape post k (x1 + 1) z_thrown z_size z_documents (z_rows + 1) (upd z_row z_rows.toNatClampNeg (vp_nar .byte (z_tape x1.toNatClampNeg))) z_start (upd z_documentOf z_rows.toNatClampNeg z_documents)))
def vc_MD_add_56 (z_tape : Nat → Int32) (post : Int32 → Int32 → Int32 → Int32 → Int32 → (Nat → Int32) → (Nat → Int32) → (Nat → Int32) → Prop) (k1 : Int32) (k2 : Int32) (z_thrown : Int32) (z_size : Int32) (z_documents : Int32) (z_rows : Int32) (z_row : Nat → Int32) (z_start : Nat → Int32) (z_documentOf : Nat → Int32) : Prop :=
  vc_MD_refuse k1 k2 (fun r2 u2_0 => ((r2 = 0 → vp_in z_documents 66 ∧ ∃ j : Nat, vc_MD_add_79 z_tape post j 0 u2_0 z_size z_documents z_rows z_row (upd z_start z_documents.toNatClampNeg z_rows) z_documentOf) ∧ (¬ (r2 = 0) → post 0 u2_0 z_size z_documents z_rows z_row z_start z_documentOf))) z_thrown
def vc_MD_add_51 (z_tape : Nat → Int32) (post : Int32 → Int32 → Int32 → Int32 → Int32 → (Nat → Int32) → (Nat → Int32) → (Nat → Int32) → Prop) (k1 : Int32) (z_thrown : Int32) (z_size : Int32) (z_documents : Int32) (z_rows : Int32) (z_row : Nat → Int32) (z_start : Nat → Int32) (z_documentOf : Nat → Int32) : Prop :=
  vc_MD_add_56 z_tape post k1 1 z_thrown z_size z_documents z_rows z_row z_start z_documentOf
def vc_MD_add_19 (z_tape : Nat → Int32) (post : Int32 → Int32 → Int32 → Int32 → Int32 → (Nat → Int32) → (Nat → Int32) → (Nat → Int32) → Prop) (k1 : Int32) (k2 : Int32) (z_thrown : Int32) (z_size : Int32) (z_documents : Int32) (z_rows : Int32) (z_row : Nat → Int32) (z_start : Nat → Int32) (z_documentOf : Nat → Int32) : Prop :=
  vc_MD_refuse k1 k2 (fun r4 u4_0 => ((¬ r4 = 0 → post 0 u4_0 z_size z_documents z_rows z_row z_start z_documentOf) ∧ (r4 = 0 → ((z_documents = 64 → vc_MD_add_51 z_tape post 2 u4_0 z_size z_documents z_rows z_row z_start z_documentOf) ∧ (¬ (z_documents = 64) → (((z_rows + z_size) ≤ 16384 → vc_MD_add_56 z_tape post 2 0 u4_0 z_size z_documents z_rows z_row z_start z_documentOf) ∧ (¬ ((z_rows + z_size) ≤ 16384) → vc_MD_add_51 z_tape post 2 u4_0 z_size z_documents z_rows z_row z_start z_documentOf))))))) z_thrown
def vc_MD_add (z_tape : Nat → Int32) (post : Int32 → Int32 → Int32 → Int32 → Int32 → (Nat → Int32) → (Nat → Int32) → (Nat → Int32) → Prop) (z_thrown : Int32) (z_size : Int32) (z_documents : Int32) (z_rows : Int32) (z_row : Nat → Int32) (z_start : Nat → Int32) (z_documentOf : Nat → Int32) : Prop :=
  ((¬ z_size = 0 → vc_MD_add_19 z_tape post 1 0 0 z_size z_documents z_rows z_row z_start z_documentOf) ∧ (z_size = 0 → vc_MD_add_19 z_tape post 1 1 0 z_size z_documents z_rows z_row z_start z_documentOf))
def vc_MD_clear (post : Int32 → Int32 → Int32 → Int32 → Int32 → Int32 → Int32 → Prop) (z_thrown : Int32) (z_soughtSize : Int32) (z_documents : Int32) (z_indexed : Int32) (z_suffixes : Int32) (z_rows : Int32) : Prop :=
  post z_documents 0 0 0 0 0 0
def vc_MD_endOf (a_p1 : Int32) (z_start : Nat → Int32) (z_documentOf : Nat → Int32) (post : Int32 → Prop) : Prop :=
  vp_in a_p1 16384 ∧ vp_in ((z_documentOf a_p1.toNatClampNeg) + 1) 66 ∧ post (z_start ((z_documentOf a_p1.toNatClampNeg) + 1).toNatClampNeg)
def vc_MD_rankAt (a_p1 : Int32) (a_p2 : Int32) (z_start : Nat → Int32) (z_documentOf : Nat → Int32) (z_rankOf : Nat → Int32) (post : Int32 → Prop) : Prop :=
  vc_MD_endOf a_p1 z_start z_documentOf (fun r1 => ((r1 ≤ (a_p1 + a_p2) → post (-1)) ∧ (¬ (r1 ≤ (a_p1 + a_p2)) → vp_in (a_p1 + a_p2) 16384 ∧ post (z_rankOf (a_p1 + a_p2).toNatClampNeg))))
def vc_MD_compare (a_p1 : Int32) (a_p2 : Int32) (a_p3 : Int32) (z_start : Nat → Int32) (z_documentOf : Nat → Int32) (z_rankOf : Nat → Int32) (post : Int32 → Prop) : Prop :=
  vp_in a_p1 16384 ∧ vp_in a_p2 16384 ∧ (((z_rankOf a_p1.toNatClampNeg) = (z_rankOf a_p2.toNatClampNeg) → vc_MD_rankAt a_p1 a_p3 z_start z_documentOf z_rankOf (fun r2 => vc_MD_rankAt a_p2 a_p3 z_start z_documentOf z_rankOf (fun r3 => post (r2 - r3)))) ∧ (¬ ((z_rankOf a_p1.toNatClampNeg) = (z_rankOf a_p2.toNatClampNeg)) → vp_in a_p1 16384 ∧ vp_in a_p2 16384 ∧ post ((z_rankOf a_p1.toNatClampNeg) - (z_rankOf a_p2.toNatClampNeg))))
def vc_MD_sort_123 (a_p1 : Int32) (a_p2 : Int32) (a_p3 : Int32) (z_start : Nat → Int32) (z_documentOf : Nat → Int32) (z_rankOf : Nat → Int32) (post : (Nat → Int32) → (Nat → Int32) → Prop) (K41 : Int32 → Int32 → Int32 → Int32 → (Nat → Int32) → (Nat → Int32) → Prop) (x4 : Int32) (x5 : Int32) (x6 : Int32) (x7 : Int32) (k1 : Int32) (k2 : Int32) (z_order : Nat → Int32) (z_work : Nat → Int32) : Prop :=
  vp_in k1 16384 ∧ K41 x4 x5 x6 (x7 + 1) z_order (upd z_work k1.toNatClampNeg k2)
def vc_MD_sort_87 (a_p1 : Int32) (a_p2 : Int32) (a_p3 : Int32) (z_start : Nat → Int32) (z_documentOf : Nat → Int32) (z_rankOf : Nat → Int32) (post : (Nat → Int32) → (Nat → Int32) → Prop) (K41 : Int32 → Int32 → Int32 → Int32 → (Nat → Int32) → (Nat → Int32) → Prop) (x4 : Int32) (x5 : Int32) (x6 : Int32) (x7 : Int32) (k0 : Int32) (z_order : Nat → Int32) (z_work : Nat → Int32) : Prop :=
  ((k0 = 0 → vp_in x6 16384 ∧ vc_MD_sort_123 a_p1 a_p2 a_p3 z_start z_documentOf z_rankOf post K41 x4 x5 (x6 + 1) x7 x7 (z_order x6.toNatClampNeg) z_order z_work) ∧ (¬ (k0 = 0) → vp_in x5 16384 ∧ vc_MD_sort_123 a_p1 a_p2 a_p3 z_start z_documentOf z_rankOf post K41 x4 (x5 + 1) x6 x7 x7 (z_order x5.toNatClampNeg) z_order z_work))
def vc_MD_sort_82 (a_p1 : Int32) (a_p2 : Int32) (a_p3 : Int32) (z_start : Nat → Int32) (z_documentOf : Nat → Int32) (z_rankOf : Nat → Int32) (post : (Nat → Int32) → (Nat → Int32) → Prop) (K41 : Int32 → Int32 → Int32 → Int32 → (Nat → Int32) → (Nat → Int32) → Prop) (x4 : Int32) (x5 : Int32) (x6 : Int32) (x7 : Int32) (z_order : Nat → Int32) (z_work : Nat → Int32) : Prop :=
  vc_MD_sort_87 a_p1 a_p2 a_p3 z_start z_documentOf z_rankOf post K41 x4 x5 x6 x7 1 z_order z_work
def vc_MD_sort_86 (a_p1 : Int32) (a_p2 : Int32) (a_p3 : Int32) (z_start : Nat → Int32) (z_documentOf : Nat → Int32) (z_rankOf : Nat → Int32) (post : (Nat → Int32) → (Nat → Int32) → Prop) (K41 : Int32 → Int32 → Int32 → Int32 → (Nat → Int32) → (Nat → Int32) → Prop) (x4 : Int32) (x5 : Int32) (x6 : Int32) (x7 : Int32) (z_order : Nat → Int32) (z_work : Nat → Int32) : Prop :=
  vc_MD_sort_87 a_p1 a_p2 a_p3 z_start z_documentOf z_rankOf post K41 x4 x5 x6 x7 0 z_order z_work
def vc_MD_sort_133 (a_p1 : Int32) (a_p2 : Int32) (a_p3 : Int32) (z_start : Nat → Int32) (z_documentOf : Nat → Int32) (z_rankOf : Nat → Int32) (post : (Nat → Int32) → (Nat → Int32) → Prop) : Nat → Int32 → (Nat → Int32) → (Nat → Int32) → Prop
  | 0, _, _, _ => False
  | k + 1, x7, z_order, z_work => ((a_p2 ≤ x7 → post z_order z_work) ∧ (¬ (a_p2 ≤ x7) → vp_in x7 16384 ∧ vp_in x7 16384 ∧ vc_MD_sort_133 a_p1 a_p2 a_p3 z_start z_documentOf z_rankOf post k (x7 + 1) (upd z_order x7.toNatClampNeg (z_work x7.toNatClampNeg)) z_work))
def vc_MD_sort_41 (a_p1 : Int32) (a_p2 : Int32) (a_p3 : Int32) (z_start : Nat → Int32) (z_documentOf : Nat → Int32) (z_rankOf : Nat → Int32) (post : (Nat → Int32) → (Nat → Int32) → Prop) : Nat → Int32 → Int32 → Int32 → Int32 → (Nat → Int32) → (Nat → Int32) → Prop
  | 0, _, _, _, _, _, _ => False
  | k + 1, x4, x5, x6, x7, z_order, z_work => ((a_p2 ≤ x7 → ∃ j : Nat, vc_MD_sort_133 a_p1 a_p2 a_p3 z_start z_documentOf z_rankOf post j a_p1 z_order z_work) ∧ (¬ (a_p2 ≤ x7) → ((x6 = a_p2 → vc_MD_sort_82 a_p1 a_p2 a_p3 z_start z_documentOf z_rankOf post (fun x4' x5' x6' x7' z_order' z_work' => vc_MD_sort_41 a_p1 a_p2 a_p3 z_start z_documentOf z_rankOf post k x4' x5' x6' x7' z_order' z_work') x4 x5 x6 x7 z_order z_work) ∧ (¬ (x6 = a_p2) → ((x4 ≤ x5 → vc_MD_sort_86 a_p1 a_p2 a_p3 z_start z_documentOf z_rankOf post (fun x4' x5' x6' x7' z_order' z_work' => vc_MD_sort_41 a_p1 a_p2 a_p3 z_start z_documentOf z_rankOf post k x4' x5' x6' x7' z_order' z_work') x4 x5 x6 x7 z_order z_work) ∧ (¬ (x4 ≤ x5) → vp_in x5 16384 ∧ vp_in x6 16384 ∧ vc_MD_compare (z_order x5.toNatClampNeg) (z_order x6.toNatClampNeg) a_p3 z_start z_documentOf z_rankOf (fun r6 => ((0 < r6 → vc_MD_sort_86 a_p1 a_p2 a_p3 z_start z_documentOf z_rankOf post (fun x4' x5' x6' x7' z_order' z_work' => vc_MD_sort_41 a_p1 a_p2 a_p3 z_start z_documentOf z_rankOf post k x4' x5' x6' x7' z_order' z_work') x4 x5 x6 x7 z_order z_work) ∧ (¬ (0 < r6) → vc_MD_sort_82 a_p1 a_p2 a_p3 z_start z_documentOf z_rankOf post (fun x4' x5' x6' x7' z_order' z_work' => vc_MD_sort_41 a_p1 a_p2 a_p3 z_start z_documentOf z_rankOf post k x4' x5' x6' x7' z_order' z_work') x4 x5 x6 x7 z_order z_work)))))))))
def vc_MD_sort (z_start : Nat → Int32) (z_documentOf : Nat → Int32) (z_rankOf : Nat → Int32) : Nat → Int32 → Int32 → Int32 → ((Nat → Int32) → (Nat → Int32) → Prop) → (Nat → Int32) → (Nat → Int32) → Prop
  | 0, _, _, _, _, _, _ => False
  | d + 1, a_p1, a_p2, a_p3, post, z_order, z_work => ((2 ≤ (a_p2 - a_p1) → vc_MD_sort z_start z_documentOf z_rankOf d a_p1 ((a_p1 + a_p2) / 2) a_p3 (fun u9_0 u9_1 => vc_MD_sort z_start z_documentOf z_rankOf d ((a_p1 + a_p2) / 2) a_p2 a_p3 (fun u10_0 u10_1 => ∃ j : Nat, vc_MD_sort_41 a_p1 a_p2 a_p3 z_start z_documentOf z_rankOf post j ((a_p1 + a_p2) / 2) a_p1 ((a_p1 + a_p2) / 2) a_p1 u10_0 u10_1) u9_0 u9_1) z_order z_work) ∧ (¬ (2 ≤ (a_p2 - a_p1)) → post z_order z_work))
def vc_MD_alike_2 (a_p1 : Int32) (a_p2 : Int32) (z_row : Nat → Int32) (z_start : Nat → Int32) (z_documentOf : Nat → Int32) (post : Int32 → Prop) : Nat → Int32 → Prop
  | 0, _ => False
  | k + 1, x3 => vc_MD_endOf a_p1 z_start z_documentOf (fun r1 => ((r1 ≤ (a_p1 + x3) → post x3) ∧ (¬ (r1 ≤ (a_p1 + x3)) → vc_MD_endOf a_p2 z_start z_documentOf (fun r3 => ((r3 ≤ (a_p2 + x3) → post x3) ∧ (¬ (r3 ≤ (a_p2 + x3)) → vp_in (a_p1 + x3) 16384 ∧ vp_in (a_p2 + x3) 16384 ∧ ((¬ (z_row (a_p1 + x3).toNatClampNeg) = (z_row (a_p2 + x3).toNatClampNeg) → post x3) ∧ ((z_row (a_p1 + x3).toNatClampNeg) = (z_row (a_p2 + x3).toNatClampNeg) → vc_MD_alike_2 a_p1 a_p2 z_row z_start z_documentOf post k (x3 + 1)))))))))
def vc_MD_alike (a_p1 : Int32) (a_p2 : Int32) (z_row : Nat → Int32) (z_start : Nat → Int32) (z_documentOf : Nat → Int32) (post : Int32 → Prop) : Prop :=
  ∃ j : Nat, vc_MD_alike_2 a_p1 a_p2 z_row z_start z_documentOf post j 0
def vc_MD_build_140 (z_documents : Int32) (z_rows : Int32) (z_row : Nat → Int32) (z_start : Nat → Int32) (z_documentOf : Nat → Int32) (post : Int32 → Int32 → Int32 → Int32 → Int32 → (Nat → Int32) → (Nat → Int32) → (Nat → Int32) → (Nat → Int32) → (Nat → Int32) → Prop) (K99 : Int32 → Int32 → Int32 → Int32 → Int32 → Int32 → Int32 → (Nat → Int32) → (Nat → Int32) → (Nat → Int32) → (Nat → Int32) → (Nat → Int32) → Prop) (x2 : Int32) (x3 : Int32) (x4 : Int32) (z_thrown : Int32) (z_soughtSize : Int32) (z_indexed : Int32) (z_suffixes : Int32) (z_order : Nat → Int32) (z_rankOf : Nat → Int32) (z_same : Nat → Int32) (z_work : Nat → Int32) (z_next : Nat → Int32) : Prop :=
  vp_in x4 16384 ∧ vp_in (z_order x4.toNatClampNeg) 16384 ∧ K99 x2 x3 (x4 + 1) z_thrown z_soughtSize z_indexed z_suffixes z_order z_rankOf z_same z_work (upd z_next (z_order x4.toNatClampNeg).toNatClampNeg x3)
def vc_MD_build_204 (z_documents : Int32) (z_rows : Int32) (z_row : Nat → Int32) (z_start : Nat → Int32) (z_documentOf : Nat → Int32) (post : Int32 → Int32 → Int32 → Int32 → Int32 → (Nat → Int32) → (Nat → Int32) → (Nat → Int32) → (Nat → Int32) → (Nat → Int32) → Prop) (K80 : Int32 → Int32 → Int32 → Int32 → Int32 → Int32 → (Nat → Int32) → (Nat → Int32) → (Nat → Int32) → (Nat → Int32) → (Nat → Int32) → Prop) (x2 : Int32) (k0 : Int32) (z_thrown : Int32) (z_soughtSize : Int32) (z_indexed : Int32) (z_suffixes : Int32) (z_order : Nat → Int32) (z_rankOf : Nat → Int32) (z_same : Nat → Int32) (z_work : Nat → Int32) (z_next : Nat → Int32) : Prop :=
  K80 k0 (x2 * 2) z_thrown z_soughtSize z_indexed z_suffixes z_order z_rankOf z_same z_work z_next
def vc_MD_build_162 (z_documents : Int32) (z_rows : Int32) (z_row : Nat → Int32) (z_start : Nat → Int32) (z_documentOf : Nat → Int32) (post : Int32 → Int32 → Int32 → Int32 → Int32 → (Nat → Int32) → (Nat → Int32) → (Nat → Int32) → (Nat → Int32) → (Nat → Int32) → Prop) (K80 : Int32 → Int32 → Int32 → Int32 → Int32 → Int32 → (Nat → Int32) → (Nat → Int32) → (Nat → Int32) → (Nat → Int32) → (Nat → Int32) → Prop) : Nat → Int32 → Int32 → Int32 → Int32 → Int32 → Int32 → (Nat → Int32) → (Nat → Int32) → (Nat → Int32) → (Nat → Int32) → (Nat → Int32) → Prop
  | 0, _, _, _, _, _, _, _, _, _, _, _ => False
  | k + 1, x2, x4, z_thrown, z_soughtSize, z_indexed, z_suffixes, z_order, z_rankOf, z_same, z_work, z_next => ((z_suffixes ≤ x4 → ((z_suffixes ≤ x2 → vc_MD_build_204 z_documents z_rows z_row z_start z_documentOf post K80 x2 0 z_thrown z_soughtSize z_indexed z_suffixes z_order z_rankOf z_same z_work z_next) ∧ (¬ (z_suffixes ≤ x2) → vc_MD_build_204 z_documents z_rows z_row z_start z_documentOf post K80 x2 1 z_thrown z_soughtSize z_indexed z_suffixes z_order z_rankOf z_same z_work z_next))) ∧ (¬ (z_suffixes ≤ x4) → vp_in x4 16384 ∧ vp_in x4 16384 ∧ vc_MD_build_162 z_documents z_rows z_row z_start z_documentOf post K80 k x2 (x4 + 1) z_thrown z_soughtSize z_indexed z_suffixes z_order (upd z_rankOf x4.toNatClampNeg (z_next x4.toNatClampNeg)) z_same z_work z_next))
def vc_MD_build_99 (z_documents : Int32) (z_rows : Int32) (z_row : Nat → Int32) (z_start : Nat → Int32) (z_documentOf : Nat → Int32) (post : Int32 → Int32 → Int32 → Int32 → Int32 → (Nat → Int32) → (Nat → Int32) → (Nat → Int32) → (Nat → Int32) → (Nat → Int32) → Prop) (K80 : Int32 → Int32 → Int32 → Int32 → Int32 → Int32 → (Nat → Int32) → (Nat → Int32) → (Nat → Int32) → (Nat → Int32) → (Nat → Int32) → Prop) : Nat → Int32 → Int32 → Int32 → Int32 → Int32 → Int32 → Int32 → (Nat → Int32) → (Nat → Int32) → (Nat → Int32) → (Nat → Int32) → (Nat → Int32) → Prop
  | 0, _, _, _, _, _, _, _, _, _, _, _, _ => False
  | k + 1, x2, x3, x4, z_thrown, z_soughtSize, z_indexed, z_suffixes, z_order, z_rankOf, z_same, z_work, z_next => ((z_suffixes ≤ x4 → ∃ j : Nat, vc_MD_build_162 z_documents z_rows z_row z_start z_documentOf post K80 j x2 0 z_thrown z_soughtSize z_indexed z_suffixes z_order z_rankOf z_same z_work z_next) ∧ (¬ (z_suffixes ≤ x4) → ((x4 ≤ 0 → vc_MD_build_140 z_documents z_rows z_row z_start z_documentOf post (fun x2' x3' x4' z_thrown' z_soughtSize' z_indexed' z_suffixes' z_order' z_rankOf' z_same' z_work' z_next' => vc_MD_build_99 z_documents z_rows z_row z_start z_documentOf post K80 k x2' x3' x4' z_thrown' z_soughtSize' z_indexed' z_suffixes' z_order' z_rankOf' z_same' z_work' z_next') x2 x3 x4 z_thrown z_soughtSize z_indexed z_suffixes z_order z_rankOf z_same z_work z_next) ∧ (¬ (x4 ≤ 0) → vp_in (x4 - 1) 16384 ∧ vp_in x4 16384 ∧ vc_MD_compare (z_order (x4 - 1).toNatClampNeg) (z_order x4.toNatClampNeg) x2 z_start z_documentOf z_rankOf (fun r5 => ((r5 = 0 → vc_MD_build_140 z_documents z_rows z_row z_start z_documentOf post (fun x2' x3' x4' z_thrown' z_soughtSize' z_indexed' z_suffixes' z_order' z_rankOf' z_same' z_work' z_next' => vc_MD_build_99 z_documents z_rows z_row z_start z_documentOf post K80 k x2' x3' x4' z_thrown' z_soughtSize' z_indexed' z_suffixes' z_order' z_rankOf' z_same' z_work' z_next') x2 x3 x4 z_thrown z_soughtSize z_indexed z_suffixes z_order z_rankOf z_same z_work z_next) ∧ (¬ (r5 = 0) → vc_MD_build_140 z_documents z_rows z_row z_start z_documentOf post (fun x2' x3' x4' z_thrown' z_soughtSize' z_indexed' z_suffixes' z_order' z_rankOf' z_same' z_work' z_next' => vc_MD_build_99 z_documents z_rows z_row z_start z_documentOf post K80 k x2' x3' x4' z_thrown' z_soughtSize' z_indexed' z_suffixes' z_order' z_rankOf' z_same' z_work' z_next') x2 (x3 + 1) x4 z_thrown z_soughtSize z_indexed z_suffixes z_order z_rankOf z_same z_work z_next)))))))
def vc_MD_build_337 (z_documents : Int32) (z_rows : Int32) (z_row : Nat → Int32) (z_start : Nat → Int32) (z_documentOf : Nat → Int32) (post : Int32 → Int32 → Int32 → Int32 → Int32 → (Nat → Int32) → (Nat → Int32) → (Nat → Int32) → (Nat → Int32) → (Nat → Int32) → Prop) (K277 : Int32 → Int32 → Int32 → Int32 → Int32 → (Nat → Int32) → (Nat → Int32) → (Nat → Int32) → (Nat → Int32) → (Nat → Int32) → Prop) (x2 : Int32) (k1 : Int32) (k2 : Int32) (z_thrown : Int32) (z_soughtSize : Int32) (z_indexed : Int32) (z_suffixes : Int32) (z_order : Nat → Int32) (z_rankOf : Nat → Int32) (z_same : Nat → Int32) (z_work : Nat → Int32) (z_next : Nat → Int32) : Prop :=
  vp_in k1 16385 ∧ K277 (x2 + 1) z_thrown z_soughtSize z_indexed z_suffixes z_order z_rankOf (upd z_same k1.toNatClampNeg k2) z_work z_next
def vc_MD_build_315 (z_documents : Int32) (z_rows : Int32) (z_row : Nat → Int32) (z_start : Nat → Int32) (z_documentOf : Nat → Int32) (post : Int32 → Int32 → Int32 → Int32 → Int32 → (Nat → Int32) → (Nat → Int32) → (Nat → Int32) → (Nat → Int32) → (Nat → Int32) → Prop) (K277 : Int32 → Int32 → Int32 → Int32 → Int32 → (Nat → Int32) → (Nat → Int32) → (Nat → Int32) → (Nat → Int32) → (Nat → Int32) → Prop) (x2 : Int32) (k1 : Int32) (z_thrown : Int32) (z_soughtSize : Int32) (z_indexed : Int32) (z_suffixes : Int32) (z_order : Nat → Int32) (z_rankOf : Nat → Int32) (z_same : Nat → Int32) (z_work : Nat → Int32) (z_next : Nat → Int32) : Prop :=
  vc_MD_build_337 z_documents z_rows z_row z_start z_documentOf post K277 x2 k1 0 z_thrown z_soughtSize z_indexed z_suffixes z_order z_rankOf z_same z_work z_next
def vc_MD_build_303 (z_documents : Int32) (z_rows : Int32) (z_row : Nat → Int32) (z_start : Nat → Int32) (z_documentOf : Nat → Int32) (post : Int32 → Int32 → Int32 → Int32 → Int32 → (Nat → Int32) → (Nat → Int32) → (Nat → Int32) → (Nat → Int32) → (Nat → Int32) → Prop) (K277 : Int32 → Int32 → Int32 → Int32 → Int32 → (Nat → Int32) → (Nat → Int32) → (Nat → Int32) → (Nat → Int32) → (Nat → Int32) → Prop) (x2 : Int32) (k1 : Int32) (z_thrown : Int32) (z_soughtSize : Int32) (z_indexed : Int32) (z_suffixes : Int32) (z_order : Nat → Int32) (z_rankOf : Nat → Int32) (z_same : Nat → Int32) (z_work : Nat → Int32) (z_next : Nat → Int32) : Prop :=
  ((x2 = 0 → vc_MD_build_315 z_documents z_rows z_row z_start z_documentOf post K277 x2 k1 z_thrown z_soughtSize z_indexed z_suffixes z_order z_rankOf z_same z_work z_next) ∧ (¬ (x2 = 0) → ((¬ x2 = z_suffixes → vp_in (x2 - 1) 16384 ∧ vp_in x2 16384 ∧ vc_MD_alike (z_order (x2 - 1).toNatClampNeg) (z_order x2.toNatClampNeg) z_row z_start z_documentOf (fun r9 => vc_MD_build_337 z_documents z_rows z_row z_start z_documentOf post K277 x2 k1 r9 z_thrown z_soughtSize z_indexed z_suffixes z_order z_rankOf z_same z_work z_next)) ∧ (x2 = z_suffixes → vc_MD_build_315 z_documents z_rows z_row z_start z_documentOf post K277 x2 k1 z_thrown z_soughtSize z_indexed z_suffixes z_order z_rankOf z_same z_work z_next))))
def vc_MD_build_277 (z_documents : Int32) (z_rows : Int32) (z_row : Nat → Int32) (z_start : Nat → Int32) (z_documentOf : Nat → Int32) (post : Int32 → Int32 → Int32 → Int32 → Int32 → (Nat → Int32) → (Nat → Int32) → (Nat → Int32) → (Nat → Int32) → (Nat → Int32) → Prop) : Nat → Int32 → Int32 → Int32 → Int32 → Int32 → (Nat → Int32) → (Nat → Int32) → (Nat → Int32) → (Nat → Int32) → (Nat → Int32) → Prop
  | 0, _, _, _, _, _, _, _, _, _, _ => False
  | k + 1, x2, z_thrown, z_soughtSize, z_indexed, z_suffixes, z_order, z_rankOf, z_same, z_work, z_next => ((z_suffixes < x2 → post z_suffixes z_thrown z_soughtSize z_indexed z_suffixes z_order z_rankOf z_same z_work z_next) ∧ (¬ (z_suffixes < x2) → ((¬ x2 = 16384 → vc_MD_build_303 z_documents z_rows z_row z_start z_documentOf post (fun x2' z_thrown' z_soughtSize' z_indexed' z_suffixes' z_order' z_rankOf' z_same' z_work' z_next' => vc_MD_build_277 z_documents z_rows z_row z_start z_documentOf post k x2' z_thrown' z_soughtSize' z_indexed' z_suffixes' z_order' z_rankOf' z_same' z_work' z_next') x2 x2 z_thrown z_soughtSize z_indexed z_suffixes z_order z_rankOf z_same z_work z_next) ∧ (x2 = 16384 → vc_MD_build_303 z_documents z_rows z_row z_start z_documentOf post (fun x2' z_thrown' z_soughtSize' z_indexed' z_suffixes' z_order' z_rankOf' z_same' z_work' z_next' => vc_MD_build_277 z_documents z_rows z_row z_start z_documentOf post k x2' z_thrown' z_soughtSize' z_indexed' z_suffixes' z_order' z_rankOf' z_same' z_work' z_next') x2 16384 z_thrown z_soughtSize z_indexed z_suffixes z_order z_rankOf z_same z_work z_next))))
def vc_MD_build_249 (z_documents : Int32) (z_rows : Int32) (z_row : Nat → Int32) (z_start : Nat → Int32) (z_documentOf : Nat → Int32) (post : Int32 → Int32 → Int32 → Int32 → Int32 → (Nat → Int32) → (Nat → Int32) → (Nat → Int32) → (Nat → Int32) → (Nat → Int32) → Prop) : Nat → Int32 → Int32 → Int32 → Int32 → Int32 → (Nat → Int32) → (Nat → Int32) → (Nat → Int32) → (Nat → Int32) → (Nat → Int32) → Prop
  | 0, _, _, _, _, _, _, _, _, _, _ => False
  | k + 1, x2, z_thrown, z_soughtSize, z_indexed, z_suffixes, z_order, z_rankOf, z_same, z_work, z_next => ((z_suffixes ≤ x2 → ∃ j : Nat, vc_MD_build_277 z_documents z_rows z_row z_start z_documentOf post j 0 z_thrown z_soughtSize z_indexed z_suffixes z_order z_rankOf z_same z_work z_next) ∧ (¬ (z_suffixes ≤ x2) → vp_in x2 16384 ∧ vp_in (z_order x2.toNatClampNeg) 16384 ∧ vc_MD_build_249 z_documents z_rows z_row z_start z_documentOf post k (x2 + 1) z_thrown z_soughtSize z_indexed z_suffixes z_order (upd z_rankOf (z_order x2.toNatClampNeg).toNatClampNeg x2) z_same z_work z_next))
def vc_MD_build_214 (z_documents : Int32) (z_rows : Int32) (z_row : Nat → Int32) (z_start : Nat → Int32) (z_documentOf : Nat → Int32) (post : Int32 → Int32 → Int32 → Int32 → Int32 → (Nat → Int32) → (Nat → Int32) → (Nat → Int32) → (Nat → Int32) → (Nat → Int32) → Prop) : Nat → Int32 → Int32 → Int32 → Int32 → Int32 → (Nat → Int32) → (Nat → Int32) → (Nat → Int32) → (Nat → Int32) → (Nat → Int32) → Prop
  | 0, _, _, _, _, _, _, _, _, _, _ => False
  | k + 1, x2, z_thrown, z_soughtSize, z_indexed, z_suffixes, z_order, z_rankOf, z_same, z_work, z_next => ((z_suffixes ≤ x2 → vc_MD_sort z_start z_documentOf z_rankOf 20 0 z_suffixes 16384 (fun u14_0 u14_1 => ∃ j : Nat, vc_MD_build_249 z_documents z_rows z_row z_start z_documentOf post j 0 z_thrown z_soughtSize z_indexed z_suffixes u14_0 z_rankOf z_same u14_1 z_next) z_order z_work) ∧ (¬ (z_suffixes ≤ x2) → vp_in x2 16384 ∧ vc_MD_build_214 z_documents z_rows z_row z_start z_documentOf post k (x2 + 1) z_thrown z_soughtSize z_indexed z_suffixes (upd z_order x2.toNatClampNeg x2) z_rankOf z_same z_work z_next))
def vc_MD_build_80 (z_documents : Int32) (z_rows : Int32) (z_row : Nat → Int32) (z_start : Nat → Int32) (z_documentOf : Nat → Int32) (post : Int32 → Int32 → Int32 → Int32 → Int32 → (Nat → Int32) → (Nat → Int32) → (Nat → Int32) → (Nat → Int32) → (Nat → Int32) → Prop) : Nat → Int32 → Int32 → Int32 → Int32 → Int32 → Int32 → (Nat → Int32) → (Nat → Int32) → (Nat → Int32) → (Nat → Int32) → (Nat → Int32) → Prop
  | 0, _, _, _, _, _, _, _, _, _, _, _ => False
  | k + 1, x1, x2, z_thrown, z_soughtSize, z_indexed, z_suffixes, z_order, z_rankOf, z_same, z_work, z_next => ((x1 = 0 → ∃ j : Nat, vc_MD_build_214 z_documents z_rows z_row z_start z_documentOf post j 0 z_thrown z_soughtSize z_indexed z_suffixes z_order z_rankOf z_same z_work z_next) ∧ (¬ (x1 = 0) → vc_MD_sort z_start z_documentOf z_rankOf 20 0 z_suffixes x2 (fun u16_0 u16_1 => ∃ j : Nat, vc_MD_build_99 z_documents z_rows z_row z_start z_documentOf post (fun x1' x2' z_thrown' z_soughtSize' z_indexed' z_suffixes' z_order' z_rankOf' z_same' z_work' z_next' => vc_MD_build_80 z_documents z_rows z_row z_start z_documentOf post k x1' x2' z_thrown' z_soughtSize' z_indexed' z_suffixes' z_order' z_rankOf' z_same' z_work' z_next') j x2 0 0 z_thrown z_soughtSize z_indexed z_suffixes u16_0 z_rankOf z_same u16_1 z_next) z_order z_work))
def vc_MD_build_77 (z_documents : Int32) (z_rows : Int32) (z_row : Nat → Int32) (z_start : Nat → Int32) (z_documentOf : Nat → Int32) (post : Int32 → Int32 → Int32 → Int32 → Int32 → (Nat → Int32) → (Nat → Int32) → (Nat → Int32) → (Nat → Int32) → (Nat → Int32) → Prop) (k0 : Int32) (z_thrown : Int32) (z_soughtSize : Int32) (z_indexed : Int32) (z_suffixes : Int32) (z_order : Nat → Int32) (z_rankOf : Nat → Int32) (z_same : Nat → Int32) (z_work : Nat → Int32) (z_next : Nat → Int32) : Prop :=
  ∃ j : Nat, vc_MD_build_80 z_documents z_rows z_row z_start z_documentOf post j k0 1 z_thrown z_soughtSize z_indexed z_suffixes z_order z_rankOf z_same z_work z_next
def vc_MD_build_28 (z_documents : Int32) (z_rows : Int32) (z_row : Nat → Int32) (z_start : Nat → Int32) (z_documentOf : Nat → Int32) (post : Int32 → Int32 → Int32 → Int32 → Int32 → (Nat → Int32) → (Nat → Int32) → (Nat → Int32) → (Nat → Int32) → (Nat → Int32) → Prop) : Nat → Int32 → Int32 → Int32 → Int32 → Int32 → (Nat → Int32) → (Nat → Int32) → (Nat → Int32) → (Nat → Int32) → (Nat → Int32) → Prop
  | 0, _, _, _, _, _, _, _, _, _, _ => False
  | k + 1, x1, z_thrown, z_soughtSize, z_indexed, z_suffixes, z_order, z_rankOf, z_same, z_work, z_next => ((z_suffixes ≤ x1 → ((z_suffixes ≤ 0 → vc_MD_build_77 z_documents z_rows z_row z_start z_documentOf post 0 z_thrown z_soughtSize z_indexed z_suffixes z_order z_rankOf z_same z_work z_next) ∧ (¬ (z_suffixes ≤ 0) → vc_MD_build_77 z_documents z_rows z_row z_start z_documentOf post 1 z_thrown z_soughtSize z_indexed z_suffixes z_order z_rankOf z_same z_work z_next))) ∧ (¬ (z_suffixes ≤ x1) → vp_in x1 16384 ∧ vp_in x1 16384 ∧ vp_in x1 16384 ∧ vc_MD_build_28 z_documents z_rows z_row z_start z_documentOf post k (x1 + 1) z_thrown z_soughtSize z_indexed z_suffixes (upd z_order x1.toNatClampNeg x1) (upd z_rankOf x1.toNatClampNeg ((z_row x1.toNatClampNeg) &&& 255)) z_same z_work z_next))
def vc_MD_build (z_documents : Int32) (z_rows : Int32) (z_row : Nat → Int32) (z_start : Nat → Int32) (z_documentOf : Nat → Int32) (post : Int32 → Int32 → Int32 → Int32 → Int32 → (Nat → Int32) → (Nat → Int32) → (Nat → Int32) → (Nat → Int32) → (Nat → Int32) → Prop) (z_thrown : Int32) (z_soughtSize : Int32) (z_indexed : Int32) (z_suffixes : Int32) (z_order : Nat → Int32) (z_rankOf : Nat → Int32) (z_same : Nat → Int32) (z_work : Nat → Int32) (z_next : Nat → Int32) : Prop :=
  ∃ j : Nat, vc_MD_build_28 z_documents z_rows z_row z_start z_documentOf post j 0 0 0 z_documents z_rows z_order z_rankOf z_same z_work z_next
def vc_MD_where (a_p1 : Int32) (z_start : Nat → Int32) (z_documentOf : Nat → Int32) (post : Int32 → Prop) : Prop :=
  vp_in a_p1 16384 ∧ vp_in a_p1 16384 ∧ vp_in (z_documentOf a_p1.toNatClampNeg) 66 ∧ post (((65536 * (z_documentOf a_p1.toNatClampNeg)) + a_p1) - (z_start (z_documentOf a_p1.toNatClampNeg).toNatClampNeg))
def vc_MD_placeOf_41 (a_p1 : Int32) (z_indexed : Int32) (z_start : Nat → Int32) (post : Int32 → Prop) : Prop :=
  post (-1)
def vc_MD_placeOf (a_p1 : Int32) (z_indexed : Int32) (z_start : Nat → Int32) (post : Int32 → Prop) : Prop :=
  (((a_p1 >>> ((16 : Int32) &&& 31)) < 0 → vc_MD_placeOf_41 a_p1 z_indexed z_start post ) ∧ (¬ ((a_p1 >>> ((16 : Int32) &&& 31)) < 0) → ((z_indexed ≤ (a_p1 >>> ((16 : Int32) &&& 31)) → vc_MD_placeOf_41 a_p1 z_indexed z_start post ) ∧ (¬ (z_indexed ≤ (a_p1 >>> ((16 : Int32) &&& 31))) → vp_in ((a_p1 >>> ((16 : Int32) &&& 31)) + 1) 66 ∧ vp_in (a_p1 >>> ((16 : Int32) &&& 31)) 66 ∧ (((a_p1 &&& 65535) < ((z_start ((a_p1 >>> ((16 : Int32) &&& 31)) + 1).toNatClampNeg) - (z_start (a_p1 >>> ((16 : Int32) &&& 31)).toNatClampNeg)) → vp_in (a_p1 >>> ((16 : Int32) &&& 31)) 66 ∧ post ((z_start (a_p1 >>> ((16 : Int32) &&& 31)).toNatClampNeg) + (a_p1 &&& 65535))) ∧ (¬ ((a_p1 &&& 65535) < ((z_start ((a_p1 >>> ((16 : Int32) &&& 31)) + 1).toNatClampNeg) - (z_start (a_p1 >>> ((16 : Int32) &&& 31)).toNatClampNeg))) → vc_MD_placeOf_41 a_p1 z_indexed z_start post ))))))
def vc_MD_stands_18 (a_p1 : Int32) (z_soughtSize : Int32) (z_row : Nat → Int32) (z_sought : Nat → Int32) (z_start : Nat → Int32) (z_documentOf : Nat → Int32) (post : Int32 → Prop) : Nat → Int32 → Prop
  | 0, _ => False
  | k + 1, x2 => ((z_soughtSize ≤ x2 → post 1) ∧ (¬ (z_soughtSize ≤ x2) → vp_in (a_p1 + x2) 16384 ∧ vp_in x2 200 ∧ (((z_row (a_p1 + x2).toNatClampNeg) = (z_sought x2.toNatClampNeg) → vc_MD_stands_18 a_p1 z_soughtSize z_row z_sought z_start z_documentOf post k (x2 + 1)) ∧ (¬ ((z_row (a_p1 + x2).toNatClampNeg) = (z_sought x2.toNatClampNeg)) → post 0))))
def vc_MD_stands (a_p1 : Int32) (z_soughtSize : Int32) (z_row : Nat → Int32) (z_sought : Nat → Int32) (z_start : Nat → Int32) (z_documentOf : Nat → Int32) (post : Int32 → Prop) : Prop :=
  vc_MD_endOf a_p1 z_start z_documentOf (fun r3 => (((a_p1 + z_soughtSize) ≤ r3 → ∃ j : Nat, vc_MD_stands_18 a_p1 z_soughtSize z_row z_sought z_start z_documentOf post j 0) ∧ (¬ ((a_p1 + z_soughtSize) ≤ r3) → post 0)))
set_option maxHeartbeats 4000000 in
set_option maxRecDepth 100000 in
theorem c_MD_thrown (l : Launch) (dC : Nat → ClassId) (dI : Nat → Nat → Nat) (cI cJ cB cZ : ClassId) (h_t : Nat) (h_tape : Nat) (h_row : Nat) (h_out : Nat) (h_sought : Nat) (h_start : Nat) (h_documentOf : Nat) (h_order : Nat) (h_rankOf : Nat) (h_same : Nat) (h_work : Nat) (h_next : Nat) (h_often : Nat) (h_has : Nat) (sz : Nat) (z_thrown : Int32) (z_size : Int32) (z_outSize : Int32) (z_soughtSize : Int32) (z_documents : Int32) (z_indexed : Int32) (z_suffixes : Int32) (z_rows : Int32) (z_lesser : Int32) (post : Int32 → Prop) (hv : vc_MD_thrown z_thrown post ) : Met l y_MD_thrown (Cond.code y_MD_thrown b_MD_thrown 1 (some .int) :: WT) rm_MD_thrown (cPre (dC, dI) classes (TYS cI cJ cB cZ) [(h_t, .inr (8, [.int z_thrown, .ref h_tape, .ref h_row, .ref h_out, .ref h_sought, .int z_size, .int z_outSize, .int z_soughtSize, .int z_documents, .int z_indexed, .int z_suffixes, .int z_rows, .ref h_start, .ref h_documentOf, .ref h_order, .ref h_rankOf, .ref h_same, .ref h_work, .ref h_next, .ref h_often, .ref h_has, .int z_lesser]))] sz [.ref h_t]) (va_Qi (fun (r : Int32) (u : Unit) => post r ) (fun u t => cAft (dC, dI) classes (TYS cI cJ cB cZ) (va_A [(h_t, .inr (8, [.int z_thrown, .ref h_tape, .ref h_row, .ref h_out, .ref h_sought, .int z_size, .int z_outSize, .int z_soughtSize, .int z_documents, .int z_indexed, .int z_suffixes, .int z_rows, .ref h_start, .ref h_documentOf, .ref h_order, .ref h_rankOf, .ref h_same, .ref h_work, .ref h_next, .ref h_often, .ref h_has, .int z_lesser]))] sz) [(h_t, .inr (8, [.int z_thrown, .ref h_tape, .ref h_row, .ref h_out, .ref h_sought, .int z_size, .int z_outSize, .int z_soughtSize, .int z_documents, .int z_indexed, .int z_suffixes, .int z_rows, .ref h_start, .ref h_documentOf, .ref h_order, .ref h_rankOf, .ref h_same, .ref h_work, .ref h_next, .ref h_often, .ref h_has, .int z_lesser]))] t) (va_A [(h_t, .inr (8, [.int z_thrown, .ref h_tape, .ref h_row, .ref h_out, .ref h_sought, .int z_size, .int z_outSize, .int z_soughtSize, .int z_documents, .int z_indexed, .int z_suffixes, .int z_rows, .ref h_start, .ref h_documentOf, .ref h_order, .ref h_rankOf, .ref h_same, .ref h_work, .ref h_next, .ref h_often, .ref h_has, .int z_lesser]))] sz)) 0 0 (va_A [(h_t, .inr (8, [.int z_thrown, .ref h_tape, .ref h_row, .ref h_out, .ref h_sought, .int z_size, .int z_outSize, .int z_soughtSize, .int z_documents, .int z_indexed, .int z_suffixes, .int z_rows, .ref h_start, .ref h_documentOf, .ref h_order, .ref h_rankOf, .ref h_same, .ref h_work, .ref h_next, .ref h_often, .ref h_has, .int z_lesser]))] sz) := by
  refine Met.ofW (cc := b_MD_thrown) (maxL := 1) (ret := (some .int)) (by decide) rfl ?_
  intro p e s m args below meth c s₁ B hml hq
  obtain ⟨rfl, hsz, hP, hK, hD0⟩ := hq
  have hts := atoms_spec (ws := Cond.code y_MD_thrown b_MD_thrown 1 (some .int) :: WT) B.pre
  have hw : ∀ w ∈ WT, w.before ([.ref h_t] : List Value).toArray s = true := fun w h => hts w (List.mem_cons_of_mem _ h)
  have hx := B.exec
  have hb := B.bytes
  have hr := B.returns
  have hlk := B.notSynchronized
  have hown : s.vm.findClass "SuffixIndexModel" = some m.cls := findClass_of_methodNamed B.named
  have F : CallFix p m c b_MD_thrown 1 s ([.ref h_t] : List Value).toArray WT "SuffixIndexModel" := ⟨hx, hb, hml, hown, hw⟩
  subst hsz
  have hD := hD0.self (sz := s.heap.size)
  generalize hAe : va_A [(h_t, .inr (8, [.int z_thrown, .ref h_tape, .ref h_row, .ref h_out, .ref h_sought, .int z_size, .int z_outSize, .int z_soughtSize, .int z_documents, .int z_indexed, .int z_suffixes, .int z_rows, .ref h_start, .ref h_documentOf, .ref h_order, .ref h_rankOf, .ref h_same, .ref h_work, .ref h_next, .ref h_often, .ref h_has, .int z_lesser]))] s.heap.size = A at hD ⊢
  have hA : ∀ q : Nat, s.heap.size ≤ q → A q := fun q h => by rw [← hAe]; exact Or.inr h
  have hS : va_S A s.heap s.heap [] := va_S.rf
  have hl := lv_entry ([.ref h_t]) (n := 1) (Nat.le_of_ble_eq_true rfl)
  rw [lg_entry_eq]
  generalize (lg_sl ([.ref h_t]) ++ List.replicate (1 - (lg_sl ([.ref h_t])).length) Slot.unset).toArray = ls at hl ⊢
  have hl : lv_has ls 1 [(0, .ref h_t)] := hl
  show W p l e rm_MD_thrown s m _ below meth c s.heap [] 0 0 _ _
  have hP : va_P (dC, dI) classes [(h_t, .inr (8, [.int z_thrown, .ref h_tape, .ref h_row, .ref h_out, .ref h_sought, .int z_size, .int z_outSize, .int z_soughtSize, .int z_documents, .int z_indexed, .int z_suffixes, .int z_rows, .ref h_start, .ref h_documentOf, .ref h_order, .ref h_rankOf, .ref h_same, .ref h_work, .ref h_next, .ref h_often, .ref h_has, .int z_lesser]))] s.heap := hP
  obtain ⟨H, hHe⟩ : ∃ H, H = s.heap := ⟨_, rfl⟩
  have hS : va_S A s.heap H [] := by rw [hHe]; exact hS
  rw [← hHe] at hP
  suffices hgoal : W p l e rm_MD_thrown s m ([.ref h_t] : List Value).toArray below meth c H [] 0 0 (MQ below (va_Qi (fun (r : Int32) (u : Unit) => post r ) (fun u t => cAft (dC, dI) classes (TYS cI cJ cB cZ) A [(h_t, .inr (8, [.int z_thrown, .ref h_tape, .ref h_row, .ref h_out, .ref h_sought, .int z_size, .int z_outSize, .int z_soughtSize, .int z_documents, .int z_indexed, .int z_suffixes, .int z_rows, .ref h_start, .ref h_documentOf, .ref h_order, .ref h_rankOf, .ref h_same, .ref h_work, .ref h_next, .ref h_often, .ref h_has, .int z_lesser]))] t) A) ([.ref h_t] : List Value).toArray s 0 0 A) (F0 m 0 ls []) by rw [hHe] at hgoal; exact hgoal
  refine lv_aload_n hx hb d_MD_thrown_0 rfl (lv_at hl 0 rfl) ?_
  refine va_get (D := (dC, dI)) (ci := 8) (v := .int z_thrown) (C := "SuffixIndexModel") (T := F_MD) (N := 22) hx hb hw i_MD hown hK hP 0 rfl rfl 0 (by decide) (hw _ m_1101) (fun _ h9 => h9) rfl d_MD_thrown_1 ?_
  exact W.iret (v := z_thrown) hx hb hr (fun t ht hW => ⟨⟨z_thrown, (), rfl, hv, by rw [ht]; exact hP, va_K.moved hW.alike hK, hD⟩, hS.F ht⟩) hS.2.2 d_MD_thrown_4

set_option maxHeartbeats 4000000 in
set_option maxRecDepth 100000 in
theorem c_MD_refuse (l : Launch) (dC : Nat → ClassId) (dI : Nat → Nat → Nat) (cI cJ cB cZ : ClassId) (h_t : Nat) (h_tape : Nat) (h_row : Nat) (h_out : Nat) (h_sought : Nat) (h_start : Nat) (h_documentOf : Nat) (h_order : Nat) (h_rankOf : Nat) (h_same : Nat) (h_work : Nat) (h_next : Nat) (h_often : Nat) (h_has : Nat) (sz : Nat) (z_thrown : Int32) (z_size : Int32) (z_outSize : Int32) (z_soughtSize : Int32) (z_documents : Int32) (z_indexed : Int32) (z_suffixes : Int32) (z_rows : Int32) (z_lesser : Int32) (a_p1 : Int32) (a_p2 : Int32) (post : Int32 → Int32 → Prop) (hv : vc_MD_refuse a_p1 a_p2 post z_thrown) : Met l y_MD_refuse (Cond.code y_MD_refuse b_MD_refuse 3 (some .boolean) :: WT) rm_MD_refuse (cPre (dC, dI) classes (TYS cI cJ cB cZ) [(h_t, .inr (8, [.int z_thrown, .ref h_tape, .ref h_row, .ref h_out, .ref h_sought, .int z_size, .int z_outSize, .int z_soughtSize, .int z_documents, .int z_indexed, .int z_suffixes, .int z_rows, .ref h_start, .ref h_documentOf, .ref h_order, .ref h_rankOf, .ref h_same, .ref h_work, .ref h_next, .ref h_often, .ref h_has, .int z_lesser]))] sz [.ref h_t, .int a_p1, .int a_p2]) (va_Qi (fun (r : Int32) (u : Int32) => post r u) (fun u t => cAft (dC, dI) classes (TYS cI cJ cB cZ) (va_A [(h_t, .inr (8, [.int z_thrown, .ref h_tape, .ref h_row, .ref h_out, .ref h_sought, .int z_size, .int z_outSize, .int z_soughtSize, .int z_documents, .int z_indexed, .int z_suffixes, .int z_rows, .ref h_start, .ref h_documentOf, .ref h_order, .ref h_rankOf, .ref h_same, .ref h_work, .ref h_next, .ref h_often, .ref h_has, .int z_lesser]))] sz) [(h_t, .inr (8, [.int u, .ref h_tape, .ref h_row, .ref h_out, .ref h_sought, .int z_size, .int z_outSize, .int z_soughtSize, .int z_documents, .int z_indexed, .int z_suffixes, .int z_rows, .ref h_start, .ref h_documentOf, .ref h_order, .ref h_rankOf, .ref h_same, .ref h_work, .ref h_next, .ref h_often, .ref h_has, .int z_lesser]))] t) (va_A [(h_t, .inr (8, [.int z_thrown, .ref h_tape, .ref h_row, .ref h_out, .ref h_sought, .int z_size, .int z_outSize, .int z_soughtSize, .int z_documents, .int z_indexed, .int z_suffixes, .int z_rows, .ref h_start, .ref h_documentOf, .ref h_order, .ref h_rankOf, .ref h_same, .ref h_work, .ref h_next, .ref h_often, .ref h_has, .int z_lesser]))] sz)) 0 0 (va_A [(h_t, .inr (8, [.int z_thrown, .ref h_tape, .ref h_row, .ref h_out, .ref h_sought, .int z_size, .int z_outSize, .int z_soughtSize, .int z_documents, .int z_indexed, .int z_suffixes, .int z_rows, .ref h_start, .ref h_documentOf, .ref h_order, .ref h_rankOf, .ref h_same, .ref h_work, .ref h_next, .ref h_often, .ref h_has, .int z_lesser]))] sz) := by
  refine Met.ofW (cc := b_MD_refuse) (maxL := 3) (ret := (some .boolean)) (by decide) rfl ?_
  intro p e s m args below meth c s₁ B hml hq
  obtain ⟨rfl, hsz, hP, hK, hD0⟩ := hq
  have hts := atoms_spec (ws := Cond.code y_MD_refuse b_MD_refuse 3 (some .boolean) :: WT) B.pre
  have hw : ∀ w ∈ WT, w.before ([.ref h_t, .int a_p1, .int a_p2] : List Value).toArray s = true := fun w h => hts w (List.mem_cons_of_mem _ h)
  have hx := B.exec
  have hb := B.bytes
  have hr := B.returns
  have hlk := B.notSynchronized
  have hown : s.vm.findClass "SuffixIndexModel" = some m.cls := findClass_of_methodNamed B.named
  have F : CallFix p m c b_MD_refuse 3 s ([.ref h_t, .int a_p1, .int a_p2] : List Value).toArray WT "SuffixIndexModel" := ⟨hx, hb, hml, hown, hw⟩
  subst hsz
  have hD := hD0.self (sz := s.heap.size)
  generalize hAe : va_A [(h_t, .inr (8, [.int z_thrown, .ref h_tape, .ref h_row, .ref h_out, .ref h_sought, .int z_size, .int z_outSize, .int z_soughtSize, .int z_documents, .int z_indexed, .int z_suffixes, .int z_rows, .ref h_start, .ref h_documentOf, .ref h_order, .ref h_rankOf, .ref h_same, .ref h_work, .ref h_next, .ref h_often, .ref h_has, .int z_lesser]))] s.heap.size = A at hD ⊢
  have hA : ∀ q : Nat, s.heap.size ≤ q → A q := fun q h => by rw [← hAe]; exact Or.inr h
  have hS : va_S A s.heap s.heap [] := va_S.rf
  have hl := lv_entry ([.ref h_t, .int a_p1, .int a_p2]) (n := 3) (Nat.le_of_ble_eq_true rfl)
  rw [lg_entry_eq]
  generalize (lg_sl ([.ref h_t, .int a_p1, .int a_p2]) ++ List.replicate (3 - (lg_sl ([.ref h_t, .int a_p1, .int a_p2])).length) Slot.unset).toArray = ls at hl ⊢
  have hl : lv_has ls 3 [(0, .ref h_t), (1, .int a_p1), (2, .int a_p2)] := hl
  show W p l e rm_MD_refuse s m _ below meth c s.heap [] 0 0 _ _
  have hP : va_P (dC, dI) classes [(h_t, .inr (8, [.int z_thrown, .ref h_tape, .ref h_row, .ref h_out, .ref h_sought, .int z_size, .int z_outSize, .int z_soughtSize, .int z_documents, .int z_indexed, .int z_suffixes, .int z_rows, .ref h_start, .ref h_documentOf, .ref h_order, .ref h_rankOf, .ref h_same, .ref h_work, .ref h_next, .ref h_often, .ref h_has, .int z_lesser]))] s.heap := hP
  obtain ⟨H, hHe⟩ : ∃ H, H = s.heap := ⟨_, rfl⟩
  have hS : va_S A s.heap H [] := by rw [hHe]; exact hS
  rw [← hHe] at hP
  suffices hgoal : W p l e rm_MD_refuse s m ([.ref h_t, .int a_p1, .int a_p2] : List Value).toArray below meth c H [] 0 0 (MQ below (va_Qi (fun (r : Int32) (u : Int32) => post r u) (fun u t => cAft (dC, dI) classes (TYS cI cJ cB cZ) A [(h_t, .inr (8, [.int u, .ref h_tape, .ref h_row, .ref h_out, .ref h_sought, .int z_size, .int z_outSize, .int z_soughtSize, .int z_documents, .int z_indexed, .int z_suffixes, .int z_rows, .ref h_start, .ref h_documentOf, .ref h_order, .ref h_rankOf, .ref h_same, .ref h_work, .ref h_next, .ref h_often, .ref h_has, .int z_lesser]))] t) A) ([.ref h_t, .int a_p1, .int a_p2] : List Value).toArray s 0 0 A) (F0 m 0 ls []) by rw [hHe] at hgoal; exact hgoal
  refine lv_iload_n hx hb d_MD_refuse_0 rfl (lv_at hl 2 rfl) ?_
  obtain ⟨hvt, hvf⟩ := hv
  refine lv_if_eq (tgt := 9) hx hb d_MD_refuse_1 (by decide) (fun c1 => ?_) (fun c1 => ?_)
  · have hv := hvt c1
    refine lv_iload_n hx hb d_MD_refuse_9 rfl (lv_at hl 2 rfl) ?_
    obtain ⟨hnb, hv⟩ := hv
    exact W.zret (v := a_p2) hx hb hr hnb (fun t ht hW => ⟨⟨a_p2, z_thrown, rfl, hv, by rw [ht]; exact hP, va_K.moved hW.alike hK, hD⟩, hS.F ht⟩) hS.2.2 d_MD_refuse_10
  · have hv := hvf c1
    refine lv_aload_n hx hb d_MD_refuse_4 rfl (lv_at hl 0 rfl) ?_
    refine lv_iload_n hx hb d_MD_refuse_5 rfl (lv_at hl 1 rfl) ?_
    refine va_put (D := (dC, dI)) (ci := 8) (v := .int a_p1) (ty := .int) (C := "SuffixIndexModel") (T := F_MD) (N := 22) hx hb hw i_MD t_MD t_MD_ok n_MD hown hK hP hD hS 0 rfl rfl 0 (by decide) (hw _ m_1101) (fun _ h9 => h9) rfl (by decide +kernel) rfl rfl (Nat.le_of_ble_eq_true rfl) d_MD_refuse_6 (fun H locs hP hD hS => ?_)
    have hP : va_P (dC, dI) classes [(h_t, .inr (8, [.int a_p1, .ref h_tape, .ref h_row, .ref h_out, .ref h_sought, .int z_size, .int z_outSize, .int z_soughtSize, .int z_documents, .int z_indexed, .int z_suffixes, .int z_rows, .ref h_start, .ref h_documentOf, .ref h_order, .ref h_rankOf, .ref h_same, .ref h_work, .ref h_next, .ref h_often, .ref h_has, .int z_lesser]))] H := hP
    have hD : va_D A [(h_t, .inr (8, [.int a_p1, .ref h_tape, .ref h_row, .ref h_out, .ref h_sought, .int z_size, .int z_outSize, .int z_soughtSize, .int z_documents, .int z_indexed, .int z_suffixes, .int z_rows, .ref h_start, .ref h_documentOf, .ref h_order, .ref h_rankOf, .ref h_same, .ref h_work, .ref h_next, .ref h_often, .ref h_has, .int z_lesser]))] := hD
    refine lv_iload_n hx hb d_MD_refuse_9 rfl (lv_at hl 2 rfl) ?_
    obtain ⟨hnb, hv⟩ := hv
    exact W.zret (v := a_p2) hx hb hr hnb (fun t ht hW => ⟨⟨a_p2, a_p1, rfl, hv, by rw [ht]; exact hP, va_K.moved hW.alike hK, hD⟩, hS.F ht⟩) hS.2.2 d_MD_refuse_10

set_option maxHeartbeats 4000000 in
set_option maxRecDepth 100000 in
theorem wk_MD_feed_86 {p : Program} {l : Launch} {e : Env} {s : State} {m : MethodId} {below : List Frame} {meth : Method} {c : Code} {A : Nat → Prop} {dC : Nat → ClassId} {dI : Nat → Nat → Nat} {cI cJ cB cZ : ClassId} {h_t : Nat} {h_tape : Nat} {h_row : Nat} {h_out : Nat} {h_sought : Nat} {h_start : Nat} {h_documentOf : Nat} {h_order : Nat} {h_rankOf : Nat} {h_same : Nat} {h_work : Nat} {h_next : Nat} {h_often : Nat} {h_has : Nat} {a_p1 : Int32} {a_p2 : Int32} {a_p3 : Int32} {a_p4 : Int32} {a_p5 : Int32} {z_outSize : Int32} {z_soughtSize : Int32} {z_documents : Int32} {z_indexed : Int32} {z_suffixes : Int32} {z_rows : Int32} {z_lesser : Int32} {post : Int32 → Int32 → Int32 → (Nat → Int32) → Prop} {K33 : Int32 → Int32 → Int32 → (Nat → Int32) → Prop} (F : CallFix p m c b_MD_feed 8 s ([.ref h_t, .int a_p1, .int a_p2, .int a_p3, .int a_p4, .int a_p5] : List Value).toArray WT "SuffixIndexModel") (hr : meth.sig.returnType = (some .int)) (hlk : meth.locks = false) (hK : va_K (dC, dI) classes (TYS cI cJ cB cZ) s) (hA : ∀ q, s.heap.size ≤ q → A q) (hK33 : ∀ (x6 : Int32) (z_thrown : Int32) (z_size : Int32) (z_tape : Nat → Int32), K33 x6 z_thrown z_size z_tape → ∀ (H : Heap) (locs : List Loc) (ls : Array Slot), va_P (dC, dI) classes [(h_t, .inr (8, [.int z_thrown, .ref h_tape, .ref h_row, .ref h_out, .ref h_sought, .int z_size, .int z_outSize, .int z_soughtSize, .int z_documents, .int z_indexed, .int z_suffixes, .int z_rows, .ref h_start, .ref h_documentOf, .ref h_order, .ref h_rankOf, .ref h_same, .ref h_work, .ref h_next, .ref h_often, .ref h_has, .int z_lesser])), (h_tape, .inl (cB, 16384, .inl z_tape))] H → va_D A [(h_t, .inr (8, [.int z_thrown, .ref h_tape, .ref h_row, .ref h_out, .ref h_sought, .int z_size, .int z_outSize, .int z_soughtSize, .int z_documents, .int z_indexed, .int z_suffixes, .int z_rows, .ref h_start, .ref h_documentOf, .ref h_order, .ref h_rankOf, .ref h_same, .ref h_work, .ref h_next, .ref h_often, .ref h_has, .int z_lesser])), (h_tape, .inl (cB, 16384, .inl z_tape))] → va_S A s.heap H locs → lv_has ls 8 [(0, .ref h_t), (1, .int a_p1), (2, .int a_p2), (3, .int a_p3), (4, .int a_p4), (5, .int a_p5), (6, .int x6)] → W p l e rm_MD_feed s m ([.ref h_t, .int a_p1, .int a_p2, .int a_p3, .int a_p4, .int a_p5] : List Value).toArray below meth c H locs 0 0 (MQ below (va_Qi (fun (r : Int32) (u : Int32 × Int32 × (Nat → Int32)) => post r u.1 u.2.1 u.2.2) (fun u t => cAft (dC, dI) classes (TYS cI cJ cB cZ) A [(h_t, .inr (8, [.int u.1, .ref h_tape, .ref h_row, .ref h_out, .ref h_sought, .int u.2.1, .int z_outSize, .int z_soughtSize, .int z_documents, .int z_indexed, .int z_suffixes, .int z_rows, .ref h_start, .ref h_documentOf, .ref h_order, .ref h_rankOf, .ref h_same, .ref h_work, .ref h_next, .ref h_often, .ref h_has, .int z_lesser])), (h_tape, .inl (cB, 16384, .inl u.2.2))] t) A) ([.ref h_t, .int a_p1, .int a_p2, .int a_p3, .int a_p4, .int a_p5] : List Value).toArray s 0 0 A) (F0 m 33 ls [])) : ∀ (x6 : Int32) (k0 : Int32) (z_thrown : Int32) (z_size : Int32) (z_tape : Nat → Int32), vc_MD_feed_86 a_p1 a_p2 a_p3 a_p4 a_p5 post K33 x6 k0 z_thrown z_size z_tape → ∀ (H : Heap) (locs : List Loc) (ls : Array Slot), va_P (dC, dI) classes [(h_t, .inr (8, [.int z_thrown, .ref h_tape, .ref h_row, .ref h_out, .ref h_sought, .int z_size, .int z_outSize, .int z_soughtSize, .int z_documents, .int z_indexed, .int z_suffixes, .int z_rows, .ref h_start, .ref h_documentOf, .ref h_order, .ref h_rankOf, .ref h_same, .ref h_work, .ref h_next, .ref h_often, .ref h_has, .int z_lesser])), (h_tape, .inl (cB, 16384, .inl z_tape))] H → va_D A [(h_t, .inr (8, [.int z_thrown, .ref h_tape, .ref h_row, .ref h_out, .ref h_sought, .int z_size, .int z_outSize, .int z_soughtSize, .int z_documents, .int z_indexed, .int z_suffixes, .int z_rows, .ref h_start, .ref h_documentOf, .ref h_order, .ref h_rankOf, .ref h_same, .ref h_work, .ref h_next, .ref h_often, .ref h_has, .int z_lesser])), (h_tape, .inl (cB, 16384, .inl z_tape))] → va_S A s.heap H locs → lv_has ls 8 [(0, .ref h_t), (1, .int a_p1), (2, .int a_p2), (3, .int a_p3), (4, .int a_p4), (5, .int a_p5), (6, .int x6)] → W p l e rm_MD_feed s m ([.ref h_t, .int a_p1, .int a_p2, .int a_p3, .int a_p4, .int a_p5] : List Value).toArray below meth c H locs 0 0 (MQ below (va_Qi (fun (r : Int32) (u : Int32 × Int32 × (Nat → Int32)) => post r u.1 u.2.1 u.2.2) (fun u t => cAft (dC, dI) classes (TYS cI cJ cB cZ) A [(h_t, .inr (8, [.int u.1, .ref h_tape, .ref h_row, .ref h_out, .ref h_sought, .int u.2.1, .int z_outSize, .int z_soughtSize, .int z_documents, .int z_indexed, .int z_suffixes, .int z_rows, .ref h_start, .ref h_documentOf, .ref h_order, .ref h_rankOf, .ref h_same, .ref h_work, .ref h_next, .ref h_often, .ref h_has, .int z_lesser])), (h_tape, .inl (cB, 16384, .inl u.2.2))] t) A) ([.ref h_t, .int a_p1, .int a_p2, .int a_p3, .int a_p4, .int a_p5] : List Value).toArray s 0 0 A) (F0 m 86 ls [.int k0]) := by
  obtain ⟨hx, hb, hml, hown, hw⟩ := id F
  intro x6 k0 z_thrown z_size z_tape hv H locs ls hP hD hS hl
  refine lv_istore (lv' := [(7, .int k0), (0, .ref h_t), (1, .int a_p1), (2, .int a_p2), (3, .int a_p3), (4, .int a_p4), (5, .int a_p5), (6, .int x6)]) hx hb d_MD_feed_86 hl (by decide) rfl (fun ls hl => ?_)
  refine lv_aload_n hx hb d_MD_feed_88 rfl (lv_at hl 1 rfl) ?_
  refine va_get (D := (dC, dI)) (ci := 8) (v := .ref h_tape) (C := "SuffixIndexModel") (T := F_MD) (N := 22) hx hb hw i_MD hown hK hP 0 rfl rfl 1 (by decide) (hw _ m_1102) (fun _ h9 => h9) rfl d_MD_feed_89 ?_
  refine lv_aload_n hx hb d_MD_feed_92 rfl (lv_at hl 1 rfl) ?_
  refine lv_dup hx hb d_MD_feed_93 rfl ?_
  refine va_get (D := (dC, dI)) (ci := 8) (v := .int z_size) (C := "SuffixIndexModel") (T := F_MD) (N := 22) hx hb hw i_MD hown hK hP 0 rfl rfl 5 (by decide) (hw _ m_1106) (fun _ h9 => h9) rfl d_MD_feed_94 ?_
  refine lv_dup_x1 hx hb d_MD_feed_97 rfl rfl ?_
  refine lv_iconst (v := 1) hx hb d_MD_feed_98 (by decide) ?_
  refine lv_iadd hx hb d_MD_feed_99 ?_
  refine va_put (D := (dC, dI)) (ci := 8) (v := .int (z_size + 1)) (ty := .int) (C := "SuffixIndexModel") (T := F_MD) (N := 22) hx hb hw i_MD t_MD t_MD_ok n_MD hown hK hP hD hS 0 rfl rfl 5 (by decide) (hw _ m_1106) (fun _ h9 => h9) rfl (by decide +kernel) rfl rfl (Nat.le_of_ble_eq_true rfl) d_MD_feed_100 (fun H locs hP hD hS => ?_)
  have hP : va_P (dC, dI) classes [(h_t, .inr (8, [.int z_thrown, .ref h_tape, .ref h_row, .ref h_out, .ref h_sought, .int (z_size + 1), .int z_outSize, .int z_soughtSize, .int z_documents, .int z_indexed, .int z_suffixes, .int z_rows, .ref h_start, .ref h_documentOf, .ref h_order, .ref h_rankOf, .ref h_same, .ref h_work, .ref h_next, .ref h_often, .ref h_has, .int z_lesser])), (h_tape, .inl (cB, 16384, .inl z_tape))] H := hP
  have hD : va_D A [(h_t, .inr (8, [.int z_thrown, .ref h_tape, .ref h_row, .ref h_out, .ref h_sought, .int (z_size + 1), .int z_outSize, .int z_soughtSize, .int z_documents, .int z_indexed, .int z_suffixes, .int z_rows, .ref h_start, .ref h_documentOf, .ref h_order, .ref h_rankOf, .ref h_same, .ref h_work, .ref h_next, .ref h_often, .ref h_has, .int z_lesser])), (h_tape, .inl (cB, 16384, .inl z_tape))] := hD
  refine lv_iload hx hb d_MD_feed_103 (lv_at hl 0 rfl) ?_
  refine lv_bipush (v := 24) hx hb d_MD_feed_105 (by decide) ?_
  refine lv_bipush (v := 8) hx hb d_MD_feed_107 (by decide) ?_
  refine lv_iload hx hb d_MD_feed_109 (lv_at hl 7 rfl) ?_
  refine lv_iconst (v := 4) hx hb d_MD_feed_111 (by decide) ?_
  refine lv_irem hx hb d_MD_feed_112 (by decide) ?_
  refine lv_imul hx hb d_MD_feed_113 ?_
  refine lv_isub hx hb d_MD_feed_114 ?_
  refine lv_iushr hx hb d_MD_feed_115 rfl ?_
  refine lv_i2b hx hb d_MD_feed_116 rfl ?_
  obtain ⟨hin, hv⟩ := hv
  refine va_bast hx hb hK hP hD hS 1 2 rfl rfl hin d_MD_feed_117 (fun H locs hP hD hS => ?_)
  have hP : va_P (dC, dI) classes [(h_t, .inr (8, [.int z_thrown, .ref h_tape, .ref h_row, .ref h_out, .ref h_sought, .int (z_size + 1), .int z_outSize, .int z_soughtSize, .int z_documents, .int z_indexed, .int z_suffixes, .int z_rows, .ref h_start, .ref h_documentOf, .ref h_order, .ref h_rankOf, .ref h_same, .ref h_work, .ref h_next, .ref h_often, .ref h_has, .int z_lesser])), (h_tape, .inl (cB, 16384, .inl (upd z_tape z_size.toNatClampNeg (vp_nar .byte (((k0.toUInt32 >>> ((24 - (8 * (x6 - x6 / 4 * 4))).toUInt32 &&& Int32.toUInt32 31)).toInt32).toInt8.toInt32)))))] H := hP
  have hD : va_D A [(h_t, .inr (8, [.int z_thrown, .ref h_tape, .ref h_row, .ref h_out, .ref h_sought, .int (z_size + 1), .int z_outSize, .int z_soughtSize, .int z_documents, .int z_indexed, .int z_suffixes, .int z_rows, .ref h_start, .ref h_documentOf, .ref h_order, .ref h_rankOf, .ref h_same, .ref h_work, .ref h_next, .ref h_often, .ref h_has, .int z_lesser])), (h_tape, .inl (cB, 16384, .inl (upd z_tape z_size.toNatClampNeg (vp_nar .byte (((k0.toUInt32 >>> ((24 - (8 * (x6 - x6 / 4 * 4))).toUInt32 &&& Int32.toUInt32 31)).toInt32).toInt8.toInt32)))))] := hD
  refine lv_iinc (v := x6 + 1) (lv' := [(6, .int (x6 + 1)), (7, .int k0), (0, .ref h_t), (1, .int a_p1), (2, .int a_p2), (3, .int a_p3), (4, .int a_p4), (5, .int a_p5)]) hx hb d_MD_feed_118 hl (k := 7) rfl (iinc_v (by decide)) (by decide) rfl (fun ls hl => ?_)
  refine lv_goto (tgt := 33) hx hb d_MD_feed_121 (by decide) ?_
  exact hK33 (x6 + 1) z_thrown (z_size + 1) (upd z_tape z_size.toNatClampNeg (vp_nar .byte (((k0.toUInt32 >>> ((24 - (8 * (x6 - x6 / 4 * 4))).toUInt32 &&& Int32.toUInt32 31)).toInt32).toInt8.toInt32))) hv _ _ _ hP hD hS (lv_sub hl [2, 3, 4, 5, 6, 7, 0] rfl)

set_option maxHeartbeats 4000000 in
set_option maxRecDepth 100000 in
theorem wk_MD_feed_33 {p : Program} {l : Launch} {e : Env} {s : State} {m : MethodId} {below : List Frame} {meth : Method} {c : Code} {A : Nat → Prop} {dC : Nat → ClassId} {dI : Nat → Nat → Nat} {cI cJ cB cZ : ClassId} {h_t : Nat} {h_tape : Nat} {h_row : Nat} {h_out : Nat} {h_sought : Nat} {h_start : Nat} {h_documentOf : Nat} {h_order : Nat} {h_rankOf : Nat} {h_same : Nat} {h_work : Nat} {h_next : Nat} {h_often : Nat} {h_has : Nat} {a_p1 : Int32} {a_p2 : Int32} {a_p3 : Int32} {a_p4 : Int32} {a_p5 : Int32} {z_outSize : Int32} {z_soughtSize : Int32} {z_documents : Int32} {z_indexed : Int32} {z_suffixes : Int32} {z_rows : Int32} {z_lesser : Int32} {post : Int32 → Int32 → Int32 → (Nat → Int32) → Prop} (F : CallFix p m c b_MD_feed 8 s ([.ref h_t, .int a_p1, .int a_p2, .int a_p3, .int a_p4, .int a_p5] : List Value).toArray WT "SuffixIndexModel") (hr : meth.sig.returnType = (some .int)) (hlk : meth.locks = false) (hK : va_K (dC, dI) classes (TYS cI cJ cB cZ) s) (hA : ∀ q, s.heap.size ≤ q → A q) : ∀ (k : Nat) (x6 : Int32) (z_thrown : Int32) (z_size : Int32) (z_tape : Nat → Int32), vc_MD_feed_33 a_p1 a_p2 a_p3 a_p4 a_p5 post k x6 z_thrown z_size z_tape → ∀ (H : Heap) (locs : List Loc) (ls : Array Slot), va_P (dC, dI) classes [(h_t, .inr (8, [.int z_thrown, .ref h_tape, .ref h_row, .ref h_out, .ref h_sought, .int z_size, .int z_outSize, .int z_soughtSize, .int z_documents, .int z_indexed, .int z_suffixes, .int z_rows, .ref h_start, .ref h_documentOf, .ref h_order, .ref h_rankOf, .ref h_same, .ref h_work, .ref h_next, .ref h_often, .ref h_has, .int z_lesser])), (h_tape, .inl (cB, 16384, .inl z_tape))] H → va_D A [(h_t, .inr (8, [.int z_thrown, .ref h_tape, .ref h_row, .ref h_out, .ref h_sought, .int z_size, .int z_outSize, .int z_soughtSize, .int z_documents, .int z_indexed, .int z_suffixes, .int z_rows, .ref h_start, .ref h_documentOf, .ref h_order, .ref h_rankOf, .ref h_same, .ref h_work, .ref h_next, .ref h_often, .ref h_has, .int z_lesser])), (h_tape, .inl (cB, 16384, .inl z_tape))] → va_S A s.heap H locs → lv_has ls 8 [(0, .ref h_t), (1, .int a_p1), (2, .int a_p2), (3, .int a_p3), (4, .int a_p4), (5, .int a_p5), (6, .int x6)] → W p l e rm_MD_feed s m ([.ref h_t, .int a_p1, .int a_p2, .int a_p3, .int a_p4, .int a_p5] : List Value).toArray below meth c H locs 0 0 (MQ below (va_Qi (fun (r : Int32) (u : Int32 × Int32 × (Nat → Int32)) => post r u.1 u.2.1 u.2.2) (fun u t => cAft (dC, dI) classes (TYS cI cJ cB cZ) A [(h_t, .inr (8, [.int u.1, .ref h_tape, .ref h_row, .ref h_out, .ref h_sought, .int u.2.1, .int z_outSize, .int z_soughtSize, .int z_documents, .int z_indexed, .int z_suffixes, .int z_rows, .ref h_start, .ref h_documentOf, .ref h_order, .ref h_rankOf, .ref h_same, .ref h_work, .ref h_next, .ref h_often, .ref h_has, .int z_lesser])), (h_tape, .inl (cB, 16384, .inl u.2.2))] t) A) ([.ref h_t, .int a_p1, .int a_p2, .int a_p3, .int a_p4, .int a_p5] : List Value).toArray s 0 0 A) (F0 m 33 ls []) := by
  obtain ⟨hx, hb, hml, hown, hw⟩ := id F
  intro k
  induction k with
  | zero =>
    intro x6 z_thrown z_size z_tape hv
    exact False.elim hv
  | succ k ih =>
    intro x6 z_thrown z_size z_tape hv H locs ls hP hD hS hl
    refine lv_iload hx hb d_MD_feed_33 (lv_at hl 6 rfl) ?_
    refine lv_bipush (v := 20) hx hb d_MD_feed_35 (by decide) ?_
    obtain ⟨hvt, hvf⟩ := hv
    refine lv_icmp_ge (tgt := 124) hx hb d_MD_feed_37 (by decide) (fun c1 => ?_) (fun c1 => ?_)
    · have hv := hvt c1
      refine lv_aload_n hx hb d_MD_feed_124 rfl (lv_at hl 0 rfl) ?_
      refine va_get (D := (dC, dI)) (ci := 8) (v := .int z_size) (C := "SuffixIndexModel") (T := F_MD) (N := 22) hx hb hw i_MD hown hK hP 0 rfl rfl 5 (by decide) (hw _ m_1106) (fun _ h9 => h9) rfl d_MD_feed_125 ?_
      exact W.iret (v := z_size) hx hb hr (fun t ht hW => ⟨⟨z_size, (z_thrown, z_size, z_tape), rfl, hv, by rw [ht]; exact hP, va_K.moved hW.alike hK, hD⟩, hS.F ht⟩) hS.2.2 d_MD_feed_128
    · have hv := hvf c1
      refine lv_iload hx hb d_MD_feed_40 (lv_at hl 6 rfl) ?_
      refine lv_iconst (v := 4) hx hb d_MD_feed_42 (by decide) ?_
      obtain ⟨hvt, hvf⟩ := hv
      refine lv_icmp_ge (tgt := 50) hx hb d_MD_feed_43 (by decide) (fun c2 => ?_) (fun c2 => ?_)
      · have hv := hvt c2
        refine lv_iload hx hb d_MD_feed_50 (lv_at hl 6 rfl) ?_
        refine lv_bipush (v := 8) hx hb d_MD_feed_52 (by decide) ?_
        obtain ⟨hvt, hvf⟩ := hv
        refine lv_icmp_ge (tgt := 61) hx hb d_MD_feed_54 (by decide) (fun c3 => ?_) (fun c3 => ?_)
        · have hv := hvt c3
          refine lv_iload hx hb d_MD_feed_61 (lv_at hl 6 rfl) ?_
          refine lv_bipush (v := 12) hx hb d_MD_feed_63 (by decide) ?_
          obtain ⟨hvt, hvf⟩ := hv
          refine lv_icmp_ge (tgt := 72) hx hb d_MD_feed_65 (by decide) (fun c4 => ?_) (fun c4 => ?_)
          · have hv := hvt c4
            refine lv_iload hx hb d_MD_feed_72 (lv_at hl 6 rfl) ?_
            refine lv_bipush (v := 16) hx hb d_MD_feed_74 (by decide) ?_
            obtain ⟨hvt, hvf⟩ := hv
            refine lv_icmp_ge (tgt := 84) hx hb d_MD_feed_76 (by decide) (fun c5 => ?_) (fun c5 => ?_)
            · have hv := hvt c5
              refine lv_iload hx hb d_MD_feed_84 (lv_at hl 5 rfl) ?_
              exact wk_MD_feed_86 F hr hlk hK hA ih x6 a_p5 z_thrown z_size z_tape hv _ _ _ hP hD hS (lv_sub hl [0, 1, 2, 3, 4, 5, 6] rfl)
            · have hv := hvf c5
              refine lv_iload hx hb d_MD_feed_79 (lv_at hl 4 rfl) ?_
              refine lv_goto (tgt := 86) hx hb d_MD_feed_81 (by decide) ?_
              exact wk_MD_feed_86 F hr hlk hK hA ih x6 a_p4 z_thrown z_size z_tape hv _ _ _ hP hD hS (lv_sub hl [0, 1, 2, 3, 4, 5, 6] rfl)
          · have hv := hvf c4
            refine lv_iload_n hx hb d_MD_feed_68 rfl (lv_at hl 3 rfl) ?_
            refine lv_goto (tgt := 86) hx hb d_MD_feed_69 (by decide) ?_
            exact wk_MD_feed_86 F hr hlk hK hA ih x6 a_p3 z_thrown z_size z_tape hv _ _ _ hP hD hS (lv_sub hl [0, 1, 2, 3, 4, 5, 6] rfl)
        · have hv := hvf c3
          refine lv_iload_n hx hb d_MD_feed_57 rfl (lv_at hl 2 rfl) ?_
          refine lv_goto (tgt := 86) hx hb d_MD_feed_58 (by decide) ?_
          exact wk_MD_feed_86 F hr hlk hK hA ih x6 a_p2 z_thrown z_size z_tape hv _ _ _ hP hD hS (lv_sub hl [0, 1, 2, 3, 4, 5, 6] rfl)
      · have hv := hvf c2
        refine lv_iload_n hx hb d_MD_feed_46 rfl (lv_at hl 1 rfl) ?_
        refine lv_goto (tgt := 86) hx hb d_MD_feed_47 (by decide) ?_
        exact wk_MD_feed_86 F hr hlk hK hA ih x6 a_p1 z_thrown z_size z_tape hv _ _ _ hP hD hS (lv_sub hl [0, 1, 2, 3, 4, 5, 6] rfl)

set_option maxHeartbeats 4000000 in
set_option maxRecDepth 100000 in
theorem wk_MD_feed_22 {p : Program} {l : Launch} {e : Env} {s : State} {m : MethodId} {below : List Frame} {meth : Method} {c : Code} {A : Nat → Prop} {dC : Nat → ClassId} {dI : Nat → Nat → Nat} {cI cJ cB cZ : ClassId} {h_t : Nat} {h_tape : Nat} {h_row : Nat} {h_out : Nat} {h_sought : Nat} {h_start : Nat} {h_documentOf : Nat} {h_order : Nat} {h_rankOf : Nat} {h_same : Nat} {h_work : Nat} {h_next : Nat} {h_often : Nat} {h_has : Nat} {a_p1 : Int32} {a_p2 : Int32} {a_p3 : Int32} {a_p4 : Int32} {a_p5 : Int32} {z_outSize : Int32} {z_soughtSize : Int32} {z_documents : Int32} {z_indexed : Int32} {z_suffixes : Int32} {z_rows : Int32} {z_lesser : Int32} {post : Int32 → Int32 → Int32 → (Nat → Int32) → Prop} (F : CallFix p m c b_MD_feed 8 s ([.ref h_t, .int a_p1, .int a_p2, .int a_p3, .int a_p4, .int a_p5] : List Value).toArray WT "SuffixIndexModel") (hr : meth.sig.returnType = (some .int)) (hlk : meth.locks = false) (hK : va_K (dC, dI) classes (TYS cI cJ cB cZ) s) (hA : ∀ q, s.heap.size ≤ q → A q) : ∀ (k1 : Int32) (k2 : Int32) (z_thrown : Int32) (z_size : Int32) (z_tape : Nat → Int32), vc_MD_feed_22 a_p1 a_p2 a_p3 a_p4 a_p5 post k1 k2 z_thrown z_size z_tape → ∀ (H : Heap) (locs : List Loc) (ls : Array Slot), va_P (dC, dI) classes [(h_t, .inr (8, [.int z_thrown, .ref h_tape, .ref h_row, .ref h_out, .ref h_sought, .int z_size, .int z_outSize, .int z_soughtSize, .int z_documents, .int z_indexed, .int z_suffixes, .int z_rows, .ref h_start, .ref h_documentOf, .ref h_order, .ref h_rankOf, .ref h_same, .ref h_work, .ref h_next, .ref h_often, .ref h_has, .int z_lesser])), (h_tape, .inl (cB, 16384, .inl z_tape))] H → va_D A [(h_t, .inr (8, [.int z_thrown, .ref h_tape, .ref h_row, .ref h_out, .ref h_sought, .int z_size, .int z_outSize, .int z_soughtSize, .int z_documents, .int z_indexed, .int z_suffixes, .int z_rows, .ref h_start, .ref h_documentOf, .ref h_order, .ref h_rankOf, .ref h_same, .ref h_work, .ref h_next, .ref h_often, .ref h_has, .int z_lesser])), (h_tape, .inl (cB, 16384, .inl z_tape))] → va_S A s.heap H locs → lv_has ls 8 [(0, .ref h_t), (1, .int a_p1), (2, .int a_p2), (3, .int a_p3), (4, .int a_p4), (5, .int a_p5)] → W p l e rm_MD_feed s m ([.ref h_t, .int a_p1, .int a_p2, .int a_p3, .int a_p4, .int a_p5] : List Value).toArray below meth c H locs 0 0 (MQ below (va_Qi (fun (r : Int32) (u : Int32 × Int32 × (Nat → Int32)) => post r u.1 u.2.1 u.2.2) (fun u t => cAft (dC, dI) classes (TYS cI cJ cB cZ) A [(h_t, .inr (8, [.int u.1, .ref h_tape, .ref h_row, .ref h_out, .ref h_sought, .int u.2.1, .int z_outSize, .int z_soughtSize, .int z_documents, .int z_indexed, .int z_suffixes, .int z_rows, .ref h_start, .ref h_documentOf, .ref h_order, .ref h_rankOf, .ref h_same, .ref h_work, .ref h_next, .ref h_often, .ref h_has, .int z_lesser])), (h_tape, .inl (cB, 16384, .inl u.2.2))] t) A) ([.ref h_t, .int a_p1, .int a_p2, .int a_p3, .int a_p4, .int a_p5] : List Value).toArray s 0 0 A) (F0 m 22 ls [.int k2, .int k1, .ref h_t]) := by
  obtain ⟨hx, hb, hml, hown, hw⟩ := id F
  intro k1 k2 z_thrown z_size z_tape hv H locs ls hP hD hS hl
  refine cV_i (wr := [(h_tape, .inl (cB, 16384, .inl z_tape))]) (rest := []) (c_MD_refuse l dC dI cI cJ cB cZ h_t h_tape h_row h_out h_sought h_start h_documentOf h_order h_rankOf h_same h_work h_next h_often h_has H.size z_thrown z_size z_outSize z_soughtSize z_documents z_indexed z_suffixes z_rows z_lesser k1 k2 _ hv) F (cw_V (fun _ h => h) 2 hw m_1177 m_1179 ms_29 m_9 m_1180 rfl rfl (by decide +kernel) ⟨by decide, by decide⟩) hK hP hD hS hA [0] [1] rfl rfl rfl rfl (by decide) 0 8 rfl rfl rfl hl.1 rfl (Nat.le_of_ble_eq_true rfl) d_MD_feed_22 ⟨Nat.le_of_ble_eq_true rfl, Nat.le_of_ble_eq_true rfl⟩ (fun r6 u H locs hv hP hD hS => ?_)
  obtain ⟨u6_0, rfl⟩ : ∃ z, z = u := ⟨_, rfl⟩
  have hP : va_P (dC, dI) classes [(h_t, .inr (8, [.int u6_0, .ref h_tape, .ref h_row, .ref h_out, .ref h_sought, .int z_size, .int z_outSize, .int z_soughtSize, .int z_documents, .int z_indexed, .int z_suffixes, .int z_rows, .ref h_start, .ref h_documentOf, .ref h_order, .ref h_rankOf, .ref h_same, .ref h_work, .ref h_next, .ref h_often, .ref h_has, .int z_lesser])), (h_tape, .inl (cB, 16384, .inl z_tape))] H := P_sub hP [1, 0] rfl
  have hD : va_D A [(h_t, .inr (8, [.int u6_0, .ref h_tape, .ref h_row, .ref h_out, .ref h_sought, .int z_size, .int z_outSize, .int z_soughtSize, .int z_documents, .int z_indexed, .int z_suffixes, .int z_rows, .ref h_start, .ref h_documentOf, .ref h_order, .ref h_rankOf, .ref h_same, .ref h_work, .ref h_next, .ref h_often, .ref h_has, .int z_lesser])), (h_tape, .inl (cB, 16384, .inl z_tape))] := hD.sub [1, 0] rfl rfl
  obtain ⟨hvt, hvf⟩ := hv
  refine lv_if_eq (tgt := 30) hx hb d_MD_feed_25 (by decide) (fun c7 => ?_) (fun c7 => ?_)
  · have hv := hvt c7
    refine lv_iconst (v := 0) hx hb d_MD_feed_30 (by decide) ?_
    refine lv_istore (lv' := [(6, .int 0), (0, .ref h_t), (1, .int a_p1), (2, .int a_p2), (3, .int a_p3), (4, .int a_p4), (5, .int a_p5)]) hx hb d_MD_feed_31 hl (by decide) rfl (fun ls hl => ?_)
    obtain ⟨j, hv⟩ := hv
    exact wk_MD_feed_33 F hr hlk hK hA j 0 u6_0 z_size z_tape hv _ _ _ hP hD hS (lv_sub hl [1, 2, 3, 4, 5, 6, 0] rfl)
  · have hv := hvf c7
    refine lv_iconst (v := 0) hx hb d_MD_feed_28 (by decide) ?_
    exact W.iret (v := 0) hx hb hr (fun t ht hW => ⟨⟨0, (u6_0, z_size, z_tape), rfl, hv, by rw [ht]; exact hP, va_K.moved hW.alike hK, hD⟩, hS.F ht⟩) hS.2.2 d_MD_feed_29

set_option maxHeartbeats 4000000 in
set_option maxRecDepth 100000 in
theorem c_MD_feed (l : Launch) (dC : Nat → ClassId) (dI : Nat → Nat → Nat) (cI cJ cB cZ : ClassId) (h_t : Nat) (h_tape : Nat) (h_row : Nat) (h_out : Nat) (h_sought : Nat) (h_start : Nat) (h_documentOf : Nat) (h_order : Nat) (h_rankOf : Nat) (h_same : Nat) (h_work : Nat) (h_next : Nat) (h_often : Nat) (h_has : Nat) (sz : Nat) (z_thrown : Int32) (z_size : Int32) (z_outSize : Int32) (z_soughtSize : Int32) (z_documents : Int32) (z_indexed : Int32) (z_suffixes : Int32) (z_rows : Int32) (z_lesser : Int32) (z_tape : Nat → Int32) (a_p1 : Int32) (a_p2 : Int32) (a_p3 : Int32) (a_p4 : Int32) (a_p5 : Int32) (post : Int32 → Int32 → Int32 → (Nat → Int32) → Prop) (hv : vc_MD_feed a_p1 a_p2 a_p3 a_p4 a_p5 post z_thrown z_size z_tape) : Met l y_MD_feed (Cond.code y_MD_feed b_MD_feed 8 (some .int) :: WT) rm_MD_feed (cPre (dC, dI) classes (TYS cI cJ cB cZ) [(h_t, .inr (8, [.int z_thrown, .ref h_tape, .ref h_row, .ref h_out, .ref h_sought, .int z_size, .int z_outSize, .int z_soughtSize, .int z_documents, .int z_indexed, .int z_suffixes, .int z_rows, .ref h_start, .ref h_documentOf, .ref h_order, .ref h_rankOf, .ref h_same, .ref h_work, .ref h_next, .ref h_often, .ref h_has, .int z_lesser])), (h_tape, .inl (cB, 16384, .inl z_tape))] sz [.ref h_t, .int a_p1, .int a_p2, .int a_p3, .int a_p4, .int a_p5]) (va_Qi (fun (r : Int32) (u : Int32 × Int32 × (Nat → Int32)) => post r u.1 u.2.1 u.2.2) (fun u t => cAft (dC, dI) classes (TYS cI cJ cB cZ) (va_A [(h_t, .inr (8, [.int z_thrown, .ref h_tape, .ref h_row, .ref h_out, .ref h_sought, .int z_size, .int z_outSize, .int z_soughtSize, .int z_documents, .int z_indexed, .int z_suffixes, .int z_rows, .ref h_start, .ref h_documentOf, .ref h_order, .ref h_rankOf, .ref h_same, .ref h_work, .ref h_next, .ref h_often, .ref h_has, .int z_lesser])), (h_tape, .inl (cB, 16384, .inl z_tape))] sz) [(h_t, .inr (8, [.int u.1, .ref h_tape, .ref h_row, .ref h_out, .ref h_sought, .int u.2.1, .int z_outSize, .int z_soughtSize, .int z_documents, .int z_indexed, .int z_suffixes, .int z_rows, .ref h_start, .ref h_documentOf, .ref h_order, .ref h_rankOf, .ref h_same, .ref h_work, .ref h_next, .ref h_often, .ref h_has, .int z_lesser])), (h_tape, .inl (cB, 16384, .inl u.2.2))] t) (va_A [(h_t, .inr (8, [.int z_thrown, .ref h_tape, .ref h_row, .ref h_out, .ref h_sought, .int z_size, .int z_outSize, .int z_soughtSize, .int z_documents, .int z_indexed, .int z_suffixes, .int z_rows, .ref h_start, .ref h_documentOf, .ref h_order, .ref h_rankOf, .ref h_same, .ref h_work, .ref h_next, .ref h_often, .ref h_has, .int z_lesser])), (h_tape, .inl (cB, 16384, .inl z_tape))] sz)) 0 0 (va_A [(h_t, .inr (8, [.int z_thrown, .ref h_tape, .ref h_row, .ref h_out, .ref h_sought, .int z_size, .int z_outSize, .int z_soughtSize, .int z_documents, .int z_indexed, .int z_suffixes, .int z_rows, .ref h_start, .ref h_documentOf, .ref h_order, .ref h_rankOf, .ref h_same, .ref h_work, .ref h_next, .ref h_often, .ref h_has, .int z_lesser])), (h_tape, .inl (cB, 16384, .inl z_tape))] sz) := by
  refine Met.ofW (cc := b_MD_feed) (maxL := 8) (ret := (some .int)) (by decide) rfl ?_
  intro p e s m args below meth c s₁ B hml hq
  obtain ⟨rfl, hsz, hP, hK, hD0⟩ := hq
  have hts := atoms_spec (ws := Cond.code y_MD_feed b_MD_feed 8 (some .int) :: WT) B.pre
  have hw : ∀ w ∈ WT, w.before ([.ref h_t, .int a_p1, .int a_p2, .int a_p3, .int a_p4, .int a_p5] : List Value).toArray s = true := fun w h => hts w (List.mem_cons_of_mem _ h)
  have hx := B.exec
  have hb := B.bytes
  have hr := B.returns
  have hlk := B.notSynchronized
  have hown : s.vm.findClass "SuffixIndexModel" = some m.cls := findClass_of_methodNamed B.named
  have F : CallFix p m c b_MD_feed 8 s ([.ref h_t, .int a_p1, .int a_p2, .int a_p3, .int a_p4, .int a_p5] : List Value).toArray WT "SuffixIndexModel" := ⟨hx, hb, hml, hown, hw⟩
  subst hsz
  have hD := hD0.self (sz := s.heap.size)
  generalize hAe : va_A [(h_t, .inr (8, [.int z_thrown, .ref h_tape, .ref h_row, .ref h_out, .ref h_sought, .int z_size, .int z_outSize, .int z_soughtSize, .int z_documents, .int z_indexed, .int z_suffixes, .int z_rows, .ref h_start, .ref h_documentOf, .ref h_order, .ref h_rankOf, .ref h_same, .ref h_work, .ref h_next, .ref h_often, .ref h_has, .int z_lesser])), (h_tape, .inl (cB, 16384, .inl z_tape))] s.heap.size = A at hD ⊢
  have hA : ∀ q : Nat, s.heap.size ≤ q → A q := fun q h => by rw [← hAe]; exact Or.inr h
  have hS : va_S A s.heap s.heap [] := va_S.rf
  have hl := lv_entry ([.ref h_t, .int a_p1, .int a_p2, .int a_p3, .int a_p4, .int a_p5]) (n := 8) (Nat.le_of_ble_eq_true rfl)
  rw [lg_entry_eq]
  generalize (lg_sl ([.ref h_t, .int a_p1, .int a_p2, .int a_p3, .int a_p4, .int a_p5]) ++ List.replicate (8 - (lg_sl ([.ref h_t, .int a_p1, .int a_p2, .int a_p3, .int a_p4, .int a_p5])).length) Slot.unset).toArray = ls at hl ⊢
  have hl : lv_has ls 8 [(0, .ref h_t), (1, .int a_p1), (2, .int a_p2), (3, .int a_p3), (4, .int a_p4), (5, .int a_p5)] := hl
  show W p l e rm_MD_feed s m _ below meth c s.heap [] 0 0 _ _
  have hP : va_P (dC, dI) classes [(h_t, .inr (8, [.int z_thrown, .ref h_tape, .ref h_row, .ref h_out, .ref h_sought, .int z_size, .int z_outSize, .int z_soughtSize, .int z_documents, .int z_indexed, .int z_suffixes, .int z_rows, .ref h_start, .ref h_documentOf, .ref h_order, .ref h_rankOf, .ref h_same, .ref h_work, .ref h_next, .ref h_often, .ref h_has, .int z_lesser])), (h_tape, .inl (cB, 16384, .inl z_tape))] s.heap := hP
  obtain ⟨H, hHe⟩ : ∃ H, H = s.heap := ⟨_, rfl⟩
  have hS : va_S A s.heap H [] := by rw [hHe]; exact hS
  rw [← hHe] at hP
  suffices hgoal : W p l e rm_MD_feed s m ([.ref h_t, .int a_p1, .int a_p2, .int a_p3, .int a_p4, .int a_p5] : List Value).toArray below meth c H [] 0 0 (MQ below (va_Qi (fun (r : Int32) (u : Int32 × Int32 × (Nat → Int32)) => post r u.1 u.2.1 u.2.2) (fun u t => cAft (dC, dI) classes (TYS cI cJ cB cZ) A [(h_t, .inr (8, [.int u.1, .ref h_tape, .ref h_row, .ref h_out, .ref h_sought, .int u.2.1, .int z_outSize, .int z_soughtSize, .int z_documents, .int z_indexed, .int z_suffixes, .int z_rows, .ref h_start, .ref h_documentOf, .ref h_order, .ref h_rankOf, .ref h_same, .ref h_work, .ref h_next, .ref h_often, .ref h_has, .int z_lesser])), (h_tape, .inl (cB, 16384, .inl u.2.2))] t) A) ([.ref h_t, .int a_p1, .int a_p2, .int a_p3, .int a_p4, .int a_p5] : List Value).toArray s 0 0 A) (F0 m 0 ls []) by rw [hHe] at hgoal; exact hgoal
  refine lv_aload_n hx hb d_MD_feed_0 rfl (lv_at hl 0 rfl) ?_
  refine lv_iconst (v := 0) hx hb d_MD_feed_1 (by decide) ?_
  refine va_put (D := (dC, dI)) (ci := 8) (v := .int 0) (ty := .int) (C := "SuffixIndexModel") (T := F_MD) (N := 22) hx hb hw i_MD t_MD t_MD_ok n_MD hown hK hP hD hS 0 rfl rfl 0 (by decide) (hw _ m_1101) (fun _ h9 => h9) rfl (by decide +kernel) rfl rfl (Nat.le_of_ble_eq_true rfl) d_MD_feed_2 (fun H locs hP hD hS => ?_)
  have hP : va_P (dC, dI) classes [(h_t, .inr (8, [.int 0, .ref h_tape, .ref h_row, .ref h_out, .ref h_sought, .int z_size, .int z_outSize, .int z_soughtSize, .int z_documents, .int z_indexed, .int z_suffixes, .int z_rows, .ref h_start, .ref h_documentOf, .ref h_order, .ref h_rankOf, .ref h_same, .ref h_work, .ref h_next, .ref h_often, .ref h_has, .int z_lesser])), (h_tape, .inl (cB, 16384, .inl z_tape))] H := hP
  have hD : va_D A [(h_t, .inr (8, [.int 0, .ref h_tape, .ref h_row, .ref h_out, .ref h_sought, .int z_size, .int z_outSize, .int z_soughtSize, .int z_documents, .int z_indexed, .int z_suffixes, .int z_rows, .ref h_start, .ref h_documentOf, .ref h_order, .ref h_rankOf, .ref h_same, .ref h_work, .ref h_next, .ref h_often, .ref h_has, .int z_lesser])), (h_tape, .inl (cB, 16384, .inl z_tape))] := hD
  refine lv_aload_n hx hb d_MD_feed_5 rfl (lv_at hl 0 rfl) ?_
  refine lv_iconst (v := 1) hx hb d_MD_feed_6 (by decide) ?_
  refine lv_aload_n hx hb d_MD_feed_7 rfl (lv_at hl 0 rfl) ?_
  refine va_get (D := (dC, dI)) (ci := 8) (v := .int z_size) (C := "SuffixIndexModel") (T := F_MD) (N := 22) hx hb hw i_MD hown hK hP 0 rfl rfl 5 (by decide) (hw _ m_1106) (fun _ h9 => h9) rfl d_MD_feed_8 ?_
  refine lv_sipush (v := 16364) hx hb d_MD_feed_11 (by decide) ?_
  obtain ⟨hvt, hvf⟩ := hv
  refine lv_icmp_le (tgt := 21) hx hb d_MD_feed_14 (by decide) (fun c8 => ?_) (fun c8 => ?_)
  · have hv := hvt c8
    refine lv_iconst (v := 0) hx hb d_MD_feed_21 (by decide) ?_
    exact wk_MD_feed_22 F hr hlk hK hA 1 0 0 z_size z_tape hv _ _ _ hP hD hS (lv_sub hl [0, 1, 2, 3, 4, 5] rfl)
  · have hv := hvf c8
    refine lv_iconst (v := 1) hx hb d_MD_feed_17 (by decide) ?_
    refine lv_goto (tgt := 22) hx hb d_MD_feed_18 (by decide) ?_
    exact wk_MD_feed_22 F hr hlk hK hA 1 1 0 z_size z_tape hv _ _ _ hP hD hS (lv_sub hl [0, 1, 2, 3, 4, 5] rfl)

set_option maxHeartbeats 4000000 in
set_option maxRecDepth 100000 in
theorem wk_MD_end_24 {p : Program} {l : Launch} {e : Env} {s : State} {m : MethodId} {below : List Frame} {meth : Method} {c : Code} {A : Nat → Prop} {dC : Nat → ClassId} {dI : Nat → Nat → Nat} {cI cJ cB cZ : ClassId} {h_t : Nat} {h_tape : Nat} {h_row : Nat} {h_out : Nat} {h_sought : Nat} {h_start : Nat} {h_documentOf : Nat} {h_order : Nat} {h_rankOf : Nat} {h_same : Nat} {h_work : Nat} {h_next : Nat} {h_often : Nat} {h_has : Nat} {a_p1 : Int32} {z_outSize : Int32} {z_soughtSize : Int32} {z_documents : Int32} {z_indexed : Int32} {z_suffixes : Int32} {z_rows : Int32} {z_lesser : Int32} {post : Int32 → Int32 → Int32 → Prop} (F : CallFix p m c b_MD_end 2 s ([.ref h_t, .int a_p1] : List Value).toArray WT "SuffixIndexModel") (hr : meth.sig.returnType = (some .int)) (hlk : meth.locks = false) (hK : va_K (dC, dI) classes (TYS cI cJ cB cZ) s) (hA : ∀ q, s.heap.size ≤ q → A q) : ∀ (k1 : Int32) (k2 : Int32) (z_thrown : Int32) (z_size : Int32), vc_MD_end_24 a_p1 post k1 k2 z_thrown z_size → ∀ (H : Heap) (locs : List Loc) (ls : Array Slot), va_P (dC, dI) classes [(h_t, .inr (8, [.int z_thrown, .ref h_tape, .ref h_row, .ref h_out, .ref h_sought, .int z_size, .int z_outSize, .int z_soughtSize, .int z_documents, .int z_indexed, .int z_suffixes, .int z_rows, .ref h_start, .ref h_documentOf, .ref h_order, .ref h_rankOf, .ref h_same, .ref h_work, .ref h_next, .ref h_often, .ref h_has, .int z_lesser]))] H → va_D A [(h_t, .inr (8, [.int z_thrown, .ref h_tape, .ref h_row, .ref h_out, .ref h_sought, .int z_size, .int z_outSize, .int z_soughtSize, .int z_documents, .int z_indexed, .int z_suffixes, .int z_rows, .ref h_start, .ref h_documentOf, .ref h_order, .ref h_rankOf, .ref h_same, .ref h_work, .ref h_next, .ref h_often, .ref h_has, .int z_lesser]))] → va_S A s.heap H locs → lv_has ls 2 [(0, .ref h_t), (1, .int a_p1)] → W p l e rm_MD_end s m ([.ref h_t, .int a_p1] : List Value).toArray below meth c H locs 0 0 (MQ below (va_Qi (fun (r : Int32) (u : Int32 × Int32) => post r u.1 u.2) (fun u t => cAft (dC, dI) classes (TYS cI cJ cB cZ) A [(h_t, .inr (8, [.int u.1, .ref h_tape, .ref h_row, .ref h_out, .ref h_sought, .int u.2, .int z_outSize, .int z_soughtSize, .int z_documents, .int z_indexed, .int z_suffixes, .int z_rows, .ref h_start, .ref h_documentOf, .ref h_order, .ref h_rankOf, .ref h_same, .ref h_work, .ref h_next, .ref h_often, .ref h_has, .int z_lesser]))] t) A) ([.ref h_t, .int a_p1] : List Value).toArray s 0 0 A) (F0 m 24 ls [.int k2, .int k1, .ref h_t]) := by
  obtain ⟨hx, hb, hml, hown, hw⟩ := id F
  intro k1 k2 z_thrown z_size hv H locs ls hP hD hS hl
  refine cV_i (wr := []) (rest := []) (c_MD_refuse l dC dI cI cJ cB cZ h_t h_tape h_row h_out h_sought h_start h_documentOf h_order h_rankOf h_same h_work h_next h_often h_has H.size z_thrown z_size z_outSize z_soughtSize z_documents z_indexed z_suffixes z_rows z_lesser k1 k2 _ hv) F (cw_V (fun _ h => h) 2 hw m_1177 m_1179 ms_29 m_9 m_1180 rfl rfl (by decide +kernel) ⟨by decide, by decide⟩) hK hP hD hS hA [0] [] rfl rfl rfl rfl (by decide) 0 8 rfl rfl rfl hl.1 rfl (Nat.le_of_ble_eq_true rfl) d_MD_end_24 ⟨Nat.le_of_ble_eq_true rfl, Nat.le_of_ble_eq_true rfl⟩ (fun r1 u H locs hv hP hD hS => ?_)
  obtain ⟨u1_0, rfl⟩ : ∃ z, z = u := ⟨_, rfl⟩
  have hP : va_P (dC, dI) classes [(h_t, .inr (8, [.int u1_0, .ref h_tape, .ref h_row, .ref h_out, .ref h_sought, .int z_size, .int z_outSize, .int z_soughtSize, .int z_documents, .int z_indexed, .int z_suffixes, .int z_rows, .ref h_start, .ref h_documentOf, .ref h_order, .ref h_rankOf, .ref h_same, .ref h_work, .ref h_next, .ref h_often, .ref h_has, .int z_lesser]))] H := P_sub hP [0] rfl
  have hD : va_D A [(h_t, .inr (8, [.int u1_0, .ref h_tape, .ref h_row, .ref h_out, .ref h_sought, .int z_size, .int z_outSize, .int z_soughtSize, .int z_documents, .int z_indexed, .int z_suffixes, .int z_rows, .ref h_start, .ref h_documentOf, .ref h_order, .ref h_rankOf, .ref h_same, .ref h_work, .ref h_next, .ref h_often, .ref h_has, .int z_lesser]))] := hD.sub [0] rfl rfl
  obtain ⟨hvt, hvf⟩ := hv
  refine lv_if_eq (tgt := 32) hx hb d_MD_end_27 (by decide) (fun c2 => ?_) (fun c2 => ?_)
  · have hv := hvt c2
    refine lv_aload_n hx hb d_MD_end_32 rfl (lv_at hl 0 rfl) ?_
    refine lv_iload_n hx hb d_MD_end_33 rfl (lv_at hl 1 rfl) ?_
    refine va_put (D := (dC, dI)) (ci := 8) (v := .int a_p1) (ty := .int) (C := "SuffixIndexModel") (T := F_MD) (N := 22) hx hb hw i_MD t_MD t_MD_ok n_MD hown hK hP hD hS 0 rfl rfl 5 (by decide) (hw _ m_1106) (fun _ h9 => h9) rfl (by decide +kernel) rfl rfl (Nat.le_of_ble_eq_true rfl) d_MD_end_34 (fun H locs hP hD hS => ?_)
    have hP : va_P (dC, dI) classes [(h_t, .inr (8, [.int u1_0, .ref h_tape, .ref h_row, .ref h_out, .ref h_sought, .int a_p1, .int z_outSize, .int z_soughtSize, .int z_documents, .int z_indexed, .int z_suffixes, .int z_rows, .ref h_start, .ref h_documentOf, .ref h_order, .ref h_rankOf, .ref h_same, .ref h_work, .ref h_next, .ref h_often, .ref h_has, .int z_lesser]))] H := hP
    have hD : va_D A [(h_t, .inr (8, [.int u1_0, .ref h_tape, .ref h_row, .ref h_out, .ref h_sought, .int a_p1, .int z_outSize, .int z_soughtSize, .int z_documents, .int z_indexed, .int z_suffixes, .int z_rows, .ref h_start, .ref h_documentOf, .ref h_order, .ref h_rankOf, .ref h_same, .ref h_work, .ref h_next, .ref h_often, .ref h_has, .int z_lesser]))] := hD
    refine lv_iload_n hx hb d_MD_end_37 rfl (lv_at hl 1 rfl) ?_
    exact W.iret (v := a_p1) hx hb hr (fun t ht hW => ⟨⟨a_p1, (u1_0, a_p1), rfl, hv, by rw [ht]; exact hP, va_K.moved hW.alike hK, hD⟩, hS.F ht⟩) hS.2.2 d_MD_end_38
  · have hv := hvf c2
    refine lv_iconst (v := 0) hx hb d_MD_end_30 (by decide) ?_
    exact W.iret (v := 0) hx hb hr (fun t ht hW => ⟨⟨0, (u1_0, z_size), rfl, hv, by rw [ht]; exact hP, va_K.moved hW.alike hK, hD⟩, hS.F ht⟩) hS.2.2 d_MD_end_31

set_option maxHeartbeats 4000000 in
set_option maxRecDepth 100000 in
theorem wk_MD_end_19 {p : Program} {l : Launch} {e : Env} {s : State} {m : MethodId} {below : List Frame} {meth : Method} {c : Code} {A : Nat → Prop} {dC : Nat → ClassId} {dI : Nat → Nat → Nat} {cI cJ cB cZ : ClassId} {h_t : Nat} {h_tape : Nat} {h_row : Nat} {h_out : Nat} {h_sought : Nat} {h_start : Nat} {h_documentOf : Nat} {h_order : Nat} {h_rankOf : Nat} {h_same : Nat} {h_work : Nat} {h_next : Nat} {h_often : Nat} {h_has : Nat} {a_p1 : Int32} {z_outSize : Int32} {z_soughtSize : Int32} {z_documents : Int32} {z_indexed : Int32} {z_suffixes : Int32} {z_rows : Int32} {z_lesser : Int32} {post : Int32 → Int32 → Int32 → Prop} (F : CallFix p m c b_MD_end 2 s ([.ref h_t, .int a_p1] : List Value).toArray WT "SuffixIndexModel") (hr : meth.sig.returnType = (some .int)) (hlk : meth.locks = false) (hK : va_K (dC, dI) classes (TYS cI cJ cB cZ) s) (hA : ∀ q, s.heap.size ≤ q → A q) : ∀ (k1 : Int32) (z_thrown : Int32) (z_size : Int32), vc_MD_end_19 a_p1 post k1 z_thrown z_size → ∀ (H : Heap) (locs : List Loc) (ls : Array Slot), va_P (dC, dI) classes [(h_t, .inr (8, [.int z_thrown, .ref h_tape, .ref h_row, .ref h_out, .ref h_sought, .int z_size, .int z_outSize, .int z_soughtSize, .int z_documents, .int z_indexed, .int z_suffixes, .int z_rows, .ref h_start, .ref h_documentOf, .ref h_order, .ref h_rankOf, .ref h_same, .ref h_work, .ref h_next, .ref h_often, .ref h_has, .int z_lesser]))] H → va_D A [(h_t, .inr (8, [.int z_thrown, .ref h_tape, .ref h_row, .ref h_out, .ref h_sought, .int z_size, .int z_outSize, .int z_soughtSize, .int z_documents, .int z_indexed, .int z_suffixes, .int z_rows, .ref h_start, .ref h_documentOf, .ref h_order, .ref h_rankOf, .ref h_same, .ref h_work, .ref h_next, .ref h_often, .ref h_has, .int z_lesser]))] → va_S A s.heap H locs → lv_has ls 2 [(0, .ref h_t), (1, .int a_p1)] → W p l e rm_MD_end s m ([.ref h_t, .int a_p1] : List Value).toArray below meth c H locs 0 0 (MQ below (va_Qi (fun (r : Int32) (u : Int32 × Int32) => post r u.1 u.2) (fun u t => cAft (dC, dI) classes (TYS cI cJ cB cZ) A [(h_t, .inr (8, [.int u.1, .ref h_tape, .ref h_row, .ref h_out, .ref h_sought, .int u.2, .int z_outSize, .int z_soughtSize, .int z_documents, .int z_indexed, .int z_suffixes, .int z_rows, .ref h_start, .ref h_documentOf, .ref h_order, .ref h_rankOf, .ref h_same, .ref h_work, .ref h_next, .ref h_often, .ref h_has, .int z_lesser]))] t) A) ([.ref h_t, .int a_p1] : List Value).toArray s 0 0 A) (F0 m 19 ls [.int k1, .ref h_t]) := by
  obtain ⟨hx, hb, hml, hown, hw⟩ := id F
  intro k1 z_thrown z_size hv H locs ls hP hD hS hl
  refine lv_iconst (v := 1) hx hb d_MD_end_19 (by decide) ?_
  refine lv_goto (tgt := 24) hx hb d_MD_end_20 (by decide) ?_
  exact wk_MD_end_24 F hr hlk hK hA k1 1 z_thrown z_size hv _ _ _ hP hD hS (lv_sub hl [0, 1] rfl)

set_option maxHeartbeats 4000000 in
set_option maxRecDepth 100000 in
theorem c_MD_end (l : Launch) (dC : Nat → ClassId) (dI : Nat → Nat → Nat) (cI cJ cB cZ : ClassId) (h_t : Nat) (h_tape : Nat) (h_row : Nat) (h_out : Nat) (h_sought : Nat) (h_start : Nat) (h_documentOf : Nat) (h_order : Nat) (h_rankOf : Nat) (h_same : Nat) (h_work : Nat) (h_next : Nat) (h_often : Nat) (h_has : Nat) (sz : Nat) (z_thrown : Int32) (z_size : Int32) (z_outSize : Int32) (z_soughtSize : Int32) (z_documents : Int32) (z_indexed : Int32) (z_suffixes : Int32) (z_rows : Int32) (z_lesser : Int32) (a_p1 : Int32) (post : Int32 → Int32 → Int32 → Prop) (hv : vc_MD_end a_p1 post z_thrown z_size) : Met l y_MD_end (Cond.code y_MD_end b_MD_end 2 (some .int) :: WT) rm_MD_end (cPre (dC, dI) classes (TYS cI cJ cB cZ) [(h_t, .inr (8, [.int z_thrown, .ref h_tape, .ref h_row, .ref h_out, .ref h_sought, .int z_size, .int z_outSize, .int z_soughtSize, .int z_documents, .int z_indexed, .int z_suffixes, .int z_rows, .ref h_start, .ref h_documentOf, .ref h_order, .ref h_rankOf, .ref h_same, .ref h_work, .ref h_next, .ref h_often, .ref h_has, .int z_lesser]))] sz [.ref h_t, .int a_p1]) (va_Qi (fun (r : Int32) (u : Int32 × Int32) => post r u.1 u.2) (fun u t => cAft (dC, dI) classes (TYS cI cJ cB cZ) (va_A [(h_t, .inr (8, [.int z_thrown, .ref h_tape, .ref h_row, .ref h_out, .ref h_sought, .int z_size, .int z_outSize, .int z_soughtSize, .int z_documents, .int z_indexed, .int z_suffixes, .int z_rows, .ref h_start, .ref h_documentOf, .ref h_order, .ref h_rankOf, .ref h_same, .ref h_work, .ref h_next, .ref h_often, .ref h_has, .int z_lesser]))] sz) [(h_t, .inr (8, [.int u.1, .ref h_tape, .ref h_row, .ref h_out, .ref h_sought, .int u.2, .int z_outSize, .int z_soughtSize, .int z_documents, .int z_indexed, .int z_suffixes, .int z_rows, .ref h_start, .ref h_documentOf, .ref h_order, .ref h_rankOf, .ref h_same, .ref h_work, .ref h_next, .ref h_often, .ref h_has, .int z_lesser]))] t) (va_A [(h_t, .inr (8, [.int z_thrown, .ref h_tape, .ref h_row, .ref h_out, .ref h_sought, .int z_size, .int z_outSize, .int z_soughtSize, .int z_documents, .int z_indexed, .int z_suffixes, .int z_rows, .ref h_start, .ref h_documentOf, .ref h_order, .ref h_rankOf, .ref h_same, .ref h_work, .ref h_next, .ref h_often, .ref h_has, .int z_lesser]))] sz)) 0 0 (va_A [(h_t, .inr (8, [.int z_thrown, .ref h_tape, .ref h_row, .ref h_out, .ref h_sought, .int z_size, .int z_outSize, .int z_soughtSize, .int z_documents, .int z_indexed, .int z_suffixes, .int z_rows, .ref h_start, .ref h_documentOf, .ref h_order, .ref h_rankOf, .ref h_same, .ref h_work, .ref h_next, .ref h_often, .ref h_has, .int z_lesser]))] sz) := by
  refine Met.ofW (cc := b_MD_end) (maxL := 2) (ret := (some .int)) (by decide) rfl ?_
  intro p e s m args below meth c s₁ B hml hq
  obtain ⟨rfl, hsz, hP, hK, hD0⟩ := hq
  have hts := atoms_spec (ws := Cond.code y_MD_end b_MD_end 2 (some .int) :: WT) B.pre
  have hw : ∀ w ∈ WT, w.before ([.ref h_t, .int a_p1] : List Value).toArray s = true := fun w h => hts w (List.mem_cons_of_mem _ h)
  have hx := B.exec
  have hb := B.bytes
  have hr := B.returns
  have hlk := B.notSynchronized
  have hown : s.vm.findClass "SuffixIndexModel" = some m.cls := findClass_of_methodNamed B.named
  have F : CallFix p m c b_MD_end 2 s ([.ref h_t, .int a_p1] : List Value).toArray WT "SuffixIndexModel" := ⟨hx, hb, hml, hown, hw⟩
  subst hsz
  have hD := hD0.self (sz := s.heap.size)
  generalize hAe : va_A [(h_t, .inr (8, [.int z_thrown, .ref h_tape, .ref h_row, .ref h_out, .ref h_sought, .int z_size, .int z_outSize, .int z_soughtSize, .int z_documents, .int z_indexed, .int z_suffixes, .int z_rows, .ref h_start, .ref h_documentOf, .ref h_order, .ref h_rankOf, .ref h_same, .ref h_work, .ref h_next, .ref h_often, .ref h_has, .int z_lesser]))] s.heap.size = A at hD ⊢
  have hA : ∀ q : Nat, s.heap.size ≤ q → A q := fun q h => by rw [← hAe]; exact Or.inr h
  have hS : va_S A s.heap s.heap [] := va_S.rf
  have hl := lv_entry ([.ref h_t, .int a_p1]) (n := 2) (Nat.le_of_ble_eq_true rfl)
  rw [lg_entry_eq]
  generalize (lg_sl ([.ref h_t, .int a_p1]) ++ List.replicate (2 - (lg_sl ([.ref h_t, .int a_p1])).length) Slot.unset).toArray = ls at hl ⊢
  have hl : lv_has ls 2 [(0, .ref h_t), (1, .int a_p1)] := hl
  show W p l e rm_MD_end s m _ below meth c s.heap [] 0 0 _ _
  have hP : va_P (dC, dI) classes [(h_t, .inr (8, [.int z_thrown, .ref h_tape, .ref h_row, .ref h_out, .ref h_sought, .int z_size, .int z_outSize, .int z_soughtSize, .int z_documents, .int z_indexed, .int z_suffixes, .int z_rows, .ref h_start, .ref h_documentOf, .ref h_order, .ref h_rankOf, .ref h_same, .ref h_work, .ref h_next, .ref h_often, .ref h_has, .int z_lesser]))] s.heap := hP
  obtain ⟨H, hHe⟩ : ∃ H, H = s.heap := ⟨_, rfl⟩
  have hS : va_S A s.heap H [] := by rw [hHe]; exact hS
  rw [← hHe] at hP
  suffices hgoal : W p l e rm_MD_end s m ([.ref h_t, .int a_p1] : List Value).toArray below meth c H [] 0 0 (MQ below (va_Qi (fun (r : Int32) (u : Int32 × Int32) => post r u.1 u.2) (fun u t => cAft (dC, dI) classes (TYS cI cJ cB cZ) A [(h_t, .inr (8, [.int u.1, .ref h_tape, .ref h_row, .ref h_out, .ref h_sought, .int u.2, .int z_outSize, .int z_soughtSize, .int z_documents, .int z_indexed, .int z_suffixes, .int z_rows, .ref h_start, .ref h_documentOf, .ref h_order, .ref h_rankOf, .ref h_same, .ref h_work, .ref h_next, .ref h_often, .ref h_has, .int z_lesser]))] t) A) ([.ref h_t, .int a_p1] : List Value).toArray s 0 0 A) (F0 m 0 ls []) by rw [hHe] at hgoal; exact hgoal
  refine lv_aload_n hx hb d_MD_end_0 rfl (lv_at hl 0 rfl) ?_
  refine lv_iconst (v := 0) hx hb d_MD_end_1 (by decide) ?_
  refine va_put (D := (dC, dI)) (ci := 8) (v := .int 0) (ty := .int) (C := "SuffixIndexModel") (T := F_MD) (N := 22) hx hb hw i_MD t_MD t_MD_ok n_MD hown hK hP hD hS 0 rfl rfl 0 (by decide) (hw _ m_1101) (fun _ h9 => h9) rfl (by decide +kernel) rfl rfl (Nat.le_of_ble_eq_true rfl) d_MD_end_2 (fun H locs hP hD hS => ?_)
  have hP : va_P (dC, dI) classes [(h_t, .inr (8, [.int 0, .ref h_tape, .ref h_row, .ref h_out, .ref h_sought, .int z_size, .int z_outSize, .int z_soughtSize, .int z_documents, .int z_indexed, .int z_suffixes, .int z_rows, .ref h_start, .ref h_documentOf, .ref h_order, .ref h_rankOf, .ref h_same, .ref h_work, .ref h_next, .ref h_often, .ref h_has, .int z_lesser]))] H := hP
  have hD : va_D A [(h_t, .inr (8, [.int 0, .ref h_tape, .ref h_row, .ref h_out, .ref h_sought, .int z_size, .int z_outSize, .int z_soughtSize, .int z_documents, .int z_indexed, .int z_suffixes, .int z_rows, .ref h_start, .ref h_documentOf, .ref h_order, .ref h_rankOf, .ref h_same, .ref h_work, .ref h_next, .ref h_often, .ref h_has, .int z_lesser]))] := hD
  refine lv_aload_n hx hb d_MD_end_5 rfl (lv_at hl 0 rfl) ?_
  refine lv_iconst (v := 1) hx hb d_MD_end_6 (by decide) ?_
  refine lv_iload_n hx hb d_MD_end_7 rfl (lv_at hl 1 rfl) ?_
  obtain ⟨hvt, hvf⟩ := hv
  refine lv_if_lt (tgt := 19) hx hb d_MD_end_8 (by decide) (fun c3 => ?_) (fun c3 => ?_)
  · have hv := hvt c3
    exact wk_MD_end_19 F hr hlk hK hA 1 0 z_size hv _ _ _ hP hD hS (lv_sub hl [0, 1] rfl)
  · have hv := hvf c3
    refine lv_iload_n hx hb d_MD_end_11 rfl (lv_at hl 1 rfl) ?_
    refine lv_aload_n hx hb d_MD_end_12 rfl (lv_at hl 0 rfl) ?_
    refine va_get (D := (dC, dI)) (ci := 8) (v := .int z_size) (C := "SuffixIndexModel") (T := F_MD) (N := 22) hx hb hw i_MD hown hK hP 0 rfl rfl 5 (by decide) (hw _ m_1106) (fun _ h9 => h9) rfl d_MD_end_13 ?_
    obtain ⟨hvt, hvf⟩ := hv
    refine lv_icmp_le (tgt := 23) hx hb d_MD_end_16 (by decide) (fun c4 => ?_) (fun c4 => ?_)
    · have hv := hvt c4
      refine lv_iconst (v := 0) hx hb d_MD_end_23 (by decide) ?_
      exact wk_MD_end_24 F hr hlk hK hA 1 0 0 z_size hv _ _ _ hP hD hS (lv_sub hl [0, 1] rfl)
    · have hv := hvf c4
      exact wk_MD_end_19 F hr hlk hK hA 1 0 z_size hv _ _ _ hP hD hS (lv_sub hl [0, 1] rfl)

set_option maxHeartbeats 4000000 in
set_option maxRecDepth 100000 in
theorem wk_MD_add_79 {p : Program} {l : Launch} {e : Env} {s : State} {m : MethodId} {below : List Frame} {meth : Method} {c : Code} {A : Nat → Prop} {dC : Nat → ClassId} {dI : Nat → Nat → Nat} {cI cJ cB cZ : ClassId} {h_t : Nat} {h_tape : Nat} {h_row : Nat} {h_out : Nat} {h_sought : Nat} {h_start : Nat} {h_documentOf : Nat} {h_order : Nat} {h_rankOf : Nat} {h_same : Nat} {h_work : Nat} {h_next : Nat} {h_often : Nat} {h_has : Nat} {z_tape : Nat → Int32} {z_outSize : Int32} {z_soughtSize : Int32} {z_indexed : Int32} {z_suffixes : Int32} {z_lesser : Int32} {post : Int32 → Int32 → Int32 → Int32 → Int32 → (Nat → Int32) → (Nat → Int32) → (Nat → Int32) → Prop} (F : CallFix p m c b_MD_add 2 s ([.ref h_t] : List Value).toArray WT "SuffixIndexModel") (hr : meth.sig.returnType = (some .int)) (hlk : meth.locks = false) (hK : va_K (dC, dI) classes (TYS cI cJ cB cZ) s) (hA : ∀ q, s.heap.size ≤ q → A q) : ∀ (k : Nat) (x1 : Int32) (z_thrown : Int32) (z_size : Int32) (z_documents : Int32) (z_rows : Int32) (z_row : Nat → Int32) (z_start : Nat → Int32) (z_documentOf : Nat → Int32), vc_MD_add_79 z_tape post k x1 z_thrown z_size z_documents z_rows z_row z_start z_documentOf → ∀ (H : Heap) (locs : List Loc) (ls : Array Slot), va_P (dC, dI) classes [(h_t, .inr (8, [.int z_thrown, .ref h_tape, .ref h_row, .ref h_out, .ref h_sought, .int z_size, .int z_outSize, .int z_soughtSize, .int z_documents, .int z_indexed, .int z_suffixes, .int z_rows, .ref h_start, .ref h_documentOf, .ref h_order, .ref h_rankOf, .ref h_same, .ref h_work, .ref h_next, .ref h_often, .ref h_has, .int z_lesser])), (h_tape, .inl (cB, 16384, .inl z_tape)), (h_row, .inl (cB, 16384, .inl z_row)), (h_start, .inl (cI, 66, .inl z_start)), (h_documentOf, .inl (cI, 16384, .inl z_documentOf))] H → va_D A [(h_t, .inr (8, [.int z_thrown, .ref h_tape, .ref h_row, .ref h_out, .ref h_sought, .int z_size, .int z_outSize, .int z_soughtSize, .int z_documents, .int z_indexed, .int z_suffixes, .int z_rows, .ref h_start, .ref h_documentOf, .ref h_order, .ref h_rankOf, .ref h_same, .ref h_work, .ref h_next, .ref h_often, .ref h_has, .int z_lesser])), (h_tape, .inl (cB, 16384, .inl z_tape)), (h_row, .inl (cB, 16384, .inl z_row)), (h_start, .inl (cI, 66, .inl z_start)), (h_documentOf, .inl (cI, 16384, .inl z_documentOf))] → va_S A s.heap H locs → lv_has ls 2 [(0, .ref h_t), (1, .int x1)] → W p l e rm_MD_add s m ([.ref h_t] : List Value).toArray below meth c H locs 0 0 (MQ below (va_Qi (fun (r : Int32) (u : Int32 × Int32 × Int32 × Int32 × (Nat → Int32) × (Nat → Int32) × (Nat → Int32)) => post r u.1 u.2.1 u.2.2.1 u.2.2.2.1 u.2.2.2.2.1 u.2.2.2.2.2.1 u.2.2.2.2.2.2) (fun u t => cAft (dC, dI) classes (TYS cI cJ cB cZ) A [(h_t, .inr (8, [.int u.1, .ref h_tape, .ref h_row, .ref h_out, .ref h_sought, .int u.2.1, .int z_outSize, .int z_soughtSize, .int u.2.2.1, .int z_indexed, .int z_suffixes, .int u.2.2.2.1, .ref h_start, .ref h_documentOf, .ref h_order, .ref h_rankOf, .ref h_same, .ref h_work, .ref h_next, .ref h_often, .ref h_has, .int z_lesser])), (h_tape, .inl (cB, 16384, .inl z_tape)), (h_row, .inl (cB, 16384, .inl u.2.2.2.2.1)), (h_start, .inl (cI, 66, .inl u.2.2.2.2.2.1)), (h_documentOf, .inl (cI, 16384, .inl u.2.2.2.2.2.2))] t) A) ([.ref h_t] : List Value).toArray s 0 0 A) (F0 m 79 ls []) := by
  obtain ⟨hx, hb, hml, hown, hw⟩ := id F
  intro k
  induction k with
  | zero =>
    intro x1 z_thrown z_size z_documents z_rows z_row z_start z_documentOf hv
    exact False.elim hv
  | succ k ih =>
    intro x1 z_thrown z_size z_documents z_rows z_row z_start z_documentOf hv H locs ls hP hD hS hl
    refine lv_iload_n hx hb d_MD_add_79 rfl (lv_at hl 1 rfl) ?_
    refine lv_aload_n hx hb d_MD_add_80 rfl (lv_at hl 0 rfl) ?_
    refine va_get (D := (dC, dI)) (ci := 8) (v := .int z_size) (C := "SuffixIndexModel") (T := F_MD) (N := 22) hx hb hw i_MD hown hK hP 0 rfl rfl 5 (by decide) (hw _ m_1106) (fun _ h9 => h9) rfl d_MD_add_81 ?_
    obtain ⟨hvt, hvf⟩ := hv
    refine lv_icmp_ge (tgt := 128) hx hb d_MD_add_84 (by decide) (fun c1 => ?_) (fun c1 => ?_)
    · have hv := hvt c1
      refine lv_aload_n hx hb d_MD_add_128 rfl (lv_at hl 0 rfl) ?_
      refine lv_iconst (v := 0) hx hb d_MD_add_129 (by decide) ?_
      refine va_put (D := (dC, dI)) (ci := 8) (v := .int 0) (ty := .int) (C := "SuffixIndexModel") (T := F_MD) (N := 22) hx hb hw i_MD t_MD t_MD_ok n_MD hown hK hP hD hS 0 rfl rfl 5 (by decide) (hw _ m_1106) (fun _ h9 => h9) rfl (by decide +kernel) rfl rfl (Nat.le_of_ble_eq_true rfl) d_MD_add_130 (fun H locs hP hD hS => ?_)
      have hP : va_P (dC, dI) classes [(h_t, .inr (8, [.int z_thrown, .ref h_tape, .ref h_row, .ref h_out, .ref h_sought, .int 0, .int z_outSize, .int z_soughtSize, .int z_documents, .int z_indexed, .int z_suffixes, .int z_rows, .ref h_start, .ref h_documentOf, .ref h_order, .ref h_rankOf, .ref h_same, .ref h_work, .ref h_next, .ref h_often, .ref h_has, .int z_lesser])), (h_tape, .inl (cB, 16384, .inl z_tape)), (h_row, .inl (cB, 16384, .inl z_row)), (h_start, .inl (cI, 66, .inl z_start)), (h_documentOf, .inl (cI, 16384, .inl z_documentOf))] H := hP
      have hD : va_D A [(h_t, .inr (8, [.int z_thrown, .ref h_tape, .ref h_row, .ref h_out, .ref h_sought, .int 0, .int z_outSize, .int z_soughtSize, .int z_documents, .int z_indexed, .int z_suffixes, .int z_rows, .ref h_start, .ref h_documentOf, .ref h_order, .ref h_rankOf, .ref h_same, .ref h_work, .ref h_next, .ref h_often, .ref h_has, .int z_lesser])), (h_tape, .inl (cB, 16384, .inl z_tape)), (h_row, .inl (cB, 16384, .inl z_row)), (h_start, .inl (cI, 66, .inl z_start)), (h_documentOf, .inl (cI, 16384, .inl z_documentOf))] := hD
      refine lv_aload_n hx hb d_MD_add_133 rfl (lv_at hl 0 rfl) ?_
      refine lv_dup hx hb d_MD_add_134 rfl ?_
      refine va_get (D := (dC, dI)) (ci := 8) (v := .int z_documents) (C := "SuffixIndexModel") (T := F_MD) (N := 22) hx hb hw i_MD hown hK hP 0 rfl rfl 8 (by decide) (hw _ m_1109) (fun _ h9 => h9) rfl d_MD_add_135 ?_
      refine lv_iconst (v := 1) hx hb d_MD_add_138 (by decide) ?_
      refine lv_iadd hx hb d_MD_add_139 ?_
      refine va_put (D := (dC, dI)) (ci := 8) (v := .int (z_documents + 1)) (ty := .int) (C := "SuffixIndexModel") (T := F_MD) (N := 22) hx hb hw i_MD t_MD t_MD_ok n_MD hown hK hP hD hS 0 rfl rfl 8 (by decide) (hw _ m_1109) (fun _ h9 => h9) rfl (by decide +kernel) rfl rfl (Nat.le_of_ble_eq_true rfl) d_MD_add_140 (fun H locs hP hD hS => ?_)
      have hP : va_P (dC, dI) classes [(h_t, .inr (8, [.int z_thrown, .ref h_tape, .ref h_row, .ref h_out, .ref h_sought, .int 0, .int z_outSize, .int z_soughtSize, .int (z_documents + 1), .int z_indexed, .int z_suffixes, .int z_rows, .ref h_start, .ref h_documentOf, .ref h_order, .ref h_rankOf, .ref h_same, .ref h_work, .ref h_next, .ref h_often, .ref h_has, .int z_lesser])), (h_tape, .inl (cB, 16384, .inl z_tape)), (h_row, .inl (cB, 16384, .inl z_row)), (h_start, .inl (cI, 66, .inl z_start)), (h_documentOf, .inl (cI, 16384, .inl z_documentOf))] H := hP
      have hD : va_D A [(h_t, .inr (8, [.int z_thrown, .ref h_tape, .ref h_row, .ref h_out, .ref h_sought, .int 0, .int z_outSize, .int z_soughtSize, .int (z_documents + 1), .int z_indexed, .int z_suffixes, .int z_rows, .ref h_start, .ref h_documentOf, .ref h_order, .ref h_rankOf, .ref h_same, .ref h_work, .ref h_next, .ref h_often, .ref h_has, .int z_lesser])), (h_tape, .inl (cB, 16384, .inl z_tape)), (h_row, .inl (cB, 16384, .inl z_row)), (h_start, .inl (cI, 66, .inl z_start)), (h_documentOf, .inl (cI, 16384, .inl z_documentOf))] := hD
      refine lv_aload_n hx hb d_MD_add_143 rfl (lv_at hl 0 rfl) ?_
      refine va_get (D := (dC, dI)) (ci := 8) (v := .ref h_start) (C := "SuffixIndexModel") (T := F_MD) (N := 22) hx hb hw i_MD hown hK hP 0 rfl rfl 12 (by decide) (hw _ m_1113) (fun _ h9 => h9) rfl d_MD_add_144 ?_
      refine lv_aload_n hx hb d_MD_add_147 rfl (lv_at hl 0 rfl) ?_
      refine va_get (D := (dC, dI)) (ci := 8) (v := .int (z_documents + 1)) (C := "SuffixIndexModel") (T := F_MD) (N := 22) hx hb hw i_MD hown hK hP 0 rfl rfl 8 (by decide) (hw _ m_1109) (fun _ h9 => h9) rfl d_MD_add_148 ?_
      refine lv_aload_n hx hb d_MD_add_151 rfl (lv_at hl 0 rfl) ?_
      refine va_get (D := (dC, dI)) (ci := 8) (v := .int z_rows) (C := "SuffixIndexModel") (T := F_MD) (N := 22) hx hb hw i_MD hown hK hP 0 rfl rfl 11 (by decide) (hw _ m_1112) (fun _ h9 => h9) rfl d_MD_add_152 ?_
      obtain ⟨hin, hv⟩ := hv
      refine va_iast hx hb hK hP hD hS 3 0 rfl rfl hin d_MD_add_155 (fun H locs hP hD hS => ?_)
      have hP : va_P (dC, dI) classes [(h_t, .inr (8, [.int z_thrown, .ref h_tape, .ref h_row, .ref h_out, .ref h_sought, .int 0, .int z_outSize, .int z_soughtSize, .int (z_documents + 1), .int z_indexed, .int z_suffixes, .int z_rows, .ref h_start, .ref h_documentOf, .ref h_order, .ref h_rankOf, .ref h_same, .ref h_work, .ref h_next, .ref h_often, .ref h_has, .int z_lesser])), (h_tape, .inl (cB, 16384, .inl z_tape)), (h_row, .inl (cB, 16384, .inl z_row)), (h_start, .inl (cI, 66, .inl (upd z_start (z_documents + 1).toNatClampNeg z_rows))), (h_documentOf, .inl (cI, 16384, .inl z_documentOf))] H := hP
      have hD : va_D A [(h_t, .inr (8, [.int z_thrown, .ref h_tape, .ref h_row, .ref h_out, .ref h_sought, .int 0, .int z_outSize, .int z_soughtSize, .int (z_documents + 1), .int z_indexed, .int z_suffixes, .int z_rows, .ref h_start, .ref h_documentOf, .ref h_order, .ref h_rankOf, .ref h_same, .ref h_work, .ref h_next, .ref h_often, .ref h_has, .int z_lesser])), (h_tape, .inl (cB, 16384, .inl z_tape)), (h_row, .inl (cB, 16384, .inl z_row)), (h_start, .inl (cI, 66, .inl (upd z_start (z_documents + 1).toNatClampNeg z_rows))), (h_documentOf, .inl (cI, 16384, .inl z_documentOf))] := hD
      refine lv_aload_n hx hb d_MD_add_156 rfl (lv_at hl 0 rfl) ?_
      refine va_get (D := (dC, dI)) (ci := 8) (v := .int (z_documents + 1)) (C := "SuffixIndexModel") (T := F_MD) (N := 22) hx hb hw i_MD hown hK hP 0 rfl rfl 8 (by decide) (hw _ m_1109) (fun _ h9 => h9) rfl d_MD_add_157 ?_
      refine lv_iconst (v := 1) hx hb d_MD_add_160 (by decide) ?_
      refine lv_isub hx hb d_MD_add_161 ?_
      exact W.iret (v := (z_documents + 1) - 1) hx hb hr (fun t ht hW => ⟨⟨(z_documents + 1) - 1, (z_thrown, 0, z_documents + 1, z_rows, z_row, upd z_start (z_documents + 1).toNatClampNeg z_rows, z_documentOf), rfl, hv, by rw [ht]; exact hP, va_K.moved hW.alike hK, hD⟩, hS.F ht⟩) hS.2.2 d_MD_add_162
    · have hv := hvf c1
      refine lv_aload_n hx hb d_MD_add_87 rfl (lv_at hl 0 rfl) ?_
      refine va_get (D := (dC, dI)) (ci := 8) (v := .ref h_documentOf) (C := "SuffixIndexModel") (T := F_MD) (N := 22) hx hb hw i_MD hown hK hP 0 rfl rfl 13 (by decide) (hw _ m_1114) (fun _ h9 => h9) rfl d_MD_add_88 ?_
      refine lv_aload_n hx hb d_MD_add_91 rfl (lv_at hl 0 rfl) ?_
      refine va_get (D := (dC, dI)) (ci := 8) (v := .int z_rows) (C := "SuffixIndexModel") (T := F_MD) (N := 22) hx hb hw i_MD hown hK hP 0 rfl rfl 11 (by decide) (hw _ m_1112) (fun _ h9 => h9) rfl d_MD_add_92 ?_
      refine lv_aload_n hx hb d_MD_add_95 rfl (lv_at hl 0 rfl) ?_
      refine va_get (D := (dC, dI)) (ci := 8) (v := .int z_documents) (C := "SuffixIndexModel") (T := F_MD) (N := 22) hx hb hw i_MD hown hK hP 0 rfl rfl 8 (by decide) (hw _ m_1109) (fun _ h9 => h9) rfl d_MD_add_96 ?_
      obtain ⟨hin, hv⟩ := hv
      refine va_iast hx hb hK hP hD hS 4 0 rfl rfl hin d_MD_add_99 (fun H locs hP hD hS => ?_)
      have hP : va_P (dC, dI) classes [(h_t, .inr (8, [.int z_thrown, .ref h_tape, .ref h_row, .ref h_out, .ref h_sought, .int z_size, .int z_outSize, .int z_soughtSize, .int z_documents, .int z_indexed, .int z_suffixes, .int z_rows, .ref h_start, .ref h_documentOf, .ref h_order, .ref h_rankOf, .ref h_same, .ref h_work, .ref h_next, .ref h_often, .ref h_has, .int z_lesser])), (h_tape, .inl (cB, 16384, .inl z_tape)), (h_row, .inl (cB, 16384, .inl z_row)), (h_start, .inl (cI, 66, .inl z_start)), (h_documentOf, .inl (cI, 16384, .inl (upd z_documentOf z_rows.toNatClampNeg z_documents)))] H := hP
      have hD : va_D A [(h_t, .inr (8, [.int z_thrown, .ref h_tape, .ref h_row, .ref h_out, .ref h_sought, .int z_size, .int z_outSize, .int z_soughtSize, .int z_documents, .int z_indexed, .int z_suffixes, .int z_rows, .ref h_start, .ref h_documentOf, .ref h_order, .ref h_rankOf, .ref h_same, .ref h_work, .ref h_next, .ref h_often, .ref h_has, .int z_lesser])), (h_tape, .inl (cB, 16384, .inl z_tape)), (h_row, .inl (cB, 16384, .inl z_row)), (h_start, .inl (cI, 66, .inl z_start)), (h_documentOf, .inl (cI, 16384, .inl (upd z_documentOf z_rows.toNatClampNeg z_documents)))] := hD
      refine lv_aload_n hx hb d_MD_add_100 rfl (lv_at hl 0 rfl) ?_
      refine va_get (D := (dC, dI)) (ci := 8) (v := .ref h_row) (C := "SuffixIndexModel") (T := F_MD) (N := 22) hx hb hw i_MD hown hK hP 0 rfl rfl 2 (by decide) (hw _ m_1103) (fun _ h9 => h9) rfl d_MD_add_101 ?_
      refine lv_aload_n hx hb d_MD_add_104 rfl (lv_at hl 0 rfl) ?_
      refine lv_dup hx hb d_MD_add_105 rfl ?_
      refine va_get (D := (dC, dI)) (ci := 8) (v := .int z_rows) (C := "SuffixIndexModel") (T := F_MD) (N := 22) hx hb hw i_MD hown hK hP 0 rfl rfl 11 (by decide) (hw _ m_1112) (fun _ h9 => h9) rfl d_MD_add_106 ?_
      refine lv_dup_x1 hx hb d_MD_add_109 rfl rfl ?_
      refine lv_iconst (v := 1) hx hb d_MD_add_110 (by decide) ?_
      refine lv_iadd hx hb d_MD_add_111 ?_
      refine va_put (D := (dC, dI)) (ci := 8) (v := .int (z_rows + 1)) (ty := .int) (C := "SuffixIndexModel") (T := F_MD) (N := 22) hx hb hw i_MD t_MD t_MD_ok n_MD hown hK hP hD hS 0 rfl rfl 11 (by decide) (hw _ m_1112) (fun _ h9 => h9) rfl (by decide +kernel) rfl rfl (Nat.le_of_ble_eq_true rfl) d_MD_add_112 (fun H locs hP hD hS => ?_)
      have hP : va_P (dC, dI) classes [(h_t, .inr (8, [.int z_thrown, .ref h_tape, .ref h_row, .ref h_out, .ref h_sought, .int z_size, .int z_outSize, .int z_soughtSize, .int z_documents, .int z_indexed, .int z_suffixes, .int (z_rows + 1), .ref h_start, .ref h_documentOf, .ref h_order, .ref h_rankOf, .ref h_same, .ref h_work, .ref h_next, .ref h_often, .ref h_has, .int z_lesser])), (h_tape, .inl (cB, 16384, .inl z_tape)), (h_row, .inl (cB, 16384, .inl z_row)), (h_start, .inl (cI, 66, .inl z_start)), (h_documentOf, .inl (cI, 16384, .inl (upd z_documentOf z_rows.toNatClampNeg z_documents)))] H := hP
      have hD : va_D A [(h_t, .inr (8, [.int z_thrown, .ref h_tape, .ref h_row, .ref h_out, .ref h_sought, .int z_size, .int z_outSize, .int z_soughtSize, .int z_documents, .int z_indexed, .int z_suffixes, .int (z_rows + 1), .ref h_start, .ref h_documentOf, .ref h_order, .ref h_rankOf, .ref h_same, .ref h_work, .ref h_next, .ref h_often, .ref h_has, .int z_lesser])), (h_tape, .inl (cB, 16384, .inl z_tape)), (h_row, .inl (cB, 16384, .inl z_row)), (h_start, .inl (cI, 66, .inl z_start)), (h_documentOf, .inl (cI, 16384, .inl (upd z_documentOf z_rows.toNatClampNeg z_documents)))] := hD
      refine lv_aload_n hx hb d_MD_add_115 rfl (lv_at hl 0 rfl) ?_
      refine va_get (D := (dC, dI)) (ci := 8) (v := .ref h_tape) (C := "SuffixIndexModel") (T := F_MD) (N := 22) hx hb hw i_MD hown hK hP 0 rfl rfl 1 (by decide) (hw _ m_1102) (fun _ h9 => h9) rfl d_MD_add_116 ?_
      refine lv_iload_n hx hb d_MD_add_119 rfl (lv_at hl 1 rfl) ?_
      obtain ⟨hin, hv⟩ := hv
      refine va_bald hx hb hK hP 1 2 rfl rfl hin d_MD_add_120 ?_
      obtain ⟨hin, hv⟩ := hv
      refine va_bast hx hb hK hP hD hS 2 2 rfl rfl hin d_MD_add_121 (fun H locs hP hD hS => ?_)
      have hP : va_P (dC, dI) classes [(h_t, .inr (8, [.int z_thrown, .ref h_tape, .ref h_row, .ref h_out, .ref h_sought, .int z_size, .int z_outSize, .int z_soughtSize, .int z_documents, .int z_indexed, .int z_suffixes, .int (z_rows + 1), .ref h_start, .ref h_documentOf, .ref h_order, .ref h_rankOf, .ref h_same, .ref h_work, .ref h_next, .ref h_often, .ref h_has, .int z_lesser])), (h_tape, .inl (cB, 16384, .inl z_tape)), (h_row, .inl (cB, 16384, .inl (upd z_row z_rows.toNatClampNeg (vp_nar .byte (z_tape x1.toNatClampNeg))))), (h_start, .inl (cI, 66, .inl z_start)), (h_documentOf, .inl (cI, 16384, .inl (upd z_documentOf z_rows.toNatClampNeg z_documents)))] H := hP
      have hD : va_D A [(h_t, .inr (8, [.int z_thrown, .ref h_tape, .ref h_row, .ref h_out, .ref h_sought, .int z_size, .int z_outSize, .int z_soughtSize, .int z_documents, .int z_indexed, .int z_suffixes, .int (z_rows + 1), .ref h_start, .ref h_documentOf, .ref h_order, .ref h_rankOf, .ref h_same, .ref h_work, .ref h_next, .ref h_often, .ref h_has, .int z_lesser])), (h_tape, .inl (cB, 16384, .inl z_tape)), (h_row, .inl (cB, 16384, .inl (upd z_row z_rows.toNatClampNeg (vp_nar .byte (z_tape x1.toNatClampNeg))))), (h_start, .inl (cI, 66, .inl z_start)), (h_documentOf, .inl (cI, 16384, .inl (upd z_documentOf z_rows.toNatClampNeg z_documents)))] := hD
      refine lv_iinc (v := x1 + 1) (lv' := [(1, .int (x1 + 1)), (0, .ref h_t)]) hx hb d_MD_add_122 hl (k := 1) rfl (iinc_v (by decide)) (by decide) rfl (fun ls hl => ?_)
      refine lv_goto (tgt := 79) hx hb d_MD_add_125 (by decide) ?_
      exact ih (x1 + 1) z_thrown z_size z_documents (z_rows + 1) (upd z_row z_rows.toNatClampNeg (vp_nar .byte (z_tape x1.toNatClampNeg))) z_start (upd z_documentOf z_rows.toNatClampNeg z_documents) hv _ _ _ hP hD hS (lv_sub hl [1, 0] rfl)

set_option maxHeartbeats 4000000 in
set_option maxRecDepth 100000 in
theorem wk_MD_add_56 {p : Program} {l : Launch} {e : Env} {s : State} {m : MethodId} {below : List Frame} {meth : Method} {c : Code} {A : Nat → Prop} {dC : Nat → ClassId} {dI : Nat → Nat → Nat} {cI cJ cB cZ : ClassId} {h_t : Nat} {h_tape : Nat} {h_row : Nat} {h_out : Nat} {h_sought : Nat} {h_start : Nat} {h_documentOf : Nat} {h_order : Nat} {h_rankOf : Nat} {h_same : Nat} {h_work : Nat} {h_next : Nat} {h_often : Nat} {h_has : Nat} {z_tape : Nat → Int32} {z_outSize : Int32} {z_soughtSize : Int32} {z_indexed : Int32} {z_suffixes : Int32} {z_lesser : Int32} {post : Int32 → Int32 → Int32 → Int32 → Int32 → (Nat → Int32) → (Nat → Int32) → (Nat → Int32) → Prop} (F : CallFix p m c b_MD_add 2 s ([.ref h_t] : List Value).toArray WT "SuffixIndexModel") (hr : meth.sig.returnType = (some .int)) (hlk : meth.locks = false) (hK : va_K (dC, dI) classes (TYS cI cJ cB cZ) s) (hA : ∀ q, s.heap.size ≤ q → A q) : ∀ (k1 : Int32) (k2 : Int32) (z_thrown : Int32) (z_size : Int32) (z_documents : Int32) (z_rows : Int32) (z_row : Nat → Int32) (z_start : Nat → Int32) (z_documentOf : Nat → Int32), vc_MD_add_56 z_tape post k1 k2 z_thrown z_size z_documents z_rows z_row z_start z_documentOf → ∀ (H : Heap) (locs : List Loc) (ls : Array Slot), va_P (dC, dI) classes [(h_t, .inr (8, [.int z_thrown, .ref h_tape, .ref h_row, .ref h_out, .ref h_sought, .int z_size, .int z_outSize, .int z_soughtSize, .int z_documents, .int z_indexed, .int z_suffixes, .int z_rows, .ref h_start, .ref h_documentOf, .ref h_order, .ref h_rankOf, .ref h_same, .ref h_work, .ref h_next, .ref h_often, .ref h_has, .int z_lesser])), (h_tape, .inl (cB, 16384, .inl z_tape)), (h_row, .inl (cB, 16384, .inl z_row)), (h_start, .inl (cI, 66, .inl z_start)), (h_documentOf, .inl (cI, 16384, .inl z_documentOf))] H → va_D A [(h_t, .inr (8, [.int z_thrown, .ref h_tape, .ref h_row, .ref h_out, .ref h_sought, .int z_size, .int z_outSize, .int z_soughtSize, .int z_documents, .int z_indexed, .int z_suffixes, .int z_rows, .ref h_start, .ref h_documentOf, .ref h_order, .ref h_rankOf, .ref h_same, .ref h_work, .ref h_next, .ref h_often, .ref h_has, .int z_lesser])), (h_tape, .inl (cB, 16384, .inl z_tape)), (h_row, .inl (cB, 16384, .inl z_row)), (h_start, .inl (cI, 66, .inl z_start)), (h_documentOf, .inl (cI, 16384, .inl z_documentOf))] → va_S A s.heap H locs → lv_has ls 2 [(0, .ref h_t)] → W p l e rm_MD_add s m ([.ref h_t] : List Value).toArray below meth c H locs 0 0 (MQ below (va_Qi (fun (r : Int32) (u : Int32 × Int32 × Int32 × Int32 × (Nat → Int32) × (Nat → Int32) × (Nat → Int32)) => post r u.1 u.2.1 u.2.2.1 u.2.2.2.1 u.2.2.2.2.1 u.2.2.2.2.2.1 u.2.2.2.2.2.2) (fun u t => cAft (dC, dI) classes (TYS cI cJ cB cZ) A [(h_t, .inr (8, [.int u.1, .ref h_tape, .ref h_row, .ref h_out, .ref h_sought, .int u.2.1, .int z_outSize, .int z_soughtSize, .int u.2.2.1, .int z_indexed, .int z_suffixes, .int u.2.2.2.1, .ref h_start, .ref h_documentOf, .ref h_order, .ref h_rankOf, .ref h_same, .ref h_work, .ref h_next, .ref h_often, .ref h_has, .int z_lesser])), (h_tape, .inl (cB, 16384, .inl z_tape)), (h_row, .inl (cB, 16384, .inl u.2.2.2.2.1)), (h_start, .inl (cI, 66, .inl u.2.2.2.2.2.1)), (h_documentOf, .inl (cI, 16384, .inl u.2.2.2.2.2.2))] t) A) ([.ref h_t] : List Value).toArray s 0 0 A) (F0 m 56 ls [.int k2, .int k1, .ref h_t]) := by
  obtain ⟨hx, hb, hml, hown, hw⟩ := id F
  intro k1 k2 z_thrown z_size z_documents z_rows z_row z_start z_documentOf hv H locs ls hP hD hS hl
  refine cV_i (wr := [(h_tape, .inl (cB, 16384, .inl z_tape)), (h_row, .inl (cB, 16384, .inl z_row)), (h_start, .inl (cI, 66, .inl z_start)), (h_documentOf, .inl (cI, 16384, .inl z_documentOf))]) (rest := []) (c_MD_refuse l dC dI cI cJ cB cZ h_t h_tape h_row h_out h_sought h_start h_documentOf h_order h_rankOf h_same h_work h_next h_often h_has H.size z_thrown z_size z_outSize z_soughtSize z_documents z_indexed z_suffixes z_rows z_lesser k1 k2 _ hv) F (cw_V (fun _ h => h) 2 hw m_1177 m_1179 ms_29 m_9 m_1180 rfl rfl (by decide +kernel) ⟨by decide, by decide⟩) hK hP hD hS hA [0] [1, 2, 3, 4] rfl rfl rfl rfl (by decide) 0 8 rfl rfl rfl hl.1 rfl (Nat.le_of_ble_eq_true rfl) d_MD_add_56 ⟨Nat.le_of_ble_eq_true rfl, Nat.le_of_ble_eq_true rfl⟩ (fun r2 u H locs hv hP hD hS => ?_)
  obtain ⟨u2_0, rfl⟩ : ∃ z, z = u := ⟨_, rfl⟩
  have hP : va_P (dC, dI) classes [(h_t, .inr (8, [.int u2_0, .ref h_tape, .ref h_row, .ref h_out, .ref h_sought, .int z_size, .int z_outSize, .int z_soughtSize, .int z_documents, .int z_indexed, .int z_suffixes, .int z_rows, .ref h_start, .ref h_documentOf, .ref h_order, .ref h_rankOf, .ref h_same, .ref h_work, .ref h_next, .ref h_often, .ref h_has, .int z_lesser])), (h_tape, .inl (cB, 16384, .inl z_tape)), (h_row, .inl (cB, 16384, .inl z_row)), (h_start, .inl (cI, 66, .inl z_start)), (h_documentOf, .inl (cI, 16384, .inl z_documentOf))] H := P_sub hP [4, 0, 1, 2, 3] rfl
  have hD : va_D A [(h_t, .inr (8, [.int u2_0, .ref h_tape, .ref h_row, .ref h_out, .ref h_sought, .int z_size, .int z_outSize, .int z_soughtSize, .int z_documents, .int z_indexed, .int z_suffixes, .int z_rows, .ref h_start, .ref h_documentOf, .ref h_order, .ref h_rankOf, .ref h_same, .ref h_work, .ref h_next, .ref h_often, .ref h_has, .int z_lesser])), (h_tape, .inl (cB, 16384, .inl z_tape)), (h_row, .inl (cB, 16384, .inl z_row)), (h_start, .inl (cI, 66, .inl z_start)), (h_documentOf, .inl (cI, 16384, .inl z_documentOf))] := hD.sub [4, 0, 1, 2, 3] rfl rfl
  obtain ⟨hvt, hvf⟩ := hv
  refine lv_if_eq (tgt := 64) hx hb d_MD_add_59 (by decide) (fun c3 => ?_) (fun c3 => ?_)
  · have hv := hvt c3
    refine lv_aload_n hx hb d_MD_add_64 rfl (lv_at hl 0 rfl) ?_
    refine va_get (D := (dC, dI)) (ci := 8) (v := .ref h_start) (C := "SuffixIndexModel") (T := F_MD) (N := 22) hx hb hw i_MD hown hK hP 0 rfl rfl 12 (by decide) (hw _ m_1113) (fun _ h9 => h9) rfl d_MD_add_65 ?_
    refine lv_aload_n hx hb d_MD_add_68 rfl (lv_at hl 0 rfl) ?_
    refine va_get (D := (dC, dI)) (ci := 8) (v := .int z_documents) (C := "SuffixIndexModel") (T := F_MD) (N := 22) hx hb hw i_MD hown hK hP 0 rfl rfl 8 (by decide) (hw _ m_1109) (fun _ h9 => h9) rfl d_MD_add_69 ?_
    refine lv_aload_n hx hb d_MD_add_72 rfl (lv_at hl 0 rfl) ?_
    refine va_get (D := (dC, dI)) (ci := 8) (v := .int z_rows) (C := "SuffixIndexModel") (T := F_MD) (N := 22) hx hb hw i_MD hown hK hP 0 rfl rfl 11 (by decide) (hw _ m_1112) (fun _ h9 => h9) rfl d_MD_add_73 ?_
    obtain ⟨hin, hv⟩ := hv
    refine va_iast hx hb hK hP hD hS 3 0 rfl rfl hin d_MD_add_76 (fun H locs hP hD hS => ?_)
    have hP : va_P (dC, dI) classes [(h_t, .inr (8, [.int u2_0, .ref h_tape, .ref h_row, .ref h_out, .ref h_sought, .int z_size, .int z_outSize, .int z_soughtSize, .int z_documents, .int z_indexed, .int z_suffixes, .int z_rows, .ref h_start, .ref h_documentOf, .ref h_order, .ref h_rankOf, .ref h_same, .ref h_work, .ref h_next, .ref h_often, .ref h_has, .int z_lesser])), (h_tape, .inl (cB, 16384, .inl z_tape)), (h_row, .inl (cB, 16384, .inl z_row)), (h_start, .inl (cI, 66, .inl (upd z_start z_documents.toNatClampNeg z_rows))), (h_documentOf, .inl (cI, 16384, .inl z_documentOf))] H := hP
    have hD : va_D A [(h_t, .inr (8, [.int u2_0, .ref h_tape, .ref h_row, .ref h_out, .ref h_sought, .int z_size, .int z_outSize, .int z_soughtSize, .int z_documents, .int z_indexed, .int z_suffixes, .int z_rows, .ref h_start, .ref h_documentOf, .ref h_order, .ref h_rankOf, .ref h_same, .ref h_work, .ref h_next, .ref h_often, .ref h_has, .int z_lesser])), (h_tape, .inl (cB, 16384, .inl z_tape)), (h_row, .inl (cB, 16384, .inl z_row)), (h_start, .inl (cI, 66, .inl (upd z_start z_documents.toNatClampNeg z_rows))), (h_documentOf, .inl (cI, 16384, .inl z_documentOf))] := hD
    refine lv_iconst (v := 0) hx hb d_MD_add_77 (by decide) ?_
    refine lv_istore_n (lv' := [(1, .int 0), (0, .ref h_t)]) hx hb d_MD_add_78 rfl hl (by decide) rfl (fun ls hl => ?_)
    obtain ⟨j, hv⟩ := hv
    exact wk_MD_add_79 F hr hlk hK hA j 0 u2_0 z_size z_documents z_rows z_row (upd z_start z_documents.toNatClampNeg z_rows) z_documentOf hv _ _ _ hP hD hS (lv_sub hl [1, 0] rfl)
  · have hv := hvf c3
    refine lv_iconst (v := 0) hx hb d_MD_add_62 (by decide) ?_
    exact W.iret (v := 0) hx hb hr (fun t ht hW => ⟨⟨0, (u2_0, z_size, z_documents, z_rows, z_row, z_start, z_documentOf), rfl, hv, by rw [ht]; exact hP, va_K.moved hW.alike hK, hD⟩, hS.F ht⟩) hS.2.2 d_MD_add_63

set_option maxHeartbeats 4000000 in
set_option maxRecDepth 100000 in
theorem wk_MD_add_51 {p : Program} {l : Launch} {e : Env} {s : State} {m : MethodId} {below : List Frame} {meth : Method} {c : Code} {A : Nat → Prop} {dC : Nat → ClassId} {dI : Nat → Nat → Nat} {cI cJ cB cZ : ClassId} {h_t : Nat} {h_tape : Nat} {h_row : Nat} {h_out : Nat} {h_sought : Nat} {h_start : Nat} {h_documentOf : Nat} {h_order : Nat} {h_rankOf : Nat} {h_same : Nat} {h_work : Nat} {h_next : Nat} {h_often : Nat} {h_has : Nat} {z_tape : Nat → Int32} {z_outSize : Int32} {z_soughtSize : Int32} {z_indexed : Int32} {z_suffixes : Int32} {z_lesser : Int32} {post : Int32 → Int32 → Int32 → Int32 → Int32 → (Nat → Int32) → (Nat → Int32) → (Nat → Int32) → Prop} (F : CallFix p m c b_MD_add 2 s ([.ref h_t] : List Value).toArray WT "SuffixIndexModel") (hr : meth.sig.returnType = (some .int)) (hlk : meth.locks = false) (hK : va_K (dC, dI) classes (TYS cI cJ cB cZ) s) (hA : ∀ q, s.heap.size ≤ q → A q) : ∀ (k1 : Int32) (z_thrown : Int32) (z_size : Int32) (z_documents : Int32) (z_rows : Int32) (z_row : Nat → Int32) (z_start : Nat → Int32) (z_documentOf : Nat → Int32), vc_MD_add_51 z_tape post k1 z_thrown z_size z_documents z_rows z_row z_start z_documentOf → ∀ (H : Heap) (locs : List Loc) (ls : Array Slot), va_P (dC, dI) classes [(h_t, .inr (8, [.int z_thrown, .ref h_tape, .ref h_row, .ref h_out, .ref h_sought, .int z_size, .int z_outSize, .int z_soughtSize, .int z_documents, .int z_indexed, .int z_suffixes, .int z_rows, .ref h_start, .ref h_documentOf, .ref h_order, .ref h_rankOf, .ref h_same, .ref h_work, .ref h_next, .ref h_often, .ref h_has, .int z_lesser])), (h_tape, .inl (cB, 16384, .inl z_tape)), (h_row, .inl (cB, 16384, .inl z_row)), (h_start, .inl (cI, 66, .inl z_start)), (h_documentOf, .inl (cI, 16384, .inl z_documentOf))] H → va_D A [(h_t, .inr (8, [.int z_thrown, .ref h_tape, .ref h_row, .ref h_out, .ref h_sought, .int z_size, .int z_outSize, .int z_soughtSize, .int z_documents, .int z_indexed, .int z_suffixes, .int z_rows, .ref h_start, .ref h_documentOf, .ref h_order, .ref h_rankOf, .ref h_same, .ref h_work, .ref h_next, .ref h_often, .ref h_has, .int z_lesser])), (h_tape, .inl (cB, 16384, .inl z_tape)), (h_row, .inl (cB, 16384, .inl z_row)), (h_start, .inl (cI, 66, .inl z_start)), (h_documentOf, .inl (cI, 16384, .inl z_documentOf))] → va_S A s.heap H locs → lv_has ls 2 [(0, .ref h_t)] → W p l e rm_MD_add s m ([.ref h_t] : List Value).toArray below meth c H locs 0 0 (MQ below (va_Qi (fun (r : Int32) (u : Int32 × Int32 × Int32 × Int32 × (Nat → Int32) × (Nat → Int32) × (Nat → Int32)) => post r u.1 u.2.1 u.2.2.1 u.2.2.2.1 u.2.2.2.2.1 u.2.2.2.2.2.1 u.2.2.2.2.2.2) (fun u t => cAft (dC, dI) classes (TYS cI cJ cB cZ) A [(h_t, .inr (8, [.int u.1, .ref h_tape, .ref h_row, .ref h_out, .ref h_sought, .int u.2.1, .int z_outSize, .int z_soughtSize, .int u.2.2.1, .int z_indexed, .int z_suffixes, .int u.2.2.2.1, .ref h_start, .ref h_documentOf, .ref h_order, .ref h_rankOf, .ref h_same, .ref h_work, .ref h_next, .ref h_often, .ref h_has, .int z_lesser])), (h_tape, .inl (cB, 16384, .inl z_tape)), (h_row, .inl (cB, 16384, .inl u.2.2.2.2.1)), (h_start, .inl (cI, 66, .inl u.2.2.2.2.2.1)), (h_documentOf, .inl (cI, 16384, .inl u.2.2.2.2.2.2))] t) A) ([.ref h_t] : List Value).toArray s 0 0 A) (F0 m 51 ls [.int k1, .ref h_t]) := by
  obtain ⟨hx, hb, hml, hown, hw⟩ := id F
  intro k1 z_thrown z_size z_documents z_rows z_row z_start z_documentOf hv H locs ls hP hD hS hl
  refine lv_iconst (v := 1) hx hb d_MD_add_51 (by decide) ?_
  refine lv_goto (tgt := 56) hx hb d_MD_add_52 (by decide) ?_
  exact wk_MD_add_56 F hr hlk hK hA k1 1 z_thrown z_size z_documents z_rows z_row z_start z_documentOf hv _ _ _ hP hD hS (lv_sub hl [0] rfl)

set_option maxHeartbeats 4000000 in
set_option maxRecDepth 100000 in
theorem wk_MD_add_19 {p : Program} {l : Launch} {e : Env} {s : State} {m : MethodId} {below : List Frame} {meth : Method} {c : Code} {A : Nat → Prop} {dC : Nat → ClassId} {dI : Nat → Nat → Nat} {cI cJ cB cZ : ClassId} {h_t : Nat} {h_tape : Nat} {h_row : Nat} {h_out : Nat} {h_sought : Nat} {h_start : Nat} {h_documentOf : Nat} {h_order : Nat} {h_rankOf : Nat} {h_same : Nat} {h_work : Nat} {h_next : Nat} {h_often : Nat} {h_has : Nat} {z_tape : Nat → Int32} {z_outSize : Int32} {z_soughtSize : Int32} {z_indexed : Int32} {z_suffixes : Int32} {z_lesser : Int32} {post : Int32 → Int32 → Int32 → Int32 → Int32 → (Nat → Int32) → (Nat → Int32) → (Nat → Int32) → Prop} (F : CallFix p m c b_MD_add 2 s ([.ref h_t] : List Value).toArray WT "SuffixIndexModel") (hr : meth.sig.returnType = (some .int)) (hlk : meth.locks = false) (hK : va_K (dC, dI) classes (TYS cI cJ cB cZ) s) (hA : ∀ q, s.heap.size ≤ q → A q) : ∀ (k1 : Int32) (k2 : Int32) (z_thrown : Int32) (z_size : Int32) (z_documents : Int32) (z_rows : Int32) (z_row : Nat → Int32) (z_start : Nat → Int32) (z_documentOf : Nat → Int32), vc_MD_add_19 z_tape post k1 k2 z_thrown z_size z_documents z_rows z_row z_start z_documentOf → ∀ (H : Heap) (locs : List Loc) (ls : Array Slot), va_P (dC, dI) classes [(h_t, .inr (8, [.int z_thrown, .ref h_tape, .ref h_row, .ref h_out, .ref h_sought, .int z_size, .int z_outSize, .int z_soughtSize, .int z_documents, .int z_indexed, .int z_suffixes, .int z_rows, .ref h_start, .ref h_documentOf, .ref h_order, .ref h_rankOf, .ref h_same, .ref h_work, .ref h_next, .ref h_often, .ref h_has, .int z_lesser])), (h_tape, .inl (cB, 16384, .inl z_tape)), (h_row, .inl (cB, 16384, .inl z_row)), (h_start, .inl (cI, 66, .inl z_start)), (h_documentOf, .inl (cI, 16384, .inl z_documentOf))] H → va_D A [(h_t, .inr (8, [.int z_thrown, .ref h_tape, .ref h_row, .ref h_out, .ref h_sought, .int z_size, .int z_outSize, .int z_soughtSize, .int z_documents, .int z_indexed, .int z_suffixes, .int z_rows, .ref h_start, .ref h_documentOf, .ref h_order, .ref h_rankOf, .ref h_same, .ref h_work, .ref h_next, .ref h_often, .ref h_has, .int z_lesser])), (h_tape, .inl (cB, 16384, .inl z_tape)), (h_row, .inl (cB, 16384, .inl z_row)), (h_start, .inl (cI, 66, .inl z_start)), (h_documentOf, .inl (cI, 16384, .inl z_documentOf))] → va_S A s.heap H locs → lv_has ls 2 [(0, .ref h_t)] → W p l e rm_MD_add s m ([.ref h_t] : List Value).toArray below meth c H locs 0 0 (MQ below (va_Qi (fun (r : Int32) (u : Int32 × Int32 × Int32 × Int32 × (Nat → Int32) × (Nat → Int32) × (Nat → Int32)) => post r u.1 u.2.1 u.2.2.1 u.2.2.2.1 u.2.2.2.2.1 u.2.2.2.2.2.1 u.2.2.2.2.2.2) (fun u t => cAft (dC, dI) classes (TYS cI cJ cB cZ) A [(h_t, .inr (8, [.int u.1, .ref h_tape, .ref h_row, .ref h_out, .ref h_sought, .int u.2.1, .int z_outSize, .int z_soughtSize, .int u.2.2.1, .int z_indexed, .int z_suffixes, .int u.2.2.2.1, .ref h_start, .ref h_documentOf, .ref h_order, .ref h_rankOf, .ref h_same, .ref h_work, .ref h_next, .ref h_often, .ref h_has, .int z_lesser])), (h_tape, .inl (cB, 16384, .inl z_tape)), (h_row, .inl (cB, 16384, .inl u.2.2.2.2.1)), (h_start, .inl (cI, 66, .inl u.2.2.2.2.2.1)), (h_documentOf, .inl (cI, 16384, .inl u.2.2.2.2.2.2))] t) A) ([.ref h_t] : List Value).toArray s 0 0 A) (F0 m 19 ls [.int k2, .int k1, .ref h_t]) := by
  obtain ⟨hx, hb, hml, hown, hw⟩ := id F
  intro k1 k2 z_thrown z_size z_documents z_rows z_row z_start z_documentOf hv H locs ls hP hD hS hl
  refine cV_i (wr := [(h_tape, .inl (cB, 16384, .inl z_tape)), (h_row, .inl (cB, 16384, .inl z_row)), (h_start, .inl (cI, 66, .inl z_start)), (h_documentOf, .inl (cI, 16384, .inl z_documentOf))]) (rest := []) (c_MD_refuse l dC dI cI cJ cB cZ h_t h_tape h_row h_out h_sought h_start h_documentOf h_order h_rankOf h_same h_work h_next h_often h_has H.size z_thrown z_size z_outSize z_soughtSize z_documents z_indexed z_suffixes z_rows z_lesser k1 k2 _ hv) F (cw_V (fun _ h => h) 2 hw m_1177 m_1179 ms_29 m_9 m_1180 rfl rfl (by decide +kernel) ⟨by decide, by decide⟩) hK hP hD hS hA [0] [1, 2, 3, 4] rfl rfl rfl rfl (by decide) 0 8 rfl rfl rfl hl.1 rfl (Nat.le_of_ble_eq_true rfl) d_MD_add_19 ⟨Nat.le_of_ble_eq_true rfl, Nat.le_of_ble_eq_true rfl⟩ (fun r4 u H locs hv hP hD hS => ?_)
  obtain ⟨u4_0, rfl⟩ : ∃ z, z = u := ⟨_, rfl⟩
  have hP : va_P (dC, dI) classes [(h_t, .inr (8, [.int u4_0, .ref h_tape, .ref h_row, .ref h_out, .ref h_sought, .int z_size, .int z_outSize, .int z_soughtSize, .int z_documents, .int z_indexed, .int z_suffixes, .int z_rows, .ref h_start, .ref h_documentOf, .ref h_order, .ref h_rankOf, .ref h_same, .ref h_work, .ref h_next, .ref h_often, .ref h_has, .int z_lesser])), (h_tape, .inl (cB, 16384, .inl z_tape)), (h_row, .inl (cB, 16384, .inl z_row)), (h_start, .inl (cI, 66, .inl z_start)), (h_documentOf, .inl (cI, 16384, .inl z_documentOf))] H := P_sub hP [4, 0, 1, 2, 3] rfl
  have hD : va_D A [(h_t, .inr (8, [.int u4_0, .ref h_tape, .ref h_row, .ref h_out, .ref h_sought, .int z_size, .int z_outSize, .int z_soughtSize, .int z_documents, .int z_indexed, .int z_suffixes, .int z_rows, .ref h_start, .ref h_documentOf, .ref h_order, .ref h_rankOf, .ref h_same, .ref h_work, .ref h_next, .ref h_often, .ref h_has, .int z_lesser])), (h_tape, .inl (cB, 16384, .inl z_tape)), (h_row, .inl (cB, 16384, .inl z_row)), (h_start, .inl (cI, 66, .inl z_start)), (h_documentOf, .inl (cI, 16384, .inl z_documentOf))] := hD.sub [4, 0, 1, 2, 3] rfl rfl
  obtain ⟨hvt, hvf⟩ := hv
  refine lv_if_ne (tgt := 62) hx hb d_MD_add_22 (by decide) (fun c5 => ?_) (fun c5 => ?_)
  · have hv := hvt c5
    refine lv_iconst (v := 0) hx hb d_MD_add_62 (by decide) ?_
    exact W.iret (v := 0) hx hb hr (fun t ht hW => ⟨⟨0, (u4_0, z_size, z_documents, z_rows, z_row, z_start, z_documentOf), rfl, hv, by rw [ht]; exact hP, va_K.moved hW.alike hK, hD⟩, hS.F ht⟩) hS.2.2 d_MD_add_63
  · have hv := hvf c5
    refine lv_aload_n hx hb d_MD_add_25 rfl (lv_at hl 0 rfl) ?_
    refine lv_iconst (v := 2) hx hb d_MD_add_26 (by decide) ?_
    refine lv_aload_n hx hb d_MD_add_27 rfl (lv_at hl 0 rfl) ?_
    refine va_get (D := (dC, dI)) (ci := 8) (v := .int z_documents) (C := "SuffixIndexModel") (T := F_MD) (N := 22) hx hb hw i_MD hown hK hP 0 rfl rfl 8 (by decide) (hw _ m_1109) (fun _ h9 => h9) rfl d_MD_add_28 ?_
    refine lv_bipush (v := 64) hx hb d_MD_add_31 (by decide) ?_
    obtain ⟨hvt, hvf⟩ := hv
    refine lv_icmp_eq (tgt := 51) hx hb d_MD_add_33 (by decide) (fun c6 => ?_) (fun c6 => ?_)
    · have hv := hvt c6
      exact wk_MD_add_51 F hr hlk hK hA 2 u4_0 z_size z_documents z_rows z_row z_start z_documentOf hv _ _ _ hP hD hS (lv_sub hl [0] rfl)
    · have hv := hvf c6
      refine lv_aload_n hx hb d_MD_add_36 rfl (lv_at hl 0 rfl) ?_
      refine va_get (D := (dC, dI)) (ci := 8) (v := .int z_rows) (C := "SuffixIndexModel") (T := F_MD) (N := 22) hx hb hw i_MD hown hK hP 0 rfl rfl 11 (by decide) (hw _ m_1112) (fun _ h9 => h9) rfl d_MD_add_37 ?_
      refine lv_aload_n hx hb d_MD_add_40 rfl (lv_at hl 0 rfl) ?_
      refine va_get (D := (dC, dI)) (ci := 8) (v := .int z_size) (C := "SuffixIndexModel") (T := F_MD) (N := 22) hx hb hw i_MD hown hK hP 0 rfl rfl 5 (by decide) (hw _ m_1106) (fun _ h9 => h9) rfl d_MD_add_41 ?_
      refine lv_iadd hx hb d_MD_add_44 ?_
      refine lv_sipush (v := 16384) hx hb d_MD_add_45 (by decide) ?_
      obtain ⟨hvt, hvf⟩ := hv
      refine lv_icmp_le (tgt := 55) hx hb d_MD_add_48 (by decide) (fun c7 => ?_) (fun c7 => ?_)
      · have hv := hvt c7
        refine lv_iconst (v := 0) hx hb d_MD_add_55 (by decide) ?_
        exact wk_MD_add_56 F hr hlk hK hA 2 0 u4_0 z_size z_documents z_rows z_row z_start z_documentOf hv _ _ _ hP hD hS (lv_sub hl [0] rfl)
      · have hv := hvf c7
        exact wk_MD_add_51 F hr hlk hK hA 2 u4_0 z_size z_documents z_rows z_row z_start z_documentOf hv _ _ _ hP hD hS (lv_sub hl [0] rfl)

set_option maxHeartbeats 4000000 in
set_option maxRecDepth 100000 in
theorem c_MD_add (l : Launch) (dC : Nat → ClassId) (dI : Nat → Nat → Nat) (cI cJ cB cZ : ClassId) (h_t : Nat) (h_tape : Nat) (h_row : Nat) (h_out : Nat) (h_sought : Nat) (h_start : Nat) (h_documentOf : Nat) (h_order : Nat) (h_rankOf : Nat) (h_same : Nat) (h_work : Nat) (h_next : Nat) (h_often : Nat) (h_has : Nat) (sz : Nat) (z_thrown : Int32) (z_size : Int32) (z_outSize : Int32) (z_soughtSize : Int32) (z_documents : Int32) (z_indexed : Int32) (z_suffixes : Int32) (z_rows : Int32) (z_lesser : Int32) (z_tape : Nat → Int32) (z_row : Nat → Int32) (z_start : Nat → Int32) (z_documentOf : Nat → Int32) (post : Int32 → Int32 → Int32 → Int32 → Int32 → (Nat → Int32) → (Nat → Int32) → (Nat → Int32) → Prop) (hv : vc_MD_add z_tape post z_thrown z_size z_documents z_rows z_row z_start z_documentOf) : Met l y_MD_add (Cond.code y_MD_add b_MD_add 2 (some .int) :: WT) rm_MD_add (cPre (dC, dI) classes (TYS cI cJ cB cZ) [(h_t, .inr (8, [.int z_thrown, .ref h_tape, .ref h_row, .ref h_out, .ref h_sought, .int z_size, .int z_outSize, .int z_soughtSize, .int z_documents, .int z_indexed, .int z_suffixes, .int z_rows, .ref h_start, .ref h_documentOf, .ref h_order, .ref h_rankOf, .ref h_same, .ref h_work, .ref h_next, .ref h_often, .ref h_has, .int z_lesser])), (h_tape, .inl (cB, 16384, .inl z_tape)), (h_row, .inl (cB, 16384, .inl z_row)), (h_start, .inl (cI, 66, .inl z_start)), (h_documentOf, .inl (cI, 16384, .inl z_documentOf))] sz [.ref h_t]) (va_Qi (fun (r : Int32) (u : Int32 × Int32 × Int32 × Int32 × (Nat → Int32) × (Nat → Int32) × (Nat → Int32)) => post r u.1 u.2.1 u.2.2.1 u.2.2.2.1 u.2.2.2.2.1 u.2.2.2.2.2.1 u.2.2.2.2.2.2) (fun u t => cAft (dC, dI) classes (TYS cI cJ cB cZ) (va_A [(h_t, .inr (8, [.int z_thrown, .ref h_tape, .ref h_row, .ref h_out, .ref h_sought, .int z_size, .int z_outSize, .int z_soughtSize, .int z_documents, .int z_indexed, .int z_suffixes, .int z_rows, .ref h_start, .ref h_documentOf, .ref h_order, .ref h_rankOf, .ref h_same, .ref h_work, .ref h_next, .ref h_often, .ref h_has, .int z_lesser])), (h_tape, .inl (cB, 16384, .inl z_tape)), (h_row, .inl (cB, 16384, .inl z_row)), (h_start, .inl (cI, 66, .inl z_start)), (h_documentOf, .inl (cI, 16384, .inl z_documentOf))] sz) [(h_t, .inr (8, [.int u.1, .ref h_tape, .ref h_row, .ref h_out, .ref h_sought, .int u.2.1, .int z_outSize, .int z_soughtSize, .int u.2.2.1, .int z_indexed, .int z_suffixes, .int u.2.2.2.1, .ref h_start, .ref h_documentOf, .ref h_order, .ref h_rankOf, .ref h_same, .ref h_work, .ref h_next, .ref h_often, .ref h_has, .int z_lesser])), (h_tape, .inl (cB, 16384, .inl z_tape)), (h_row, .inl (cB, 16384, .inl u.2.2.2.2.1)), (h_start, .inl (cI, 66, .inl u.2.2.2.2.2.1)), (h_documentOf, .inl (cI, 16384, .inl u.2.2.2.2.2.2))] t) (va_A [(h_t, .inr (8, [.int z_thrown, .ref h_tape, .ref h_row, .ref h_out, .ref h_sought, .int z_size, .int z_outSize, .int z_soughtSize, .int z_documents, .int z_indexed, .int z_suffixes, .int z_rows, .ref h_start, .ref h_documentOf, .ref h_order, .ref h_rankOf, .ref h_same, .ref h_work, .ref h_next, .ref h_often, .ref h_has, .int z_lesser])), (h_tape, .inl (cB, 16384, .inl z_tape)), (h_row, .inl (cB, 16384, .inl z_row)), (h_start, .inl (cI, 66, .inl z_start)), (h_documentOf, .inl (cI, 16384, .inl z_documentOf))] sz)) 0 0 (va_A [(h_t, .inr (8, [.int z_thrown, .ref h_tape, .ref h_row, .ref h_out, .ref h_sought, .int z_size, .int z_outSize, .int z_soughtSize, .int z_documents, .int z_indexed, .int z_suffixes, .int z_rows, .ref h_start, .ref h_documentOf, .ref h_order, .ref h_rankOf, .ref h_same, .ref h_work, .ref h_next, .ref h_often, .ref h_has, .int z_lesser])), (h_tape, .inl (cB, 16384, .inl z_tape)), (h_row, .inl (cB, 16384, .inl z_row)), (h_start, .inl (cI, 66, .inl z_start)), (h_documentOf, .inl (cI, 16384, .inl z_documentOf))] sz) := by
  refine Met.ofW (cc := b_MD_add) (maxL := 2) (ret := (some .int)) (by decide) rfl ?_
  intro p e s m args below meth c s₁ B hml hq
  obtain ⟨rfl, hsz, hP, hK, hD0⟩ := hq
  have hts := atoms_spec (ws := Cond.code y_MD_add b_MD_add 2 (some .int) :: WT) B.pre
  have hw : ∀ w ∈ WT, w.before ([.ref h_t] : List Value).toArray s = true := fun w h => hts w (List.mem_cons_of_mem _ h)
  have hx := B.exec
  have hb := B.bytes
  have hr := B.returns
  have hlk := B.notSynchronized
  have hown : s.vm.findClass "SuffixIndexModel" = some m.cls := findClass_of_methodNamed B.named
  have F : CallFix p m c b_MD_add 2 s ([.ref h_t] : List Value).toArray WT "SuffixIndexModel" := ⟨hx, hb, hml, hown, hw⟩
  subst hsz
  have hD := hD0.self (sz := s.heap.size)
  generalize hAe : va_A [(h_t, .inr (8, [.int z_thrown, .ref h_tape, .ref h_row, .ref h_out, .ref h_sought, .int z_size, .int z_outSize, .int z_soughtSize, .int z_documents, .int z_indexed, .int z_suffixes, .int z_rows, .ref h_start, .ref h_documentOf, .ref h_order, .ref h_rankOf, .ref h_same, .ref h_work, .ref h_next, .ref h_often, .ref h_has, .int z_lesser])), (h_tape, .inl (cB, 16384, .inl z_tape)), (h_row, .inl (cB, 16384, .inl z_row)), (h_start, .inl (cI, 66, .inl z_start)), (h_documentOf, .inl (cI, 16384, .inl z_documentOf))] s.heap.size = A at hD ⊢
  have hA : ∀ q : Nat, s.heap.size ≤ q → A q := fun q h => by rw [← hAe]; exact Or.inr h
  have hS : va_S A s.heap s.heap [] := va_S.rf
  have hl := lv_entry ([.ref h_t]) (n := 2) (Nat.le_of_ble_eq_true rfl)
  rw [lg_entry_eq]
  generalize (lg_sl ([.ref h_t]) ++ List.replicate (2 - (lg_sl ([.ref h_t])).length) Slot.unset).toArray = ls at hl ⊢
  have hl : lv_has ls 2 [(0, .ref h_t)] := hl
  show W p l e rm_MD_add s m _ below meth c s.heap [] 0 0 _ _
  have hP : va_P (dC, dI) classes [(h_t, .inr (8, [.int z_thrown, .ref h_tape, .ref h_row, .ref h_out, .ref h_sought, .int z_size, .int z_outSize, .int z_soughtSize, .int z_documents, .int z_indexed, .int z_suffixes, .int z_rows, .ref h_start, .ref h_documentOf, .ref h_order, .ref h_rankOf, .ref h_same, .ref h_work, .ref h_next, .ref h_often, .ref h_has, .int z_lesser])), (h_tape, .inl (cB, 16384, .inl z_tape)), (h_row, .inl (cB, 16384, .inl z_row)), (h_start, .inl (cI, 66, .inl z_start)), (h_documentOf, .inl (cI, 16384, .inl z_documentOf))] s.heap := hP
  obtain ⟨H, hHe⟩ : ∃ H, H = s.heap := ⟨_, rfl⟩
  have hS : va_S A s.heap H [] := by rw [hHe]; exact hS
  rw [← hHe] at hP
  suffices hgoal : W p l e rm_MD_add s m ([.ref h_t] : List Value).toArray below meth c H [] 0 0 (MQ below (va_Qi (fun (r : Int32) (u : Int32 × Int32 × Int32 × Int32 × (Nat → Int32) × (Nat → Int32) × (Nat → Int32)) => post r u.1 u.2.1 u.2.2.1 u.2.2.2.1 u.2.2.2.2.1 u.2.2.2.2.2.1 u.2.2.2.2.2.2) (fun u t => cAft (dC, dI) classes (TYS cI cJ cB cZ) A [(h_t, .inr (8, [.int u.1, .ref h_tape, .ref h_row, .ref h_out, .ref h_sought, .int u.2.1, .int z_outSize, .int z_soughtSize, .int u.2.2.1, .int z_indexed, .int z_suffixes, .int u.2.2.2.1, .ref h_start, .ref h_documentOf, .ref h_order, .ref h_rankOf, .ref h_same, .ref h_work, .ref h_next, .ref h_often, .ref h_has, .int z_lesser])), (h_tape, .inl (cB, 16384, .inl z_tape)), (h_row, .inl (cB, 16384, .inl u.2.2.2.2.1)), (h_start, .inl (cI, 66, .inl u.2.2.2.2.2.1)), (h_documentOf, .inl (cI, 16384, .inl u.2.2.2.2.2.2))] t) A) ([.ref h_t] : List Value).toArray s 0 0 A) (F0 m 0 ls []) by rw [hHe] at hgoal; exact hgoal
  refine lv_aload_n hx hb d_MD_add_0 rfl (lv_at hl 0 rfl) ?_
  refine lv_iconst (v := 0) hx hb d_MD_add_1 (by decide) ?_
  refine va_put (D := (dC, dI)) (ci := 8) (v := .int 0) (ty := .int) (C := "SuffixIndexModel") (T := F_MD) (N := 22) hx hb hw i_MD t_MD t_MD_ok n_MD hown hK hP hD hS 0 rfl rfl 0 (by decide) (hw _ m_1101) (fun _ h9 => h9) rfl (by decide +kernel) rfl rfl (Nat.le_of_ble_eq_true rfl) d_MD_add_2 (fun H locs hP hD hS => ?_)
  have hP : va_P (dC, dI) classes [(h_t, .inr (8, [.int 0, .ref h_tape, .ref h_row, .ref h_out, .ref h_sought, .int z_size, .int z_outSize, .int z_soughtSize, .int z_documents, .int z_indexed, .int z_suffixes, .int z_rows, .ref h_start, .ref h_documentOf, .ref h_order, .ref h_rankOf, .ref h_same, .ref h_work, .ref h_next, .ref h_often, .ref h_has, .int z_lesser])), (h_tape, .inl (cB, 16384, .inl z_tape)), (h_row, .inl (cB, 16384, .inl z_row)), (h_start, .inl (cI, 66, .inl z_start)), (h_documentOf, .inl (cI, 16384, .inl z_documentOf))] H := hP
  have hD : va_D A [(h_t, .inr (8, [.int 0, .ref h_tape, .ref h_row, .ref h_out, .ref h_sought, .int z_size, .int z_outSize, .int z_soughtSize, .int z_documents, .int z_indexed, .int z_suffixes, .int z_rows, .ref h_start, .ref h_documentOf, .ref h_order, .ref h_rankOf, .ref h_same, .ref h_work, .ref h_next, .ref h_often, .ref h_has, .int z_lesser])), (h_tape, .inl (cB, 16384, .inl z_tape)), (h_row, .inl (cB, 16384, .inl z_row)), (h_start, .inl (cI, 66, .inl z_start)), (h_documentOf, .inl (cI, 16384, .inl z_documentOf))] := hD
  refine lv_aload_n hx hb d_MD_add_5 rfl (lv_at hl 0 rfl) ?_
  refine lv_iconst (v := 1) hx hb d_MD_add_6 (by decide) ?_
  refine lv_aload_n hx hb d_MD_add_7 rfl (lv_at hl 0 rfl) ?_
  refine va_get (D := (dC, dI)) (ci := 8) (v := .int z_size) (C := "SuffixIndexModel") (T := F_MD) (N := 22) hx hb hw i_MD hown hK hP 0 rfl rfl 5 (by decide) (hw _ m_1106) (fun _ h9 => h9) rfl d_MD_add_8 ?_
  obtain ⟨hvt, hvf⟩ := hv
  refine lv_if_ne (tgt := 18) hx hb d_MD_add_11 (by decide) (fun c8 => ?_) (fun c8 => ?_)
  · have hv := hvt c8
    refine lv_iconst (v := 0) hx hb d_MD_add_18 (by decide) ?_
    exact wk_MD_add_19 F hr hlk hK hA 1 0 0 z_size z_documents z_rows z_row z_start z_documentOf hv _ _ _ hP hD hS (lv_sub hl [0] rfl)
  · have hv := hvf c8
    refine lv_iconst (v := 1) hx hb d_MD_add_14 (by decide) ?_
    refine lv_goto (tgt := 19) hx hb d_MD_add_15 (by decide) ?_
    exact wk_MD_add_19 F hr hlk hK hA 1 1 0 z_size z_documents z_rows z_row z_start z_documentOf hv _ _ _ hP hD hS (lv_sub hl [0] rfl)

set_option maxHeartbeats 4000000 in
set_option maxRecDepth 100000 in
theorem c_MD_clear (l : Launch) (dC : Nat → ClassId) (dI : Nat → Nat → Nat) (cI cJ cB cZ : ClassId) (h_t : Nat) (h_tape : Nat) (h_row : Nat) (h_out : Nat) (h_sought : Nat) (h_start : Nat) (h_documentOf : Nat) (h_order : Nat) (h_rankOf : Nat) (h_same : Nat) (h_work : Nat) (h_next : Nat) (h_often : Nat) (h_has : Nat) (sz : Nat) (z_thrown : Int32) (z_size : Int32) (z_outSize : Int32) (z_soughtSize : Int32) (z_documents : Int32) (z_indexed : Int32) (z_suffixes : Int32) (z_rows : Int32) (z_lesser : Int32) (post : Int32 → Int32 → Int32 → Int32 → Int32 → Int32 → Int32 → Prop) (hv : vc_MD_clear post z_thrown z_soughtSize z_documents z_indexed z_suffixes z_rows) : Met l y_MD_clear (Cond.code y_MD_clear b_MD_clear 2 (some .int) :: WT) rm_MD_clear (cPre (dC, dI) classes (TYS cI cJ cB cZ) [(h_t, .inr (8, [.int z_thrown, .ref h_tape, .ref h_row, .ref h_out, .ref h_sought, .int z_size, .int z_outSize, .int z_soughtSize, .int z_documents, .int z_indexed, .int z_suffixes, .int z_rows, .ref h_start, .ref h_documentOf, .ref h_order, .ref h_rankOf, .ref h_same, .ref h_work, .ref h_next, .ref h_often, .ref h_has, .int z_lesser]))] sz [.ref h_t]) (va_Qi (fun (r : Int32) (u : Int32 × Int32 × Int32 × Int32 × Int32 × Int32) => post r u.1 u.2.1 u.2.2.1 u.2.2.2.1 u.2.2.2.2.1 u.2.2.2.2.2) (fun u t => cAft (dC, dI) classes (TYS cI cJ cB cZ) (va_A [(h_t, .inr (8, [.int z_thrown, .ref h_tape, .ref h_row, .ref h_out, .ref h_sought, .int z_size, .int z_outSize, .int z_soughtSize, .int z_documents, .int z_indexed, .int z_suffixes, .int z_rows, .ref h_start, .ref h_documentOf, .ref h_order, .ref h_rankOf, .ref h_same, .ref h_work, .ref h_next, .ref h_often, .ref h_has, .int z_lesser]))] sz) [(h_t, .inr (8, [.int u.1, .ref h_tape, .ref h_row, .ref h_out, .ref h_sought, .int z_size, .int z_outSize, .int u.2.1, .int u.2.2.1, .int u.2.2.2.1, .int u.2.2.2.2.1, .int u.2.2.2.2.2, .ref h_start, .ref h_documentOf, .ref h_order, .ref h_rankOf, .ref h_same, .ref h_work, .ref h_next, .ref h_often, .ref h_has, .int z_lesser]))] t) (va_A [(h_t, .inr (8, [.int z_thrown, .ref h_tape, .ref h_row, .ref h_out, .ref h_sought, .int z_size, .int z_outSize, .int z_soughtSize, .int z_documents, .int z_indexed, .int z_suffixes, .int z_rows, .ref h_start, .ref h_documentOf, .ref h_order, .ref h_rankOf, .ref h_same, .ref h_work, .ref h_next, .ref h_often, .ref h_has, .int z_lesser]))] sz)) 0 0 (va_A [(h_t, .inr (8, [.int z_thrown, .ref h_tape, .ref h_row, .ref h_out, .ref h_sought, .int z_size, .int z_outSize, .int z_soughtSize, .int z_documents, .int z_indexed, .int z_suffixes, .int z_rows, .ref h_start, .ref h_documentOf, .ref h_order, .ref h_rankOf, .ref h_same, .ref h_work, .ref h_next, .ref h_often, .ref h_has, .int z_lesser]))] sz) := by
  refine Met.ofW (cc := b_MD_clear) (maxL := 2) (ret := (some .int)) (by decide) rfl ?_
  intro p e s m args below meth c s₁ B hml hq
  obtain ⟨rfl, hsz, hP, hK, hD0⟩ := hq
  have hts := atoms_spec (ws := Cond.code y_MD_clear b_MD_clear 2 (some .int) :: WT) B.pre
  have hw : ∀ w ∈ WT, w.before ([.ref h_t] : List Value).toArray s = true := fun w h => hts w (List.mem_cons_of_mem _ h)
  have hx := B.exec
  have hb := B.bytes
  have hr := B.returns
  have hlk := B.notSynchronized
  have hown : s.vm.findClass "SuffixIndexModel" = some m.cls := findClass_of_methodNamed B.named
  have F : CallFix p m c b_MD_clear 2 s ([.ref h_t] : List Value).toArray WT "SuffixIndexModel" := ⟨hx, hb, hml, hown, hw⟩
  subst hsz
  have hD := hD0.self (sz := s.heap.size)
  generalize hAe : va_A [(h_t, .inr (8, [.int z_thrown, .ref h_tape, .ref h_row, .ref h_out, .ref h_sought, .int z_size, .int z_outSize, .int z_soughtSize, .int z_documents, .int z_indexed, .int z_suffixes, .int z_rows, .ref h_start, .ref h_documentOf, .ref h_order, .ref h_rankOf, .ref h_same, .ref h_work, .ref h_next, .ref h_often, .ref h_has, .int z_lesser]))] s.heap.size = A at hD ⊢
  have hA : ∀ q : Nat, s.heap.size ≤ q → A q := fun q h => by rw [← hAe]; exact Or.inr h
  have hS : va_S A s.heap s.heap [] := va_S.rf
  have hl := lv_entry ([.ref h_t]) (n := 2) (Nat.le_of_ble_eq_true rfl)
  rw [lg_entry_eq]
  generalize (lg_sl ([.ref h_t]) ++ List.replicate (2 - (lg_sl ([.ref h_t])).length) Slot.unset).toArray = ls at hl ⊢
  have hl : lv_has ls 2 [(0, .ref h_t)] := hl
  show W p l e rm_MD_clear s m _ below meth c s.heap [] 0 0 _ _
  have hP : va_P (dC, dI) classes [(h_t, .inr (8, [.int z_thrown, .ref h_tape, .ref h_row, .ref h_out, .ref h_sought, .int z_size, .int z_outSize, .int z_soughtSize, .int z_documents, .int z_indexed, .int z_suffixes, .int z_rows, .ref h_start, .ref h_documentOf, .ref h_order, .ref h_rankOf, .ref h_same, .ref h_work, .ref h_next, .ref h_often, .ref h_has, .int z_lesser]))] s.heap := hP
  obtain ⟨H, hHe⟩ : ∃ H, H = s.heap := ⟨_, rfl⟩
  have hS : va_S A s.heap H [] := by rw [hHe]; exact hS
  rw [← hHe] at hP
  suffices hgoal : W p l e rm_MD_clear s m ([.ref h_t] : List Value).toArray below meth c H [] 0 0 (MQ below (va_Qi (fun (r : Int32) (u : Int32 × Int32 × Int32 × Int32 × Int32 × Int32) => post r u.1 u.2.1 u.2.2.1 u.2.2.2.1 u.2.2.2.2.1 u.2.2.2.2.2) (fun u t => cAft (dC, dI) classes (TYS cI cJ cB cZ) A [(h_t, .inr (8, [.int u.1, .ref h_tape, .ref h_row, .ref h_out, .ref h_sought, .int z_size, .int z_outSize, .int u.2.1, .int u.2.2.1, .int u.2.2.2.1, .int u.2.2.2.2.1, .int u.2.2.2.2.2, .ref h_start, .ref h_documentOf, .ref h_order, .ref h_rankOf, .ref h_same, .ref h_work, .ref h_next, .ref h_often, .ref h_has, .int z_lesser]))] t) A) ([.ref h_t] : List Value).toArray s 0 0 A) (F0 m 0 ls []) by rw [hHe] at hgoal; exact hgoal
  refine lv_aload_n hx hb d_MD_clear_0 rfl (lv_at hl 0 rfl) ?_
  refine lv_iconst (v := 0) hx hb d_MD_clear_1 (by decide) ?_
  refine va_put (D := (dC, dI)) (ci := 8) (v := .int 0) (ty := .int) (C := "SuffixIndexModel") (T := F_MD) (N := 22) hx hb hw i_MD t_MD t_MD_ok n_MD hown hK hP hD hS 0 rfl rfl 0 (by decide) (hw _ m_1101) (fun _ h9 => h9) rfl (by decide +kernel) rfl rfl (Nat.le_of_ble_eq_true rfl) d_MD_clear_2 (fun H locs hP hD hS => ?_)
  have hP : va_P (dC, dI) classes [(h_t, .inr (8, [.int 0, .ref h_tape, .ref h_row, .ref h_out, .ref h_sought, .int z_size, .int z_outSize, .int z_soughtSize, .int z_documents, .int z_indexed, .int z_suffixes, .int z_rows, .ref h_start, .ref h_documentOf, .ref h_order, .ref h_rankOf, .ref h_same, .ref h_work, .ref h_next, .ref h_often, .ref h_has, .int z_lesser]))] H := hP
  have hD : va_D A [(h_t, .inr (8, [.int 0, .ref h_tape, .ref h_row, .ref h_out, .ref h_sought, .int z_size, .int z_outSize, .int z_soughtSize, .int z_documents, .int z_indexed, .int z_suffixes, .int z_rows, .ref h_start, .ref h_documentOf, .ref h_order, .ref h_rankOf, .ref h_same, .ref h_work, .ref h_next, .ref h_often, .ref h_has, .int z_lesser]))] := hD
  refine lv_aload_n hx hb d_MD_clear_5 rfl (lv_at hl 0 rfl) ?_
  refine va_get (D := (dC, dI)) (ci := 8) (v := .int z_documents) (C := "SuffixIndexModel") (T := F_MD) (N := 22) hx hb hw i_MD hown hK hP 0 rfl rfl 8 (by decide) (hw _ m_1109) (fun _ h9 => h9) rfl d_MD_clear_6 ?_
  refine lv_istore_n (lv' := [(1, .int z_documents), (0, .ref h_t)]) hx hb d_MD_clear_9 rfl hl (by decide) rfl (fun ls hl => ?_)
  refine lv_aload_n hx hb d_MD_clear_10 rfl (lv_at hl 1 rfl) ?_
  refine lv_iconst (v := 0) hx hb d_MD_clear_11 (by decide) ?_
  refine va_put (D := (dC, dI)) (ci := 8) (v := .int 0) (ty := .int) (C := "SuffixIndexModel") (T := F_MD) (N := 22) hx hb hw i_MD t_MD t_MD_ok n_MD hown hK hP hD hS 0 rfl rfl 8 (by decide) (hw _ m_1109) (fun _ h9 => h9) rfl (by decide +kernel) rfl rfl (Nat.le_of_ble_eq_true rfl) d_MD_clear_12 (fun H locs hP hD hS => ?_)
  have hP : va_P (dC, dI) classes [(h_t, .inr (8, [.int 0, .ref h_tape, .ref h_row, .ref h_out, .ref h_sought, .int z_size, .int z_outSize, .int z_soughtSize, .int 0, .int z_indexed, .int z_suffixes, .int z_rows, .ref h_start, .ref h_documentOf, .ref h_order, .ref h_rankOf, .ref h_same, .ref h_work, .ref h_next, .ref h_often, .ref h_has, .int z_lesser]))] H := hP
  have hD : va_D A [(h_t, .inr (8, [.int 0, .ref h_tape, .ref h_row, .ref h_out, .ref h_sought, .int z_size, .int z_outSize, .int z_soughtSize, .int 0, .int z_indexed, .int z_suffixes, .int z_rows, .ref h_start, .ref h_documentOf, .ref h_order, .ref h_rankOf, .ref h_same, .ref h_work, .ref h_next, .ref h_often, .ref h_has, .int z_lesser]))] := hD
  refine lv_aload_n hx hb d_MD_clear_15 rfl (lv_at hl 1 rfl) ?_
  refine lv_iconst (v := 0) hx hb d_MD_clear_16 (by decide) ?_
  refine va_put (D := (dC, dI)) (ci := 8) (v := .int 0) (ty := .int) (C := "SuffixIndexModel") (T := F_MD) (N := 22) hx hb hw i_MD t_MD t_MD_ok n_MD hown hK hP hD hS 0 rfl rfl 9 (by decide) (hw _ m_1110) (fun _ h9 => h9) rfl (by decide +kernel) rfl rfl (Nat.le_of_ble_eq_true rfl) d_MD_clear_17 (fun H locs hP hD hS => ?_)
  have hP : va_P (dC, dI) classes [(h_t, .inr (8, [.int 0, .ref h_tape, .ref h_row, .ref h_out, .ref h_sought, .int z_size, .int z_outSize, .int z_soughtSize, .int 0, .int 0, .int z_suffixes, .int z_rows, .ref h_start, .ref h_documentOf, .ref h_order, .ref h_rankOf, .ref h_same, .ref h_work, .ref h_next, .ref h_often, .ref h_has, .int z_lesser]))] H := hP
  have hD : va_D A [(h_t, .inr (8, [.int 0, .ref h_tape, .ref h_row, .ref h_out, .ref h_sought, .int z_size, .int z_outSize, .int z_soughtSize, .int 0, .int 0, .int z_suffixes, .int z_rows, .ref h_start, .ref h_documentOf, .ref h_order, .ref h_rankOf, .ref h_same, .ref h_work, .ref h_next, .ref h_often, .ref h_has, .int z_lesser]))] := hD
  refine lv_aload_n hx hb d_MD_clear_20 rfl (lv_at hl 1 rfl) ?_
  refine lv_iconst (v := 0) hx hb d_MD_clear_21 (by decide) ?_
  refine va_put (D := (dC, dI)) (ci := 8) (v := .int 0) (ty := .int) (C := "SuffixIndexModel") (T := F_MD) (N := 22) hx hb hw i_MD t_MD t_MD_ok n_MD hown hK hP hD hS 0 rfl rfl 10 (by decide) (hw _ m_1111) (fun _ h9 => h9) rfl (by decide +kernel) rfl rfl (Nat.le_of_ble_eq_true rfl) d_MD_clear_22 (fun H locs hP hD hS => ?_)
  have hP : va_P (dC, dI) classes [(h_t, .inr (8, [.int 0, .ref h_tape, .ref h_row, .ref h_out, .ref h_sought, .int z_size, .int z_outSize, .int z_soughtSize, .int 0, .int 0, .int 0, .int z_rows, .ref h_start, .ref h_documentOf, .ref h_order, .ref h_rankOf, .ref h_same, .ref h_work, .ref h_next, .ref h_often, .ref h_has, .int z_lesser]))] H := hP
  have hD : va_D A [(h_t, .inr (8, [.int 0, .ref h_tape, .ref h_row, .ref h_out, .ref h_sought, .int z_size, .int z_outSize, .int z_soughtSize, .int 0, .int 0, .int 0, .int z_rows, .ref h_start, .ref h_documentOf, .ref h_order, .ref h_rankOf, .ref h_same, .ref h_work, .ref h_next, .ref h_often, .ref h_has, .int z_lesser]))] := hD
  refine lv_aload_n hx hb d_MD_clear_25 rfl (lv_at hl 1 rfl) ?_
  refine lv_iconst (v := 0) hx hb d_MD_clear_26 (by decide) ?_
  refine va_put (D := (dC, dI)) (ci := 8) (v := .int 0) (ty := .int) (C := "SuffixIndexModel") (T := F_MD) (N := 22) hx hb hw i_MD t_MD t_MD_ok n_MD hown hK hP hD hS 0 rfl rfl 11 (by decide) (hw _ m_1112) (fun _ h9 => h9) rfl (by decide +kernel) rfl rfl (Nat.le_of_ble_eq_true rfl) d_MD_clear_27 (fun H locs hP hD hS => ?_)
  have hP : va_P (dC, dI) classes [(h_t, .inr (8, [.int 0, .ref h_tape, .ref h_row, .ref h_out, .ref h_sought, .int z_size, .int z_outSize, .int z_soughtSize, .int 0, .int 0, .int 0, .int 0, .ref h_start, .ref h_documentOf, .ref h_order, .ref h_rankOf, .ref h_same, .ref h_work, .ref h_next, .ref h_often, .ref h_has, .int z_lesser]))] H := hP
  have hD : va_D A [(h_t, .inr (8, [.int 0, .ref h_tape, .ref h_row, .ref h_out, .ref h_sought, .int z_size, .int z_outSize, .int z_soughtSize, .int 0, .int 0, .int 0, .int 0, .ref h_start, .ref h_documentOf, .ref h_order, .ref h_rankOf, .ref h_same, .ref h_work, .ref h_next, .ref h_often, .ref h_has, .int z_lesser]))] := hD
  refine lv_aload_n hx hb d_MD_clear_30 rfl (lv_at hl 1 rfl) ?_
  refine lv_iconst (v := 0) hx hb d_MD_clear_31 (by decide) ?_
  refine va_put (D := (dC, dI)) (ci := 8) (v := .int 0) (ty := .int) (C := "SuffixIndexModel") (T := F_MD) (N := 22) hx hb hw i_MD t_MD t_MD_ok n_MD hown hK hP hD hS 0 rfl rfl 7 (by decide) (hw _ m_1108) (fun _ h9 => h9) rfl (by decide +kernel) rfl rfl (Nat.le_of_ble_eq_true rfl) d_MD_clear_32 (fun H locs hP hD hS => ?_)
  have hP : va_P (dC, dI) classes [(h_t, .inr (8, [.int 0, .ref h_tape, .ref h_row, .ref h_out, .ref h_sought, .int z_size, .int z_outSize, .int 0, .int 0, .int 0, .int 0, .int 0, .ref h_start, .ref h_documentOf, .ref h_order, .ref h_rankOf, .ref h_same, .ref h_work, .ref h_next, .ref h_often, .ref h_has, .int z_lesser]))] H := hP
  have hD : va_D A [(h_t, .inr (8, [.int 0, .ref h_tape, .ref h_row, .ref h_out, .ref h_sought, .int z_size, .int z_outSize, .int 0, .int 0, .int 0, .int 0, .int 0, .ref h_start, .ref h_documentOf, .ref h_order, .ref h_rankOf, .ref h_same, .ref h_work, .ref h_next, .ref h_often, .ref h_has, .int z_lesser]))] := hD
  refine lv_iload_n hx hb d_MD_clear_35 rfl (lv_at hl 0 rfl) ?_
  exact W.iret (v := z_documents) hx hb hr (fun t ht hW => ⟨⟨z_documents, (0, 0, 0, 0, 0, 0), rfl, hv, by rw [ht]; exact hP, va_K.moved hW.alike hK, hD⟩, hS.F ht⟩) hS.2.2 d_MD_clear_36

set_option maxHeartbeats 4000000 in
set_option maxRecDepth 100000 in
theorem c_MD_endOf (l : Launch) (dC : Nat → ClassId) (dI : Nat → Nat → Nat) (cI cJ cB cZ : ClassId) (h_t : Nat) (h_tape : Nat) (h_row : Nat) (h_out : Nat) (h_sought : Nat) (h_start : Nat) (h_documentOf : Nat) (h_order : Nat) (h_rankOf : Nat) (h_same : Nat) (h_work : Nat) (h_next : Nat) (h_often : Nat) (h_has : Nat) (sz : Nat) (z_thrown : Int32) (z_size : Int32) (z_outSize : Int32) (z_soughtSize : Int32) (z_documents : Int32) (z_indexed : Int32) (z_suffixes : Int32) (z_rows : Int32) (z_lesser : Int32) (z_start : Nat → Int32) (z_documentOf : Nat → Int32) (a_p1 : Int32) (post : Int32 → Prop) (hv : vc_MD_endOf a_p1 z_start z_documentOf post ) : Met l y_MD_endOf (Cond.code y_MD_endOf b_MD_endOf 2 (some .int) :: WT) rm_MD_endOf (cPre (dC, dI) classes (TYS cI cJ cB cZ) [(h_t, .inr (8, [.int z_thrown, .ref h_tape, .ref h_row, .ref h_out, .ref h_sought, .int z_size, .int z_outSize, .int z_soughtSize, .int z_documents, .int z_indexed, .int z_suffixes, .int z_rows, .ref h_start, .ref h_documentOf, .ref h_order, .ref h_rankOf, .ref h_same, .ref h_work, .ref h_next, .ref h_often, .ref h_has, .int z_lesser])), (h_start, .inl (cI, 66, .inl z_start)), (h_documentOf, .inl (cI, 16384, .inl z_documentOf))] sz [.ref h_t, .int a_p1]) (va_Qi (fun (r : Int32) (u : Unit) => post r ) (fun u t => cAft (dC, dI) classes (TYS cI cJ cB cZ) (va_A [(h_t, .inr (8, [.int z_thrown, .ref h_tape, .ref h_row, .ref h_out, .ref h_sought, .int z_size, .int z_outSize, .int z_soughtSize, .int z_documents, .int z_indexed, .int z_suffixes, .int z_rows, .ref h_start, .ref h_documentOf, .ref h_order, .ref h_rankOf, .ref h_same, .ref h_work, .ref h_next, .ref h_often, .ref h_has, .int z_lesser])), (h_start, .inl (cI, 66, .inl z_start)), (h_documentOf, .inl (cI, 16384, .inl z_documentOf))] sz) [(h_t, .inr (8, [.int z_thrown, .ref h_tape, .ref h_row, .ref h_out, .ref h_sought, .int z_size, .int z_outSize, .int z_soughtSize, .int z_documents, .int z_indexed, .int z_suffixes, .int z_rows, .ref h_start, .ref h_documentOf, .ref h_order, .ref h_rankOf, .ref h_same, .ref h_work, .ref h_next, .ref h_often, .ref h_has, .int z_lesser])), (h_start, .inl (cI, 66, .inl z_start)), (h_documentOf, .inl (cI, 16384, .inl z_documentOf))] t) (va_A [(h_t, .inr (8, [.int z_thrown, .ref h_tape, .ref h_row, .ref h_out, .ref h_sought, .int z_size, .int z_outSize, .int z_soughtSize, .int z_documents, .int z_indexed, .int z_suffixes, .int z_rows, .ref h_start, .ref h_documentOf, .ref h_order, .ref h_rankOf, .ref h_same, .ref h_work, .ref h_next, .ref h_often, .ref h_has, .int z_lesser])), (h_start, .inl (cI, 66, .inl z_start)), (h_documentOf, .inl (cI, 16384, .inl z_documentOf))] sz)) 0 0 (va_A [(h_t, .inr (8, [.int z_thrown, .ref h_tape, .ref h_row, .ref h_out, .ref h_sought, .int z_size, .int z_outSize, .int z_soughtSize, .int z_documents, .int z_indexed, .int z_suffixes, .int z_rows, .ref h_start, .ref h_documentOf, .ref h_order, .ref h_rankOf, .ref h_same, .ref h_work, .ref h_next, .ref h_often, .ref h_has, .int z_lesser])), (h_start, .inl (cI, 66, .inl z_start)), (h_documentOf, .inl (cI, 16384, .inl z_documentOf))] sz) := by
  refine Met.ofW (cc := b_MD_endOf) (maxL := 2) (ret := (some .int)) (by decide) rfl ?_
  intro p e s m args below meth c s₁ B hml hq
  obtain ⟨rfl, hsz, hP, hK, hD0⟩ := hq
  have hts := atoms_spec (ws := Cond.code y_MD_endOf b_MD_endOf 2 (some .int) :: WT) B.pre
  have hw : ∀ w ∈ WT, w.before ([.ref h_t, .int a_p1] : List Value).toArray s = true := fun w h => hts w (List.mem_cons_of_mem _ h)
  have hx := B.exec
  have hb := B.bytes
  have hr := B.returns
  have hlk := B.notSynchronized
  have hown : s.vm.findClass "SuffixIndexModel" = some m.cls := findClass_of_methodNamed B.named
  have F : CallFix p m c b_MD_endOf 2 s ([.ref h_t, .int a_p1] : List Value).toArray WT "SuffixIndexModel" := ⟨hx, hb, hml, hown, hw⟩
  subst hsz
  have hD := hD0.self (sz := s.heap.size)
  generalize hAe : va_A [(h_t, .inr (8, [.int z_thrown, .ref h_tape, .ref h_row, .ref h_out, .ref h_sought, .int z_size, .int z_outSize, .int z_soughtSize, .int z_documents, .int z_indexed, .int z_suffixes, .int z_rows, .ref h_start, .ref h_documentOf, .ref h_order, .ref h_rankOf, .ref h_same, .ref h_work, .ref h_next, .ref h_often, .ref h_has, .int z_lesser])), (h_start, .inl (cI, 66, .inl z_start)), (h_documentOf, .inl (cI, 16384, .inl z_documentOf))] s.heap.size = A at hD ⊢
  have hA : ∀ q : Nat, s.heap.size ≤ q → A q := fun q h => by rw [← hAe]; exact Or.inr h
  have hS : va_S A s.heap s.heap [] := va_S.rf
  have hl := lv_entry ([.ref h_t, .int a_p1]) (n := 2) (Nat.le_of_ble_eq_true rfl)
  rw [lg_entry_eq]
  generalize (lg_sl ([.ref h_t, .int a_p1]) ++ List.replicate (2 - (lg_sl ([.ref h_t, .int a_p1])).length) Slot.unset).toArray = ls at hl ⊢
  have hl : lv_has ls 2 [(0, .ref h_t), (1, .int a_p1)] := hl
  show W p l e rm_MD_endOf s m _ below meth c s.heap [] 0 0 _ _
  have hP : va_P (dC, dI) classes [(h_t, .inr (8, [.int z_thrown, .ref h_tape, .ref h_row, .ref h_out, .ref h_sought, .int z_size, .int z_outSize, .int z_soughtSize, .int z_documents, .int z_indexed, .int z_suffixes, .int z_rows, .ref h_start, .ref h_documentOf, .ref h_order, .ref h_rankOf, .ref h_same, .ref h_work, .ref h_next, .ref h_often, .ref h_has, .int z_lesser])), (h_start, .inl (cI, 66, .inl z_start)), (h_documentOf, .inl (cI, 16384, .inl z_documentOf))] s.heap := hP
  obtain ⟨H, hHe⟩ : ∃ H, H = s.heap := ⟨_, rfl⟩
  have hS : va_S A s.heap H [] := by rw [hHe]; exact hS
  rw [← hHe] at hP
  suffices hgoal : W p l e rm_MD_endOf s m ([.ref h_t, .int a_p1] : List Value).toArray below meth c H [] 0 0 (MQ below (va_Qi (fun (r : Int32) (u : Unit) => post r ) (fun u t => cAft (dC, dI) classes (TYS cI cJ cB cZ) A [(h_t, .inr (8, [.int z_thrown, .ref h_tape, .ref h_row, .ref h_out, .ref h_sought, .int z_size, .int z_outSize, .int z_soughtSize, .int z_documents, .int z_indexed, .int z_suffixes, .int z_rows, .ref h_start, .ref h_documentOf, .ref h_order, .ref h_rankOf, .ref h_same, .ref h_work, .ref h_next, .ref h_often, .ref h_has, .int z_lesser])), (h_start, .inl (cI, 66, .inl z_start)), (h_documentOf, .inl (cI, 16384, .inl z_documentOf))] t) A) ([.ref h_t, .int a_p1] : List Value).toArray s 0 0 A) (F0 m 0 ls []) by rw [hHe] at hgoal; exact hgoal
  refine lv_aload_n hx hb d_MD_endOf_0 rfl (lv_at hl 0 rfl) ?_
  refine va_get (D := (dC, dI)) (ci := 8) (v := .ref h_start) (C := "SuffixIndexModel") (T := F_MD) (N := 22) hx hb hw i_MD hown hK hP 0 rfl rfl 12 (by decide) (hw _ m_1113) (fun _ h9 => h9) rfl d_MD_endOf_1 ?_
  refine lv_aload_n hx hb d_MD_endOf_4 rfl (lv_at hl 0 rfl) ?_
  refine va_get (D := (dC, dI)) (ci := 8) (v := .ref h_documentOf) (C := "SuffixIndexModel") (T := F_MD) (N := 22) hx hb hw i_MD hown hK hP 0 rfl rfl 13 (by decide) (hw _ m_1114) (fun _ h9 => h9) rfl d_MD_endOf_5 ?_
  refine lv_iload_n hx hb d_MD_endOf_8 rfl (lv_at hl 1 rfl) ?_
  obtain ⟨hin, hv⟩ := hv
  refine va_iald hx hb hK hP 2 0 rfl rfl hin d_MD_endOf_9 ?_
  refine lv_iconst (v := 1) hx hb d_MD_endOf_10 (by decide) ?_
  refine lv_iadd hx hb d_MD_endOf_11 ?_
  obtain ⟨hin, hv⟩ := hv
  refine va_iald hx hb hK hP 1 0 rfl rfl hin d_MD_endOf_12 ?_
  exact W.iret (v := (z_start ((z_documentOf a_p1.toNatClampNeg) + 1).toNatClampNeg)) hx hb hr (fun t ht hW => ⟨⟨(z_start ((z_documentOf a_p1.toNatClampNeg) + 1).toNatClampNeg), (), rfl, hv, by rw [ht]; exact hP, va_K.moved hW.alike hK, hD⟩, hS.F ht⟩) hS.2.2 d_MD_endOf_13

set_option maxHeartbeats 4000000 in
set_option maxRecDepth 100000 in
theorem c_MD_rankAt (l : Launch) (dC : Nat → ClassId) (dI : Nat → Nat → Nat) (cI cJ cB cZ : ClassId) (h_t : Nat) (h_tape : Nat) (h_row : Nat) (h_out : Nat) (h_sought : Nat) (h_start : Nat) (h_documentOf : Nat) (h_order : Nat) (h_rankOf : Nat) (h_same : Nat) (h_work : Nat) (h_next : Nat) (h_often : Nat) (h_has : Nat) (sz : Nat) (z_thrown : Int32) (z_size : Int32) (z_outSize : Int32) (z_soughtSize : Int32) (z_documents : Int32) (z_indexed : Int32) (z_suffixes : Int32) (z_rows : Int32) (z_lesser : Int32) (z_start : Nat → Int32) (z_documentOf : Nat → Int32) (z_rankOf : Nat → Int32) (a_p1 : Int32) (a_p2 : Int32) (post : Int32 → Prop) (hv : vc_MD_rankAt a_p1 a_p2 z_start z_documentOf z_rankOf post ) : Met l y_MD_rankAt (Cond.code y_MD_rankAt b_MD_rankAt 3 (some .int) :: WT) rm_MD_rankAt (cPre (dC, dI) classes (TYS cI cJ cB cZ) [(h_t, .inr (8, [.int z_thrown, .ref h_tape, .ref h_row, .ref h_out, .ref h_sought, .int z_size, .int z_outSize, .int z_soughtSize, .int z_documents, .int z_indexed, .int z_suffixes, .int z_rows, .ref h_start, .ref h_documentOf, .ref h_order, .ref h_rankOf, .ref h_same, .ref h_work, .ref h_next, .ref h_often, .ref h_has, .int z_lesser])), (h_start, .inl (cI, 66, .inl z_start)), (h_documentOf, .inl (cI, 16384, .inl z_documentOf)), (h_rankOf, .inl (cI, 16384, .inl z_rankOf))] sz [.ref h_t, .int a_p1, .int a_p2]) (va_Qi (fun (r : Int32) (u : Unit) => post r ) (fun u t => cAft (dC, dI) classes (TYS cI cJ cB cZ) (va_A [(h_t, .inr (8, [.int z_thrown, .ref h_tape, .ref h_row, .ref h_out, .ref h_sought, .int z_size, .int z_outSize, .int z_soughtSize, .int z_documents, .int z_indexed, .int z_suffixes, .int z_rows, .ref h_start, .ref h_documentOf, .ref h_order, .ref h_rankOf, .ref h_same, .ref h_work, .ref h_next, .ref h_often, .ref h_has, .int z_lesser])), (h_start, .inl (cI, 66, .inl z_start)), (h_documentOf, .inl (cI, 16384, .inl z_documentOf)), (h_rankOf, .inl (cI, 16384, .inl z_rankOf))] sz) [(h_t, .inr (8, [.int z_thrown, .ref h_tape, .ref h_row, .ref h_out, .ref h_sought, .int z_size, .int z_outSize, .int z_soughtSize, .int z_documents, .int z_indexed, .int z_suffixes, .int z_rows, .ref h_start, .ref h_documentOf, .ref h_order, .ref h_rankOf, .ref h_same, .ref h_work, .ref h_next, .ref h_often, .ref h_has, .int z_lesser])), (h_start, .inl (cI, 66, .inl z_start)), (h_documentOf, .inl (cI, 16384, .inl z_documentOf)), (h_rankOf, .inl (cI, 16384, .inl z_rankOf))] t) (va_A [(h_t, .inr (8, [.int z_thrown, .ref h_tape, .ref h_row, .ref h_out, .ref h_sought, .int z_size, .int z_outSize, .int z_soughtSize, .int z_documents, .int z_indexed, .int z_suffixes, .int z_rows, .ref h_start, .ref h_documentOf, .ref h_order, .ref h_rankOf, .ref h_same, .ref h_work, .ref h_next, .ref h_often, .ref h_has, .int z_lesser])), (h_start, .inl (cI, 66, .inl z_start)), (h_documentOf, .inl (cI, 16384, .inl z_documentOf)), (h_rankOf, .inl (cI, 16384, .inl z_rankOf))] sz)) 0 0 (va_A [(h_t, .inr (8, [.int z_thrown, .ref h_tape, .ref h_row, .ref h_out, .ref h_sought, .int z_size, .int z_outSize, .int z_soughtSize, .int z_documents, .int z_indexed, .int z_suffixes, .int z_rows, .ref h_start, .ref h_documentOf, .ref h_order, .ref h_rankOf, .ref h_same, .ref h_work, .ref h_next, .ref h_often, .ref h_has, .int z_lesser])), (h_start, .inl (cI, 66, .inl z_start)), (h_documentOf, .inl (cI, 16384, .inl z_documentOf)), (h_rankOf, .inl (cI, 16384, .inl z_rankOf))] sz) := by
  refine Met.ofW (cc := b_MD_rankAt) (maxL := 3) (ret := (some .int)) (by decide) rfl ?_
  intro p e s m args below meth c s₁ B hml hq
  obtain ⟨rfl, hsz, hP, hK, hD0⟩ := hq
  have hts := atoms_spec (ws := Cond.code y_MD_rankAt b_MD_rankAt 3 (some .int) :: WT) B.pre
  have hw : ∀ w ∈ WT, w.before ([.ref h_t, .int a_p1, .int a_p2] : List Value).toArray s = true := fun w h => hts w (List.mem_cons_of_mem _ h)
  have hx := B.exec
  have hb := B.bytes
  have hr := B.returns
  have hlk := B.notSynchronized
  have hown : s.vm.findClass "SuffixIndexModel" = some m.cls := findClass_of_methodNamed B.named
  have F : CallFix p m c b_MD_rankAt 3 s ([.ref h_t, .int a_p1, .int a_p2] : List Value).toArray WT "SuffixIndexModel" := ⟨hx, hb, hml, hown, hw⟩
  subst hsz
  have hD := hD0.self (sz := s.heap.size)
  generalize hAe : va_A [(h_t, .inr (8, [.int z_thrown, .ref h_tape, .ref h_row, .ref h_out, .ref h_sought, .int z_size, .int z_outSize, .int z_soughtSize, .int z_documents, .int z_indexed, .int z_suffixes, .int z_rows, .ref h_start, .ref h_documentOf, .ref h_order, .ref h_rankOf, .ref h_same, .ref h_work, .ref h_next, .ref h_often, .ref h_has, .int z_lesser])), (h_start, .inl (cI, 66, .inl z_start)), (h_documentOf, .inl (cI, 16384, .inl z_documentOf)), (h_rankOf, .inl (cI, 16384, .inl z_rankOf))] s.heap.size = A at hD ⊢
  have hA : ∀ q : Nat, s.heap.size ≤ q → A q := fun q h => by rw [← hAe]; exact Or.inr h
  have hS : va_S A s.heap s.heap [] := va_S.rf
  have hl := lv_entry ([.ref h_t, .int a_p1, .int a_p2]) (n := 3) (Nat.le_of_ble_eq_true rfl)
  rw [lg_entry_eq]
  generalize (lg_sl ([.ref h_t, .int a_p1, .int a_p2]) ++ List.replicate (3 - (lg_sl ([.ref h_t, .int a_p1, .int a_p2])).length) Slot.unset).toArray = ls at hl ⊢
  have hl : lv_has ls 3 [(0, .ref h_t), (1, .int a_p1), (2, .int a_p2)] := hl
  show W p l e rm_MD_rankAt s m _ below meth c s.heap [] 0 0 _ _
  have hP : va_P (dC, dI) classes [(h_t, .inr (8, [.int z_thrown, .ref h_tape, .ref h_row, .ref h_out, .ref h_sought, .int z_size, .int z_outSize, .int z_soughtSize, .int z_documents, .int z_indexed, .int z_suffixes, .int z_rows, .ref h_start, .ref h_documentOf, .ref h_order, .ref h_rankOf, .ref h_same, .ref h_work, .ref h_next, .ref h_often, .ref h_has, .int z_lesser])), (h_start, .inl (cI, 66, .inl z_start)), (h_documentOf, .inl (cI, 16384, .inl z_documentOf)), (h_rankOf, .inl (cI, 16384, .inl z_rankOf))] s.heap := hP
  obtain ⟨H, hHe⟩ : ∃ H, H = s.heap := ⟨_, rfl⟩
  have hS : va_S A s.heap H [] := by rw [hHe]; exact hS
  rw [← hHe] at hP
  suffices hgoal : W p l e rm_MD_rankAt s m ([.ref h_t, .int a_p1, .int a_p2] : List Value).toArray below meth c H [] 0 0 (MQ below (va_Qi (fun (r : Int32) (u : Unit) => post r ) (fun u t => cAft (dC, dI) classes (TYS cI cJ cB cZ) A [(h_t, .inr (8, [.int z_thrown, .ref h_tape, .ref h_row, .ref h_out, .ref h_sought, .int z_size, .int z_outSize, .int z_soughtSize, .int z_documents, .int z_indexed, .int z_suffixes, .int z_rows, .ref h_start, .ref h_documentOf, .ref h_order, .ref h_rankOf, .ref h_same, .ref h_work, .ref h_next, .ref h_often, .ref h_has, .int z_lesser])), (h_start, .inl (cI, 66, .inl z_start)), (h_documentOf, .inl (cI, 16384, .inl z_documentOf)), (h_rankOf, .inl (cI, 16384, .inl z_rankOf))] t) A) ([.ref h_t, .int a_p1, .int a_p2] : List Value).toArray s 0 0 A) (F0 m 0 ls []) by rw [hHe] at hgoal; exact hgoal
  refine lv_iload_n hx hb d_MD_rankAt_0 rfl (lv_at hl 1 rfl) ?_
  refine lv_iload_n hx hb d_MD_rankAt_1 rfl (lv_at hl 2 rfl) ?_
  refine lv_iadd hx hb d_MD_rankAt_2 ?_
  refine lv_aload_n hx hb d_MD_rankAt_3 rfl (lv_at hl 0 rfl) ?_
  refine lv_iload_n hx hb d_MD_rankAt_4 rfl (lv_at hl 1 rfl) ?_
  refine cV_i (wr := [(h_rankOf, .inl (cI, 16384, .inl z_rankOf))]) (rest := [.int (a_p1 + a_p2)]) (c_MD_endOf l dC dI cI cJ cB cZ h_t h_tape h_row h_out h_sought h_start h_documentOf h_order h_rankOf h_same h_work h_next h_often h_has H.size z_thrown z_size z_outSize z_soughtSize z_documents z_indexed z_suffixes z_rows z_lesser z_start z_documentOf a_p1 _ hv) F (cw_V (fun _ h => h) 1 hw m_1209 m_1211 ms_33 m_9 m_1212 rfl rfl (by decide +kernel) ⟨by decide, by decide⟩) hK hP hD hS hA [0, 1, 2] [3] rfl rfl rfl rfl (by decide) 0 8 rfl rfl rfl hl.1 rfl (Nat.le_of_ble_eq_true rfl) d_MD_rankAt_5 ⟨Nat.le_of_ble_eq_true rfl, Nat.le_of_ble_eq_true rfl⟩ (fun r1 u H locs hv hP hD hS => ?_)
  have hP : va_P (dC, dI) classes [(h_t, .inr (8, [.int z_thrown, .ref h_tape, .ref h_row, .ref h_out, .ref h_sought, .int z_size, .int z_outSize, .int z_soughtSize, .int z_documents, .int z_indexed, .int z_suffixes, .int z_rows, .ref h_start, .ref h_documentOf, .ref h_order, .ref h_rankOf, .ref h_same, .ref h_work, .ref h_next, .ref h_often, .ref h_has, .int z_lesser])), (h_start, .inl (cI, 66, .inl z_start)), (h_documentOf, .inl (cI, 16384, .inl z_documentOf)), (h_rankOf, .inl (cI, 16384, .inl z_rankOf))] H := P_sub hP [1, 2, 3, 0] rfl
  have hD : va_D A [(h_t, .inr (8, [.int z_thrown, .ref h_tape, .ref h_row, .ref h_out, .ref h_sought, .int z_size, .int z_outSize, .int z_soughtSize, .int z_documents, .int z_indexed, .int z_suffixes, .int z_rows, .ref h_start, .ref h_documentOf, .ref h_order, .ref h_rankOf, .ref h_same, .ref h_work, .ref h_next, .ref h_often, .ref h_has, .int z_lesser])), (h_start, .inl (cI, 66, .inl z_start)), (h_documentOf, .inl (cI, 16384, .inl z_documentOf)), (h_rankOf, .inl (cI, 16384, .inl z_rankOf))] := hD.sub [1, 2, 3, 0] rfl rfl
  obtain ⟨hvt, hvf⟩ := hv
  refine lv_icmp_ge (tgt := 22) hx hb d_MD_rankAt_8 (by decide) (fun c2 => ?_) (fun c2 => ?_)
  · have hv := hvt c2
    refine lv_iconst (v := (-1)) hx hb d_MD_rankAt_22 (by decide) ?_
    exact W.iret (v := (-1)) hx hb hr (fun t ht hW => ⟨⟨(-1), (), rfl, hv, by rw [ht]; exact hP, va_K.moved hW.alike hK, hD⟩, hS.F ht⟩) hS.2.2 d_MD_rankAt_23
  · have hv := hvf c2
    refine lv_aload_n hx hb d_MD_rankAt_11 rfl (lv_at hl 0 rfl) ?_
    refine va_get (D := (dC, dI)) (ci := 8) (v := .ref h_rankOf) (C := "SuffixIndexModel") (T := F_MD) (N := 22) hx hb hw i_MD hown hK hP 0 rfl rfl 15 (by decide) (hw _ m_1116) (fun _ h9 => h9) rfl d_MD_rankAt_12 ?_
    refine lv_iload_n hx hb d_MD_rankAt_15 rfl (lv_at hl 1 rfl) ?_
    refine lv_iload_n hx hb d_MD_rankAt_16 rfl (lv_at hl 2 rfl) ?_
    refine lv_iadd hx hb d_MD_rankAt_17 ?_
    obtain ⟨hin, hv⟩ := hv
    refine va_iald hx hb hK hP 3 0 rfl rfl hin d_MD_rankAt_18 ?_
    refine lv_goto (tgt := 23) hx hb d_MD_rankAt_19 (by decide) ?_
    exact W.iret (v := (z_rankOf (a_p1 + a_p2).toNatClampNeg)) hx hb hr (fun t ht hW => ⟨⟨(z_rankOf (a_p1 + a_p2).toNatClampNeg), (), rfl, hv, by rw [ht]; exact hP, va_K.moved hW.alike hK, hD⟩, hS.F ht⟩) hS.2.2 d_MD_rankAt_23

set_option maxHeartbeats 4000000 in
set_option maxRecDepth 100000 in
theorem c_MD_compare (l : Launch) (dC : Nat → ClassId) (dI : Nat → Nat → Nat) (cI cJ cB cZ : ClassId) (h_t : Nat) (h_tape : Nat) (h_row : Nat) (h_out : Nat) (h_sought : Nat) (h_start : Nat) (h_documentOf : Nat) (h_order : Nat) (h_rankOf : Nat) (h_same : Nat) (h_work : Nat) (h_next : Nat) (h_often : Nat) (h_has : Nat) (sz : Nat) (z_thrown : Int32) (z_size : Int32) (z_outSize : Int32) (z_soughtSize : Int32) (z_documents : Int32) (z_indexed : Int32) (z_suffixes : Int32) (z_rows : Int32) (z_lesser : Int32) (z_start : Nat → Int32) (z_documentOf : Nat → Int32) (z_rankOf : Nat → Int32) (a_p1 : Int32) (a_p2 : Int32) (a_p3 : Int32) (post : Int32 → Prop) (hv : vc_MD_compare a_p1 a_p2 a_p3 z_start z_documentOf z_rankOf post ) : Met l y_MD_compare (Cond.code y_MD_compare b_MD_compare 4 (some .int) :: WT) rm_MD_compare (cPre (dC, dI) classes (TYS cI cJ cB cZ) [(h_t, .inr (8, [.int z_thrown, .ref h_tape, .ref h_row, .ref h_out, .ref h_sought, .int z_size, .int z_outSize, .int z_soughtSize, .int z_documents, .int z_indexed, .int z_suffixes, .int z_rows, .ref h_start, .ref h_documentOf, .ref h_order, .ref h_rankOf, .ref h_same, .ref h_work, .ref h_next, .ref h_often, .ref h_has, .int z_lesser])), (h_start, .inl (cI, 66, .inl z_start)), (h_documentOf, .inl (cI, 16384, .inl z_documentOf)), (h_rankOf, .inl (cI, 16384, .inl z_rankOf))] sz [.ref h_t, .int a_p1, .int a_p2, .int a_p3]) (va_Qi (fun (r : Int32) (u : Unit) => post r ) (fun u t => cAft (dC, dI) classes (TYS cI cJ cB cZ) (va_A [(h_t, .inr (8, [.int z_thrown, .ref h_tape, .ref h_row, .ref h_out, .ref h_sought, .int z_size, .int z_outSize, .int z_soughtSize, .int z_documents, .int z_indexed, .int z_suffixes, .int z_rows, .ref h_start, .ref h_documentOf, .ref h_order, .ref h_rankOf, .ref h_same, .ref h_work, .ref h_next, .ref h_often, .ref h_has, .int z_lesser])), (h_start, .inl (cI, 66, .inl z_start)), (h_documentOf, .inl (cI, 16384, .inl z_documentOf)), (h_rankOf, .inl (cI, 16384, .inl z_rankOf))] sz) [(h_t, .inr (8, [.int z_thrown, .ref h_tape, .ref h_row, .ref h_out, .ref h_sought, .int z_size, .int z_outSize, .int z_soughtSize, .int z_documents, .int z_indexed, .int z_suffixes, .int z_rows, .ref h_start, .ref h_documentOf, .ref h_order, .ref h_rankOf, .ref h_same, .ref h_work, .ref h_next, .ref h_often, .ref h_has, .int z_lesser])), (h_start, .inl (cI, 66, .inl z_start)), (h_documentOf, .inl (cI, 16384, .inl z_documentOf)), (h_rankOf, .inl (cI, 16384, .inl z_rankOf))] t) (va_A [(h_t, .inr (8, [.int z_thrown, .ref h_tape, .ref h_row, .ref h_out, .ref h_sought, .int z_size, .int z_outSize, .int z_soughtSize, .int z_documents, .int z_indexed, .int z_suffixes, .int z_rows, .ref h_start, .ref h_documentOf, .ref h_order, .ref h_rankOf, .ref h_same, .ref h_work, .ref h_next, .ref h_often, .ref h_has, .int z_lesser])), (h_start, .inl (cI, 66, .inl z_start)), (h_documentOf, .inl (cI, 16384, .inl z_documentOf)), (h_rankOf, .inl (cI, 16384, .inl z_rankOf))] sz)) 0 0 (va_A [(h_t, .inr (8, [.int z_thrown, .ref h_tape, .ref h_row, .ref h_out, .ref h_sought, .int z_size, .int z_outSize, .int z_soughtSize, .int z_documents, .int z_indexed, .int z_suffixes, .int z_rows, .ref h_start, .ref h_documentOf, .ref h_order, .ref h_rankOf, .ref h_same, .ref h_work, .ref h_next, .ref h_often, .ref h_has, .int z_lesser])), (h_start, .inl (cI, 66, .inl z_start)), (h_documentOf, .inl (cI, 16384, .inl z_documentOf)), (h_rankOf, .inl (cI, 16384, .inl z_rankOf))] sz) := by
  refine Met.ofW (cc := b_MD_compare) (maxL := 4) (ret := (some .int)) (by decide) rfl ?_
  intro p e s m args below meth c s₁ B hml hq
  obtain ⟨rfl, hsz, hP, hK, hD0⟩ := hq
  have hts := atoms_spec (ws := Cond.code y_MD_compare b_MD_compare 4 (some .int) :: WT) B.pre
  have hw : ∀ w ∈ WT, w.before ([.ref h_t, .int a_p1, .int a_p2, .int a_p3] : List Value).toArray s = true := fun w h => hts w (List.mem_cons_of_mem _ h)
  have hx := B.exec
  have hb := B.bytes
  have hr := B.returns
  have hlk := B.notSynchronized
  have hown : s.vm.findClass "SuffixIndexModel" = some m.cls := findClass_of_methodNamed B.named
  have F : CallFix p m c b_MD_compare 4 s ([.ref h_t, .int a_p1, .int a_p2, .int a_p3] : List Value).toArray WT "SuffixIndexModel" := ⟨hx, hb, hml, hown, hw⟩
  subst hsz
  have hD := hD0.self (sz := s.heap.size)
  generalize hAe : va_A [(h_t, .inr (8, [.int z_thrown, .ref h_tape, .ref h_row, .ref h_out, .ref h_sought, .int z_size, .int z_outSize, .int z_soughtSize, .int z_documents, .int z_indexed, .int z_suffixes, .int z_rows, .ref h_start, .ref h_documentOf, .ref h_order, .ref h_rankOf, .ref h_same, .ref h_work, .ref h_next, .ref h_often, .ref h_has, .int z_lesser])), (h_start, .inl (cI, 66, .inl z_start)), (h_documentOf, .inl (cI, 16384, .inl z_documentOf)), (h_rankOf, .inl (cI, 16384, .inl z_rankOf))] s.heap.size = A at hD ⊢
  have hA : ∀ q : Nat, s.heap.size ≤ q → A q := fun q h => by rw [← hAe]; exact Or.inr h
  have hS : va_S A s.heap s.heap [] := va_S.rf
  have hl := lv_entry ([.ref h_t, .int a_p1, .int a_p2, .int a_p3]) (n := 4) (Nat.le_of_ble_eq_true rfl)
  rw [lg_entry_eq]
  generalize (lg_sl ([.ref h_t, .int a_p1, .int a_p2, .int a_p3]) ++ List.replicate (4 - (lg_sl ([.ref h_t, .int a_p1, .int a_p2, .int a_p3])).length) Slot.unset).toArray = ls at hl ⊢
  have hl : lv_has ls 4 [(0, .ref h_t), (1, .int a_p1), (2, .int a_p2), (3, .int a_p3)] := hl
  show W p l e rm_MD_compare s m _ below meth c s.heap [] 0 0 _ _
  have hP : va_P (dC, dI) classes [(h_t, .inr (8, [.int z_thrown, .ref h_tape, .ref h_row, .ref h_out, .ref h_sought, .int z_size, .int z_outSize, .int z_soughtSize, .int z_documents, .int z_indexed, .int z_suffixes, .int z_rows, .ref h_start, .ref h_documentOf, .ref h_order, .ref h_rankOf, .ref h_same, .ref h_work, .ref h_next, .ref h_often, .ref h_has, .int z_lesser])), (h_start, .inl (cI, 66, .inl z_start)), (h_documentOf, .inl (cI, 16384, .inl z_documentOf)), (h_rankOf, .inl (cI, 16384, .inl z_rankOf))] s.heap := hP
  obtain ⟨H, hHe⟩ : ∃ H, H = s.heap := ⟨_, rfl⟩
  have hS : va_S A s.heap H [] := by rw [hHe]; exact hS
  rw [← hHe] at hP
  suffices hgoal : W p l e rm_MD_compare s m ([.ref h_t, .int a_p1, .int a_p2, .int a_p3] : List Value).toArray below meth c H [] 0 0 (MQ below (va_Qi (fun (r : Int32) (u : Unit) => post r ) (fun u t => cAft (dC, dI) classes (TYS cI cJ cB cZ) A [(h_t, .inr (8, [.int z_thrown, .ref h_tape, .ref h_row, .ref h_out, .ref h_sought, .int z_size, .int z_outSize, .int z_soughtSize, .int z_documents, .int z_indexed, .int z_suffixes, .int z_rows, .ref h_start, .ref h_documentOf, .ref h_order, .ref h_rankOf, .ref h_same, .ref h_work, .ref h_next, .ref h_often, .ref h_has, .int z_lesser])), (h_start, .inl (cI, 66, .inl z_start)), (h_documentOf, .inl (cI, 16384, .inl z_documentOf)), (h_rankOf, .inl (cI, 16384, .inl z_rankOf))] t) A) ([.ref h_t, .int a_p1, .int a_p2, .int a_p3] : List Value).toArray s 0 0 A) (F0 m 0 ls []) by rw [hHe] at hgoal; exact hgoal
  refine lv_aload_n hx hb d_MD_compare_0 rfl (lv_at hl 0 rfl) ?_
  refine va_get (D := (dC, dI)) (ci := 8) (v := .ref h_rankOf) (C := "SuffixIndexModel") (T := F_MD) (N := 22) hx hb hw i_MD hown hK hP 0 rfl rfl 15 (by decide) (hw _ m_1116) (fun _ h9 => h9) rfl d_MD_compare_1 ?_
  refine lv_iload_n hx hb d_MD_compare_4 rfl (lv_at hl 1 rfl) ?_
  obtain ⟨hin, hv⟩ := hv
  refine va_iald hx hb hK hP 3 0 rfl rfl hin d_MD_compare_5 ?_
  refine lv_aload_n hx hb d_MD_compare_6 rfl (lv_at hl 0 rfl) ?_
  refine va_get (D := (dC, dI)) (ci := 8) (v := .ref h_rankOf) (C := "SuffixIndexModel") (T := F_MD) (N := 22) hx hb hw i_MD hown hK hP 0 rfl rfl 15 (by decide) (hw _ m_1116) (fun _ h9 => h9) rfl d_MD_compare_7 ?_
  refine lv_iload_n hx hb d_MD_compare_10 rfl (lv_at hl 2 rfl) ?_
  obtain ⟨hin, hv⟩ := hv
  refine va_iald hx hb hK hP 3 0 rfl rfl hin d_MD_compare_11 ?_
  obtain ⟨hvt, hvf⟩ := hv
  refine lv_icmp_eq (tgt := 29) hx hb d_MD_compare_12 (by decide) (fun c1 => ?_) (fun c1 => ?_)
  · have hv := hvt c1
    refine lv_aload_n hx hb d_MD_compare_29 rfl (lv_at hl 0 rfl) ?_
    refine lv_iload_n hx hb d_MD_compare_30 rfl (lv_at hl 1 rfl) ?_
    refine lv_iload_n hx hb d_MD_compare_31 rfl (lv_at hl 3 rfl) ?_
    refine cV_i (wr := []) (rest := []) (c_MD_rankAt l dC dI cI cJ cB cZ h_t h_tape h_row h_out h_sought h_start h_documentOf h_order h_rankOf h_same h_work h_next h_often h_has H.size z_thrown z_size z_outSize z_soughtSize z_documents z_indexed z_suffixes z_rows z_lesser z_start z_documentOf z_rankOf a_p1 a_p3 _ hv) F (cw_V (fun _ h => h) 2 hw m_1205 m_1207 ms_32 m_9 m_1208 rfl rfl (by decide +kernel) ⟨by decide, by decide⟩) hK hP hD hS hA [0, 1, 2, 3] [] rfl rfl rfl rfl (by decide) 0 8 rfl rfl rfl hl.1 rfl (Nat.le_of_ble_eq_true rfl) d_MD_compare_32 ⟨Nat.le_of_ble_eq_true rfl, Nat.le_of_ble_eq_true rfl⟩ (fun r2 u H locs hv hP hD hS => ?_)
    have hP : va_P (dC, dI) classes [(h_t, .inr (8, [.int z_thrown, .ref h_tape, .ref h_row, .ref h_out, .ref h_sought, .int z_size, .int z_outSize, .int z_soughtSize, .int z_documents, .int z_indexed, .int z_suffixes, .int z_rows, .ref h_start, .ref h_documentOf, .ref h_order, .ref h_rankOf, .ref h_same, .ref h_work, .ref h_next, .ref h_often, .ref h_has, .int z_lesser])), (h_start, .inl (cI, 66, .inl z_start)), (h_documentOf, .inl (cI, 16384, .inl z_documentOf)), (h_rankOf, .inl (cI, 16384, .inl z_rankOf))] H := P_sub hP [0, 1, 2, 3] rfl
    have hD : va_D A [(h_t, .inr (8, [.int z_thrown, .ref h_tape, .ref h_row, .ref h_out, .ref h_sought, .int z_size, .int z_outSize, .int z_soughtSize, .int z_documents, .int z_indexed, .int z_suffixes, .int z_rows, .ref h_start, .ref h_documentOf, .ref h_order, .ref h_rankOf, .ref h_same, .ref h_work, .ref h_next, .ref h_often, .ref h_has, .int z_lesser])), (h_start, .inl (cI, 66, .inl z_start)), (h_documentOf, .inl (cI, 16384, .inl z_documentOf)), (h_rankOf, .inl (cI, 16384, .inl z_rankOf))] := hD.sub [0, 1, 2, 3] rfl rfl
    refine lv_aload_n hx hb d_MD_compare_35 rfl (lv_at hl 0 rfl) ?_
    refine lv_iload_n hx hb d_MD_compare_36 rfl (lv_at hl 2 rfl) ?_
    refine lv_iload_n hx hb d_MD_compare_37 rfl (lv_at hl 3 rfl) ?_
    refine cV_i (wr := []) (rest := [.int r2]) (c_MD_rankAt l dC dI cI cJ cB cZ h_t h_tape h_row h_out h_sought h_start h_documentOf h_order h_rankOf h_same h_work h_next h_often h_has H.size z_thrown z_size z_outSize z_soughtSize z_documents z_indexed z_suffixes z_rows z_lesser z_start z_documentOf z_rankOf a_p2 a_p3 _ hv) F (cw_V (fun _ h => h) 2 hw m_1205 m_1207 ms_32 m_9 m_1208 rfl rfl (by decide +kernel) ⟨by decide, by decide⟩) hK hP hD hS hA [0, 1, 2, 3] [] rfl rfl rfl rfl (by decide) 0 8 rfl rfl rfl hl.1 rfl (Nat.le_of_ble_eq_true rfl) d_MD_compare_38 ⟨Nat.le_of_ble_eq_true rfl, Nat.le_of_ble_eq_true rfl⟩ (fun r3 u H locs hv hP hD hS => ?_)
    have hP : va_P (dC, dI) classes [(h_t, .inr (8, [.int z_thrown, .ref h_tape, .ref h_row, .ref h_out, .ref h_sought, .int z_size, .int z_outSize, .int z_soughtSize, .int z_documents, .int z_indexed, .int z_suffixes, .int z_rows, .ref h_start, .ref h_documentOf, .ref h_order, .ref h_rankOf, .ref h_same, .ref h_work, .ref h_next, .ref h_often, .ref h_has, .int z_lesser])), (h_start, .inl (cI, 66, .inl z_start)), (h_documentOf, .inl (cI, 16384, .inl z_documentOf)), (h_rankOf, .inl (cI, 16384, .inl z_rankOf))] H := P_sub hP [0, 1, 2, 3] rfl
    have hD : va_D A [(h_t, .inr (8, [.int z_thrown, .ref h_tape, .ref h_row, .ref h_out, .ref h_sought, .int z_size, .int z_outSize, .int z_soughtSize, .int z_documents, .int z_indexed, .int z_suffixes, .int z_rows, .ref h_start, .ref h_documentOf, .ref h_order, .ref h_rankOf, .ref h_same, .ref h_work, .ref h_next, .ref h_often, .ref h_has, .int z_lesser])), (h_start, .inl (cI, 66, .inl z_start)), (h_documentOf, .inl (cI, 16384, .inl z_documentOf)), (h_rankOf, .inl (cI, 16384, .inl z_rankOf))] := hD.sub [0, 1, 2, 3] rfl rfl
    refine lv_isub hx hb d_MD_compare_41 ?_
    exact W.iret (v := r2 - r3) hx hb hr (fun t ht hW => ⟨⟨r2 - r3, (), rfl, hv, by rw [ht]; exact hP, va_K.moved hW.alike hK, hD⟩, hS.F ht⟩) hS.2.2 d_MD_compare_42
  · have hv := hvf c1
    refine lv_aload_n hx hb d_MD_compare_15 rfl (lv_at hl 0 rfl) ?_
    refine va_get (D := (dC, dI)) (ci := 8) (v := .ref h_rankOf) (C := "SuffixIndexModel") (T := F_MD) (N := 22) hx hb hw i_MD hown hK hP 0 rfl rfl 15 (by decide) (hw _ m_1116) (fun _ h9 => h9) rfl d_MD_compare_16 ?_
    refine lv_iload_n hx hb d_MD_compare_19 rfl (lv_at hl 1 rfl) ?_
    obtain ⟨hin, hv⟩ := hv
    refine va_iald hx hb hK hP 3 0 rfl rfl hin d_MD_compare_20 ?_
    refine lv_aload_n hx hb d_MD_compare_21 rfl (lv_at hl 0 rfl) ?_
    refine va_get (D := (dC, dI)) (ci := 8) (v := .ref h_rankOf) (C := "SuffixIndexModel") (T := F_MD) (N := 22) hx hb hw i_MD hown hK hP 0 rfl rfl 15 (by decide) (hw _ m_1116) (fun _ h9 => h9) rfl d_MD_compare_22 ?_
    refine lv_iload_n hx hb d_MD_compare_25 rfl (lv_at hl 2 rfl) ?_
    obtain ⟨hin, hv⟩ := hv
    refine va_iald hx hb hK hP 3 0 rfl rfl hin d_MD_compare_26 ?_
    refine lv_isub hx hb d_MD_compare_27 ?_
    exact W.iret (v := (z_rankOf a_p1.toNatClampNeg) - (z_rankOf a_p2.toNatClampNeg)) hx hb hr (fun t ht hW => ⟨⟨(z_rankOf a_p1.toNatClampNeg) - (z_rankOf a_p2.toNatClampNeg), (), rfl, hv, by rw [ht]; exact hP, va_K.moved hW.alike hK, hD⟩, hS.F ht⟩) hS.2.2 d_MD_compare_28

set_option maxHeartbeats 4000000 in
set_option maxRecDepth 100000 in
theorem wk_MD_sort_123 {p : Program} {l : Launch} {e : Env} {s : State} {m : MethodId} {below : List Frame} {meth : Method} {c : Code} {A : Nat → Prop} {dC : Nat → ClassId} {dI : Nat → Nat → Nat} {cI cJ cB cZ : ClassId} {h_t : Nat} {h_tape : Nat} {h_row : Nat} {h_out : Nat} {h_sought : Nat} {h_start : Nat} {h_documentOf : Nat} {h_order : Nat} {h_rankOf : Nat} {h_same : Nat} {h_work : Nat} {h_next : Nat} {h_often : Nat} {h_has : Nat} {d : Nat} {a_p1 : Int32} {a_p2 : Int32} {a_p3 : Int32} {z_start : Nat → Int32} {z_documentOf : Nat → Int32} {z_rankOf : Nat → Int32} {z_thrown : Int32} {z_size : Int32} {z_outSize : Int32} {z_soughtSize : Int32} {z_documents : Int32} {z_indexed : Int32} {z_suffixes : Int32} {z_rows : Int32} {z_lesser : Int32} {post : (Nat → Int32) → (Nat → Int32) → Prop} {K41 : Int32 → Int32 → Int32 → Int32 → (Nat → Int32) → (Nat → Int32) → Prop} (F : CallFix p m c b_MD_sort 9 s ([.ref h_t, .int a_p1, .int a_p2, .int a_p3] : List Value).toArray WT "SuffixIndexModel") (hr : meth.sig.returnType = none) (hlk : meth.locks = false) (hK : va_K (dC, dI) classes (TYS cI cJ cB cZ) s) (hA : ∀ q, s.heap.size ≤ q → A q) (hK41 : ∀ (x4 : Int32) (x5 : Int32) (x6 : Int32) (x7 : Int32) (z_order : Nat → Int32) (z_work : Nat → Int32), K41 x4 x5 x6 x7 z_order z_work → ∀ (H : Heap) (locs : List Loc) (ls : Array Slot), va_P (dC, dI) classes [(h_t, .inr (8, [.int z_thrown, .ref h_tape, .ref h_row, .ref h_out, .ref h_sought, .int z_size, .int z_outSize, .int z_soughtSize, .int z_documents, .int z_indexed, .int z_suffixes, .int z_rows, .ref h_start, .ref h_documentOf, .ref h_order, .ref h_rankOf, .ref h_same, .ref h_work, .ref h_next, .ref h_often, .ref h_has, .int z_lesser])), (h_start, .inl (cI, 66, .inl z_start)), (h_documentOf, .inl (cI, 16384, .inl z_documentOf)), (h_order, .inl (cI, 16384, .inl z_order)), (h_rankOf, .inl (cI, 16384, .inl z_rankOf)), (h_work, .inl (cI, 16384, .inl z_work))] H → va_D A [(h_t, .inr (8, [.int z_thrown, .ref h_tape, .ref h_row, .ref h_out, .ref h_sought, .int z_size, .int z_outSize, .int z_soughtSize, .int z_documents, .int z_indexed, .int z_suffixes, .int z_rows, .ref h_start, .ref h_documentOf, .ref h_order, .ref h_rankOf, .ref h_same, .ref h_work, .ref h_next, .ref h_often, .ref h_has, .int z_lesser])), (h_start, .inl (cI, 66, .inl z_start)), (h_documentOf, .inl (cI, 16384, .inl z_documentOf)), (h_order, .inl (cI, 16384, .inl z_order)), (h_rankOf, .inl (cI, 16384, .inl z_rankOf)), (h_work, .inl (cI, 16384, .inl z_work))] → va_S A s.heap H locs → lv_has ls 9 [(0, .ref h_t), (1, .int a_p1), (2, .int a_p2), (3, .int a_p3), (4, .int x4), (5, .int x5), (6, .int x6), (7, .int x7)] → W p l e (rm_MD_sort d) s m ([.ref h_t, .int a_p1, .int a_p2, .int a_p3] : List Value).toArray below meth c H locs 0 0 (MQ below (va_Qv (fun u : (Nat → Int32) × (Nat → Int32) => post u.1 u.2) (fun u t => cAft (dC, dI) classes (TYS cI cJ cB cZ) A [(h_t, .inr (8, [.int z_thrown, .ref h_tape, .ref h_row, .ref h_out, .ref h_sought, .int z_size, .int z_outSize, .int z_soughtSize, .int z_documents, .int z_indexed, .int z_suffixes, .int z_rows, .ref h_start, .ref h_documentOf, .ref h_order, .ref h_rankOf, .ref h_same, .ref h_work, .ref h_next, .ref h_often, .ref h_has, .int z_lesser])), (h_start, .inl (cI, 66, .inl z_start)), (h_documentOf, .inl (cI, 16384, .inl z_documentOf)), (h_order, .inl (cI, 16384, .inl u.1)), (h_rankOf, .inl (cI, 16384, .inl z_rankOf)), (h_work, .inl (cI, 16384, .inl u.2))] t) A) ([.ref h_t, .int a_p1, .int a_p2, .int a_p3] : List Value).toArray s 0 0 A) (F0 m 41 ls [])) : ∀ (x4 : Int32) (x5 : Int32) (x6 : Int32) (x7 : Int32) (k1 : Int32) (k2 : Int32) (z_order : Nat → Int32) (z_work : Nat → Int32), vc_MD_sort_123 a_p1 a_p2 a_p3 z_start z_documentOf z_rankOf post K41 x4 x5 x6 x7 k1 k2 z_order z_work → ∀ (H : Heap) (locs : List Loc) (ls : Array Slot), va_P (dC, dI) classes [(h_t, .inr (8, [.int z_thrown, .ref h_tape, .ref h_row, .ref h_out, .ref h_sought, .int z_size, .int z_outSize, .int z_soughtSize, .int z_documents, .int z_indexed, .int z_suffixes, .int z_rows, .ref h_start, .ref h_documentOf, .ref h_order, .ref h_rankOf, .ref h_same, .ref h_work, .ref h_next, .ref h_often, .ref h_has, .int z_lesser])), (h_start, .inl (cI, 66, .inl z_start)), (h_documentOf, .inl (cI, 16384, .inl z_documentOf)), (h_order, .inl (cI, 16384, .inl z_order)), (h_rankOf, .inl (cI, 16384, .inl z_rankOf)), (h_work, .inl (cI, 16384, .inl z_work))] H → va_D A [(h_t, .inr (8, [.int z_thrown, .ref h_tape, .ref h_row, .ref h_out, .ref h_sought, .int z_size, .int z_outSize, .int z_soughtSize, .int z_documents, .int z_indexed, .int z_suffixes, .int z_rows, .ref h_start, .ref h_documentOf, .ref h_order, .ref h_rankOf, .ref h_same, .ref h_work, .ref h_next, .ref h_often, .ref h_has, .int z_lesser])), (h_start, .inl (cI, 66, .inl z_start)), (h_documentOf, .inl (cI, 16384, .inl z_documentOf)), (h_order, .inl (cI, 16384, .inl z_order)), (h_rankOf, .inl (cI, 16384, .inl z_rankOf)), (h_work, .inl (cI, 16384, .inl z_work))] → va_S A s.heap H locs → lv_has ls 9 [(0, .ref h_t), (1, .int a_p1), (2, .int a_p2), (3, .int a_p3), (4, .int x4), (5, .int x5), (6, .int x6), (7, .int x7)] → W p l e (rm_MD_sort d) s m ([.ref h_t, .int a_p1, .int a_p2, .int a_p3] : List Value).toArray below meth c H locs 0 0 (MQ below (va_Qv (fun u : (Nat → Int32) × (Nat → Int32) => post u.1 u.2) (fun u t => cAft (dC, dI) classes (TYS cI cJ cB cZ) A [(h_t, .inr (8, [.int z_thrown, .ref h_tape, .ref h_row, .ref h_out, .ref h_sought, .int z_size, .int z_outSize, .int z_soughtSize, .int z_documents, .int z_indexed, .int z_suffixes, .int z_rows, .ref h_start, .ref h_documentOf, .ref h_order, .ref h_rankOf, .ref h_same, .ref h_work, .ref h_next, .ref h_often, .ref h_has, .int z_lesser])), (h_start, .inl (cI, 66, .inl z_start)), (h_documentOf, .inl (cI, 16384, .inl z_documentOf)), (h_order, .inl (cI, 16384, .inl u.1)), (h_rankOf, .inl (cI, 16384, .inl z_rankOf)), (h_work, .inl (cI, 16384, .inl u.2))] t) A) ([.ref h_t, .int a_p1, .int a_p2, .int a_p3] : List Value).toArray s 0 0 A) (F0 m 123 ls [.int k2, .int k1, .ref h_work]) := by
  obtain ⟨hx, hb, hml, hown, hw⟩ := id F
  intro x4 x5 x6 x7 k1 k2 z_order z_work hv H locs ls hP hD hS hl
  obtain ⟨hin, hv⟩ := hv
  refine va_iast hx hb hK hP hD hS 5 0 rfl rfl hin d_MD_sort_123 (fun H locs hP hD hS => ?_)
  have hP : va_P (dC, dI) classes [(h_t, .inr (8, [.int z_thrown, .ref h_tape, .ref h_row, .ref h_out, .ref h_sought, .int z_size, .int z_outSize, .int z_soughtSize, .int z_documents, .int z_indexed, .int z_suffixes, .int z_rows, .ref h_start, .ref h_documentOf, .ref h_order, .ref h_rankOf, .ref h_same, .ref h_work, .ref h_next, .ref h_often, .ref h_has, .int z_lesser])), (h_start, .inl (cI, 66, .inl z_start)), (h_documentOf, .inl (cI, 16384, .inl z_documentOf)), (h_order, .inl (cI, 16384, .inl z_order)), (h_rankOf, .inl (cI, 16384, .inl z_rankOf)), (h_work, .inl (cI, 16384, .inl (upd z_work k1.toNatClampNeg k2)))] H := hP
  have hD : va_D A [(h_t, .inr (8, [.int z_thrown, .ref h_tape, .ref h_row, .ref h_out, .ref h_sought, .int z_size, .int z_outSize, .int z_soughtSize, .int z_documents, .int z_indexed, .int z_suffixes, .int z_rows, .ref h_start, .ref h_documentOf, .ref h_order, .ref h_rankOf, .ref h_same, .ref h_work, .ref h_next, .ref h_often, .ref h_has, .int z_lesser])), (h_start, .inl (cI, 66, .inl z_start)), (h_documentOf, .inl (cI, 16384, .inl z_documentOf)), (h_order, .inl (cI, 16384, .inl z_order)), (h_rankOf, .inl (cI, 16384, .inl z_rankOf)), (h_work, .inl (cI, 16384, .inl (upd z_work k1.toNatClampNeg k2)))] := hD
  refine lv_iinc (v := x7 + 1) (lv' := [(7, .int (x7 + 1)), (0, .ref h_t), (1, .int a_p1), (2, .int a_p2), (3, .int a_p3), (4, .int x4), (5, .int x5), (6, .int x6)]) hx hb d_MD_sort_124 hl (k := 7) rfl (iinc_v (by decide)) (by decide) rfl (fun ls hl => ?_)
  refine lv_goto (tgt := 41) hx hb d_MD_sort_127 (by decide) ?_
  exact hK41 x4 x5 x6 (x7 + 1) z_order (upd z_work k1.toNatClampNeg k2) hv _ _ _ hP hD hS (lv_sub hl [1, 2, 3, 4, 5, 6, 7, 0] rfl)

set_option maxHeartbeats 4000000 in
set_option maxRecDepth 100000 in
theorem wk_MD_sort_87 {p : Program} {l : Launch} {e : Env} {s : State} {m : MethodId} {below : List Frame} {meth : Method} {c : Code} {A : Nat → Prop} {dC : Nat → ClassId} {dI : Nat → Nat → Nat} {cI cJ cB cZ : ClassId} {h_t : Nat} {h_tape : Nat} {h_row : Nat} {h_out : Nat} {h_sought : Nat} {h_start : Nat} {h_documentOf : Nat} {h_order : Nat} {h_rankOf : Nat} {h_same : Nat} {h_work : Nat} {h_next : Nat} {h_often : Nat} {h_has : Nat} {d : Nat} {a_p1 : Int32} {a_p2 : Int32} {a_p3 : Int32} {z_start : Nat → Int32} {z_documentOf : Nat → Int32} {z_rankOf : Nat → Int32} {z_thrown : Int32} {z_size : Int32} {z_outSize : Int32} {z_soughtSize : Int32} {z_documents : Int32} {z_indexed : Int32} {z_suffixes : Int32} {z_rows : Int32} {z_lesser : Int32} {post : (Nat → Int32) → (Nat → Int32) → Prop} {K41 : Int32 → Int32 → Int32 → Int32 → (Nat → Int32) → (Nat → Int32) → Prop} (F : CallFix p m c b_MD_sort 9 s ([.ref h_t, .int a_p1, .int a_p2, .int a_p3] : List Value).toArray WT "SuffixIndexModel") (hr : meth.sig.returnType = none) (hlk : meth.locks = false) (hK : va_K (dC, dI) classes (TYS cI cJ cB cZ) s) (hA : ∀ q, s.heap.size ≤ q → A q) (hK41 : ∀ (x4 : Int32) (x5 : Int32) (x6 : Int32) (x7 : Int32) (z_order : Nat → Int32) (z_work : Nat → Int32), K41 x4 x5 x6 x7 z_order z_work → ∀ (H : Heap) (locs : List Loc) (ls : Array Slot), va_P (dC, dI) classes [(h_t, .inr (8, [.int z_thrown, .ref h_tape, .ref h_row, .ref h_out, .ref h_sought, .int z_size, .int z_outSize, .int z_soughtSize, .int z_documents, .int z_indexed, .int z_suffixes, .int z_rows, .ref h_start, .ref h_documentOf, .ref h_order, .ref h_rankOf, .ref h_same, .ref h_work, .ref h_next, .ref h_often, .ref h_has, .int z_lesser])), (h_start, .inl (cI, 66, .inl z_start)), (h_documentOf, .inl (cI, 16384, .inl z_documentOf)), (h_order, .inl (cI, 16384, .inl z_order)), (h_rankOf, .inl (cI, 16384, .inl z_rankOf)), (h_work, .inl (cI, 16384, .inl z_work))] H → va_D A [(h_t, .inr (8, [.int z_thrown, .ref h_tape, .ref h_row, .ref h_out, .ref h_sought, .int z_size, .int z_outSize, .int z_soughtSize, .int z_documents, .int z_indexed, .int z_suffixes, .int z_rows, .ref h_start, .ref h_documentOf, .ref h_order, .ref h_rankOf, .ref h_same, .ref h_work, .ref h_next, .ref h_often, .ref h_has, .int z_lesser])), (h_start, .inl (cI, 66, .inl z_start)), (h_documentOf, .inl (cI, 16384, .inl z_documentOf)), (h_order, .inl (cI, 16384, .inl z_order)), (h_rankOf, .inl (cI, 16384, .inl z_rankOf)), (h_work, .inl (cI, 16384, .inl z_work))] → va_S A s.heap H locs → lv_has ls 9 [(0, .ref h_t), (1, .int a_p1), (2, .int a_p2), (3, .int a_p3), (4, .int x4), (5, .int x5), (6, .int x6), (7, .int x7)] → W p l e (rm_MD_sort d) s m ([.ref h_t, .int a_p1, .int a_p2, .int a_p3] : List Value).toArray below meth c H locs 0 0 (MQ below (va_Qv (fun u : (Nat → Int32) × (Nat → Int32) => post u.1 u.2) (fun u t => cAft (dC, dI) classes (TYS cI cJ cB cZ) A [(h_t, .inr (8, [.int z_thrown, .ref h_tape, .ref h_row, .ref h_out, .ref h_sought, .int z_size, .int z_outSize, .int z_soughtSize, .int z_documents, .int z_indexed, .int z_suffixes, .int z_rows, .ref h_start, .ref h_documentOf, .ref h_order, .ref h_rankOf, .ref h_same, .ref h_work, .ref h_next, .ref h_often, .ref h_has, .int z_lesser])), (h_start, .inl (cI, 66, .inl z_start)), (h_documentOf, .inl (cI, 16384, .inl z_documentOf)), (h_order, .inl (cI, 16384, .inl u.1)), (h_rankOf, .inl (cI, 16384, .inl z_rankOf)), (h_work, .inl (cI, 16384, .inl u.2))] t) A) ([.ref h_t, .int a_p1, .int a_p2, .int a_p3] : List Value).toArray s 0 0 A) (F0 m 41 ls [])) : ∀ (x4 : Int32) (x5 : Int32) (x6 : Int32) (x7 : Int32) (k0 : Int32) (z_order : Nat → Int32) (z_work : Nat → Int32), vc_MD_sort_87 a_p1 a_p2 a_p3 z_start z_documentOf z_rankOf post K41 x4 x5 x6 x7 k0 z_order z_work → ∀ (H : Heap) (locs : List Loc) (ls : Array Slot), va_P (dC, dI) classes [(h_t, .inr (8, [.int z_thrown, .ref h_tape, .ref h_row, .ref h_out, .ref h_sought, .int z_size, .int z_outSize, .int z_soughtSize, .int z_documents, .int z_indexed, .int z_suffixes, .int z_rows, .ref h_start, .ref h_documentOf, .ref h_order, .ref h_rankOf, .ref h_same, .ref h_work, .ref h_next, .ref h_often, .ref h_has, .int z_lesser])), (h_start, .inl (cI, 66, .inl z_start)), (h_documentOf, .inl (cI, 16384, .inl z_documentOf)), (h_order, .inl (cI, 16384, .inl z_order)), (h_rankOf, .inl (cI, 16384, .inl z_rankOf)), (h_work, .inl (cI, 16384, .inl z_work))] H → va_D A [(h_t, .inr (8, [.int z_thrown, .ref h_tape, .ref h_row, .ref h_out, .ref h_sought, .int z_size, .int z_outSize, .int z_soughtSize, .int z_documents, .int z_indexed, .int z_suffixes, .int z_rows, .ref h_start, .ref h_documentOf, .ref h_order, .ref h_rankOf, .ref h_same, .ref h_work, .ref h_next, .ref h_often, .ref h_has, .int z_lesser])), (h_start, .inl (cI, 66, .inl z_start)), (h_documentOf, .inl (cI, 16384, .inl z_documentOf)), (h_order, .inl (cI, 16384, .inl z_order)), (h_rankOf, .inl (cI, 16384, .inl z_rankOf)), (h_work, .inl (cI, 16384, .inl z_work))] → va_S A s.heap H locs → lv_has ls 9 [(0, .ref h_t), (1, .int a_p1), (2, .int a_p2), (3, .int a_p3), (4, .int x4), (5, .int x5), (6, .int x6), (7, .int x7)] → W p l e (rm_MD_sort d) s m ([.ref h_t, .int a_p1, .int a_p2, .int a_p3] : List Value).toArray below meth c H locs 0 0 (MQ below (va_Qv (fun u : (Nat → Int32) × (Nat → Int32) => post u.1 u.2) (fun u t => cAft (dC, dI) classes (TYS cI cJ cB cZ) A [(h_t, .inr (8, [.int z_thrown, .ref h_tape, .ref h_row, .ref h_out, .ref h_sought, .int z_size, .int z_outSize, .int z_soughtSize, .int z_documents, .int z_indexed, .int z_suffixes, .int z_rows, .ref h_start, .ref h_documentOf, .ref h_order, .ref h_rankOf, .ref h_same, .ref h_work, .ref h_next, .ref h_often, .ref h_has, .int z_lesser])), (h_start, .inl (cI, 66, .inl z_start)), (h_documentOf, .inl (cI, 16384, .inl z_documentOf)), (h_order, .inl (cI, 16384, .inl u.1)), (h_rankOf, .inl (cI, 16384, .inl z_rankOf)), (h_work, .inl (cI, 16384, .inl u.2))] t) A) ([.ref h_t, .int a_p1, .int a_p2, .int a_p3] : List Value).toArray s 0 0 A) (F0 m 87 ls [.int k0]) := by
  obtain ⟨hx, hb, hml, hown, hw⟩ := id F
  intro x4 x5 x6 x7 k0 z_order z_work hv H locs ls hP hD hS hl
  refine lv_istore (lv' := [(8, .int k0), (0, .ref h_t), (1, .int a_p1), (2, .int a_p2), (3, .int a_p3), (4, .int x4), (5, .int x5), (6, .int x6), (7, .int x7)]) hx hb d_MD_sort_87 hl (by decide) rfl (fun ls hl => ?_)
  refine lv_aload_n hx hb d_MD_sort_89 rfl (lv_at hl 1 rfl) ?_
  refine va_get (D := (dC, dI)) (ci := 8) (v := .ref h_work) (C := "SuffixIndexModel") (T := F_MD) (N := 22) hx hb hw i_MD hown hK hP 0 rfl rfl 17 (by decide) (hw _ m_1118) (fun _ h9 => h9) rfl d_MD_sort_90 ?_
  refine lv_iload hx hb d_MD_sort_93 (lv_at hl 8 rfl) ?_
  refine lv_iload hx hb d_MD_sort_95 (lv_at hl 0 rfl) ?_
  obtain ⟨hvt, hvf⟩ := hv
  refine lv_if_eq (tgt := 113) hx hb d_MD_sort_97 (by decide) (fun c1 => ?_) (fun c1 => ?_)
  · have hv := hvt c1
    refine lv_aload_n hx hb d_MD_sort_113 rfl (lv_at hl 1 rfl) ?_
    refine va_get (D := (dC, dI)) (ci := 8) (v := .ref h_order) (C := "SuffixIndexModel") (T := F_MD) (N := 22) hx hb hw i_MD hown hK hP 0 rfl rfl 14 (by decide) (hw _ m_1115) (fun _ h9 => h9) rfl d_MD_sort_114 ?_
    refine lv_iload hx hb d_MD_sort_117 (lv_at hl 7 rfl) ?_
    refine lv_iinc (v := x6 + 1) (lv' := [(6, .int (x6 + 1)), (8, .int k0), (0, .ref h_t), (1, .int a_p1), (2, .int a_p2), (3, .int a_p3), (4, .int x4), (5, .int x5), (7, .int x7)]) hx hb d_MD_sort_119 hl (k := 7) rfl (iinc_v (by decide)) (by decide) rfl (fun ls hl => ?_)
    obtain ⟨hin, hv⟩ := hv
    refine va_iald hx hb hK hP 3 0 rfl rfl hin d_MD_sort_122 ?_
    exact wk_MD_sort_123 F hr hlk hK hA hK41 x4 x5 (x6 + 1) x7 x7 (z_order x6.toNatClampNeg) z_order z_work hv _ _ _ hP hD hS (lv_sub hl [2, 3, 4, 5, 6, 7, 0, 8] rfl)
  · have hv := hvf c1
    refine lv_aload_n hx hb d_MD_sort_100 rfl (lv_at hl 1 rfl) ?_
    refine va_get (D := (dC, dI)) (ci := 8) (v := .ref h_order) (C := "SuffixIndexModel") (T := F_MD) (N := 22) hx hb hw i_MD hown hK hP 0 rfl rfl 14 (by decide) (hw _ m_1115) (fun _ h9 => h9) rfl d_MD_sort_101 ?_
    refine lv_iload hx hb d_MD_sort_104 (lv_at hl 6 rfl) ?_
    refine lv_iinc (v := x5 + 1) (lv' := [(5, .int (x5 + 1)), (8, .int k0), (0, .ref h_t), (1, .int a_p1), (2, .int a_p2), (3, .int a_p3), (4, .int x4), (6, .int x6), (7, .int x7)]) hx hb d_MD_sort_106 hl (k := 6) rfl (iinc_v (by decide)) (by decide) rfl (fun ls hl => ?_)
    obtain ⟨hin, hv⟩ := hv
    refine va_iald hx hb hK hP 3 0 rfl rfl hin d_MD_sort_109 ?_
    refine lv_goto (tgt := 123) hx hb d_MD_sort_110 (by decide) ?_
    exact wk_MD_sort_123 F hr hlk hK hA hK41 x4 (x5 + 1) x6 x7 x7 (z_order x5.toNatClampNeg) z_order z_work hv _ _ _ hP hD hS (lv_sub hl [2, 3, 4, 5, 6, 0, 7, 8] rfl)

set_option maxHeartbeats 4000000 in
set_option maxRecDepth 100000 in
theorem wk_MD_sort_82 {p : Program} {l : Launch} {e : Env} {s : State} {m : MethodId} {below : List Frame} {meth : Method} {c : Code} {A : Nat → Prop} {dC : Nat → ClassId} {dI : Nat → Nat → Nat} {cI cJ cB cZ : ClassId} {h_t : Nat} {h_tape : Nat} {h_row : Nat} {h_out : Nat} {h_sought : Nat} {h_start : Nat} {h_documentOf : Nat} {h_order : Nat} {h_rankOf : Nat} {h_same : Nat} {h_work : Nat} {h_next : Nat} {h_often : Nat} {h_has : Nat} {d : Nat} {a_p1 : Int32} {a_p2 : Int32} {a_p3 : Int32} {z_start : Nat → Int32} {z_documentOf : Nat → Int32} {z_rankOf : Nat → Int32} {z_thrown : Int32} {z_size : Int32} {z_outSize : Int32} {z_soughtSize : Int32} {z_documents : Int32} {z_indexed : Int32} {z_suffixes : Int32} {z_rows : Int32} {z_lesser : Int32} {post : (Nat → Int32) → (Nat → Int32) → Prop} {K41 : Int32 → Int32 → Int32 → Int32 → (Nat → Int32) → (Nat → Int32) → Prop} (F : CallFix p m c b_MD_sort 9 s ([.ref h_t, .int a_p1, .int a_p2, .int a_p3] : List Value).toArray WT "SuffixIndexModel") (hr : meth.sig.returnType = none) (hlk : meth.locks = false) (hK : va_K (dC, dI) classes (TYS cI cJ cB cZ) s) (hA : ∀ q, s.heap.size ≤ q → A q) (hK41 : ∀ (x4 : Int32) (x5 : Int32) (x6 : Int32) (x7 : Int32) (z_order : Nat → Int32) (z_work : Nat → Int32), K41 x4 x5 x6 x7 z_order z_work → ∀ (H : Heap) (locs : List Loc) (ls : Array Slot), va_P (dC, dI) classes [(h_t, .inr (8, [.int z_thrown, .ref h_tape, .ref h_row, .ref h_out, .ref h_sought, .int z_size, .int z_outSize, .int z_soughtSize, .int z_documents, .int z_indexed, .int z_suffixes, .int z_rows, .ref h_start, .ref h_documentOf, .ref h_order, .ref h_rankOf, .ref h_same, .ref h_work, .ref h_next, .ref h_often, .ref h_has, .int z_lesser])), (h_start, .inl (cI, 66, .inl z_start)), (h_documentOf, .inl (cI, 16384, .inl z_documentOf)), (h_order, .inl (cI, 16384, .inl z_order)), (h_rankOf, .inl (cI, 16384, .inl z_rankOf)), (h_work, .inl (cI, 16384, .inl z_work))] H → va_D A [(h_t, .inr (8, [.int z_thrown, .ref h_tape, .ref h_row, .ref h_out, .ref h_sought, .int z_size, .int z_outSize, .int z_soughtSize, .int z_documents, .int z_indexed, .int z_suffixes, .int z_rows, .ref h_start, .ref h_documentOf, .ref h_order, .ref h_rankOf, .ref h_same, .ref h_work, .ref h_next, .ref h_often, .ref h_has, .int z_lesser])), (h_start, .inl (cI, 66, .inl z_start)), (h_documentOf, .inl (cI, 16384, .inl z_documentOf)), (h_order, .inl (cI, 16384, .inl z_order)), (h_rankOf, .inl (cI, 16384, .inl z_rankOf)), (h_work, .inl (cI, 16384, .inl z_work))] → va_S A s.heap H locs → lv_has ls 9 [(0, .ref h_t), (1, .int a_p1), (2, .int a_p2), (3, .int a_p3), (4, .int x4), (5, .int x5), (6, .int x6), (7, .int x7)] → W p l e (rm_MD_sort d) s m ([.ref h_t, .int a_p1, .int a_p2, .int a_p3] : List Value).toArray below meth c H locs 0 0 (MQ below (va_Qv (fun u : (Nat → Int32) × (Nat → Int32) => post u.1 u.2) (fun u t => cAft (dC, dI) classes (TYS cI cJ cB cZ) A [(h_t, .inr (8, [.int z_thrown, .ref h_tape, .ref h_row, .ref h_out, .ref h_sought, .int z_size, .int z_outSize, .int z_soughtSize, .int z_documents, .int z_indexed, .int z_suffixes, .int z_rows, .ref h_start, .ref h_documentOf, .ref h_order, .ref h_rankOf, .ref h_same, .ref h_work, .ref h_next, .ref h_often, .ref h_has, .int z_lesser])), (h_start, .inl (cI, 66, .inl z_start)), (h_documentOf, .inl (cI, 16384, .inl z_documentOf)), (h_order, .inl (cI, 16384, .inl u.1)), (h_rankOf, .inl (cI, 16384, .inl z_rankOf)), (h_work, .inl (cI, 16384, .inl u.2))] t) A) ([.ref h_t, .int a_p1, .int a_p2, .int a_p3] : List Value).toArray s 0 0 A) (F0 m 41 ls [])) : ∀ (x4 : Int32) (x5 : Int32) (x6 : Int32) (x7 : Int32) (z_order : Nat → Int32) (z_work : Nat → Int32), vc_MD_sort_82 a_p1 a_p2 a_p3 z_start z_documentOf z_rankOf post K41 x4 x5 x6 x7 z_order z_work → ∀ (H : Heap) (locs : List Loc) (ls : Array Slot), va_P (dC, dI) classes [(h_t, .inr (8, [.int z_thrown, .ref h_tape, .ref h_row, .ref h_out, .ref h_sought, .int z_size, .int z_outSize, .int z_soughtSize, .int z_documents, .int z_indexed, .int z_suffixes, .int z_rows, .ref h_start, .ref h_documentOf, .ref h_order, .ref h_rankOf, .ref h_same, .ref h_work, .ref h_next, .ref h_often, .ref h_has, .int z_lesser])), (h_start, .inl (cI, 66, .inl z_start)), (h_documentOf, .inl (cI, 16384, .inl z_documentOf)), (h_order, .inl (cI, 16384, .inl z_order)), (h_rankOf, .inl (cI, 16384, .inl z_rankOf)), (h_work, .inl (cI, 16384, .inl z_work))] H → va_D A [(h_t, .inr (8, [.int z_thrown, .ref h_tape, .ref h_row, .ref h_out, .ref h_sought, .int z_size, .int z_outSize, .int z_soughtSize, .int z_documents, .int z_indexed, .int z_suffixes, .int z_rows, .ref h_start, .ref h_documentOf, .ref h_order, .ref h_rankOf, .ref h_same, .ref h_work, .ref h_next, .ref h_often, .ref h_has, .int z_lesser])), (h_start, .inl (cI, 66, .inl z_start)), (h_documentOf, .inl (cI, 16384, .inl z_documentOf)), (h_order, .inl (cI, 16384, .inl z_order)), (h_rankOf, .inl (cI, 16384, .inl z_rankOf)), (h_work, .inl (cI, 16384, .inl z_work))] → va_S A s.heap H locs → lv_has ls 9 [(0, .ref h_t), (1, .int a_p1), (2, .int a_p2), (3, .int a_p3), (4, .int x4), (5, .int x5), (6, .int x6), (7, .int x7)] → W p l e (rm_MD_sort d) s m ([.ref h_t, .int a_p1, .int a_p2, .int a_p3] : List Value).toArray below meth c H locs 0 0 (MQ below (va_Qv (fun u : (Nat → Int32) × (Nat → Int32) => post u.1 u.2) (fun u t => cAft (dC, dI) classes (TYS cI cJ cB cZ) A [(h_t, .inr (8, [.int z_thrown, .ref h_tape, .ref h_row, .ref h_out, .ref h_sought, .int z_size, .int z_outSize, .int z_soughtSize, .int z_documents, .int z_indexed, .int z_suffixes, .int z_rows, .ref h_start, .ref h_documentOf, .ref h_order, .ref h_rankOf, .ref h_same, .ref h_work, .ref h_next, .ref h_often, .ref h_has, .int z_lesser])), (h_start, .inl (cI, 66, .inl z_start)), (h_documentOf, .inl (cI, 16384, .inl z_documentOf)), (h_order, .inl (cI, 16384, .inl u.1)), (h_rankOf, .inl (cI, 16384, .inl z_rankOf)), (h_work, .inl (cI, 16384, .inl u.2))] t) A) ([.ref h_t, .int a_p1, .int a_p2, .int a_p3] : List Value).toArray s 0 0 A) (F0 m 82 ls []) := by
  obtain ⟨hx, hb, hml, hown, hw⟩ := id F
  intro x4 x5 x6 x7 z_order z_work hv H locs ls hP hD hS hl
  refine lv_iconst (v := 1) hx hb d_MD_sort_82 (by decide) ?_
  refine lv_goto (tgt := 87) hx hb d_MD_sort_83 (by decide) ?_
  exact wk_MD_sort_87 F hr hlk hK hA hK41 x4 x5 x6 x7 1 z_order z_work hv _ _ _ hP hD hS (lv_sub hl [0, 1, 2, 3, 4, 5, 6, 7] rfl)

set_option maxHeartbeats 4000000 in
set_option maxRecDepth 100000 in
theorem wk_MD_sort_86 {p : Program} {l : Launch} {e : Env} {s : State} {m : MethodId} {below : List Frame} {meth : Method} {c : Code} {A : Nat → Prop} {dC : Nat → ClassId} {dI : Nat → Nat → Nat} {cI cJ cB cZ : ClassId} {h_t : Nat} {h_tape : Nat} {h_row : Nat} {h_out : Nat} {h_sought : Nat} {h_start : Nat} {h_documentOf : Nat} {h_order : Nat} {h_rankOf : Nat} {h_same : Nat} {h_work : Nat} {h_next : Nat} {h_often : Nat} {h_has : Nat} {d : Nat} {a_p1 : Int32} {a_p2 : Int32} {a_p3 : Int32} {z_start : Nat → Int32} {z_documentOf : Nat → Int32} {z_rankOf : Nat → Int32} {z_thrown : Int32} {z_size : Int32} {z_outSize : Int32} {z_soughtSize : Int32} {z_documents : Int32} {z_indexed : Int32} {z_suffixes : Int32} {z_rows : Int32} {z_lesser : Int32} {post : (Nat → Int32) → (Nat → Int32) → Prop} {K41 : Int32 → Int32 → Int32 → Int32 → (Nat → Int32) → (Nat → Int32) → Prop} (F : CallFix p m c b_MD_sort 9 s ([.ref h_t, .int a_p1, .int a_p2, .int a_p3] : List Value).toArray WT "SuffixIndexModel") (hr : meth.sig.returnType = none) (hlk : meth.locks = false) (hK : va_K (dC, dI) classes (TYS cI cJ cB cZ) s) (hA : ∀ q, s.heap.size ≤ q → A q) (hK41 : ∀ (x4 : Int32) (x5 : Int32) (x6 : Int32) (x7 : Int32) (z_order : Nat → Int32) (z_work : Nat → Int32), K41 x4 x5 x6 x7 z_order z_work → ∀ (H : Heap) (locs : List Loc) (ls : Array Slot), va_P (dC, dI) classes [(h_t, .inr (8, [.int z_thrown, .ref h_tape, .ref h_row, .ref h_out, .ref h_sought, .int z_size, .int z_outSize, .int z_soughtSize, .int z_documents, .int z_indexed, .int z_suffixes, .int z_rows, .ref h_start, .ref h_documentOf, .ref h_order, .ref h_rankOf, .ref h_same, .ref h_work, .ref h_next, .ref h_often, .ref h_has, .int z_lesser])), (h_start, .inl (cI, 66, .inl z_start)), (h_documentOf, .inl (cI, 16384, .inl z_documentOf)), (h_order, .inl (cI, 16384, .inl z_order)), (h_rankOf, .inl (cI, 16384, .inl z_rankOf)), (h_work, .inl (cI, 16384, .inl z_work))] H → va_D A [(h_t, .inr (8, [.int z_thrown, .ref h_tape, .ref h_row, .ref h_out, .ref h_sought, .int z_size, .int z_outSize, .int z_soughtSize, .int z_documents, .int z_indexed, .int z_suffixes, .int z_rows, .ref h_start, .ref h_documentOf, .ref h_order, .ref h_rankOf, .ref h_same, .ref h_work, .ref h_next, .ref h_often, .ref h_has, .int z_lesser])), (h_start, .inl (cI, 66, .inl z_start)), (h_documentOf, .inl (cI, 16384, .inl z_documentOf)), (h_order, .inl (cI, 16384, .inl z_order)), (h_rankOf, .inl (cI, 16384, .inl z_rankOf)), (h_work, .inl (cI, 16384, .inl z_work))] → va_S A s.heap H locs → lv_has ls 9 [(0, .ref h_t), (1, .int a_p1), (2, .int a_p2), (3, .int a_p3), (4, .int x4), (5, .int x5), (6, .int x6), (7, .int x7)] → W p l e (rm_MD_sort d) s m ([.ref h_t, .int a_p1, .int a_p2, .int a_p3] : List Value).toArray below meth c H locs 0 0 (MQ below (va_Qv (fun u : (Nat → Int32) × (Nat → Int32) => post u.1 u.2) (fun u t => cAft (dC, dI) classes (TYS cI cJ cB cZ) A [(h_t, .inr (8, [.int z_thrown, .ref h_tape, .ref h_row, .ref h_out, .ref h_sought, .int z_size, .int z_outSize, .int z_soughtSize, .int z_documents, .int z_indexed, .int z_suffixes, .int z_rows, .ref h_start, .ref h_documentOf, .ref h_order, .ref h_rankOf, .ref h_same, .ref h_work, .ref h_next, .ref h_often, .ref h_has, .int z_lesser])), (h_start, .inl (cI, 66, .inl z_start)), (h_documentOf, .inl (cI, 16384, .inl z_documentOf)), (h_order, .inl (cI, 16384, .inl u.1)), (h_rankOf, .inl (cI, 16384, .inl z_rankOf)), (h_work, .inl (cI, 16384, .inl u.2))] t) A) ([.ref h_t, .int a_p1, .int a_p2, .int a_p3] : List Value).toArray s 0 0 A) (F0 m 41 ls [])) : ∀ (x4 : Int32) (x5 : Int32) (x6 : Int32) (x7 : Int32) (z_order : Nat → Int32) (z_work : Nat → Int32), vc_MD_sort_86 a_p1 a_p2 a_p3 z_start z_documentOf z_rankOf post K41 x4 x5 x6 x7 z_order z_work → ∀ (H : Heap) (locs : List Loc) (ls : Array Slot), va_P (dC, dI) classes [(h_t, .inr (8, [.int z_thrown, .ref h_tape, .ref h_row, .ref h_out, .ref h_sought, .int z_size, .int z_outSize, .int z_soughtSize, .int z_documents, .int z_indexed, .int z_suffixes, .int z_rows, .ref h_start, .ref h_documentOf, .ref h_order, .ref h_rankOf, .ref h_same, .ref h_work, .ref h_next, .ref h_often, .ref h_has, .int z_lesser])), (h_start, .inl (cI, 66, .inl z_start)), (h_documentOf, .inl (cI, 16384, .inl z_documentOf)), (h_order, .inl (cI, 16384, .inl z_order)), (h_rankOf, .inl (cI, 16384, .inl z_rankOf)), (h_work, .inl (cI, 16384, .inl z_work))] H → va_D A [(h_t, .inr (8, [.int z_thrown, .ref h_tape, .ref h_row, .ref h_out, .ref h_sought, .int z_size, .int z_outSize, .int z_soughtSize, .int z_documents, .int z_indexed, .int z_suffixes, .int z_rows, .ref h_start, .ref h_documentOf, .ref h_order, .ref h_rankOf, .ref h_same, .ref h_work, .ref h_next, .ref h_often, .ref h_has, .int z_lesser])), (h_start, .inl (cI, 66, .inl z_start)), (h_documentOf, .inl (cI, 16384, .inl z_documentOf)), (h_order, .inl (cI, 16384, .inl z_order)), (h_rankOf, .inl (cI, 16384, .inl z_rankOf)), (h_work, .inl (cI, 16384, .inl z_work))] → va_S A s.heap H locs → lv_has ls 9 [(0, .ref h_t), (1, .int a_p1), (2, .int a_p2), (3, .int a_p3), (4, .int x4), (5, .int x5), (6, .int x6), (7, .int x7)] → W p l e (rm_MD_sort d) s m ([.ref h_t, .int a_p1, .int a_p2, .int a_p3] : List Value).toArray below meth c H locs 0 0 (MQ below (va_Qv (fun u : (Nat → Int32) × (Nat → Int32) => post u.1 u.2) (fun u t => cAft (dC, dI) classes (TYS cI cJ cB cZ) A [(h_t, .inr (8, [.int z_thrown, .ref h_tape, .ref h_row, .ref h_out, .ref h_sought, .int z_size, .int z_outSize, .int z_soughtSize, .int z_documents, .int z_indexed, .int z_suffixes, .int z_rows, .ref h_start, .ref h_documentOf, .ref h_order, .ref h_rankOf, .ref h_same, .ref h_work, .ref h_next, .ref h_often, .ref h_has, .int z_lesser])), (h_start, .inl (cI, 66, .inl z_start)), (h_documentOf, .inl (cI, 16384, .inl z_documentOf)), (h_order, .inl (cI, 16384, .inl u.1)), (h_rankOf, .inl (cI, 16384, .inl z_rankOf)), (h_work, .inl (cI, 16384, .inl u.2))] t) A) ([.ref h_t, .int a_p1, .int a_p2, .int a_p3] : List Value).toArray s 0 0 A) (F0 m 86 ls []) := by
  obtain ⟨hx, hb, hml, hown, hw⟩ := id F
  intro x4 x5 x6 x7 z_order z_work hv H locs ls hP hD hS hl
  refine lv_iconst (v := 0) hx hb d_MD_sort_86 (by decide) ?_
  exact wk_MD_sort_87 F hr hlk hK hA hK41 x4 x5 x6 x7 0 z_order z_work hv _ _ _ hP hD hS (lv_sub hl [0, 1, 2, 3, 4, 5, 6, 7] rfl)

set_option maxHeartbeats 4000000 in
set_option maxRecDepth 100000 in
theorem wk_MD_sort_133 {p : Program} {l : Launch} {e : Env} {s : State} {m : MethodId} {below : List Frame} {meth : Method} {c : Code} {A : Nat → Prop} {dC : Nat → ClassId} {dI : Nat → Nat → Nat} {cI cJ cB cZ : ClassId} {h_t : Nat} {h_tape : Nat} {h_row : Nat} {h_out : Nat} {h_sought : Nat} {h_start : Nat} {h_documentOf : Nat} {h_order : Nat} {h_rankOf : Nat} {h_same : Nat} {h_work : Nat} {h_next : Nat} {h_often : Nat} {h_has : Nat} {d : Nat} {a_p1 : Int32} {a_p2 : Int32} {a_p3 : Int32} {z_start : Nat → Int32} {z_documentOf : Nat → Int32} {z_rankOf : Nat → Int32} {z_thrown : Int32} {z_size : Int32} {z_outSize : Int32} {z_soughtSize : Int32} {z_documents : Int32} {z_indexed : Int32} {z_suffixes : Int32} {z_rows : Int32} {z_lesser : Int32} {post : (Nat → Int32) → (Nat → Int32) → Prop} (F : CallFix p m c b_MD_sort 9 s ([.ref h_t, .int a_p1, .int a_p2, .int a_p3] : List Value).toArray WT "SuffixIndexModel") (hr : meth.sig.returnType = none) (hlk : meth.locks = false) (hK : va_K (dC, dI) classes (TYS cI cJ cB cZ) s) (hA : ∀ q, s.heap.size ≤ q → A q) : ∀ (k : Nat) (x7 : Int32) (z_order : Nat → Int32) (z_work : Nat → Int32), vc_MD_sort_133 a_p1 a_p2 a_p3 z_start z_documentOf z_rankOf post k x7 z_order z_work → ∀ (H : Heap) (locs : List Loc) (ls : Array Slot), va_P (dC, dI) classes [(h_t, .inr (8, [.int z_thrown, .ref h_tape, .ref h_row, .ref h_out, .ref h_sought, .int z_size, .int z_outSize, .int z_soughtSize, .int z_documents, .int z_indexed, .int z_suffixes, .int z_rows, .ref h_start, .ref h_documentOf, .ref h_order, .ref h_rankOf, .ref h_same, .ref h_work, .ref h_next, .ref h_often, .ref h_has, .int z_lesser])), (h_start, .inl (cI, 66, .inl z_start)), (h_documentOf, .inl (cI, 16384, .inl z_documentOf)), (h_order, .inl (cI, 16384, .inl z_order)), (h_rankOf, .inl (cI, 16384, .inl z_rankOf)), (h_work, .inl (cI, 16384, .inl z_work))] H → va_D A [(h_t, .inr (8, [.int z_thrown, .ref h_tape, .ref h_row, .ref h_out, .ref h_sought, .int z_size, .int z_outSize, .int z_soughtSize, .int z_documents, .int z_indexed, .int z_suffixes, .int z_rows, .ref h_start, .ref h_documentOf, .ref h_order, .ref h_rankOf, .ref h_same, .ref h_work, .ref h_next, .ref h_often, .ref h_has, .int z_lesser])), (h_start, .inl (cI, 66, .inl z_start)), (h_documentOf, .inl (cI, 16384, .inl z_documentOf)), (h_order, .inl (cI, 16384, .inl z_order)), (h_rankOf, .inl (cI, 16384, .inl z_rankOf)), (h_work, .inl (cI, 16384, .inl z_work))] → va_S A s.heap H locs → lv_has ls 9 [(0, .ref h_t), (2, .int a_p2), (7, .int x7)] → W p l e (rm_MD_sort d) s m ([.ref h_t, .int a_p1, .int a_p2, .int a_p3] : List Value).toArray below meth c H locs 0 0 (MQ below (va_Qv (fun u : (Nat → Int32) × (Nat → Int32) => post u.1 u.2) (fun u t => cAft (dC, dI) classes (TYS cI cJ cB cZ) A [(h_t, .inr (8, [.int z_thrown, .ref h_tape, .ref h_row, .ref h_out, .ref h_sought, .int z_size, .int z_outSize, .int z_soughtSize, .int z_documents, .int z_indexed, .int z_suffixes, .int z_rows, .ref h_start, .ref h_documentOf, .ref h_order, .ref h_rankOf, .ref h_same, .ref h_work, .ref h_next, .ref h_often, .ref h_has, .int z_lesser])), (h_start, .inl (cI, 66, .inl z_start)), (h_documentOf, .inl (cI, 16384, .inl z_documentOf)), (h_order, .inl (cI, 16384, .inl u.1)), (h_rankOf, .inl (cI, 16384, .inl z_rankOf)), (h_work, .inl (cI, 16384, .inl u.2))] t) A) ([.ref h_t, .int a_p1, .int a_p2, .int a_p3] : List Value).toArray s 0 0 A) (F0 m 133 ls []) := by
  obtain ⟨hx, hb, hml, hown, hw⟩ := id F
  intro k
  induction k with
  | zero =>
    intro x7 z_order z_work hv
    exact False.elim hv
  | succ k ih =>
    intro x7 z_order z_work hv H locs ls hP hD hS hl
    refine lv_iload hx hb d_MD_sort_133 (lv_at hl 2 rfl) ?_
    refine lv_iload_n hx hb d_MD_sort_135 rfl (lv_at hl 1 rfl) ?_
    obtain ⟨hvt, hvf⟩ := hv
    refine lv_icmp_ge (tgt := 159) hx hb d_MD_sort_136 (by decide) (fun c2 => ?_) (fun c2 => ?_)
    · have hv := hvt c2
      exact W.vret hx hb hr (fun t ht hW => ⟨⟨(z_order, z_work), rfl, hv, by rw [ht]; exact hP, va_K.moved hW.alike hK, hD⟩, hS.F ht⟩) hS.2.2 d_MD_sort_159
    · have hv := hvf c2
      refine lv_aload_n hx hb d_MD_sort_139 rfl (lv_at hl 0 rfl) ?_
      refine va_get (D := (dC, dI)) (ci := 8) (v := .ref h_order) (C := "SuffixIndexModel") (T := F_MD) (N := 22) hx hb hw i_MD hown hK hP 0 rfl rfl 14 (by decide) (hw _ m_1115) (fun _ h9 => h9) rfl d_MD_sort_140 ?_
      refine lv_iload hx hb d_MD_sort_143 (lv_at hl 2 rfl) ?_
      refine lv_aload_n hx hb d_MD_sort_145 rfl (lv_at hl 0 rfl) ?_
      refine va_get (D := (dC, dI)) (ci := 8) (v := .ref h_work) (C := "SuffixIndexModel") (T := F_MD) (N := 22) hx hb hw i_MD hown hK hP 0 rfl rfl 17 (by decide) (hw _ m_1118) (fun _ h9 => h9) rfl d_MD_sort_146 ?_
      refine lv_iload hx hb d_MD_sort_149 (lv_at hl 2 rfl) ?_
      obtain ⟨hin, hv⟩ := hv
      refine va_iald hx hb hK hP 5 0 rfl rfl hin d_MD_sort_151 ?_
      obtain ⟨hin, hv⟩ := hv
      refine va_iast hx hb hK hP hD hS 3 0 rfl rfl hin d_MD_sort_152 (fun H locs hP hD hS => ?_)
      have hP : va_P (dC, dI) classes [(h_t, .inr (8, [.int z_thrown, .ref h_tape, .ref h_row, .ref h_out, .ref h_sought, .int z_size, .int z_outSize, .int z_soughtSize, .int z_documents, .int z_indexed, .int z_suffixes, .int z_rows, .ref h_start, .ref h_documentOf, .ref h_order, .ref h_rankOf, .ref h_same, .ref h_work, .ref h_next, .ref h_often, .ref h_has, .int z_lesser])), (h_start, .inl (cI, 66, .inl z_start)), (h_documentOf, .inl (cI, 16384, .inl z_documentOf)), (h_order, .inl (cI, 16384, .inl (upd z_order x7.toNatClampNeg (z_work x7.toNatClampNeg)))), (h_rankOf, .inl (cI, 16384, .inl z_rankOf)), (h_work, .inl (cI, 16384, .inl z_work))] H := hP
      have hD : va_D A [(h_t, .inr (8, [.int z_thrown, .ref h_tape, .ref h_row, .ref h_out, .ref h_sought, .int z_size, .int z_outSize, .int z_soughtSize, .int z_documents, .int z_indexed, .int z_suffixes, .int z_rows, .ref h_start, .ref h_documentOf, .ref h_order, .ref h_rankOf, .ref h_same, .ref h_work, .ref h_next, .ref h_often, .ref h_has, .int z_lesser])), (h_start, .inl (cI, 66, .inl z_start)), (h_documentOf, .inl (cI, 16384, .inl z_documentOf)), (h_order, .inl (cI, 16384, .inl (upd z_order x7.toNatClampNeg (z_work x7.toNatClampNeg)))), (h_rankOf, .inl (cI, 16384, .inl z_rankOf)), (h_work, .inl (cI, 16384, .inl z_work))] := hD
      refine lv_iinc (v := x7 + 1) (lv' := [(7, .int (x7 + 1)), (0, .ref h_t), (2, .int a_p2)]) hx hb d_MD_sort_153 hl (k := 2) rfl (iinc_v (by decide)) (by decide) rfl (fun ls hl => ?_)
      refine lv_goto (tgt := 133) hx hb d_MD_sort_156 (by decide) ?_
      exact ih (x7 + 1) (upd z_order x7.toNatClampNeg (z_work x7.toNatClampNeg)) z_work hv _ _ _ hP hD hS (lv_sub hl [1, 2, 0] rfl)

set_option maxHeartbeats 4000000 in
set_option maxRecDepth 100000 in
theorem wk_MD_sort_41 {p : Program} {l : Launch} {e : Env} {s : State} {m : MethodId} {below : List Frame} {meth : Method} {c : Code} {A : Nat → Prop} {dC : Nat → ClassId} {dI : Nat → Nat → Nat} {cI cJ cB cZ : ClassId} {h_t : Nat} {h_tape : Nat} {h_row : Nat} {h_out : Nat} {h_sought : Nat} {h_start : Nat} {h_documentOf : Nat} {h_order : Nat} {h_rankOf : Nat} {h_same : Nat} {h_work : Nat} {h_next : Nat} {h_often : Nat} {h_has : Nat} {d : Nat} {a_p1 : Int32} {a_p2 : Int32} {a_p3 : Int32} {z_start : Nat → Int32} {z_documentOf : Nat → Int32} {z_rankOf : Nat → Int32} {z_thrown : Int32} {z_size : Int32} {z_outSize : Int32} {z_soughtSize : Int32} {z_documents : Int32} {z_indexed : Int32} {z_suffixes : Int32} {z_rows : Int32} {z_lesser : Int32} {post : (Nat → Int32) → (Nat → Int32) → Prop} (F : CallFix p m c b_MD_sort 9 s ([.ref h_t, .int a_p1, .int a_p2, .int a_p3] : List Value).toArray WT "SuffixIndexModel") (hr : meth.sig.returnType = none) (hlk : meth.locks = false) (hK : va_K (dC, dI) classes (TYS cI cJ cB cZ) s) (hA : ∀ q, s.heap.size ≤ q → A q) : ∀ (k : Nat) (x4 : Int32) (x5 : Int32) (x6 : Int32) (x7 : Int32) (z_order : Nat → Int32) (z_work : Nat → Int32), vc_MD_sort_41 a_p1 a_p2 a_p3 z_start z_documentOf z_rankOf post k x4 x5 x6 x7 z_order z_work → ∀ (H : Heap) (locs : List Loc) (ls : Array Slot), va_P (dC, dI) classes [(h_t, .inr (8, [.int z_thrown, .ref h_tape, .ref h_row, .ref h_out, .ref h_sought, .int z_size, .int z_outSize, .int z_soughtSize, .int z_documents, .int z_indexed, .int z_suffixes, .int z_rows, .ref h_start, .ref h_documentOf, .ref h_order, .ref h_rankOf, .ref h_same, .ref h_work, .ref h_next, .ref h_often, .ref h_has, .int z_lesser])), (h_start, .inl (cI, 66, .inl z_start)), (h_documentOf, .inl (cI, 16384, .inl z_documentOf)), (h_order, .inl (cI, 16384, .inl z_order)), (h_rankOf, .inl (cI, 16384, .inl z_rankOf)), (h_work, .inl (cI, 16384, .inl z_work))] H → va_D A [(h_t, .inr (8, [.int z_thrown, .ref h_tape, .ref h_row, .ref h_out, .ref h_sought, .int z_size, .int z_outSize, .int z_soughtSize, .int z_documents, .int z_indexed, .int z_suffixes, .int z_rows, .ref h_start, .ref h_documentOf, .ref h_order, .ref h_rankOf, .ref h_same, .ref h_work, .ref h_next, .ref h_often, .ref h_has, .int z_lesser])), (h_start, .inl (cI, 66, .inl z_start)), (h_documentOf, .inl (cI, 16384, .inl z_documentOf)), (h_order, .inl (cI, 16384, .inl z_order)), (h_rankOf, .inl (cI, 16384, .inl z_rankOf)), (h_work, .inl (cI, 16384, .inl z_work))] → va_S A s.heap H locs → lv_has ls 9 [(0, .ref h_t), (1, .int a_p1), (2, .int a_p2), (3, .int a_p3), (4, .int x4), (5, .int x5), (6, .int x6), (7, .int x7)] → W p l e (rm_MD_sort d) s m ([.ref h_t, .int a_p1, .int a_p2, .int a_p3] : List Value).toArray below meth c H locs 0 0 (MQ below (va_Qv (fun u : (Nat → Int32) × (Nat → Int32) => post u.1 u.2) (fun u t => cAft (dC, dI) classes (TYS cI cJ cB cZ) A [(h_t, .inr (8, [.int z_thrown, .ref h_tape, .ref h_row, .ref h_out, .ref h_sought, .int z_size, .int z_outSize, .int z_soughtSize, .int z_documents, .int z_indexed, .int z_suffixes, .int z_rows, .ref h_start, .ref h_documentOf, .ref h_order, .ref h_rankOf, .ref h_same, .ref h_work, .ref h_next, .ref h_often, .ref h_has, .int z_lesser])), (h_start, .inl (cI, 66, .inl z_start)), (h_documentOf, .inl (cI, 16384, .inl z_documentOf)), (h_order, .inl (cI, 16384, .inl u.1)), (h_rankOf, .inl (cI, 16384, .inl z_rankOf)), (h_work, .inl (cI, 16384, .inl u.2))] t) A) ([.ref h_t, .int a_p1, .int a_p2, .int a_p3] : List Value).toArray s 0 0 A) (F0 m 41 ls []) := by
  obtain ⟨hx, hb, hml, hown, hw⟩ := id F
  intro k
  induction k with
  | zero =>
    intro x4 x5 x6 x7 z_order z_work hv
    exact False.elim hv
  | succ k ih =>
    intro x4 x5 x6 x7 z_order z_work hv H locs ls hP hD hS hl
    refine lv_iload hx hb d_MD_sort_41 (lv_at hl 7 rfl) ?_
    refine lv_iload_n hx hb d_MD_sort_43 rfl (lv_at hl 2 rfl) ?_
    obtain ⟨hvt, hvf⟩ := hv
    refine lv_icmp_ge (tgt := 130) hx hb d_MD_sort_44 (by decide) (fun c3 => ?_) (fun c3 => ?_)
    · have hv := hvt c3
      refine lv_iload_n hx hb d_MD_sort_130 rfl (lv_at hl 1 rfl) ?_
      refine lv_istore (lv' := [(7, .int a_p1), (0, .ref h_t), (1, .int a_p1), (2, .int a_p2), (3, .int a_p3), (4, .int x4), (5, .int x5), (6, .int x6)]) hx hb d_MD_sort_131 hl (by decide) rfl (fun ls hl => ?_)
      obtain ⟨j, hv⟩ := hv
      exact wk_MD_sort_133 F hr hlk hK hA j a_p1 z_order z_work hv _ _ _ hP hD hS (lv_sub hl [1, 3, 0] rfl)
    · have hv := hvf c3
      refine lv_iload hx hb d_MD_sort_47 (lv_at hl 6 rfl) ?_
      refine lv_iload_n hx hb d_MD_sort_49 rfl (lv_at hl 2 rfl) ?_
      obtain ⟨hvt, hvf⟩ := hv
      refine lv_icmp_eq (tgt := 82) hx hb d_MD_sort_50 (by decide) (fun c4 => ?_) (fun c4 => ?_)
      · have hv := hvt c4
        exact wk_MD_sort_82 F hr hlk hK hA ih x4 x5 x6 x7 z_order z_work hv _ _ _ hP hD hS (lv_sub hl [0, 1, 2, 3, 4, 5, 6, 7] rfl)
      · have hv := hvf c4
        refine lv_iload hx hb d_MD_sort_53 (lv_at hl 5 rfl) ?_
        refine lv_iload hx hb d_MD_sort_55 (lv_at hl 4 rfl) ?_
        obtain ⟨hvt, hvf⟩ := hv
        refine lv_icmp_ge (tgt := 86) hx hb d_MD_sort_57 (by decide) (fun c5 => ?_) (fun c5 => ?_)
        · have hv := hvt c5
          exact wk_MD_sort_86 F hr hlk hK hA ih x4 x5 x6 x7 z_order z_work hv _ _ _ hP hD hS (lv_sub hl [0, 1, 2, 3, 4, 5, 6, 7] rfl)
        · have hv := hvf c5
          refine lv_aload_n hx hb d_MD_sort_60 rfl (lv_at hl 0 rfl) ?_
          refine lv_aload_n hx hb d_MD_sort_61 rfl (lv_at hl 0 rfl) ?_
          refine va_get (D := (dC, dI)) (ci := 8) (v := .ref h_order) (C := "SuffixIndexModel") (T := F_MD) (N := 22) hx hb hw i_MD hown hK hP 0 rfl rfl 14 (by decide) (hw _ m_1115) (fun _ h9 => h9) rfl d_MD_sort_62 ?_
          refine lv_iload hx hb d_MD_sort_65 (lv_at hl 5 rfl) ?_
          obtain ⟨hin, hv⟩ := hv
          refine va_iald hx hb hK hP 3 0 rfl rfl hin d_MD_sort_67 ?_
          refine lv_aload_n hx hb d_MD_sort_68 rfl (lv_at hl 0 rfl) ?_
          refine va_get (D := (dC, dI)) (ci := 8) (v := .ref h_order) (C := "SuffixIndexModel") (T := F_MD) (N := 22) hx hb hw i_MD hown hK hP 0 rfl rfl 14 (by decide) (hw _ m_1115) (fun _ h9 => h9) rfl d_MD_sort_69 ?_
          refine lv_iload hx hb d_MD_sort_72 (lv_at hl 6 rfl) ?_
          obtain ⟨hin, hv⟩ := hv
          refine va_iald hx hb hK hP 3 0 rfl rfl hin d_MD_sort_74 ?_
          refine lv_iload_n hx hb d_MD_sort_75 rfl (lv_at hl 3 rfl) ?_
          refine cV_i (wr := [(h_order, .inl (cI, 16384, .inl z_order)), (h_work, .inl (cI, 16384, .inl z_work))]) (rest := []) (c_MD_compare l dC dI cI cJ cB cZ h_t h_tape h_row h_out h_sought h_start h_documentOf h_order h_rankOf h_same h_work h_next h_often h_has H.size z_thrown z_size z_outSize z_soughtSize z_documents z_indexed z_suffixes z_rows z_lesser z_start z_documentOf z_rankOf (z_order x5.toNatClampNeg) (z_order x6.toNatClampNeg) a_p3 _ hv) F (cw_V (fun _ h => h) 3 hw m_1201 m_1203 ms_31 m_9 m_1204 rfl rfl (by decide +kernel) ⟨by simp only [rm_MD_sort, rm_MD_compare]; omega, by simp only [rm_MD_sort, rm_MD_compare]; omega⟩) hK hP hD hS hA [0, 1, 2, 4] [3, 5] rfl rfl rfl rfl (by decide) 0 8 rfl rfl rfl hl.1 rfl (Nat.le_of_ble_eq_true rfl) d_MD_sort_76 ⟨Nat.le_of_ble_eq_true rfl, Nat.le_of_ble_eq_true rfl⟩ (fun r6 u H locs hv hP hD hS => ?_)
          have hP : va_P (dC, dI) classes [(h_t, .inr (8, [.int z_thrown, .ref h_tape, .ref h_row, .ref h_out, .ref h_sought, .int z_size, .int z_outSize, .int z_soughtSize, .int z_documents, .int z_indexed, .int z_suffixes, .int z_rows, .ref h_start, .ref h_documentOf, .ref h_order, .ref h_rankOf, .ref h_same, .ref h_work, .ref h_next, .ref h_often, .ref h_has, .int z_lesser])), (h_start, .inl (cI, 66, .inl z_start)), (h_documentOf, .inl (cI, 16384, .inl z_documentOf)), (h_order, .inl (cI, 16384, .inl z_order)), (h_rankOf, .inl (cI, 16384, .inl z_rankOf)), (h_work, .inl (cI, 16384, .inl z_work))] H := P_sub hP [2, 3, 4, 0, 5, 1] rfl
          have hD : va_D A [(h_t, .inr (8, [.int z_thrown, .ref h_tape, .ref h_row, .ref h_out, .ref h_sought, .int z_size, .int z_outSize, .int z_soughtSize, .int z_documents, .int z_indexed, .int z_suffixes, .int z_rows, .ref h_start, .ref h_documentOf, .ref h_order, .ref h_rankOf, .ref h_same, .ref h_work, .ref h_next, .ref h_often, .ref h_has, .int z_lesser])), (h_start, .inl (cI, 66, .inl z_start)), (h_documentOf, .inl (cI, 16384, .inl z_documentOf)), (h_order, .inl (cI, 16384, .inl z_order)), (h_rankOf, .inl (cI, 16384, .inl z_rankOf)), (h_work, .inl (cI, 16384, .inl z_work))] := hD.sub [2, 3, 4, 0, 5, 1] rfl rfl
          obtain ⟨hvt, hvf⟩ := hv
          refine lv_if_gt (tgt := 86) hx hb d_MD_sort_79 (by decide) (fun c7 => ?_) (fun c7 => ?_)
          · have hv := hvt c7
            exact wk_MD_sort_86 F hr hlk hK hA ih x4 x5 x6 x7 z_order z_work hv _ _ _ hP hD hS (lv_sub hl [0, 1, 2, 3, 4, 5, 6, 7] rfl)
          · have hv := hvf c7
            exact wk_MD_sort_82 F hr hlk hK hA ih x4 x5 x6 x7 z_order z_work hv _ _ _ hP hD hS (lv_sub hl [0, 1, 2, 3, 4, 5, 6, 7] rfl)

set_option maxHeartbeats 4000000 in
set_option maxRecDepth 100000 in
theorem c_MD_sort (l : Launch) (dC : Nat → ClassId) (dI : Nat → Nat → Nat) (cI cJ cB cZ : ClassId) (h_t : Nat) (h_tape : Nat) (h_row : Nat) (h_out : Nat) (h_sought : Nat) (h_start : Nat) (h_documentOf : Nat) (h_order : Nat) (h_rankOf : Nat) (h_same : Nat) (h_work : Nat) (h_next : Nat) (h_often : Nat) (h_has : Nat) : ∀ (d sz : Nat) (z_thrown : Int32) (z_size : Int32) (z_outSize : Int32) (z_soughtSize : Int32) (z_documents : Int32) (z_indexed : Int32) (z_suffixes : Int32) (z_rows : Int32) (z_lesser : Int32) (z_start : Nat → Int32) (z_documentOf : Nat → Int32) (z_order : Nat → Int32) (z_rankOf : Nat → Int32) (z_work : Nat → Int32) (a_p1 : Int32) (a_p2 : Int32) (a_p3 : Int32) (post : (Nat → Int32) → (Nat → Int32) → Prop) (hv : vc_MD_sort z_start z_documentOf z_rankOf d a_p1 a_p2 a_p3 post z_order z_work), Met l y_MD_sort (Cond.code y_MD_sort b_MD_sort 9 none :: WT) (rm_MD_sort d) (cPre (dC, dI) classes (TYS cI cJ cB cZ) [(h_t, .inr (8, [.int z_thrown, .ref h_tape, .ref h_row, .ref h_out, .ref h_sought, .int z_size, .int z_outSize, .int z_soughtSize, .int z_documents, .int z_indexed, .int z_suffixes, .int z_rows, .ref h_start, .ref h_documentOf, .ref h_order, .ref h_rankOf, .ref h_same, .ref h_work, .ref h_next, .ref h_often, .ref h_has, .int z_lesser])), (h_start, .inl (cI, 66, .inl z_start)), (h_documentOf, .inl (cI, 16384, .inl z_documentOf)), (h_order, .inl (cI, 16384, .inl z_order)), (h_rankOf, .inl (cI, 16384, .inl z_rankOf)), (h_work, .inl (cI, 16384, .inl z_work))] sz [.ref h_t, .int a_p1, .int a_p2, .int a_p3]) (va_Qv (fun u : (Nat → Int32) × (Nat → Int32) => post u.1 u.2) (fun u t => cAft (dC, dI) classes (TYS cI cJ cB cZ) (va_A [(h_t, .inr (8, [.int z_thrown, .ref h_tape, .ref h_row, .ref h_out, .ref h_sought, .int z_size, .int z_outSize, .int z_soughtSize, .int z_documents, .int z_indexed, .int z_suffixes, .int z_rows, .ref h_start, .ref h_documentOf, .ref h_order, .ref h_rankOf, .ref h_same, .ref h_work, .ref h_next, .ref h_often, .ref h_has, .int z_lesser])), (h_start, .inl (cI, 66, .inl z_start)), (h_documentOf, .inl (cI, 16384, .inl z_documentOf)), (h_order, .inl (cI, 16384, .inl z_order)), (h_rankOf, .inl (cI, 16384, .inl z_rankOf)), (h_work, .inl (cI, 16384, .inl z_work))] sz) [(h_t, .inr (8, [.int z_thrown, .ref h_tape, .ref h_row, .ref h_out, .ref h_sought, .int z_size, .int z_outSize, .int z_soughtSize, .int z_documents, .int z_indexed, .int z_suffixes, .int z_rows, .ref h_start, .ref h_documentOf, .ref h_order, .ref h_rankOf, .ref h_same, .ref h_work, .ref h_next, .ref h_often, .ref h_has, .int z_lesser])), (h_start, .inl (cI, 66, .inl z_start)), (h_documentOf, .inl (cI, 16384, .inl z_documentOf)), (h_order, .inl (cI, 16384, .inl u.1)), (h_rankOf, .inl (cI, 16384, .inl z_rankOf)), (h_work, .inl (cI, 16384, .inl u.2))] t) (va_A [(h_t, .inr (8, [.int z_thrown, .ref h_tape, .ref h_row, .ref h_out, .ref h_sought, .int z_size, .int z_outSize, .int z_soughtSize, .int z_documents, .int z_indexed, .int z_suffixes, .int z_rows, .ref h_start, .ref h_documentOf, .ref h_order, .ref h_rankOf, .ref h_same, .ref h_work, .ref h_next, .ref h_often, .ref h_has, .int z_lesser])), (h_start, .inl (cI, 66, .inl z_start)), (h_documentOf, .inl (cI, 16384, .inl z_documentOf)), (h_order, .inl (cI, 16384, .inl z_order)), (h_rankOf, .inl (cI, 16384, .inl z_rankOf)), (h_work, .inl (cI, 16384, .inl z_work))] sz)) 0 0 (va_A [(h_t, .inr (8, [.int z_thrown, .ref h_tape, .ref h_row, .ref h_out, .ref h_sought, .int z_size, .int z_outSize, .int z_soughtSize, .int z_documents, .int z_indexed, .int z_suffixes, .int z_rows, .ref h_start, .ref h_documentOf, .ref h_order, .ref h_rankOf, .ref h_same, .ref h_work, .ref h_next, .ref h_often, .ref h_has, .int z_lesser])), (h_start, .inl (cI, 66, .inl z_start)), (h_documentOf, .inl (cI, 16384, .inl z_documentOf)), (h_order, .inl (cI, 16384, .inl z_order)), (h_rankOf, .inl (cI, 16384, .inl z_rankOf)), (h_work, .inl (cI, 16384, .inl z_work))] sz) := by
  intro d
  induction d with
  | zero =>
    intros
    exact False.elim (by assumption)
  | succ d ih =>
  intro sz z_thrown z_size z_outSize z_soughtSize z_documents z_indexed z_suffixes z_rows z_lesser z_start z_documentOf z_order z_rankOf z_work a_p1 a_p2 a_p3 post hv
  refine Met.ofW (cc := b_MD_sort) (maxL := 9) (ret := none) (by decide) rfl ?_
  intro p e s m args below meth c s₁ B hml hq
  obtain ⟨rfl, hsz, hP, hK, hD0⟩ := hq
  have hts := atoms_spec (ws := Cond.code y_MD_sort b_MD_sort 9 none :: WT) B.pre
  have hw : ∀ w ∈ WT, w.before ([.ref h_t, .int a_p1, .int a_p2, .int a_p3] : List Value).toArray s = true := fun w h => hts w (List.mem_cons_of_mem _ h)
  have hx := B.exec
  have hb := B.bytes
  have hr := B.returns
  have hlk := B.notSynchronized
  have hown : s.vm.findClass "SuffixIndexModel" = some m.cls := findClass_of_methodNamed B.named
  have F : CallFix p m c b_MD_sort 9 s ([.ref h_t, .int a_p1, .int a_p2, .int a_p3] : List Value).toArray WT "SuffixIndexModel" := ⟨hx, hb, hml, hown, hw⟩
  subst hsz
  have hD := hD0.self (sz := s.heap.size)
  generalize hAe : va_A [(h_t, .inr (8, [.int z_thrown, .ref h_tape, .ref h_row, .ref h_out, .ref h_sought, .int z_size, .int z_outSize, .int z_soughtSize, .int z_documents, .int z_indexed, .int z_suffixes, .int z_rows, .ref h_start, .ref h_documentOf, .ref h_order, .ref h_rankOf, .ref h_same, .ref h_work, .ref h_next, .ref h_often, .ref h_has, .int z_lesser])), (h_start, .inl (cI, 66, .inl z_start)), (h_documentOf, .inl (cI, 16384, .inl z_documentOf)), (h_order, .inl (cI, 16384, .inl z_order)), (h_rankOf, .inl (cI, 16384, .inl z_rankOf)), (h_work, .inl (cI, 16384, .inl z_work))] s.heap.size = A at hD ⊢
  have hA : ∀ q : Nat, s.heap.size ≤ q → A q := fun q h => by rw [← hAe]; exact Or.inr h
  have hS : va_S A s.heap s.heap [] := va_S.rf
  have hl := lv_entry ([.ref h_t, .int a_p1, .int a_p2, .int a_p3]) (n := 9) (Nat.le_of_ble_eq_true rfl)
  rw [lg_entry_eq]
  generalize (lg_sl ([.ref h_t, .int a_p1, .int a_p2, .int a_p3]) ++ List.replicate (9 - (lg_sl ([.ref h_t, .int a_p1, .int a_p2, .int a_p3])).length) Slot.unset).toArray = ls at hl ⊢
  have hl : lv_has ls 9 [(0, .ref h_t), (1, .int a_p1), (2, .int a_p2), (3, .int a_p3)] := hl
  show W p l e (rm_MD_sort (d + 1)) s m _ below meth c s.heap [] 0 0 _ _
  have hP : va_P (dC, dI) classes [(h_t, .inr (8, [.int z_thrown, .ref h_tape, .ref h_row, .ref h_out, .ref h_sought, .int z_size, .int z_outSize, .int z_soughtSize, .int z_documents, .int z_indexed, .int z_suffixes, .int z_rows, .ref h_start, .ref h_documentOf, .ref h_order, .ref h_rankOf, .ref h_same, .ref h_work, .ref h_next, .ref h_often, .ref h_has, .int z_lesser])), (h_start, .inl (cI, 66, .inl z_start)), (h_documentOf, .inl (cI, 16384, .inl z_documentOf)), (h_order, .inl (cI, 16384, .inl z_order)), (h_rankOf, .inl (cI, 16384, .inl z_rankOf)), (h_work, .inl (cI, 16384, .inl z_work))] s.heap := hP
  obtain ⟨H, hHe⟩ : ∃ H, H = s.heap := ⟨_, rfl⟩
  have hS : va_S A s.heap H [] := by rw [hHe]; exact hS
  rw [← hHe] at hP
  suffices hgoal : W p l e (rm_MD_sort (d + 1)) s m ([.ref h_t, .int a_p1, .int a_p2, .int a_p3] : List Value).toArray below meth c H [] 0 0 (MQ below (va_Qv (fun u : (Nat → Int32) × (Nat → Int32) => post u.1 u.2) (fun u t => cAft (dC, dI) classes (TYS cI cJ cB cZ) A [(h_t, .inr (8, [.int z_thrown, .ref h_tape, .ref h_row, .ref h_out, .ref h_sought, .int z_size, .int z_outSize, .int z_soughtSize, .int z_documents, .int z_indexed, .int z_suffixes, .int z_rows, .ref h_start, .ref h_documentOf, .ref h_order, .ref h_rankOf, .ref h_same, .ref h_work, .ref h_next, .ref h_often, .ref h_has, .int z_lesser])), (h_start, .inl (cI, 66, .inl z_start)), (h_documentOf, .inl (cI, 16384, .inl z_documentOf)), (h_order, .inl (cI, 16384, .inl u.1)), (h_rankOf, .inl (cI, 16384, .inl z_rankOf)), (h_work, .inl (cI, 16384, .inl u.2))] t) A) ([.ref h_t, .int a_p1, .int a_p2, .int a_p3] : List Value).toArray s 0 0 A) (F0 m 0 ls []) by rw [hHe] at hgoal; exact hgoal
  refine lv_iload_n hx hb d_MD_sort_0 rfl (lv_at hl 2 rfl) ?_
  refine lv_iload_n hx hb d_MD_sort_1 rfl (lv_at hl 1 rfl) ?_
  refine lv_isub hx hb d_MD_sort_2 ?_
  refine lv_iconst (v := 2) hx hb d_MD_sort_3 (by decide) ?_
  obtain ⟨hvt, hvf⟩ := hv
  refine lv_icmp_ge (tgt := 8) hx hb d_MD_sort_4 (by decide) (fun c8 => ?_) (fun c8 => ?_)
  · have hv := hvt c8
    refine lv_iload_n hx hb d_MD_sort_8 rfl (lv_at hl 1 rfl) ?_
    refine lv_iload_n hx hb d_MD_sort_9 rfl (lv_at hl 2 rfl) ?_
    refine lv_iadd hx hb d_MD_sort_10 ?_
    refine lv_iconst (v := 2) hx hb d_MD_sort_11 (by decide) ?_
    refine lv_idiv hx hb d_MD_sort_12 (by decide) ?_
    refine lv_istore (lv' := [(4, .int ((a_p1 + a_p2) / 2)), (0, .ref h_t), (1, .int a_p1), (2, .int a_p2), (3, .int a_p3)]) hx hb d_MD_sort_13 hl (by decide) rfl (fun ls hl => ?_)
    refine lv_aload_n hx hb d_MD_sort_15 rfl (lv_at hl 1 rfl) ?_
    refine lv_iload_n hx hb d_MD_sort_16 rfl (lv_at hl 2 rfl) ?_
    refine lv_iload hx hb d_MD_sort_17 (lv_at hl 0 rfl) ?_
    refine lv_iload_n hx hb d_MD_sort_19 rfl (lv_at hl 4 rfl) ?_
    refine cV_v (wr := []) (rest := []) (ih H.size z_thrown z_size z_outSize z_soughtSize z_documents z_indexed z_suffixes z_rows z_lesser z_start z_documentOf z_order z_rankOf z_work a_p1 ((a_p1 + a_p2) / 2) a_p3 _ hv) F (cw_V (fun _ h => h) 3 hw m_1197 m_1199 ms_30 m_9 m_1200 rfl rfl (by decide +kernel) ⟨by simp only [rm_MD_sort, rm_MD_sort]; omega, by simp only [rm_MD_sort, rm_MD_sort]; omega⟩) hK hP hD hS hA [0, 1, 2, 3, 4, 5] [] rfl rfl rfl rfl (by decide) 0 8 rfl rfl rfl hl.1 rfl (Nat.le_of_ble_eq_true rfl) d_MD_sort_20 ⟨Nat.le_of_ble_eq_true rfl, Nat.le_of_ble_eq_true rfl⟩ (fun u H locs hv hP hD hS => ?_)
    obtain ⟨u9_0, u9_1⟩ := u
    have hP : va_P (dC, dI) classes [(h_t, .inr (8, [.int z_thrown, .ref h_tape, .ref h_row, .ref h_out, .ref h_sought, .int z_size, .int z_outSize, .int z_soughtSize, .int z_documents, .int z_indexed, .int z_suffixes, .int z_rows, .ref h_start, .ref h_documentOf, .ref h_order, .ref h_rankOf, .ref h_same, .ref h_work, .ref h_next, .ref h_often, .ref h_has, .int z_lesser])), (h_start, .inl (cI, 66, .inl z_start)), (h_documentOf, .inl (cI, 16384, .inl z_documentOf)), (h_order, .inl (cI, 16384, .inl u9_0)), (h_rankOf, .inl (cI, 16384, .inl z_rankOf)), (h_work, .inl (cI, 16384, .inl u9_1))] H := P_sub hP [0, 1, 2, 3, 4, 5] rfl
    have hD : va_D A [(h_t, .inr (8, [.int z_thrown, .ref h_tape, .ref h_row, .ref h_out, .ref h_sought, .int z_size, .int z_outSize, .int z_soughtSize, .int z_documents, .int z_indexed, .int z_suffixes, .int z_rows, .ref h_start, .ref h_documentOf, .ref h_order, .ref h_rankOf, .ref h_same, .ref h_work, .ref h_next, .ref h_often, .ref h_has, .int z_lesser])), (h_start, .inl (cI, 66, .inl z_start)), (h_documentOf, .inl (cI, 16384, .inl z_documentOf)), (h_order, .inl (cI, 16384, .inl u9_0)), (h_rankOf, .inl (cI, 16384, .inl z_rankOf)), (h_work, .inl (cI, 16384, .inl u9_1))] := hD.sub [0, 1, 2, 3, 4, 5] rfl rfl
    refine lv_aload_n hx hb d_MD_sort_23 rfl (lv_at hl 1 rfl) ?_
    refine lv_iload hx hb d_MD_sort_24 (lv_at hl 0 rfl) ?_
    refine lv_iload_n hx hb d_MD_sort_26 rfl (lv_at hl 3 rfl) ?_
    refine lv_iload_n hx hb d_MD_sort_27 rfl (lv_at hl 4 rfl) ?_
    refine cV_v (wr := []) (rest := []) (ih H.size z_thrown z_size z_outSize z_soughtSize z_documents z_indexed z_suffixes z_rows z_lesser z_start z_documentOf u9_0 z_rankOf u9_1 ((a_p1 + a_p2) / 2) a_p2 a_p3 _ hv) F (cw_V (fun _ h => h) 3 hw m_1197 m_1199 ms_30 m_9 m_1200 rfl rfl (by decide +kernel) ⟨by simp only [rm_MD_sort, rm_MD_sort]; omega, by simp only [rm_MD_sort, rm_MD_sort]; omega⟩) hK hP hD hS hA [0, 1, 2, 3, 4, 5] [] rfl rfl rfl rfl (by decide) 0 8 rfl rfl rfl hl.1 rfl (Nat.le_of_ble_eq_true rfl) d_MD_sort_28 ⟨Nat.le_of_ble_eq_true rfl, Nat.le_of_ble_eq_true rfl⟩ (fun u H locs hv hP hD hS => ?_)
    obtain ⟨u10_0, u10_1⟩ := u
    have hP : va_P (dC, dI) classes [(h_t, .inr (8, [.int z_thrown, .ref h_tape, .ref h_row, .ref h_out, .ref h_sought, .int z_size, .int z_outSize, .int z_soughtSize, .int z_documents, .int z_indexed, .int z_suffixes, .int z_rows, .ref h_start, .ref h_documentOf, .ref h_order, .ref h_rankOf, .ref h_same, .ref h_work, .ref h_next, .ref h_often, .ref h_has, .int z_lesser])), (h_start, .inl (cI, 66, .inl z_start)), (h_documentOf, .inl (cI, 16384, .inl z_documentOf)), (h_order, .inl (cI, 16384, .inl u10_0)), (h_rankOf, .inl (cI, 16384, .inl z_rankOf)), (h_work, .inl (cI, 16384, .inl u10_1))] H := P_sub hP [0, 1, 2, 3, 4, 5] rfl
    have hD : va_D A [(h_t, .inr (8, [.int z_thrown, .ref h_tape, .ref h_row, .ref h_out, .ref h_sought, .int z_size, .int z_outSize, .int z_soughtSize, .int z_documents, .int z_indexed, .int z_suffixes, .int z_rows, .ref h_start, .ref h_documentOf, .ref h_order, .ref h_rankOf, .ref h_same, .ref h_work, .ref h_next, .ref h_often, .ref h_has, .int z_lesser])), (h_start, .inl (cI, 66, .inl z_start)), (h_documentOf, .inl (cI, 16384, .inl z_documentOf)), (h_order, .inl (cI, 16384, .inl u10_0)), (h_rankOf, .inl (cI, 16384, .inl z_rankOf)), (h_work, .inl (cI, 16384, .inl u10_1))] := hD.sub [0, 1, 2, 3, 4, 5] rfl rfl
    refine lv_iload_n hx hb d_MD_sort_31 rfl (lv_at hl 2 rfl) ?_
    refine lv_istore (lv' := [(5, .int a_p1), (4, .int ((a_p1 + a_p2) / 2)), (0, .ref h_t), (1, .int a_p1), (2, .int a_p2), (3, .int a_p3)]) hx hb d_MD_sort_32 hl (by decide) rfl (fun ls hl => ?_)
    refine lv_iload hx hb d_MD_sort_34 (lv_at hl 1 rfl) ?_
    refine lv_istore (lv' := [(6, .int ((a_p1 + a_p2) / 2)), (5, .int a_p1), (4, .int ((a_p1 + a_p2) / 2)), (0, .ref h_t), (1, .int a_p1), (2, .int a_p2), (3, .int a_p3)]) hx hb d_MD_sort_36 hl (by decide) rfl (fun ls hl => ?_)
    refine lv_iload_n hx hb d_MD_sort_38 rfl (lv_at hl 4 rfl) ?_
    refine lv_istore (lv' := [(7, .int a_p1), (6, .int ((a_p1 + a_p2) / 2)), (5, .int a_p1), (4, .int ((a_p1 + a_p2) / 2)), (0, .ref h_t), (1, .int a_p1), (2, .int a_p2), (3, .int a_p3)]) hx hb d_MD_sort_39 hl (by decide) rfl (fun ls hl => ?_)
    obtain ⟨j, hv⟩ := hv
    exact wk_MD_sort_41 F hr hlk hK hA j ((a_p1 + a_p2) / 2) a_p1 ((a_p1 + a_p2) / 2) a_p1 u10_0 u10_1 hv _ _ _ hP hD hS (lv_sub hl [4, 5, 6, 7, 3, 2, 1, 0] rfl)
  · have hv := hvf c8
    exact W.vret hx hb hr (fun t ht hW => ⟨⟨(z_order, z_work), rfl, hv, by rw [ht]; exact hP, va_K.moved hW.alike hK, hD⟩, hS.F ht⟩) hS.2.2 d_MD_sort_7

set_option maxHeartbeats 4000000 in
set_option maxRecDepth 100000 in
theorem wk_MD_alike_2 {p : Program} {l : Launch} {e : Env} {s : State} {m : MethodId} {below : List Frame} {meth : Method} {c : Code} {A : Nat → Prop} {dC : Nat → ClassId} {dI : Nat → Nat → Nat} {cI cJ cB cZ : ClassId} {h_t : Nat} {h_tape : Nat} {h_row : Nat} {h_out : Nat} {h_sought : Nat} {h_start : Nat} {h_documentOf : Nat} {h_order : Nat} {h_rankOf : Nat} {h_same : Nat} {h_work : Nat} {h_next : Nat} {h_often : Nat} {h_has : Nat} {a_p1 : Int32} {a_p2 : Int32} {z_row : Nat → Int32} {z_start : Nat → Int32} {z_documentOf : Nat → Int32} {z_thrown : Int32} {z_size : Int32} {z_outSize : Int32} {z_soughtSize : Int32} {z_documents : Int32} {z_indexed : Int32} {z_suffixes : Int32} {z_rows : Int32} {z_lesser : Int32} {post : Int32 → Prop} (F : CallFix p m c b_MD_alike 4 s ([.ref h_t, .int a_p1, .int a_p2] : List Value).toArray WT "SuffixIndexModel") (hr : meth.sig.returnType = (some .int)) (hlk : meth.locks = false) (hK : va_K (dC, dI) classes (TYS cI cJ cB cZ) s) (hA : ∀ q, s.heap.size ≤ q → A q) : ∀ (k : Nat) (x3 : Int32), vc_MD_alike_2 a_p1 a_p2 z_row z_start z_documentOf post k x3 → ∀ (H : Heap) (locs : List Loc) (ls : Array Slot), va_P (dC, dI) classes [(h_t, .inr (8, [.int z_thrown, .ref h_tape, .ref h_row, .ref h_out, .ref h_sought, .int z_size, .int z_outSize, .int z_soughtSize, .int z_documents, .int z_indexed, .int z_suffixes, .int z_rows, .ref h_start, .ref h_documentOf, .ref h_order, .ref h_rankOf, .ref h_same, .ref h_work, .ref h_next, .ref h_often, .ref h_has, .int z_lesser])), (h_row, .inl (cB, 16384, .inl z_row)), (h_start, .inl (cI, 66, .inl z_start)), (h_documentOf, .inl (cI, 16384, .inl z_documentOf))] H → va_D A [(h_t, .inr (8, [.int z_thrown, .ref h_tape, .ref h_row, .ref h_out, .ref h_sought, .int z_size, .int z_outSize, .int z_soughtSize, .int z_documents, .int z_indexed, .int z_suffixes, .int z_rows, .ref h_start, .ref h_documentOf, .ref h_order, .ref h_rankOf, .ref h_same, .ref h_work, .ref h_next, .ref h_often, .ref h_has, .int z_lesser])), (h_row, .inl (cB, 16384, .inl z_row)), (h_start, .inl (cI, 66, .inl z_start)), (h_documentOf, .inl (cI, 16384, .inl z_documentOf))] → va_S A s.heap H locs → lv_has ls 4 [(0, .ref h_t), (1, .int a_p1), (2, .int a_p2), (3, .int x3)] → W p l e rm_MD_alike s m ([.ref h_t, .int a_p1, .int a_p2] : List Value).toArray below meth c H locs 0 0 (MQ below (va_Qi (fun (r : Int32) (u : Unit) => post r ) (fun u t => cAft (dC, dI) classes (TYS cI cJ cB cZ) A [(h_t, .inr (8, [.int z_thrown, .ref h_tape, .ref h_row, .ref h_out, .ref h_sought, .int z_size, .int z_outSize, .int z_soughtSize, .int z_documents, .int z_indexed, .int z_suffixes, .int z_rows, .ref h_start, .ref h_documentOf, .ref h_order, .ref h_rankOf, .ref h_same, .ref h_work, .ref h_next, .ref h_often, .ref h_has, .int z_lesser])), (h_row, .inl (cB, 16384, .inl z_row)), (h_start, .inl (cI, 66, .inl z_start)), (h_documentOf, .inl (cI, 16384, .inl z_documentOf))] t) A) ([.ref h_t, .int a_p1, .int a_p2] : List Value).toArray s 0 0 A) (F0 m 2 ls []) := by
  obtain ⟨hx, hb, hml, hown, hw⟩ := id F
  intro k
  induction k with
  | zero =>
    intro x3 hv
    exact False.elim hv
  | succ k ih =>
    intro x3 hv H locs ls hP hD hS hl
    refine lv_iload_n hx hb d_MD_alike_2 rfl (lv_at hl 1 rfl) ?_
    refine lv_iload_n hx hb d_MD_alike_3 rfl (lv_at hl 3 rfl) ?_
    refine lv_iadd hx hb d_MD_alike_4 ?_
    refine lv_aload_n hx hb d_MD_alike_5 rfl (lv_at hl 0 rfl) ?_
    refine lv_iload_n hx hb d_MD_alike_6 rfl (lv_at hl 1 rfl) ?_
    refine cV_i (wr := [(h_row, .inl (cB, 16384, .inl z_row))]) (rest := [.int (a_p1 + x3)]) (c_MD_endOf l dC dI cI cJ cB cZ h_t h_tape h_row h_out h_sought h_start h_documentOf h_order h_rankOf h_same h_work h_next h_often h_has H.size z_thrown z_size z_outSize z_soughtSize z_documents z_indexed z_suffixes z_rows z_lesser z_start z_documentOf a_p1 _ hv) F (cw_V (fun _ h => h) 1 hw m_1209 m_1211 ms_33 m_9 m_1212 rfl rfl (by decide +kernel) ⟨by decide, by decide⟩) hK hP hD hS hA [0, 2, 3] [1] rfl rfl rfl rfl (by decide) 0 8 rfl rfl rfl hl.1 rfl (Nat.le_of_ble_eq_true rfl) d_MD_alike_7 ⟨Nat.le_of_ble_eq_true rfl, Nat.le_of_ble_eq_true rfl⟩ (fun r1 u H locs hv hP hD hS => ?_)
    have hP : va_P (dC, dI) classes [(h_t, .inr (8, [.int z_thrown, .ref h_tape, .ref h_row, .ref h_out, .ref h_sought, .int z_size, .int z_outSize, .int z_soughtSize, .int z_documents, .int z_indexed, .int z_suffixes, .int z_rows, .ref h_start, .ref h_documentOf, .ref h_order, .ref h_rankOf, .ref h_same, .ref h_work, .ref h_next, .ref h_often, .ref h_has, .int z_lesser])), (h_row, .inl (cB, 16384, .inl z_row)), (h_start, .inl (cI, 66, .inl z_start)), (h_documentOf, .inl (cI, 16384, .inl z_documentOf))] H := P_sub hP [1, 0, 2, 3] rfl
    have hD : va_D A [(h_t, .inr (8, [.int z_thrown, .ref h_tape, .ref h_row, .ref h_out, .ref h_sought, .int z_size, .int z_outSize, .int z_soughtSize, .int z_documents, .int z_indexed, .int z_suffixes, .int z_rows, .ref h_start, .ref h_documentOf, .ref h_order, .ref h_rankOf, .ref h_same, .ref h_work, .ref h_next, .ref h_often, .ref h_has, .int z_lesser])), (h_row, .inl (cB, 16384, .inl z_row)), (h_start, .inl (cI, 66, .inl z_start)), (h_documentOf, .inl (cI, 16384, .inl z_documentOf))] := hD.sub [1, 0, 2, 3] rfl rfl
    obtain ⟨hvt, hvf⟩ := hv
    refine lv_icmp_ge (tgt := 49) hx hb d_MD_alike_10 (by decide) (fun c2 => ?_) (fun c2 => ?_)
    · have hv := hvt c2
      refine lv_iload_n hx hb d_MD_alike_49 rfl (lv_at hl 3 rfl) ?_
      exact W.iret (v := x3) hx hb hr (fun t ht hW => ⟨⟨x3, (), rfl, hv, by rw [ht]; exact hP, va_K.moved hW.alike hK, hD⟩, hS.F ht⟩) hS.2.2 d_MD_alike_50
    · have hv := hvf c2
      refine lv_iload_n hx hb d_MD_alike_13 rfl (lv_at hl 2 rfl) ?_
      refine lv_iload_n hx hb d_MD_alike_14 rfl (lv_at hl 3 rfl) ?_
      refine lv_iadd hx hb d_MD_alike_15 ?_
      refine lv_aload_n hx hb d_MD_alike_16 rfl (lv_at hl 0 rfl) ?_
      refine lv_iload_n hx hb d_MD_alike_17 rfl (lv_at hl 2 rfl) ?_
      refine cV_i (wr := [(h_row, .inl (cB, 16384, .inl z_row))]) (rest := [.int (a_p2 + x3)]) (c_MD_endOf l dC dI cI cJ cB cZ h_t h_tape h_row h_out h_sought h_start h_documentOf h_order h_rankOf h_same h_work h_next h_often h_has H.size z_thrown z_size z_outSize z_soughtSize z_documents z_indexed z_suffixes z_rows z_lesser z_start z_documentOf a_p2 _ hv) F (cw_V (fun _ h => h) 1 hw m_1209 m_1211 ms_33 m_9 m_1212 rfl rfl (by decide +kernel) ⟨by decide, by decide⟩) hK hP hD hS hA [0, 2, 3] [1] rfl rfl rfl rfl (by decide) 0 8 rfl rfl rfl hl.1 rfl (Nat.le_of_ble_eq_true rfl) d_MD_alike_18 ⟨Nat.le_of_ble_eq_true rfl, Nat.le_of_ble_eq_true rfl⟩ (fun r3 u H locs hv hP hD hS => ?_)
      have hP : va_P (dC, dI) classes [(h_t, .inr (8, [.int z_thrown, .ref h_tape, .ref h_row, .ref h_out, .ref h_sought, .int z_size, .int z_outSize, .int z_soughtSize, .int z_documents, .int z_indexed, .int z_suffixes, .int z_rows, .ref h_start, .ref h_documentOf, .ref h_order, .ref h_rankOf, .ref h_same, .ref h_work, .ref h_next, .ref h_often, .ref h_has, .int z_lesser])), (h_row, .inl (cB, 16384, .inl z_row)), (h_start, .inl (cI, 66, .inl z_start)), (h_documentOf, .inl (cI, 16384, .inl z_documentOf))] H := P_sub hP [1, 0, 2, 3] rfl
      have hD : va_D A [(h_t, .inr (8, [.int z_thrown, .ref h_tape, .ref h_row, .ref h_out, .ref h_sought, .int z_size, .int z_outSize, .int z_soughtSize, .int z_documents, .int z_indexed, .int z_suffixes, .int z_rows, .ref h_start, .ref h_documentOf, .ref h_order, .ref h_rankOf, .ref h_same, .ref h_work, .ref h_next, .ref h_often, .ref h_has, .int z_lesser])), (h_row, .inl (cB, 16384, .inl z_row)), (h_start, .inl (cI, 66, .inl z_start)), (h_documentOf, .inl (cI, 16384, .inl z_documentOf))] := hD.sub [1, 0, 2, 3] rfl rfl
      obtain ⟨hvt, hvf⟩ := hv
      refine lv_icmp_ge (tgt := 49) hx hb d_MD_alike_21 (by decide) (fun c4 => ?_) (fun c4 => ?_)
      · have hv := hvt c4
        refine lv_iload_n hx hb d_MD_alike_49 rfl (lv_at hl 3 rfl) ?_
        exact W.iret (v := x3) hx hb hr (fun t ht hW => ⟨⟨x3, (), rfl, hv, by rw [ht]; exact hP, va_K.moved hW.alike hK, hD⟩, hS.F ht⟩) hS.2.2 d_MD_alike_50
      · have hv := hvf c4
        refine lv_aload_n hx hb d_MD_alike_24 rfl (lv_at hl 0 rfl) ?_
        refine va_get (D := (dC, dI)) (ci := 8) (v := .ref h_row) (C := "SuffixIndexModel") (T := F_MD) (N := 22) hx hb hw i_MD hown hK hP 0 rfl rfl 2 (by decide) (hw _ m_1103) (fun _ h9 => h9) rfl d_MD_alike_25 ?_
        refine lv_iload_n hx hb d_MD_alike_28 rfl (lv_at hl 1 rfl) ?_
        refine lv_iload_n hx hb d_MD_alike_29 rfl (lv_at hl 3 rfl) ?_
        refine lv_iadd hx hb d_MD_alike_30 ?_
        obtain ⟨hin, hv⟩ := hv
        refine va_bald hx hb hK hP 1 2 rfl rfl hin d_MD_alike_31 ?_
        refine lv_aload_n hx hb d_MD_alike_32 rfl (lv_at hl 0 rfl) ?_
        refine va_get (D := (dC, dI)) (ci := 8) (v := .ref h_row) (C := "SuffixIndexModel") (T := F_MD) (N := 22) hx hb hw i_MD hown hK hP 0 rfl rfl 2 (by decide) (hw _ m_1103) (fun _ h9 => h9) rfl d_MD_alike_33 ?_
        refine lv_iload_n hx hb d_MD_alike_36 rfl (lv_at hl 2 rfl) ?_
        refine lv_iload_n hx hb d_MD_alike_37 rfl (lv_at hl 3 rfl) ?_
        refine lv_iadd hx hb d_MD_alike_38 ?_
        obtain ⟨hin, hv⟩ := hv
        refine va_bald hx hb hK hP 1 2 rfl rfl hin d_MD_alike_39 ?_
        obtain ⟨hvt, hvf⟩ := hv
        refine lv_icmp_ne (tgt := 49) hx hb d_MD_alike_40 (by decide) (fun c5 => ?_) (fun c5 => ?_)
        · have hv := hvt c5
          refine lv_iload_n hx hb d_MD_alike_49 rfl (lv_at hl 3 rfl) ?_
          exact W.iret (v := x3) hx hb hr (fun t ht hW => ⟨⟨x3, (), rfl, hv, by rw [ht]; exact hP, va_K.moved hW.alike hK, hD⟩, hS.F ht⟩) hS.2.2 d_MD_alike_50
        · have hv := hvf c5
          refine lv_iinc (v := x3 + 1) (lv' := [(3, .int (x3 + 1)), (0, .ref h_t), (1, .int a_p1), (2, .int a_p2)]) hx hb d_MD_alike_43 hl (k := 3) rfl (iinc_v (by decide)) (by decide) rfl (fun ls hl => ?_)
          refine lv_goto (tgt := 2) hx hb d_MD_alike_46 (by decide) ?_
          exact ih (x3 + 1) hv _ _ _ hP hD hS (lv_sub hl [1, 2, 3, 0] rfl)

set_option maxHeartbeats 4000000 in
set_option maxRecDepth 100000 in
theorem c_MD_alike (l : Launch) (dC : Nat → ClassId) (dI : Nat → Nat → Nat) (cI cJ cB cZ : ClassId) (h_t : Nat) (h_tape : Nat) (h_row : Nat) (h_out : Nat) (h_sought : Nat) (h_start : Nat) (h_documentOf : Nat) (h_order : Nat) (h_rankOf : Nat) (h_same : Nat) (h_work : Nat) (h_next : Nat) (h_often : Nat) (h_has : Nat) (sz : Nat) (z_thrown : Int32) (z_size : Int32) (z_outSize : Int32) (z_soughtSize : Int32) (z_documents : Int32) (z_indexed : Int32) (z_suffixes : Int32) (z_rows : Int32) (z_lesser : Int32) (z_row : Nat → Int32) (z_start : Nat → Int32) (z_documentOf : Nat → Int32) (a_p1 : Int32) (a_p2 : Int32) (post : Int32 → Prop) (hv : vc_MD_alike a_p1 a_p2 z_row z_start z_documentOf post ) : Met l y_MD_alike (Cond.code y_MD_alike b_MD_alike 4 (some .int) :: WT) rm_MD_alike (cPre (dC, dI) classes (TYS cI cJ cB cZ) [(h_t, .inr (8, [.int z_thrown, .ref h_tape, .ref h_row, .ref h_out, .ref h_sought, .int z_size, .int z_outSize, .int z_soughtSize, .int z_documents, .int z_indexed, .int z_suffixes, .int z_rows, .ref h_start, .ref h_documentOf, .ref h_order, .ref h_rankOf, .ref h_same, .ref h_work, .ref h_next, .ref h_often, .ref h_has, .int z_lesser])), (h_row, .inl (cB, 16384, .inl z_row)), (h_start, .inl (cI, 66, .inl z_start)), (h_documentOf, .inl (cI, 16384, .inl z_documentOf))] sz [.ref h_t, .int a_p1, .int a_p2]) (va_Qi (fun (r : Int32) (u : Unit) => post r ) (fun u t => cAft (dC, dI) classes (TYS cI cJ cB cZ) (va_A [(h_t, .inr (8, [.int z_thrown, .ref h_tape, .ref h_row, .ref h_out, .ref h_sought, .int z_size, .int z_outSize, .int z_soughtSize, .int z_documents, .int z_indexed, .int z_suffixes, .int z_rows, .ref h_start, .ref h_documentOf, .ref h_order, .ref h_rankOf, .ref h_same, .ref h_work, .ref h_next, .ref h_often, .ref h_has, .int z_lesser])), (h_row, .inl (cB, 16384, .inl z_row)), (h_start, .inl (cI, 66, .inl z_start)), (h_documentOf, .inl (cI, 16384, .inl z_documentOf))] sz) [(h_t, .inr (8, [.int z_thrown, .ref h_tape, .ref h_row, .ref h_out, .ref h_sought, .int z_size, .int z_outSize, .int z_soughtSize, .int z_documents, .int z_indexed, .int z_suffixes, .int z_rows, .ref h_start, .ref h_documentOf, .ref h_order, .ref h_rankOf, .ref h_same, .ref h_work, .ref h_next, .ref h_often, .ref h_has, .int z_lesser])), (h_row, .inl (cB, 16384, .inl z_row)), (h_start, .inl (cI, 66, .inl z_start)), (h_documentOf, .inl (cI, 16384, .inl z_documentOf))] t) (va_A [(h_t, .inr (8, [.int z_thrown, .ref h_tape, .ref h_row, .ref h_out, .ref h_sought, .int z_size, .int z_outSize, .int z_soughtSize, .int z_documents, .int z_indexed, .int z_suffixes, .int z_rows, .ref h_start, .ref h_documentOf, .ref h_order, .ref h_rankOf, .ref h_same, .ref h_work, .ref h_next, .ref h_often, .ref h_has, .int z_lesser])), (h_row, .inl (cB, 16384, .inl z_row)), (h_start, .inl (cI, 66, .inl z_start)), (h_documentOf, .inl (cI, 16384, .inl z_documentOf))] sz)) 0 0 (va_A [(h_t, .inr (8, [.int z_thrown, .ref h_tape, .ref h_row, .ref h_out, .ref h_sought, .int z_size, .int z_outSize, .int z_soughtSize, .int z_documents, .int z_indexed, .int z_suffixes, .int z_rows, .ref h_start, .ref h_documentOf, .ref h_order, .ref h_rankOf, .ref h_same, .ref h_work, .ref h_next, .ref h_often, .ref h_has, .int z_lesser])), (h_row, .inl (cB, 16384, .inl z_row)), (h_start, .inl (cI, 66, .inl z_start)), (h_documentOf, .inl (cI, 16384, .inl z_documentOf))] sz) := by
  refine Met.ofW (cc := b_MD_alike) (maxL := 4) (ret := (some .int)) (by decide) rfl ?_
  intro p e s m args below meth c s₁ B hml hq
  obtain ⟨rfl, hsz, hP, hK, hD0⟩ := hq
  have hts := atoms_spec (ws := Cond.code y_MD_alike b_MD_alike 4 (some .int) :: WT) B.pre
  have hw : ∀ w ∈ WT, w.before ([.ref h_t, .int a_p1, .int a_p2] : List Value).toArray s = true := fun w h => hts w (List.mem_cons_of_mem _ h)
  have hx := B.exec
  have hb := B.bytes
  have hr := B.returns
  have hlk := B.notSynchronized
  have hown : s.vm.findClass "SuffixIndexModel" = some m.cls := findClass_of_methodNamed B.named
  have F : CallFix p m c b_MD_alike 4 s ([.ref h_t, .int a_p1, .int a_p2] : List Value).toArray WT "SuffixIndexModel" := ⟨hx, hb, hml, hown, hw⟩
  subst hsz
  have hD := hD0.self (sz := s.heap.size)
  generalize hAe : va_A [(h_t, .inr (8, [.int z_thrown, .ref h_tape, .ref h_row, .ref h_out, .ref h_sought, .int z_size, .int z_outSize, .int z_soughtSize, .int z_documents, .int z_indexed, .int z_suffixes, .int z_rows, .ref h_start, .ref h_documentOf, .ref h_order, .ref h_rankOf, .ref h_same, .ref h_work, .ref h_next, .ref h_often, .ref h_has, .int z_lesser])), (h_row, .inl (cB, 16384, .inl z_row)), (h_start, .inl (cI, 66, .inl z_start)), (h_documentOf, .inl (cI, 16384, .inl z_documentOf))] s.heap.size = A at hD ⊢
  have hA : ∀ q : Nat, s.heap.size ≤ q → A q := fun q h => by rw [← hAe]; exact Or.inr h
  have hS : va_S A s.heap s.heap [] := va_S.rf
  have hl := lv_entry ([.ref h_t, .int a_p1, .int a_p2]) (n := 4) (Nat.le_of_ble_eq_true rfl)
  rw [lg_entry_eq]
  generalize (lg_sl ([.ref h_t, .int a_p1, .int a_p2]) ++ List.replicate (4 - (lg_sl ([.ref h_t, .int a_p1, .int a_p2])).length) Slot.unset).toArray = ls at hl ⊢
  have hl : lv_has ls 4 [(0, .ref h_t), (1, .int a_p1), (2, .int a_p2)] := hl
  show W p l e rm_MD_alike s m _ below meth c s.heap [] 0 0 _ _
  have hP : va_P (dC, dI) classes [(h_t, .inr (8, [.int z_thrown, .ref h_tape, .ref h_row, .ref h_out, .ref h_sought, .int z_size, .int z_outSize, .int z_soughtSize, .int z_documents, .int z_indexed, .int z_suffixes, .int z_rows, .ref h_start, .ref h_documentOf, .ref h_order, .ref h_rankOf, .ref h_same, .ref h_work, .ref h_next, .ref h_often, .ref h_has, .int z_lesser])), (h_row, .inl (cB, 16384, .inl z_row)), (h_start, .inl (cI, 66, .inl z_start)), (h_documentOf, .inl (cI, 16384, .inl z_documentOf))] s.heap := hP
  obtain ⟨H, hHe⟩ : ∃ H, H = s.heap := ⟨_, rfl⟩
  have hS : va_S A s.heap H [] := by rw [hHe]; exact hS
  rw [← hHe] at hP
  suffices hgoal : W p l e rm_MD_alike s m ([.ref h_t, .int a_p1, .int a_p2] : List Value).toArray below meth c H [] 0 0 (MQ below (va_Qi (fun (r : Int32) (u : Unit) => post r ) (fun u t => cAft (dC, dI) classes (TYS cI cJ cB cZ) A [(h_t, .inr (8, [.int z_thrown, .ref h_tape, .ref h_row, .ref h_out, .ref h_sought, .int z_size, .int z_outSize, .int z_soughtSize, .int z_documents, .int z_indexed, .int z_suffixes, .int z_rows, .ref h_start, .ref h_documentOf, .ref h_order, .ref h_rankOf, .ref h_same, .ref h_work, .ref h_next, .ref h_often, .ref h_has, .int z_lesser])), (h_row, .inl (cB, 16384, .inl z_row)), (h_start, .inl (cI, 66, .inl z_start)), (h_documentOf, .inl (cI, 16384, .inl z_documentOf))] t) A) ([.ref h_t, .int a_p1, .int a_p2] : List Value).toArray s 0 0 A) (F0 m 0 ls []) by rw [hHe] at hgoal; exact hgoal
  refine lv_iconst (v := 0) hx hb d_MD_alike_0 (by decide) ?_
  refine lv_istore_n (lv' := [(3, .int 0), (0, .ref h_t), (1, .int a_p1), (2, .int a_p2)]) hx hb d_MD_alike_1 rfl hl (by decide) rfl (fun ls hl => ?_)
  obtain ⟨j, hv⟩ := hv
  exact wk_MD_alike_2 F hr hlk hK hA j 0 hv _ _ _ hP hD hS (lv_sub hl [1, 2, 3, 0] rfl)

set_option maxHeartbeats 4000000 in
set_option maxRecDepth 100000 in
theorem wk_MD_build_140 {p : Program} {l : Launch} {e : Env} {s : State} {m : MethodId} {below : List Frame} {meth : Method} {c : Code} {A : Nat → Prop} {dC : Nat → ClassId} {dI : Nat → Nat → Nat} {cI cJ cB cZ : ClassId} {h_t : Nat} {h_tape : Nat} {h_row : Nat} {h_out : Nat} {h_sought : Nat} {h_start : Nat} {h_documentOf : Nat} {h_order : Nat} {h_rankOf : Nat} {h_same : Nat} {h_work : Nat} {h_next : Nat} {h_often : Nat} {h_has : Nat} {z_documents : Int32} {z_rows : Int32} {z_row : Nat → Int32} {z_start : Nat → Int32} {z_documentOf : Nat → Int32} {z_size : Int32} {z_outSize : Int32} {z_lesser : Int32} {post : Int32 → Int32 → Int32 → Int32 → Int32 → (Nat → Int32) → (Nat → Int32) → (Nat → Int32) → (Nat → Int32) → (Nat → Int32) → Prop} {K99 : Int32 → Int32 → Int32 → Int32 → Int32 → Int32 → Int32 → (Nat → Int32) → (Nat → Int32) → (Nat → Int32) → (Nat → Int32) → (Nat → Int32) → Prop} (F : CallFix p m c b_MD_build 5 s ([.ref h_t] : List Value).toArray WT "SuffixIndexModel") (hr : meth.sig.returnType = (some .int)) (hlk : meth.locks = false) (hK : va_K (dC, dI) classes (TYS cI cJ cB cZ) s) (hA : ∀ q, s.heap.size ≤ q → A q) (hK99 : ∀ (x2 : Int32) (x3 : Int32) (x4 : Int32) (z_thrown : Int32) (z_soughtSize : Int32) (z_indexed : Int32) (z_suffixes : Int32) (z_order : Nat → Int32) (z_rankOf : Nat → Int32) (z_same : Nat → Int32) (z_work : Nat → Int32) (z_next : Nat → Int32), K99 x2 x3 x4 z_thrown z_soughtSize z_indexed z_suffixes z_order z_rankOf z_same z_work z_next → ∀ (H : Heap) (locs : List Loc) (ls : Array Slot), va_P (dC, dI) classes [(h_t, .inr (8, [.int z_thrown, .ref h_tape, .ref h_row, .ref h_out, .ref h_sought, .int z_size, .int z_outSize, .int z_soughtSize, .int z_documents, .int z_indexed, .int z_suffixes, .int z_rows, .ref h_start, .ref h_documentOf, .ref h_order, .ref h_rankOf, .ref h_same, .ref h_work, .ref h_next, .ref h_often, .ref h_has, .int z_lesser])), (h_row, .inl (cB, 16384, .inl z_row)), (h_start, .inl (cI, 66, .inl z_start)), (h_documentOf, .inl (cI, 16384, .inl z_documentOf)), (h_order, .inl (cI, 16384, .inl z_order)), (h_rankOf, .inl (cI, 16384, .inl z_rankOf)), (h_same, .inl (cI, 16385, .inl z_same)), (h_work, .inl (cI, 16384, .inl z_work)), (h_next, .inl (cI, 16384, .inl z_next))] H → va_D A [(h_t, .inr (8, [.int z_thrown, .ref h_tape, .ref h_row, .ref h_out, .ref h_sought, .int z_size, .int z_outSize, .int z_soughtSize, .int z_documents, .int z_indexed, .int z_suffixes, .int z_rows, .ref h_start, .ref h_documentOf, .ref h_order, .ref h_rankOf, .ref h_same, .ref h_work, .ref h_next, .ref h_often, .ref h_has, .int z_lesser])), (h_row, .inl (cB, 16384, .inl z_row)), (h_start, .inl (cI, 66, .inl z_start)), (h_documentOf, .inl (cI, 16384, .inl z_documentOf)), (h_order, .inl (cI, 16384, .inl z_order)), (h_rankOf, .inl (cI, 16384, .inl z_rankOf)), (h_same, .inl (cI, 16385, .inl z_same)), (h_work, .inl (cI, 16384, .inl z_work)), (h_next, .inl (cI, 16384, .inl z_next))] → va_S A s.heap H locs → lv_has ls 5 [(0, .ref h_t), (2, .int x2), (3, .int x3), (4, .int x4)] → W p l e rm_MD_build s m ([.ref h_t] : List Value).toArray below meth c H locs 0 0 (MQ below (va_Qi (fun (r : Int32) (u : Int32 × Int32 × Int32 × Int32 × (Nat → Int32) × (Nat → Int32) × (Nat → Int32) × (Nat → Int32) × (Nat → Int32)) => post r u.1 u.2.1 u.2.2.1 u.2.2.2.1 u.2.2.2.2.1 u.2.2.2.2.2.1 u.2.2.2.2.2.2.1 u.2.2.2.2.2.2.2.1 u.2.2.2.2.2.2.2.2) (fun u t => cAft (dC, dI) classes (TYS cI cJ cB cZ) A [(h_t, .inr (8, [.int u.1, .ref h_tape, .ref h_row, .ref h_out, .ref h_sought, .int z_size, .int z_outSize, .int u.2.1, .int z_documents, .int u.2.2.1, .int u.2.2.2.1, .int z_rows, .ref h_start, .ref h_documentOf, .ref h_order, .ref h_rankOf, .ref h_same, .ref h_work, .ref h_next, .ref h_often, .ref h_has, .int z_lesser])), (h_row, .inl (cB, 16384, .inl z_row)), (h_start, .inl (cI, 66, .inl z_start)), (h_documentOf, .inl (cI, 16384, .inl z_documentOf)), (h_order, .inl (cI, 16384, .inl u.2.2.2.2.1)), (h_rankOf, .inl (cI, 16384, .inl u.2.2.2.2.2.1)), (h_same, .inl (cI, 16385, .inl u.2.2.2.2.2.2.1)), (h_work, .inl (cI, 16384, .inl u.2.2.2.2.2.2.2.1)), (h_next, .inl (cI, 16384, .inl u.2.2.2.2.2.2.2.2))] t) A) ([.ref h_t] : List Value).toArray s 0 0 A) (F0 m 99 ls [])) : ∀ (x2 : Int32) (x3 : Int32) (x4 : Int32) (z_thrown : Int32) (z_soughtSize : Int32) (z_indexed : Int32) (z_suffixes : Int32) (z_order : Nat → Int32) (z_rankOf : Nat → Int32) (z_same : Nat → Int32) (z_work : Nat → Int32) (z_next : Nat → Int32), vc_MD_build_140 z_documents z_rows z_row z_start z_documentOf post K99 x2 x3 x4 z_thrown z_soughtSize z_indexed z_suffixes z_order z_rankOf z_same z_work z_next → ∀ (H : Heap) (locs : List Loc) (ls : Array Slot), va_P (dC, dI) classes [(h_t, .inr (8, [.int z_thrown, .ref h_tape, .ref h_row, .ref h_out, .ref h_sought, .int z_size, .int z_outSize, .int z_soughtSize, .int z_documents, .int z_indexed, .int z_suffixes, .int z_rows, .ref h_start, .ref h_documentOf, .ref h_order, .ref h_rankOf, .ref h_same, .ref h_work, .ref h_next, .ref h_often, .ref h_has, .int z_lesser])), (h_row, .inl (cB, 16384, .inl z_row)), (h_start, .inl (cI, 66, .inl z_start)), (h_documentOf, .inl (cI, 16384, .inl z_documentOf)), (h_order, .inl (cI, 16384, .inl z_order)), (h_rankOf, .inl (cI, 16384, .inl z_rankOf)), (h_same, .inl (cI, 16385, .inl z_same)), (h_work, .inl (cI, 16384, .inl z_work)), (h_next, .inl (cI, 16384, .inl z_next))] H → va_D A [(h_t, .inr (8, [.int z_thrown, .ref h_tape, .ref h_row, .ref h_out, .ref h_sought, .int z_size, .int z_outSize, .int z_soughtSize, .int z_documents, .int z_indexed, .int z_suffixes, .int z_rows, .ref h_start, .ref h_documentOf, .ref h_order, .ref h_rankOf, .ref h_same, .ref h_work, .ref h_next, .ref h_often, .ref h_has, .int z_lesser])), (h_row, .inl (cB, 16384, .inl z_row)), (h_start, .inl (cI, 66, .inl z_start)), (h_documentOf, .inl (cI, 16384, .inl z_documentOf)), (h_order, .inl (cI, 16384, .inl z_order)), (h_rankOf, .inl (cI, 16384, .inl z_rankOf)), (h_same, .inl (cI, 16385, .inl z_same)), (h_work, .inl (cI, 16384, .inl z_work)), (h_next, .inl (cI, 16384, .inl z_next))] → va_S A s.heap H locs → lv_has ls 5 [(0, .ref h_t), (2, .int x2), (3, .int x3), (4, .int x4)] → W p l e rm_MD_build s m ([.ref h_t] : List Value).toArray below meth c H locs 0 0 (MQ below (va_Qi (fun (r : Int32) (u : Int32 × Int32 × Int32 × Int32 × (Nat → Int32) × (Nat → Int32) × (Nat → Int32) × (Nat → Int32) × (Nat → Int32)) => post r u.1 u.2.1 u.2.2.1 u.2.2.2.1 u.2.2.2.2.1 u.2.2.2.2.2.1 u.2.2.2.2.2.2.1 u.2.2.2.2.2.2.2.1 u.2.2.2.2.2.2.2.2) (fun u t => cAft (dC, dI) classes (TYS cI cJ cB cZ) A [(h_t, .inr (8, [.int u.1, .ref h_tape, .ref h_row, .ref h_out, .ref h_sought, .int z_size, .int z_outSize, .int u.2.1, .int z_documents, .int u.2.2.1, .int u.2.2.2.1, .int z_rows, .ref h_start, .ref h_documentOf, .ref h_order, .ref h_rankOf, .ref h_same, .ref h_work, .ref h_next, .ref h_often, .ref h_has, .int z_lesser])), (h_row, .inl (cB, 16384, .inl z_row)), (h_start, .inl (cI, 66, .inl z_start)), (h_documentOf, .inl (cI, 16384, .inl z_documentOf)), (h_order, .inl (cI, 16384, .inl u.2.2.2.2.1)), (h_rankOf, .inl (cI, 16384, .inl u.2.2.2.2.2.1)), (h_same, .inl (cI, 16385, .inl u.2.2.2.2.2.2.1)), (h_work, .inl (cI, 16384, .inl u.2.2.2.2.2.2.2.1)), (h_next, .inl (cI, 16384, .inl u.2.2.2.2.2.2.2.2))] t) A) ([.ref h_t] : List Value).toArray s 0 0 A) (F0 m 140 ls []) := by
  obtain ⟨hx, hb, hml, hown, hw⟩ := id F
  intro x2 x3 x4 z_thrown z_soughtSize z_indexed z_suffixes z_order z_rankOf z_same z_work z_next hv H locs ls hP hD hS hl
  refine lv_aload_n hx hb d_MD_build_140 rfl (lv_at hl 0 rfl) ?_
  refine va_get (D := (dC, dI)) (ci := 8) (v := .ref h_next) (C := "SuffixIndexModel") (T := F_MD) (N := 22) hx hb hw i_MD hown hK hP 0 rfl rfl 18 (by decide) (hw _ m_1119) (fun _ h9 => h9) rfl d_MD_build_141 ?_
  refine lv_aload_n hx hb d_MD_build_144 rfl (lv_at hl 0 rfl) ?_
  refine va_get (D := (dC, dI)) (ci := 8) (v := .ref h_order) (C := "SuffixIndexModel") (T := F_MD) (N := 22) hx hb hw i_MD hown hK hP 0 rfl rfl 14 (by decide) (hw _ m_1115) (fun _ h9 => h9) rfl d_MD_build_145 ?_
  refine lv_iload hx hb d_MD_build_148 (lv_at hl 3 rfl) ?_
  obtain ⟨hin, hv⟩ := hv
  refine va_iald hx hb hK hP 4 0 rfl rfl hin d_MD_build_150 ?_
  refine lv_iload_n hx hb d_MD_build_151 rfl (lv_at hl 2 rfl) ?_
  obtain ⟨hin, hv⟩ := hv
  refine va_iast hx hb hK hP hD hS 8 0 rfl rfl hin d_MD_build_152 (fun H locs hP hD hS => ?_)
  have hP : va_P (dC, dI) classes [(h_t, .inr (8, [.int z_thrown, .ref h_tape, .ref h_row, .ref h_out, .ref h_sought, .int z_size, .int z_outSize, .int z_soughtSize, .int z_documents, .int z_indexed, .int z_suffixes, .int z_rows, .ref h_start, .ref h_documentOf, .ref h_order, .ref h_rankOf, .ref h_same, .ref h_work, .ref h_next, .ref h_often, .ref h_has, .int z_lesser])), (h_row, .inl (cB, 16384, .inl z_row)), (h_start, .inl (cI, 66, .inl z_start)), (h_documentOf, .inl (cI, 16384, .inl z_documentOf)), (h_order, .inl (cI, 16384, .inl z_order)), (h_rankOf, .inl (cI, 16384, .inl z_rankOf)), (h_same, .inl (cI, 16385, .inl z_same)), (h_work, .inl (cI, 16384, .inl z_work)), (h_next, .inl (cI, 16384, .inl (upd z_next (z_order x4.toNatClampNeg).toNatClampNeg x3)))] H := hP
  have hD : va_D A [(h_t, .inr (8, [.int z_thrown, .ref h_tape, .ref h_row, .ref h_out, .ref h_sought, .int z_size, .int z_outSize, .int z_soughtSize, .int z_documents, .int z_indexed, .int z_suffixes, .int z_rows, .ref h_start, .ref h_documentOf, .ref h_order, .ref h_rankOf, .ref h_same, .ref h_work, .ref h_next, .ref h_often, .ref h_has, .int z_lesser])), (h_row, .inl (cB, 16384, .inl z_row)), (h_start, .inl (cI, 66, .inl z_start)), (h_documentOf, .inl (cI, 16384, .inl z_documentOf)), (h_order, .inl (cI, 16384, .inl z_order)), (h_rankOf, .inl (cI, 16384, .inl z_rankOf)), (h_same, .inl (cI, 16385, .inl z_same)), (h_work, .inl (cI, 16384, .inl z_work)), (h_next, .inl (cI, 16384, .inl (upd z_next (z_order x4.toNatClampNeg).toNatClampNeg x3)))] := hD
  refine lv_iinc (v := x4 + 1) (lv' := [(4, .int (x4 + 1)), (0, .ref h_t), (2, .int x2), (3, .int x3)]) hx hb d_MD_build_153 hl (k := 3) rfl (iinc_v (by decide)) (by decide) rfl (fun ls hl => ?_)
  refine lv_goto (tgt := 99) hx hb d_MD_build_156 (by decide) ?_
  exact hK99 x2 x3 (x4 + 1) z_thrown z_soughtSize z_indexed z_suffixes z_order z_rankOf z_same z_work (upd z_next (z_order x4.toNatClampNeg).toNatClampNeg x3) hv _ _ _ hP hD hS (lv_sub hl [1, 2, 3, 0] rfl)

set_option maxHeartbeats 4000000 in
set_option maxRecDepth 100000 in
theorem wk_MD_build_204 {p : Program} {l : Launch} {e : Env} {s : State} {m : MethodId} {below : List Frame} {meth : Method} {c : Code} {A : Nat → Prop} {dC : Nat → ClassId} {dI : Nat → Nat → Nat} {cI cJ cB cZ : ClassId} {h_t : Nat} {h_tape : Nat} {h_row : Nat} {h_out : Nat} {h_sought : Nat} {h_start : Nat} {h_documentOf : Nat} {h_order : Nat} {h_rankOf : Nat} {h_same : Nat} {h_work : Nat} {h_next : Nat} {h_often : Nat} {h_has : Nat} {z_documents : Int32} {z_rows : Int32} {z_row : Nat → Int32} {z_start : Nat → Int32} {z_documentOf : Nat → Int32} {z_size : Int32} {z_outSize : Int32} {z_lesser : Int32} {post : Int32 → Int32 → Int32 → Int32 → Int32 → (Nat → Int32) → (Nat → Int32) → (Nat → Int32) → (Nat → Int32) → (Nat → Int32) → Prop} {K80 : Int32 → Int32 → Int32 → Int32 → Int32 → Int32 → (Nat → Int32) → (Nat → Int32) → (Nat → Int32) → (Nat → Int32) → (Nat → Int32) → Prop} (F : CallFix p m c b_MD_build 5 s ([.ref h_t] : List Value).toArray WT "SuffixIndexModel") (hr : meth.sig.returnType = (some .int)) (hlk : meth.locks = false) (hK : va_K (dC, dI) classes (TYS cI cJ cB cZ) s) (hA : ∀ q, s.heap.size ≤ q → A q) (hK80 : ∀ (x1 : Int32) (x2 : Int32) (z_thrown : Int32) (z_soughtSize : Int32) (z_indexed : Int32) (z_suffixes : Int32) (z_order : Nat → Int32) (z_rankOf : Nat → Int32) (z_same : Nat → Int32) (z_work : Nat → Int32) (z_next : Nat → Int32), K80 x1 x2 z_thrown z_soughtSize z_indexed z_suffixes z_order z_rankOf z_same z_work z_next → ∀ (H : Heap) (locs : List Loc) (ls : Array Slot), va_P (dC, dI) classes [(h_t, .inr (8, [.int z_thrown, .ref h_tape, .ref h_row, .ref h_out, .ref h_sought, .int z_size, .int z_outSize, .int z_soughtSize, .int z_documents, .int z_indexed, .int z_suffixes, .int z_rows, .ref h_start, .ref h_documentOf, .ref h_order, .ref h_rankOf, .ref h_same, .ref h_work, .ref h_next, .ref h_often, .ref h_has, .int z_lesser])), (h_row, .inl (cB, 16384, .inl z_row)), (h_start, .inl (cI, 66, .inl z_start)), (h_documentOf, .inl (cI, 16384, .inl z_documentOf)), (h_order, .inl (cI, 16384, .inl z_order)), (h_rankOf, .inl (cI, 16384, .inl z_rankOf)), (h_same, .inl (cI, 16385, .inl z_same)), (h_work, .inl (cI, 16384, .inl z_work)), (h_next, .inl (cI, 16384, .inl z_next))] H → va_D A [(h_t, .inr (8, [.int z_thrown, .ref h_tape, .ref h_row, .ref h_out, .ref h_sought, .int z_size, .int z_outSize, .int z_soughtSize, .int z_documents, .int z_indexed, .int z_suffixes, .int z_rows, .ref h_start, .ref h_documentOf, .ref h_order, .ref h_rankOf, .ref h_same, .ref h_work, .ref h_next, .ref h_often, .ref h_has, .int z_lesser])), (h_row, .inl (cB, 16384, .inl z_row)), (h_start, .inl (cI, 66, .inl z_start)), (h_documentOf, .inl (cI, 16384, .inl z_documentOf)), (h_order, .inl (cI, 16384, .inl z_order)), (h_rankOf, .inl (cI, 16384, .inl z_rankOf)), (h_same, .inl (cI, 16385, .inl z_same)), (h_work, .inl (cI, 16384, .inl z_work)), (h_next, .inl (cI, 16384, .inl z_next))] → va_S A s.heap H locs → lv_has ls 5 [(0, .ref h_t), (1, .int x1), (2, .int x2)] → W p l e rm_MD_build s m ([.ref h_t] : List Value).toArray below meth c H locs 0 0 (MQ below (va_Qi (fun (r : Int32) (u : Int32 × Int32 × Int32 × Int32 × (Nat → Int32) × (Nat → Int32) × (Nat → Int32) × (Nat → Int32) × (Nat → Int32)) => post r u.1 u.2.1 u.2.2.1 u.2.2.2.1 u.2.2.2.2.1 u.2.2.2.2.2.1 u.2.2.2.2.2.2.1 u.2.2.2.2.2.2.2.1 u.2.2.2.2.2.2.2.2) (fun u t => cAft (dC, dI) classes (TYS cI cJ cB cZ) A [(h_t, .inr (8, [.int u.1, .ref h_tape, .ref h_row, .ref h_out, .ref h_sought, .int z_size, .int z_outSize, .int u.2.1, .int z_documents, .int u.2.2.1, .int u.2.2.2.1, .int z_rows, .ref h_start, .ref h_documentOf, .ref h_order, .ref h_rankOf, .ref h_same, .ref h_work, .ref h_next, .ref h_often, .ref h_has, .int z_lesser])), (h_row, .inl (cB, 16384, .inl z_row)), (h_start, .inl (cI, 66, .inl z_start)), (h_documentOf, .inl (cI, 16384, .inl z_documentOf)), (h_order, .inl (cI, 16384, .inl u.2.2.2.2.1)), (h_rankOf, .inl (cI, 16384, .inl u.2.2.2.2.2.1)), (h_same, .inl (cI, 16385, .inl u.2.2.2.2.2.2.1)), (h_work, .inl (cI, 16384, .inl u.2.2.2.2.2.2.2.1)), (h_next, .inl (cI, 16384, .inl u.2.2.2.2.2.2.2.2))] t) A) ([.ref h_t] : List Value).toArray s 0 0 A) (F0 m 80 ls [])) : ∀ (x2 : Int32) (k0 : Int32) (z_thrown : Int32) (z_soughtSize : Int32) (z_indexed : Int32) (z_suffixes : Int32) (z_order : Nat → Int32) (z_rankOf : Nat → Int32) (z_same : Nat → Int32) (z_work : Nat → Int32) (z_next : Nat → Int32), vc_MD_build_204 z_documents z_rows z_row z_start z_documentOf post K80 x2 k0 z_thrown z_soughtSize z_indexed z_suffixes z_order z_rankOf z_same z_work z_next → ∀ (H : Heap) (locs : List Loc) (ls : Array Slot), va_P (dC, dI) classes [(h_t, .inr (8, [.int z_thrown, .ref h_tape, .ref h_row, .ref h_out, .ref h_sought, .int z_size, .int z_outSize, .int z_soughtSize, .int z_documents, .int z_indexed, .int z_suffixes, .int z_rows, .ref h_start, .ref h_documentOf, .ref h_order, .ref h_rankOf, .ref h_same, .ref h_work, .ref h_next, .ref h_often, .ref h_has, .int z_lesser])), (h_row, .inl (cB, 16384, .inl z_row)), (h_start, .inl (cI, 66, .inl z_start)), (h_documentOf, .inl (cI, 16384, .inl z_documentOf)), (h_order, .inl (cI, 16384, .inl z_order)), (h_rankOf, .inl (cI, 16384, .inl z_rankOf)), (h_same, .inl (cI, 16385, .inl z_same)), (h_work, .inl (cI, 16384, .inl z_work)), (h_next, .inl (cI, 16384, .inl z_next))] H → va_D A [(h_t, .inr (8, [.int z_thrown, .ref h_tape, .ref h_row, .ref h_out, .ref h_sought, .int z_size, .int z_outSize, .int z_soughtSize, .int z_documents, .int z_indexed, .int z_suffixes, .int z_rows, .ref h_start, .ref h_documentOf, .ref h_order, .ref h_rankOf, .ref h_same, .ref h_work, .ref h_next, .ref h_often, .ref h_has, .int z_lesser])), (h_row, .inl (cB, 16384, .inl z_row)), (h_start, .inl (cI, 66, .inl z_start)), (h_documentOf, .inl (cI, 16384, .inl z_documentOf)), (h_order, .inl (cI, 16384, .inl z_order)), (h_rankOf, .inl (cI, 16384, .inl z_rankOf)), (h_same, .inl (cI, 16385, .inl z_same)), (h_work, .inl (cI, 16384, .inl z_work)), (h_next, .inl (cI, 16384, .inl z_next))] → va_S A s.heap H locs → lv_has ls 5 [(0, .ref h_t), (2, .int x2)] → W p l e rm_MD_build s m ([.ref h_t] : List Value).toArray below meth c H locs 0 0 (MQ below (va_Qi (fun (r : Int32) (u : Int32 × Int32 × Int32 × Int32 × (Nat → Int32) × (Nat → Int32) × (Nat → Int32) × (Nat → Int32) × (Nat → Int32)) => post r u.1 u.2.1 u.2.2.1 u.2.2.2.1 u.2.2.2.2.1 u.2.2.2.2.2.1 u.2.2.2.2.2.2.1 u.2.2.2.2.2.2.2.1 u.2.2.2.2.2.2.2.2) (fun u t => cAft (dC, dI) classes (TYS cI cJ cB cZ) A [(h_t, .inr (8, [.int u.1, .ref h_tape, .ref h_row, .ref h_out, .ref h_sought, .int z_size, .int z_outSize, .int u.2.1, .int z_documents, .int u.2.2.1, .int u.2.2.2.1, .int z_rows, .ref h_start, .ref h_documentOf, .ref h_order, .ref h_rankOf, .ref h_same, .ref h_work, .ref h_next, .ref h_often, .ref h_has, .int z_lesser])), (h_row, .inl (cB, 16384, .inl z_row)), (h_start, .inl (cI, 66, .inl z_start)), (h_documentOf, .inl (cI, 16384, .inl z_documentOf)), (h_order, .inl (cI, 16384, .inl u.2.2.2.2.1)), (h_rankOf, .inl (cI, 16384, .inl u.2.2.2.2.2.1)), (h_same, .inl (cI, 16385, .inl u.2.2.2.2.2.2.1)), (h_work, .inl (cI, 16384, .inl u.2.2.2.2.2.2.2.1)), (h_next, .inl (cI, 16384, .inl u.2.2.2.2.2.2.2.2))] t) A) ([.ref h_t] : List Value).toArray s 0 0 A) (F0 m 204 ls [.int k0]) := by
  obtain ⟨hx, hb, hml, hown, hw⟩ := id F
  intro x2 k0 z_thrown z_soughtSize z_indexed z_suffixes z_order z_rankOf z_same z_work z_next hv H locs ls hP hD hS hl
  refine lv_istore_n (lv' := [(1, .int k0), (0, .ref h_t), (2, .int x2)]) hx hb d_MD_build_204 rfl hl (by decide) rfl (fun ls hl => ?_)
  refine lv_iload_n hx hb d_MD_build_205 rfl (lv_at hl 2 rfl) ?_
  refine lv_iconst (v := 2) hx hb d_MD_build_206 (by decide) ?_
  refine lv_imul hx hb d_MD_build_207 ?_
  refine lv_istore_n (lv' := [(2, .int (x2 * 2)), (1, .int k0), (0, .ref h_t)]) hx hb d_MD_build_208 rfl hl (by decide) rfl (fun ls hl => ?_)
  refine lv_goto (tgt := 80) hx hb d_MD_build_209 (by decide) ?_
  exact hK80 k0 (x2 * 2) z_thrown z_soughtSize z_indexed z_suffixes z_order z_rankOf z_same z_work z_next hv _ _ _ hP hD hS (lv_sub hl [2, 1, 0] rfl)

set_option maxHeartbeats 4000000 in
set_option maxRecDepth 100000 in
theorem wk_MD_build_162 {p : Program} {l : Launch} {e : Env} {s : State} {m : MethodId} {below : List Frame} {meth : Method} {c : Code} {A : Nat → Prop} {dC : Nat → ClassId} {dI : Nat → Nat → Nat} {cI cJ cB cZ : ClassId} {h_t : Nat} {h_tape : Nat} {h_row : Nat} {h_out : Nat} {h_sought : Nat} {h_start : Nat} {h_documentOf : Nat} {h_order : Nat} {h_rankOf : Nat} {h_same : Nat} {h_work : Nat} {h_next : Nat} {h_often : Nat} {h_has : Nat} {z_documents : Int32} {z_rows : Int32} {z_row : Nat → Int32} {z_start : Nat → Int32} {z_documentOf : Nat → Int32} {z_size : Int32} {z_outSize : Int32} {z_lesser : Int32} {post : Int32 → Int32 → Int32 → Int32 → Int32 → (Nat → Int32) → (Nat → Int32) → (Nat → Int32) → (Nat → Int32) → (Nat → Int32) → Prop} {K80 : Int32 → Int32 → Int32 → Int32 → Int32 → Int32 → (Nat → Int32) → (Nat → Int32) → (Nat → Int32) → (Nat → Int32) → (Nat → Int32) → Prop} (F : CallFix p m c b_MD_build 5 s ([.ref h_t] : List Value).toArray WT "SuffixIndexModel") (hr : meth.sig.returnType = (some .int)) (hlk : meth.locks = false) (hK : va_K (dC, dI) classes (TYS cI cJ cB cZ) s) (hA : ∀ q, s.heap.size ≤ q → A q) (hK80 : ∀ (x1 : Int32) (x2 : Int32) (z_thrown : Int32) (z_soughtSize : Int32) (z_indexed : Int32) (z_suffixes : Int32) (z_order : Nat → Int32) (z_rankOf : Nat → Int32) (z_same : Nat → Int32) (z_work : Nat → Int32) (z_next : Nat → Int32), K80 x1 x2 z_thrown z_soughtSize z_indexed z_suffixes z_order z_rankOf z_same z_work z_next → ∀ (H : Heap) (locs : List Loc) (ls : Array Slot), va_P (dC, dI) classes [(h_t, .inr (8, [.int z_thrown, .ref h_tape, .ref h_row, .ref h_out, .ref h_sought, .int z_size, .int z_outSize, .int z_soughtSize, .int z_documents, .int z_indexed, .int z_suffixes, .int z_rows, .ref h_start, .ref h_documentOf, .ref h_order, .ref h_rankOf, .ref h_same, .ref h_work, .ref h_next, .ref h_often, .ref h_has, .int z_lesser])), (h_row, .inl (cB, 16384, .inl z_row)), (h_start, .inl (cI, 66, .inl z_start)), (h_documentOf, .inl (cI, 16384, .inl z_documentOf)), (h_order, .inl (cI, 16384, .inl z_order)), (h_rankOf, .inl (cI, 16384, .inl z_rankOf)), (h_same, .inl (cI, 16385, .inl z_same)), (h_work, .inl (cI, 16384, .inl z_work)), (h_next, .inl (cI, 16384, .inl z_next))] H → va_D A [(h_t, .inr (8, [.int z_thrown, .ref h_tape, .ref h_row, .ref h_out, .ref h_sought, .int z_size, .int z_outSize, .int z_soughtSize, .int z_documents, .int z_indexed, .int z_suffixes, .int z_rows, .ref h_start, .ref h_documentOf, .ref h_order, .ref h_rankOf, .ref h_same, .ref h_work, .ref h_next, .ref h_often, .ref h_has, .int z_lesser])), (h_row, .inl (cB, 16384, .inl z_row)), (h_start, .inl (cI, 66, .inl z_start)), (h_documentOf, .inl (cI, 16384, .inl z_documentOf)), (h_order, .inl (cI, 16384, .inl z_order)), (h_rankOf, .inl (cI, 16384, .inl z_rankOf)), (h_same, .inl (cI, 16385, .inl z_same)), (h_work, .inl (cI, 16384, .inl z_work)), (h_next, .inl (cI, 16384, .inl z_next))] → va_S A s.heap H locs → lv_has ls 5 [(0, .ref h_t), (1, .int x1), (2, .int x2)] → W p l e rm_MD_build s m ([.ref h_t] : List Value).toArray below meth c H locs 0 0 (MQ below (va_Qi (fun (r : Int32) (u : Int32 × Int32 × Int32 × Int32 × (Nat → Int32) × (Nat → Int32) × (Nat → Int32) × (Nat → Int32) × (Nat → Int32)) => post r u.1 u.2.1 u.2.2.1 u.2.2.2.1 u.2.2.2.2.1 u.2.2.2.2.2.1 u.2.2.2.2.2.2.1 u.2.2.2.2.2.2.2.1 u.2.2.2.2.2.2.2.2) (fun u t => cAft (dC, dI) classes (TYS cI cJ cB cZ) A [(h_t, .inr (8, [.int u.1, .ref h_tape, .ref h_row, .ref h_out, .ref h_sought, .int z_size, .int z_outSize, .int u.2.1, .int z_documents, .int u.2.2.1, .int u.2.2.2.1, .int z_rows, .ref h_start, .ref h_documentOf, .ref h_order, .ref h_rankOf, .ref h_same, .ref h_work, .ref h_next, .ref h_often, .ref h_has, .int z_lesser])), (h_row, .inl (cB, 16384, .inl z_row)), (h_start, .inl (cI, 66, .inl z_start)), (h_documentOf, .inl (cI, 16384, .inl z_documentOf)), (h_order, .inl (cI, 16384, .inl u.2.2.2.2.1)), (h_rankOf, .inl (cI, 16384, .inl u.2.2.2.2.2.1)), (h_same, .inl (cI, 16385, .inl u.2.2.2.2.2.2.1)), (h_work, .inl (cI, 16384, .inl u.2.2.2.2.2.2.2.1)), (h_next, .inl (cI, 16384, .inl u.2.2.2.2.2.2.2.2))] t) A) ([.ref h_t] : List Value).toArray s 0 0 A) (F0 m 80 ls [])) : ∀ (k : Nat) (x2 : Int32) (x4 : Int32) (z_thrown : Int32) (z_soughtSize : Int32) (z_indexed : Int32) (z_suffixes : Int32) (z_order : Nat → Int32) (z_rankOf : Nat → Int32) (z_same : Nat → Int32) (z_work : Nat → Int32) (z_next : Nat → Int32), vc_MD_build_162 z_documents z_rows z_row z_start z_documentOf post K80 k x2 x4 z_thrown z_soughtSize z_indexed z_suffixes z_order z_rankOf z_same z_work z_next → ∀ (H : Heap) (locs : List Loc) (ls : Array Slot), va_P (dC, dI) classes [(h_t, .inr (8, [.int z_thrown, .ref h_tape, .ref h_row, .ref h_out, .ref h_sought, .int z_size, .int z_outSize, .int z_soughtSize, .int z_documents, .int z_indexed, .int z_suffixes, .int z_rows, .ref h_start, .ref h_documentOf, .ref h_order, .ref h_rankOf, .ref h_same, .ref h_work, .ref h_next, .ref h_often, .ref h_has, .int z_lesser])), (h_row, .inl (cB, 16384, .inl z_row)), (h_start, .inl (cI, 66, .inl z_start)), (h_documentOf, .inl (cI, 16384, .inl z_documentOf)), (h_order, .inl (cI, 16384, .inl z_order)), (h_rankOf, .inl (cI, 16384, .inl z_rankOf)), (h_same, .inl (cI, 16385, .inl z_same)), (h_work, .inl (cI, 16384, .inl z_work)), (h_next, .inl (cI, 16384, .inl z_next))] H → va_D A [(h_t, .inr (8, [.int z_thrown, .ref h_tape, .ref h_row, .ref h_out, .ref h_sought, .int z_size, .int z_outSize, .int z_soughtSize, .int z_documents, .int z_indexed, .int z_suffixes, .int z_rows, .ref h_start, .ref h_documentOf, .ref h_order, .ref h_rankOf, .ref h_same, .ref h_work, .ref h_next, .ref h_often, .ref h_has, .int z_lesser])), (h_row, .inl (cB, 16384, .inl z_row)), (h_start, .inl (cI, 66, .inl z_start)), (h_documentOf, .inl (cI, 16384, .inl z_documentOf)), (h_order, .inl (cI, 16384, .inl z_order)), (h_rankOf, .inl (cI, 16384, .inl z_rankOf)), (h_same, .inl (cI, 16385, .inl z_same)), (h_work, .inl (cI, 16384, .inl z_work)), (h_next, .inl (cI, 16384, .inl z_next))] → va_S A s.heap H locs → lv_has ls 5 [(0, .ref h_t), (2, .int x2), (4, .int x4)] → W p l e rm_MD_build s m ([.ref h_t] : List Value).toArray below meth c H locs 0 0 (MQ below (va_Qi (fun (r : Int32) (u : Int32 × Int32 × Int32 × Int32 × (Nat → Int32) × (Nat → Int32) × (Nat → Int32) × (Nat → Int32) × (Nat → Int32)) => post r u.1 u.2.1 u.2.2.1 u.2.2.2.1 u.2.2.2.2.1 u.2.2.2.2.2.1 u.2.2.2.2.2.2.1 u.2.2.2.2.2.2.2.1 u.2.2.2.2.2.2.2.2) (fun u t => cAft (dC, dI) classes (TYS cI cJ cB cZ) A [(h_t, .inr (8, [.int u.1, .ref h_tape, .ref h_row, .ref h_out, .ref h_sought, .int z_size, .int z_outSize, .int u.2.1, .int z_documents, .int u.2.2.1, .int u.2.2.2.1, .int z_rows, .ref h_start, .ref h_documentOf, .ref h_order, .ref h_rankOf, .ref h_same, .ref h_work, .ref h_next, .ref h_often, .ref h_has, .int z_lesser])), (h_row, .inl (cB, 16384, .inl z_row)), (h_start, .inl (cI, 66, .inl z_start)), (h_documentOf, .inl (cI, 16384, .inl z_documentOf)), (h_order, .inl (cI, 16384, .inl u.2.2.2.2.1)), (h_rankOf, .inl (cI, 16384, .inl u.2.2.2.2.2.1)), (h_same, .inl (cI, 16385, .inl u.2.2.2.2.2.2.1)), (h_work, .inl (cI, 16384, .inl u.2.2.2.2.2.2.2.1)), (h_next, .inl (cI, 16384, .inl u.2.2.2.2.2.2.2.2))] t) A) ([.ref h_t] : List Value).toArray s 0 0 A) (F0 m 162 ls []) := by
  obtain ⟨hx, hb, hml, hown, hw⟩ := id F
  intro k
  induction k with
  | zero =>
    intro x2 x4 z_thrown z_soughtSize z_indexed z_suffixes z_order z_rankOf z_same z_work z_next hv
    exact False.elim hv
  | succ k ih =>
    intro x2 x4 z_thrown z_soughtSize z_indexed z_suffixes z_order z_rankOf z_same z_work z_next hv H locs ls hP hD hS hl
    refine lv_iload hx hb d_MD_build_162 (lv_at hl 2 rfl) ?_
    refine lv_aload_n hx hb d_MD_build_164 rfl (lv_at hl 0 rfl) ?_
    refine va_get (D := (dC, dI)) (ci := 8) (v := .int z_suffixes) (C := "SuffixIndexModel") (T := F_MD) (N := 22) hx hb hw i_MD hown hK hP 0 rfl rfl 10 (by decide) (hw _ m_1111) (fun _ h9 => h9) rfl d_MD_build_165 ?_
    obtain ⟨hvt, hvf⟩ := hv
    refine lv_icmp_ge (tgt := 191) hx hb d_MD_build_168 (by decide) (fun c1 => ?_) (fun c1 => ?_)
    · have hv := hvt c1
      refine lv_iload_n hx hb d_MD_build_191 rfl (lv_at hl 1 rfl) ?_
      refine lv_aload_n hx hb d_MD_build_192 rfl (lv_at hl 0 rfl) ?_
      refine va_get (D := (dC, dI)) (ci := 8) (v := .int z_suffixes) (C := "SuffixIndexModel") (T := F_MD) (N := 22) hx hb hw i_MD hown hK hP 0 rfl rfl 10 (by decide) (hw _ m_1111) (fun _ h9 => h9) rfl d_MD_build_193 ?_
      obtain ⟨hvt, hvf⟩ := hv
      refine lv_icmp_ge (tgt := 203) hx hb d_MD_build_196 (by decide) (fun c2 => ?_) (fun c2 => ?_)
      · have hv := hvt c2
        refine lv_iconst (v := 0) hx hb d_MD_build_203 (by decide) ?_
        exact wk_MD_build_204 F hr hlk hK hA hK80 x2 0 z_thrown z_soughtSize z_indexed z_suffixes z_order z_rankOf z_same z_work z_next hv _ _ _ hP hD hS (lv_sub hl [0, 1] rfl)
      · have hv := hvf c2
        refine lv_iconst (v := 1) hx hb d_MD_build_199 (by decide) ?_
        refine lv_goto (tgt := 204) hx hb d_MD_build_200 (by decide) ?_
        exact wk_MD_build_204 F hr hlk hK hA hK80 x2 1 z_thrown z_soughtSize z_indexed z_suffixes z_order z_rankOf z_same z_work z_next hv _ _ _ hP hD hS (lv_sub hl [0, 1] rfl)
    · have hv := hvf c1
      refine lv_aload_n hx hb d_MD_build_171 rfl (lv_at hl 0 rfl) ?_
      refine va_get (D := (dC, dI)) (ci := 8) (v := .ref h_rankOf) (C := "SuffixIndexModel") (T := F_MD) (N := 22) hx hb hw i_MD hown hK hP 0 rfl rfl 15 (by decide) (hw _ m_1116) (fun _ h9 => h9) rfl d_MD_build_172 ?_
      refine lv_iload hx hb d_MD_build_175 (lv_at hl 2 rfl) ?_
      refine lv_aload_n hx hb d_MD_build_177 rfl (lv_at hl 0 rfl) ?_
      refine va_get (D := (dC, dI)) (ci := 8) (v := .ref h_next) (C := "SuffixIndexModel") (T := F_MD) (N := 22) hx hb hw i_MD hown hK hP 0 rfl rfl 18 (by decide) (hw _ m_1119) (fun _ h9 => h9) rfl d_MD_build_178 ?_
      refine lv_iload hx hb d_MD_build_181 (lv_at hl 2 rfl) ?_
      obtain ⟨hin, hv⟩ := hv
      refine va_iald hx hb hK hP 8 0 rfl rfl hin d_MD_build_183 ?_
      obtain ⟨hin, hv⟩ := hv
      refine va_iast hx hb hK hP hD hS 5 0 rfl rfl hin d_MD_build_184 (fun H locs hP hD hS => ?_)
      have hP : va_P (dC, dI) classes [(h_t, .inr (8, [.int z_thrown, .ref h_tape, .ref h_row, .ref h_out, .ref h_sought, .int z_size, .int z_outSize, .int z_soughtSize, .int z_documents, .int z_indexed, .int z_suffixes, .int z_rows, .ref h_start, .ref h_documentOf, .ref h_order, .ref h_rankOf, .ref h_same, .ref h_work, .ref h_next, .ref h_often, .ref h_has, .int z_lesser])), (h_row, .inl (cB, 16384, .inl z_row)), (h_start, .inl (cI, 66, .inl z_start)), (h_documentOf, .inl (cI, 16384, .inl z_documentOf)), (h_order, .inl (cI, 16384, .inl z_order)), (h_rankOf, .inl (cI, 16384, .inl (upd z_rankOf x4.toNatClampNeg (z_next x4.toNatClampNeg)))), (h_same, .inl (cI, 16385, .inl z_same)), (h_work, .inl (cI, 16384, .inl z_work)), (h_next, .inl (cI, 16384, .inl z_next))] H := hP
      have hD : va_D A [(h_t, .inr (8, [.int z_thrown, .ref h_tape, .ref h_row, .ref h_out, .ref h_sought, .int z_size, .int z_outSize, .int z_soughtSize, .int z_documents, .int z_indexed, .int z_suffixes, .int z_rows, .ref h_start, .ref h_documentOf, .ref h_order, .ref h_rankOf, .ref h_same, .ref h_work, .ref h_next, .ref h_often, .ref h_has, .int z_lesser])), (h_row, .inl (cB, 16384, .inl z_row)), (h_start, .inl (cI, 66, .inl z_start)), (h_documentOf, .inl (cI, 16384, .inl z_documentOf)), (h_order, .inl (cI, 16384, .inl z_order)), (h_rankOf, .inl (cI, 16384, .inl (upd z_rankOf x4.toNatClampNeg (z_next x4.toNatClampNeg)))), (h_same, .inl (cI, 16385, .inl z_same)), (h_work, .inl (cI, 16384, .inl z_work)), (h_next, .inl (cI, 16384, .inl z_next))] := hD
      refine lv_iinc (v := x4 + 1) (lv' := [(4, .int (x4 + 1)), (0, .ref h_t), (2, .int x2)]) hx hb d_MD_build_185 hl (k := 2) rfl (iinc_v (by decide)) (by decide) rfl (fun ls hl => ?_)
      refine lv_goto (tgt := 162) hx hb d_MD_build_188 (by decide) ?_
      exact ih x2 (x4 + 1) z_thrown z_soughtSize z_indexed z_suffixes z_order (upd z_rankOf x4.toNatClampNeg (z_next x4.toNatClampNeg)) z_same z_work z_next hv _ _ _ hP hD hS (lv_sub hl [1, 2, 0] rfl)

set_option maxHeartbeats 4000000 in
set_option maxRecDepth 100000 in
theorem wk_MD_build_99 {p : Program} {l : Launch} {e : Env} {s : State} {m : MethodId} {below : List Frame} {meth : Method} {c : Code} {A : Nat → Prop} {dC : Nat → ClassId} {dI : Nat → Nat → Nat} {cI cJ cB cZ : ClassId} {h_t : Nat} {h_tape : Nat} {h_row : Nat} {h_out : Nat} {h_sought : Nat} {h_start : Nat} {h_documentOf : Nat} {h_order : Nat} {h_rankOf : Nat} {h_same : Nat} {h_work : Nat} {h_next : Nat} {h_often : Nat} {h_has : Nat} {z_documents : Int32} {z_rows : Int32} {z_row : Nat → Int32} {z_start : Nat → Int32} {z_documentOf : Nat → Int32} {z_size : Int32} {z_outSize : Int32} {z_lesser : Int32} {post : Int32 → Int32 → Int32 → Int32 → Int32 → (Nat → Int32) → (Nat → Int32) → (Nat → Int32) → (Nat → Int32) → (Nat → Int32) → Prop} {K80 : Int32 → Int32 → Int32 → Int32 → Int32 → Int32 → (Nat → Int32) → (Nat → Int32) → (Nat → Int32) → (Nat → Int32) → (Nat → Int32) → Prop} (F : CallFix p m c b_MD_build 5 s ([.ref h_t] : List Value).toArray WT "SuffixIndexModel") (hr : meth.sig.returnType = (some .int)) (hlk : meth.locks = false) (hK : va_K (dC, dI) classes (TYS cI cJ cB cZ) s) (hA : ∀ q, s.heap.size ≤ q → A q) (hK80 : ∀ (x1 : Int32) (x2 : Int32) (z_thrown : Int32) (z_soughtSize : Int32) (z_indexed : Int32) (z_suffixes : Int32) (z_order : Nat → Int32) (z_rankOf : Nat → Int32) (z_same : Nat → Int32) (z_work : Nat → Int32) (z_next : Nat → Int32), K80 x1 x2 z_thrown z_soughtSize z_indexed z_suffixes z_order z_rankOf z_same z_work z_next → ∀ (H : Heap) (locs : List Loc) (ls : Array Slot), va_P (dC, dI) classes [(h_t, .inr (8, [.int z_thrown, .ref h_tape, .ref h_row, .ref h_out, .ref h_sought, .int z_size, .int z_outSize, .int z_soughtSize, .int z_documents, .int z_indexed, .int z_suffixes, .int z_rows, .ref h_start, .ref h_documentOf, .ref h_order, .ref h_rankOf, .ref h_same, .ref h_work, .ref h_next, .ref h_often, .ref h_has, .int z_lesser])), (h_row, .inl (cB, 16384, .inl z_row)), (h_start, .inl (cI, 66, .inl z_start)), (h_documentOf, .inl (cI, 16384, .inl z_documentOf)), (h_order, .inl (cI, 16384, .inl z_order)), (h_rankOf, .inl (cI, 16384, .inl z_rankOf)), (h_same, .inl (cI, 16385, .inl z_same)), (h_work, .inl (cI, 16384, .inl z_work)), (h_next, .inl (cI, 16384, .inl z_next))] H → va_D A [(h_t, .inr (8, [.int z_thrown, .ref h_tape, .ref h_row, .ref h_out, .ref h_sought, .int z_size, .int z_outSize, .int z_soughtSize, .int z_documents, .int z_indexed, .int z_suffixes, .int z_rows, .ref h_start, .ref h_documentOf, .ref h_order, .ref h_rankOf, .ref h_same, .ref h_work, .ref h_next, .ref h_often, .ref h_has, .int z_lesser])), (h_row, .inl (cB, 16384, .inl z_row)), (h_start, .inl (cI, 66, .inl z_start)), (h_documentOf, .inl (cI, 16384, .inl z_documentOf)), (h_order, .inl (cI, 16384, .inl z_order)), (h_rankOf, .inl (cI, 16384, .inl z_rankOf)), (h_same, .inl (cI, 16385, .inl z_same)), (h_work, .inl (cI, 16384, .inl z_work)), (h_next, .inl (cI, 16384, .inl z_next))] → va_S A s.heap H locs → lv_has ls 5 [(0, .ref h_t), (1, .int x1), (2, .int x2)] → W p l e rm_MD_build s m ([.ref h_t] : List Value).toArray below meth c H locs 0 0 (MQ below (va_Qi (fun (r : Int32) (u : Int32 × Int32 × Int32 × Int32 × (Nat → Int32) × (Nat → Int32) × (Nat → Int32) × (Nat → Int32) × (Nat → Int32)) => post r u.1 u.2.1 u.2.2.1 u.2.2.2.1 u.2.2.2.2.1 u.2.2.2.2.2.1 u.2.2.2.2.2.2.1 u.2.2.2.2.2.2.2.1 u.2.2.2.2.2.2.2.2) (fun u t => cAft (dC, dI) classes (TYS cI cJ cB cZ) A [(h_t, .inr (8, [.int u.1, .ref h_tape, .ref h_row, .ref h_out, .ref h_sought, .int z_size, .int z_outSize, .int u.2.1, .int z_documents, .int u.2.2.1, .int u.2.2.2.1, .int z_rows, .ref h_start, .ref h_documentOf, .ref h_order, .ref h_rankOf, .ref h_same, .ref h_work, .ref h_next, .ref h_often, .ref h_has, .int z_lesser])), (h_row, .inl (cB, 16384, .inl z_row)), (h_start, .inl (cI, 66, .inl z_start)), (h_documentOf, .inl (cI, 16384, .inl z_documentOf)), (h_order, .inl (cI, 16384, .inl u.2.2.2.2.1)), (h_rankOf, .inl (cI, 16384, .inl u.2.2.2.2.2.1)), (h_same, .inl (cI, 16385, .inl u.2.2.2.2.2.2.1)), (h_work, .inl (cI, 16384, .inl u.2.2.2.2.2.2.2.1)), (h_next, .inl (cI, 16384, .inl u.2.2.2.2.2.2.2.2))] t) A) ([.ref h_t] : List Value).toArray s 0 0 A) (F0 m 80 ls [])) : ∀ (k : Nat) (x2 : Int32) (x3 : Int32) (x4 : Int32) (z_thrown : Int32) (z_soughtSize : Int32) (z_indexed : Int32) (z_suffixes : Int32) (z_order : Nat → Int32) (z_rankOf : Nat → Int32) (z_same : Nat → Int32) (z_work : Nat → Int32) (z_next : Nat → Int32), vc_MD_build_99 z_documents z_rows z_row z_start z_documentOf post K80 k x2 x3 x4 z_thrown z_soughtSize z_indexed z_suffixes z_order z_rankOf z_same z_work z_next → ∀ (H : Heap) (locs : List Loc) (ls : Array Slot), va_P (dC, dI) classes [(h_t, .inr (8, [.int z_thrown, .ref h_tape, .ref h_row, .ref h_out, .ref h_sought, .int z_size, .int z_outSize, .int z_soughtSize, .int z_documents, .int z_indexed, .int z_suffixes, .int z_rows, .ref h_start, .ref h_documentOf, .ref h_order, .ref h_rankOf, .ref h_same, .ref h_work, .ref h_next, .ref h_often, .ref h_has, .int z_lesser])), (h_row, .inl (cB, 16384, .inl z_row)), (h_start, .inl (cI, 66, .inl z_start)), (h_documentOf, .inl (cI, 16384, .inl z_documentOf)), (h_order, .inl (cI, 16384, .inl z_order)), (h_rankOf, .inl (cI, 16384, .inl z_rankOf)), (h_same, .inl (cI, 16385, .inl z_same)), (h_work, .inl (cI, 16384, .inl z_work)), (h_next, .inl (cI, 16384, .inl z_next))] H → va_D A [(h_t, .inr (8, [.int z_thrown, .ref h_tape, .ref h_row, .ref h_out, .ref h_sought, .int z_size, .int z_outSize, .int z_soughtSize, .int z_documents, .int z_indexed, .int z_suffixes, .int z_rows, .ref h_start, .ref h_documentOf, .ref h_order, .ref h_rankOf, .ref h_same, .ref h_work, .ref h_next, .ref h_often, .ref h_has, .int z_lesser])), (h_row, .inl (cB, 16384, .inl z_row)), (h_start, .inl (cI, 66, .inl z_start)), (h_documentOf, .inl (cI, 16384, .inl z_documentOf)), (h_order, .inl (cI, 16384, .inl z_order)), (h_rankOf, .inl (cI, 16384, .inl z_rankOf)), (h_same, .inl (cI, 16385, .inl z_same)), (h_work, .inl (cI, 16384, .inl z_work)), (h_next, .inl (cI, 16384, .inl z_next))] → va_S A s.heap H locs → lv_has ls 5 [(0, .ref h_t), (2, .int x2), (3, .int x3), (4, .int x4)] → W p l e rm_MD_build s m ([.ref h_t] : List Value).toArray below meth c H locs 0 0 (MQ below (va_Qi (fun (r : Int32) (u : Int32 × Int32 × Int32 × Int32 × (Nat → Int32) × (Nat → Int32) × (Nat → Int32) × (Nat → Int32) × (Nat → Int32)) => post r u.1 u.2.1 u.2.2.1 u.2.2.2.1 u.2.2.2.2.1 u.2.2.2.2.2.1 u.2.2.2.2.2.2.1 u.2.2.2.2.2.2.2.1 u.2.2.2.2.2.2.2.2) (fun u t => cAft (dC, dI) classes (TYS cI cJ cB cZ) A [(h_t, .inr (8, [.int u.1, .ref h_tape, .ref h_row, .ref h_out, .ref h_sought, .int z_size, .int z_outSize, .int u.2.1, .int z_documents, .int u.2.2.1, .int u.2.2.2.1, .int z_rows, .ref h_start, .ref h_documentOf, .ref h_order, .ref h_rankOf, .ref h_same, .ref h_work, .ref h_next, .ref h_often, .ref h_has, .int z_lesser])), (h_row, .inl (cB, 16384, .inl z_row)), (h_start, .inl (cI, 66, .inl z_start)), (h_documentOf, .inl (cI, 16384, .inl z_documentOf)), (h_order, .inl (cI, 16384, .inl u.2.2.2.2.1)), (h_rankOf, .inl (cI, 16384, .inl u.2.2.2.2.2.1)), (h_same, .inl (cI, 16385, .inl u.2.2.2.2.2.2.1)), (h_work, .inl (cI, 16384, .inl u.2.2.2.2.2.2.2.1)), (h_next, .inl (cI, 16384, .inl u.2.2.2.2.2.2.2.2))] t) A) ([.ref h_t] : List Value).toArray s 0 0 A) (F0 m 99 ls []) := by
  obtain ⟨hx, hb, hml, hown, hw⟩ := id F
  intro k
  induction k with
  | zero =>
    intro x2 x3 x4 z_thrown z_soughtSize z_indexed z_suffixes z_order z_rankOf z_same z_work z_next hv
    exact False.elim hv
  | succ k ih =>
    intro x2 x3 x4 z_thrown z_soughtSize z_indexed z_suffixes z_order z_rankOf z_same z_work z_next hv H locs ls hP hD hS hl
    refine lv_iload hx hb d_MD_build_99 (lv_at hl 3 rfl) ?_
    refine lv_aload_n hx hb d_MD_build_101 rfl (lv_at hl 0 rfl) ?_
    refine va_get (D := (dC, dI)) (ci := 8) (v := .int z_suffixes) (C := "SuffixIndexModel") (T := F_MD) (N := 22) hx hb hw i_MD hown hK hP 0 rfl rfl 10 (by decide) (hw _ m_1111) (fun _ h9 => h9) rfl d_MD_build_102 ?_
    obtain ⟨hvt, hvf⟩ := hv
    refine lv_icmp_ge (tgt := 159) hx hb d_MD_build_105 (by decide) (fun c3 => ?_) (fun c3 => ?_)
    · have hv := hvt c3
      refine lv_iconst (v := 0) hx hb d_MD_build_159 (by decide) ?_
      refine lv_istore (lv' := [(4, .int 0), (0, .ref h_t), (2, .int x2), (3, .int x3)]) hx hb d_MD_build_160 hl (by decide) rfl (fun ls hl => ?_)
      obtain ⟨j, hv⟩ := hv
      exact wk_MD_build_162 F hr hlk hK hA hK80 j x2 0 z_thrown z_soughtSize z_indexed z_suffixes z_order z_rankOf z_same z_work z_next hv _ _ _ hP hD hS (lv_sub hl [1, 2, 0] rfl)
    · have hv := hvf c3
      refine lv_iload hx hb d_MD_build_108 (lv_at hl 3 rfl) ?_
      obtain ⟨hvt, hvf⟩ := hv
      refine lv_if_le (tgt := 140) hx hb d_MD_build_110 (by decide) (fun c4 => ?_) (fun c4 => ?_)
      · have hv := hvt c4
        exact wk_MD_build_140 F hr hlk hK hA ih x2 x3 x4 z_thrown z_soughtSize z_indexed z_suffixes z_order z_rankOf z_same z_work z_next hv _ _ _ hP hD hS (lv_sub hl [0, 1, 2, 3] rfl)
      · have hv := hvf c4
        refine lv_aload_n hx hb d_MD_build_113 rfl (lv_at hl 0 rfl) ?_
        refine lv_aload_n hx hb d_MD_build_114 rfl (lv_at hl 0 rfl) ?_
        refine va_get (D := (dC, dI)) (ci := 8) (v := .ref h_order) (C := "SuffixIndexModel") (T := F_MD) (N := 22) hx hb hw i_MD hown hK hP 0 rfl rfl 14 (by decide) (hw _ m_1115) (fun _ h9 => h9) rfl d_MD_build_115 ?_
        refine lv_iload hx hb d_MD_build_118 (lv_at hl 3 rfl) ?_
        refine lv_iconst (v := 1) hx hb d_MD_build_120 (by decide) ?_
        refine lv_isub hx hb d_MD_build_121 ?_
        obtain ⟨hin, hv⟩ := hv
        refine va_iald hx hb hK hP 4 0 rfl rfl hin d_MD_build_122 ?_
        refine lv_aload_n hx hb d_MD_build_123 rfl (lv_at hl 0 rfl) ?_
        refine va_get (D := (dC, dI)) (ci := 8) (v := .ref h_order) (C := "SuffixIndexModel") (T := F_MD) (N := 22) hx hb hw i_MD hown hK hP 0 rfl rfl 14 (by decide) (hw _ m_1115) (fun _ h9 => h9) rfl d_MD_build_124 ?_
        refine lv_iload hx hb d_MD_build_127 (lv_at hl 3 rfl) ?_
        obtain ⟨hin, hv⟩ := hv
        refine va_iald hx hb hK hP 4 0 rfl rfl hin d_MD_build_129 ?_
        refine lv_iload_n hx hb d_MD_build_130 rfl (lv_at hl 1 rfl) ?_
        refine cV_i (wr := [(h_row, .inl (cB, 16384, .inl z_row)), (h_order, .inl (cI, 16384, .inl z_order)), (h_same, .inl (cI, 16385, .inl z_same)), (h_work, .inl (cI, 16384, .inl z_work)), (h_next, .inl (cI, 16384, .inl z_next))]) (rest := []) (c_MD_compare l dC dI cI cJ cB cZ h_t h_tape h_row h_out h_sought h_start h_documentOf h_order h_rankOf h_same h_work h_next h_often h_has H.size z_thrown z_size z_outSize z_soughtSize z_documents z_indexed z_suffixes z_rows z_lesser z_start z_documentOf z_rankOf (z_order (x4 - 1).toNatClampNeg) (z_order x4.toNatClampNeg) x2 _ hv) F (cw_V (fun _ h => h) 3 hw m_1201 m_1203 ms_31 m_9 m_1204 rfl rfl (by decide +kernel) ⟨by decide, by decide⟩) hK hP hD hS hA [0, 2, 3, 5] [1, 4, 6, 7, 8] rfl rfl rfl rfl (by decide) 0 8 rfl rfl rfl hl.1 rfl (Nat.le_of_ble_eq_true rfl) d_MD_build_131 ⟨Nat.le_of_ble_eq_true rfl, Nat.le_of_ble_eq_true rfl⟩ (fun r5 u H locs hv hP hD hS => ?_)
        have hP : va_P (dC, dI) classes [(h_t, .inr (8, [.int z_thrown, .ref h_tape, .ref h_row, .ref h_out, .ref h_sought, .int z_size, .int z_outSize, .int z_soughtSize, .int z_documents, .int z_indexed, .int z_suffixes, .int z_rows, .ref h_start, .ref h_documentOf, .ref h_order, .ref h_rankOf, .ref h_same, .ref h_work, .ref h_next, .ref h_often, .ref h_has, .int z_lesser])), (h_row, .inl (cB, 16384, .inl z_row)), (h_start, .inl (cI, 66, .inl z_start)), (h_documentOf, .inl (cI, 16384, .inl z_documentOf)), (h_order, .inl (cI, 16384, .inl z_order)), (h_rankOf, .inl (cI, 16384, .inl z_rankOf)), (h_same, .inl (cI, 16385, .inl z_same)), (h_work, .inl (cI, 16384, .inl z_work)), (h_next, .inl (cI, 16384, .inl z_next))] H := P_sub hP [5, 0, 6, 7, 1, 8, 2, 3, 4] rfl
        have hD : va_D A [(h_t, .inr (8, [.int z_thrown, .ref h_tape, .ref h_row, .ref h_out, .ref h_sought, .int z_size, .int z_outSize, .int z_soughtSize, .int z_documents, .int z_indexed, .int z_suffixes, .int z_rows, .ref h_start, .ref h_documentOf, .ref h_order, .ref h_rankOf, .ref h_same, .ref h_work, .ref h_next, .ref h_often, .ref h_has, .int z_lesser])), (h_row, .inl (cB, 16384, .inl z_row)), (h_start, .inl (cI, 66, .inl z_start)), (h_documentOf, .inl (cI, 16384, .inl z_documentOf)), (h_order, .inl (cI, 16384, .inl z_order)), (h_rankOf, .inl (cI, 16384, .inl z_rankOf)), (h_same, .inl (cI, 16385, .inl z_same)), (h_work, .inl (cI, 16384, .inl z_work)), (h_next, .inl (cI, 16384, .inl z_next))] := hD.sub [5, 0, 6, 7, 1, 8, 2, 3, 4] rfl rfl
        obtain ⟨hvt, hvf⟩ := hv
        refine lv_if_eq (tgt := 140) hx hb d_MD_build_134 (by decide) (fun c6 => ?_) (fun c6 => ?_)
        · have hv := hvt c6
          exact wk_MD_build_140 F hr hlk hK hA ih x2 x3 x4 z_thrown z_soughtSize z_indexed z_suffixes z_order z_rankOf z_same z_work z_next hv _ _ _ hP hD hS (lv_sub hl [0, 1, 2, 3] rfl)
        · have hv := hvf c6
          refine lv_iinc (v := x3 + 1) (lv' := [(3, .int (x3 + 1)), (0, .ref h_t), (2, .int x2), (4, .int x4)]) hx hb d_MD_build_137 hl (k := 2) rfl (iinc_v (by decide)) (by decide) rfl (fun ls hl => ?_)
          exact wk_MD_build_140 F hr hlk hK hA ih x2 (x3 + 1) x4 z_thrown z_soughtSize z_indexed z_suffixes z_order z_rankOf z_same z_work z_next hv _ _ _ hP hD hS (lv_sub hl [1, 2, 0, 3] rfl)

set_option maxHeartbeats 4000000 in
set_option maxRecDepth 100000 in
theorem wk_MD_build_337 {p : Program} {l : Launch} {e : Env} {s : State} {m : MethodId} {below : List Frame} {meth : Method} {c : Code} {A : Nat → Prop} {dC : Nat → ClassId} {dI : Nat → Nat → Nat} {cI cJ cB cZ : ClassId} {h_t : Nat} {h_tape : Nat} {h_row : Nat} {h_out : Nat} {h_sought : Nat} {h_start : Nat} {h_documentOf : Nat} {h_order : Nat} {h_rankOf : Nat} {h_same : Nat} {h_work : Nat} {h_next : Nat} {h_often : Nat} {h_has : Nat} {z_documents : Int32} {z_rows : Int32} {z_row : Nat → Int32} {z_start : Nat → Int32} {z_documentOf : Nat → Int32} {z_size : Int32} {z_outSize : Int32} {z_lesser : Int32} {post : Int32 → Int32 → Int32 → Int32 → Int32 → (Nat → Int32) → (Nat → Int32) → (Nat → Int32) → (Nat → Int32) → (Nat → Int32) → Prop} {K277 : Int32 → Int32 → Int32 → Int32 → Int32 → (Nat → Int32) → (Nat → Int32) → (Nat → Int32) → (Nat → Int32) → (Nat → Int32) → Prop} (F : CallFix p m c b_MD_build 5 s ([.ref h_t] : List Value).toArray WT "SuffixIndexModel") (hr : meth.sig.returnType = (some .int)) (hlk : meth.locks = false) (hK : va_K (dC, dI) classes (TYS cI cJ cB cZ) s) (hA : ∀ q, s.heap.size ≤ q → A q) (hK277 : ∀ (x2 : Int32) (z_thrown : Int32) (z_soughtSize : Int32) (z_indexed : Int32) (z_suffixes : Int32) (z_order : Nat → Int32) (z_rankOf : Nat → Int32) (z_same : Nat → Int32) (z_work : Nat → Int32) (z_next : Nat → Int32), K277 x2 z_thrown z_soughtSize z_indexed z_suffixes z_order z_rankOf z_same z_work z_next → ∀ (H : Heap) (locs : List Loc) (ls : Array Slot), va_P (dC, dI) classes [(h_t, .inr (8, [.int z_thrown, .ref h_tape, .ref h_row, .ref h_out, .ref h_sought, .int z_size, .int z_outSize, .int z_soughtSize, .int z_documents, .int z_indexed, .int z_suffixes, .int z_rows, .ref h_start, .ref h_documentOf, .ref h_order, .ref h_rankOf, .ref h_same, .ref h_work, .ref h_next, .ref h_often, .ref h_has, .int z_lesser])), (h_row, .inl (cB, 16384, .inl z_row)), (h_start, .inl (cI, 66, .inl z_start)), (h_documentOf, .inl (cI, 16384, .inl z_documentOf)), (h_order, .inl (cI, 16384, .inl z_order)), (h_rankOf, .inl (cI, 16384, .inl z_rankOf)), (h_same, .inl (cI, 16385, .inl z_same)), (h_work, .inl (cI, 16384, .inl z_work)), (h_next, .inl (cI, 16384, .inl z_next))] H → va_D A [(h_t, .inr (8, [.int z_thrown, .ref h_tape, .ref h_row, .ref h_out, .ref h_sought, .int z_size, .int z_outSize, .int z_soughtSize, .int z_documents, .int z_indexed, .int z_suffixes, .int z_rows, .ref h_start, .ref h_documentOf, .ref h_order, .ref h_rankOf, .ref h_same, .ref h_work, .ref h_next, .ref h_often, .ref h_has, .int z_lesser])), (h_row, .inl (cB, 16384, .inl z_row)), (h_start, .inl (cI, 66, .inl z_start)), (h_documentOf, .inl (cI, 16384, .inl z_documentOf)), (h_order, .inl (cI, 16384, .inl z_order)), (h_rankOf, .inl (cI, 16384, .inl z_rankOf)), (h_same, .inl (cI, 16385, .inl z_same)), (h_work, .inl (cI, 16384, .inl z_work)), (h_next, .inl (cI, 16384, .inl z_next))] → va_S A s.heap H locs → lv_has ls 5 [(0, .ref h_t), (2, .int x2)] → W p l e rm_MD_build s m ([.ref h_t] : List Value).toArray below meth c H locs 0 0 (MQ below (va_Qi (fun (r : Int32) (u : Int32 × Int32 × Int32 × Int32 × (Nat → Int32) × (Nat → Int32) × (Nat → Int32) × (Nat → Int32) × (Nat → Int32)) => post r u.1 u.2.1 u.2.2.1 u.2.2.2.1 u.2.2.2.2.1 u.2.2.2.2.2.1 u.2.2.2.2.2.2.1 u.2.2.2.2.2.2.2.1 u.2.2.2.2.2.2.2.2) (fun u t => cAft (dC, dI) classes (TYS cI cJ cB cZ) A [(h_t, .inr (8, [.int u.1, .ref h_tape, .ref h_row, .ref h_out, .ref h_sought, .int z_size, .int z_outSize, .int u.2.1, .int z_documents, .int u.2.2.1, .int u.2.2.2.1, .int z_rows, .ref h_start, .ref h_documentOf, .ref h_order, .ref h_rankOf, .ref h_same, .ref h_work, .ref h_next, .ref h_often, .ref h_has, .int z_lesser])), (h_row, .inl (cB, 16384, .inl z_row)), (h_start, .inl (cI, 66, .inl z_start)), (h_documentOf, .inl (cI, 16384, .inl z_documentOf)), (h_order, .inl (cI, 16384, .inl u.2.2.2.2.1)), (h_rankOf, .inl (cI, 16384, .inl u.2.2.2.2.2.1)), (h_same, .inl (cI, 16385, .inl u.2.2.2.2.2.2.1)), (h_work, .inl (cI, 16384, .inl u.2.2.2.2.2.2.2.1)), (h_next, .inl (cI, 16384, .inl u.2.2.2.2.2.2.2.2))] t) A) ([.ref h_t] : List Value).toArray s 0 0 A) (F0 m 277 ls [])) : ∀ (x2 : Int32) (k1 : Int32) (k2 : Int32) (z_thrown : Int32) (z_soughtSize : Int32) (z_indexed : Int32) (z_suffixes : Int32) (z_order : Nat → Int32) (z_rankOf : Nat → Int32) (z_same : Nat → Int32) (z_work : Nat → Int32) (z_next : Nat → Int32), vc_MD_build_337 z_documents z_rows z_row z_start z_documentOf post K277 x2 k1 k2 z_thrown z_soughtSize z_indexed z_suffixes z_order z_rankOf z_same z_work z_next → ∀ (H : Heap) (locs : List Loc) (ls : Array Slot), va_P (dC, dI) classes [(h_t, .inr (8, [.int z_thrown, .ref h_tape, .ref h_row, .ref h_out, .ref h_sought, .int z_size, .int z_outSize, .int z_soughtSize, .int z_documents, .int z_indexed, .int z_suffixes, .int z_rows, .ref h_start, .ref h_documentOf, .ref h_order, .ref h_rankOf, .ref h_same, .ref h_work, .ref h_next, .ref h_often, .ref h_has, .int z_lesser])), (h_row, .inl (cB, 16384, .inl z_row)), (h_start, .inl (cI, 66, .inl z_start)), (h_documentOf, .inl (cI, 16384, .inl z_documentOf)), (h_order, .inl (cI, 16384, .inl z_order)), (h_rankOf, .inl (cI, 16384, .inl z_rankOf)), (h_same, .inl (cI, 16385, .inl z_same)), (h_work, .inl (cI, 16384, .inl z_work)), (h_next, .inl (cI, 16384, .inl z_next))] H → va_D A [(h_t, .inr (8, [.int z_thrown, .ref h_tape, .ref h_row, .ref h_out, .ref h_sought, .int z_size, .int z_outSize, .int z_soughtSize, .int z_documents, .int z_indexed, .int z_suffixes, .int z_rows, .ref h_start, .ref h_documentOf, .ref h_order, .ref h_rankOf, .ref h_same, .ref h_work, .ref h_next, .ref h_often, .ref h_has, .int z_lesser])), (h_row, .inl (cB, 16384, .inl z_row)), (h_start, .inl (cI, 66, .inl z_start)), (h_documentOf, .inl (cI, 16384, .inl z_documentOf)), (h_order, .inl (cI, 16384, .inl z_order)), (h_rankOf, .inl (cI, 16384, .inl z_rankOf)), (h_same, .inl (cI, 16385, .inl z_same)), (h_work, .inl (cI, 16384, .inl z_work)), (h_next, .inl (cI, 16384, .inl z_next))] → va_S A s.heap H locs → lv_has ls 5 [(0, .ref h_t), (2, .int x2)] → W p l e rm_MD_build s m ([.ref h_t] : List Value).toArray below meth c H locs 0 0 (MQ below (va_Qi (fun (r : Int32) (u : Int32 × Int32 × Int32 × Int32 × (Nat → Int32) × (Nat → Int32) × (Nat → Int32) × (Nat → Int32) × (Nat → Int32)) => post r u.1 u.2.1 u.2.2.1 u.2.2.2.1 u.2.2.2.2.1 u.2.2.2.2.2.1 u.2.2.2.2.2.2.1 u.2.2.2.2.2.2.2.1 u.2.2.2.2.2.2.2.2) (fun u t => cAft (dC, dI) classes (TYS cI cJ cB cZ) A [(h_t, .inr (8, [.int u.1, .ref h_tape, .ref h_row, .ref h_out, .ref h_sought, .int z_size, .int z_outSize, .int u.2.1, .int z_documents, .int u.2.2.1, .int u.2.2.2.1, .int z_rows, .ref h_start, .ref h_documentOf, .ref h_order, .ref h_rankOf, .ref h_same, .ref h_work, .ref h_next, .ref h_often, .ref h_has, .int z_lesser])), (h_row, .inl (cB, 16384, .inl z_row)), (h_start, .inl (cI, 66, .inl z_start)), (h_documentOf, .inl (cI, 16384, .inl z_documentOf)), (h_order, .inl (cI, 16384, .inl u.2.2.2.2.1)), (h_rankOf, .inl (cI, 16384, .inl u.2.2.2.2.2.1)), (h_same, .inl (cI, 16385, .inl u.2.2.2.2.2.2.1)), (h_work, .inl (cI, 16384, .inl u.2.2.2.2.2.2.2.1)), (h_next, .inl (cI, 16384, .inl u.2.2.2.2.2.2.2.2))] t) A) ([.ref h_t] : List Value).toArray s 0 0 A) (F0 m 337 ls [.int k2, .int k1, .ref h_same]) := by
  obtain ⟨hx, hb, hml, hown, hw⟩ := id F
  intro x2 k1 k2 z_thrown z_soughtSize z_indexed z_suffixes z_order z_rankOf z_same z_work z_next hv H locs ls hP hD hS hl
  obtain ⟨hin, hv⟩ := hv
  refine va_iast hx hb hK hP hD hS 6 0 rfl rfl hin d_MD_build_337 (fun H locs hP hD hS => ?_)
  have hP : va_P (dC, dI) classes [(h_t, .inr (8, [.int z_thrown, .ref h_tape, .ref h_row, .ref h_out, .ref h_sought, .int z_size, .int z_outSize, .int z_soughtSize, .int z_documents, .int z_indexed, .int z_suffixes, .int z_rows, .ref h_start, .ref h_documentOf, .ref h_order, .ref h_rankOf, .ref h_same, .ref h_work, .ref h_next, .ref h_often, .ref h_has, .int z_lesser])), (h_row, .inl (cB, 16384, .inl z_row)), (h_start, .inl (cI, 66, .inl z_start)), (h_documentOf, .inl (cI, 16384, .inl z_documentOf)), (h_order, .inl (cI, 16384, .inl z_order)), (h_rankOf, .inl (cI, 16384, .inl z_rankOf)), (h_same, .inl (cI, 16385, .inl (upd z_same k1.toNatClampNeg k2))), (h_work, .inl (cI, 16384, .inl z_work)), (h_next, .inl (cI, 16384, .inl z_next))] H := hP
  have hD : va_D A [(h_t, .inr (8, [.int z_thrown, .ref h_tape, .ref h_row, .ref h_out, .ref h_sought, .int z_size, .int z_outSize, .int z_soughtSize, .int z_documents, .int z_indexed, .int z_suffixes, .int z_rows, .ref h_start, .ref h_documentOf, .ref h_order, .ref h_rankOf, .ref h_same, .ref h_work, .ref h_next, .ref h_often, .ref h_has, .int z_lesser])), (h_row, .inl (cB, 16384, .inl z_row)), (h_start, .inl (cI, 66, .inl z_start)), (h_documentOf, .inl (cI, 16384, .inl z_documentOf)), (h_order, .inl (cI, 16384, .inl z_order)), (h_rankOf, .inl (cI, 16384, .inl z_rankOf)), (h_same, .inl (cI, 16385, .inl (upd z_same k1.toNatClampNeg k2))), (h_work, .inl (cI, 16384, .inl z_work)), (h_next, .inl (cI, 16384, .inl z_next))] := hD
  refine lv_iinc (v := x2 + 1) (lv' := [(2, .int (x2 + 1)), (0, .ref h_t)]) hx hb d_MD_build_338 hl (k := 1) rfl (iinc_v (by decide)) (by decide) rfl (fun ls hl => ?_)
  refine lv_goto (tgt := 277) hx hb d_MD_build_341 (by decide) ?_
  exact hK277 (x2 + 1) z_thrown z_soughtSize z_indexed z_suffixes z_order z_rankOf (upd z_same k1.toNatClampNeg k2) z_work z_next hv _ _ _ hP hD hS (lv_sub hl [1, 0] rfl)

set_option maxHeartbeats 4000000 in
set_option maxRecDepth 100000 in
theorem wk_MD_build_315 {p : Program} {l : Launch} {e : Env} {s : State} {m : MethodId} {below : List Frame} {meth : Method} {c : Code} {A : Nat → Prop} {dC : Nat → ClassId} {dI : Nat → Nat → Nat} {cI cJ cB cZ : ClassId} {h_t : Nat} {h_tape : Nat} {h_row : Nat} {h_out : Nat} {h_sought : Nat} {h_start : Nat} {h_documentOf : Nat} {h_order : Nat} {h_rankOf : Nat} {h_same : Nat} {h_work : Nat} {h_next : Nat} {h_often : Nat} {h_has : Nat} {z_documents : Int32} {z_rows : Int32} {z_row : Nat → Int32} {z_start : Nat → Int32} {z_documentOf : Nat → Int32} {z_size : Int32} {z_outSize : Int32} {z_lesser : Int32} {post : Int32 → Int32 → Int32 → Int32 → Int32 → (Nat → Int32) → (Nat → Int32) → (Nat → Int32) → (Nat → Int32) → (Nat → Int32) → Prop} {K277 : Int32 → Int32 → Int32 → Int32 → Int32 → (Nat → Int32) → (Nat → Int32) → (Nat → Int32) → (Nat → Int32) → (Nat → Int32) → Prop} (F : CallFix p m c b_MD_build 5 s ([.ref h_t] : List Value).toArray WT "SuffixIndexModel") (hr : meth.sig.returnType = (some .int)) (hlk : meth.locks = false) (hK : va_K (dC, dI) classes (TYS cI cJ cB cZ) s) (hA : ∀ q, s.heap.size ≤ q → A q) (hK277 : ∀ (x2 : Int32) (z_thrown : Int32) (z_soughtSize : Int32) (z_indexed : Int32) (z_suffixes : Int32) (z_order : Nat → Int32) (z_rankOf : Nat → Int32) (z_same : Nat → Int32) (z_work : Nat → Int32) (z_next : Nat → Int32), K277 x2 z_thrown z_soughtSize z_indexed z_suffixes z_order z_rankOf z_same z_work z_next → ∀ (H : Heap) (locs : List Loc) (ls : Array Slot), va_P (dC, dI) classes [(h_t, .inr (8, [.int z_thrown, .ref h_tape, .ref h_row, .ref h_out, .ref h_sought, .int z_size, .int z_outSize, .int z_soughtSize, .int z_documents, .int z_indexed, .int z_suffixes, .int z_rows, .ref h_start, .ref h_documentOf, .ref h_order, .ref h_rankOf, .ref h_same, .ref h_work, .ref h_next, .ref h_often, .ref h_has, .int z_lesser])), (h_row, .inl (cB, 16384, .inl z_row)), (h_start, .inl (cI, 66, .inl z_start)), (h_documentOf, .inl (cI, 16384, .inl z_documentOf)), (h_order, .inl (cI, 16384, .inl z_order)), (h_rankOf, .inl (cI, 16384, .inl z_rankOf)), (h_same, .inl (cI, 16385, .inl z_same)), (h_work, .inl (cI, 16384, .inl z_work)), (h_next, .inl (cI, 16384, .inl z_next))] H → va_D A [(h_t, .inr (8, [.int z_thrown, .ref h_tape, .ref h_row, .ref h_out, .ref h_sought, .int z_size, .int z_outSize, .int z_soughtSize, .int z_documents, .int z_indexed, .int z_suffixes, .int z_rows, .ref h_start, .ref h_documentOf, .ref h_order, .ref h_rankOf, .ref h_same, .ref h_work, .ref h_next, .ref h_often, .ref h_has, .int z_lesser])), (h_row, .inl (cB, 16384, .inl z_row)), (h_start, .inl (cI, 66, .inl z_start)), (h_documentOf, .inl (cI, 16384, .inl z_documentOf)), (h_order, .inl (cI, 16384, .inl z_order)), (h_rankOf, .inl (cI, 16384, .inl z_rankOf)), (h_same, .inl (cI, 16385, .inl z_same)), (h_work, .inl (cI, 16384, .inl z_work)), (h_next, .inl (cI, 16384, .inl z_next))] → va_S A s.heap H locs → lv_has ls 5 [(0, .ref h_t), (2, .int x2)] → W p l e rm_MD_build s m ([.ref h_t] : List Value).toArray below meth c H locs 0 0 (MQ below (va_Qi (fun (r : Int32) (u : Int32 × Int32 × Int32 × Int32 × (Nat → Int32) × (Nat → Int32) × (Nat → Int32) × (Nat → Int32) × (Nat → Int32)) => post r u.1 u.2.1 u.2.2.1 u.2.2.2.1 u.2.2.2.2.1 u.2.2.2.2.2.1 u.2.2.2.2.2.2.1 u.2.2.2.2.2.2.2.1 u.2.2.2.2.2.2.2.2) (fun u t => cAft (dC, dI) classes (TYS cI cJ cB cZ) A [(h_t, .inr (8, [.int u.1, .ref h_tape, .ref h_row, .ref h_out, .ref h_sought, .int z_size, .int z_outSize, .int u.2.1, .int z_documents, .int u.2.2.1, .int u.2.2.2.1, .int z_rows, .ref h_start, .ref h_documentOf, .ref h_order, .ref h_rankOf, .ref h_same, .ref h_work, .ref h_next, .ref h_often, .ref h_has, .int z_lesser])), (h_row, .inl (cB, 16384, .inl z_row)), (h_start, .inl (cI, 66, .inl z_start)), (h_documentOf, .inl (cI, 16384, .inl z_documentOf)), (h_order, .inl (cI, 16384, .inl u.2.2.2.2.1)), (h_rankOf, .inl (cI, 16384, .inl u.2.2.2.2.2.1)), (h_same, .inl (cI, 16385, .inl u.2.2.2.2.2.2.1)), (h_work, .inl (cI, 16384, .inl u.2.2.2.2.2.2.2.1)), (h_next, .inl (cI, 16384, .inl u.2.2.2.2.2.2.2.2))] t) A) ([.ref h_t] : List Value).toArray s 0 0 A) (F0 m 277 ls [])) : ∀ (x2 : Int32) (k1 : Int32) (z_thrown : Int32) (z_soughtSize : Int32) (z_indexed : Int32) (z_suffixes : Int32) (z_order : Nat → Int32) (z_rankOf : Nat → Int32) (z_same : Nat → Int32) (z_work : Nat → Int32) (z_next : Nat → Int32), vc_MD_build_315 z_documents z_rows z_row z_start z_documentOf post K277 x2 k1 z_thrown z_soughtSize z_indexed z_suffixes z_order z_rankOf z_same z_work z_next → ∀ (H : Heap) (locs : List Loc) (ls : Array Slot), va_P (dC, dI) classes [(h_t, .inr (8, [.int z_thrown, .ref h_tape, .ref h_row, .ref h_out, .ref h_sought, .int z_size, .int z_outSize, .int z_soughtSize, .int z_documents, .int z_indexed, .int z_suffixes, .int z_rows, .ref h_start, .ref h_documentOf, .ref h_order, .ref h_rankOf, .ref h_same, .ref h_work, .ref h_next, .ref h_often, .ref h_has, .int z_lesser])), (h_row, .inl (cB, 16384, .inl z_row)), (h_start, .inl (cI, 66, .inl z_start)), (h_documentOf, .inl (cI, 16384, .inl z_documentOf)), (h_order, .inl (cI, 16384, .inl z_order)), (h_rankOf, .inl (cI, 16384, .inl z_rankOf)), (h_same, .inl (cI, 16385, .inl z_same)), (h_work, .inl (cI, 16384, .inl z_work)), (h_next, .inl (cI, 16384, .inl z_next))] H → va_D A [(h_t, .inr (8, [.int z_thrown, .ref h_tape, .ref h_row, .ref h_out, .ref h_sought, .int z_size, .int z_outSize, .int z_soughtSize, .int z_documents, .int z_indexed, .int z_suffixes, .int z_rows, .ref h_start, .ref h_documentOf, .ref h_order, .ref h_rankOf, .ref h_same, .ref h_work, .ref h_next, .ref h_often, .ref h_has, .int z_lesser])), (h_row, .inl (cB, 16384, .inl z_row)), (h_start, .inl (cI, 66, .inl z_start)), (h_documentOf, .inl (cI, 16384, .inl z_documentOf)), (h_order, .inl (cI, 16384, .inl z_order)), (h_rankOf, .inl (cI, 16384, .inl z_rankOf)), (h_same, .inl (cI, 16385, .inl z_same)), (h_work, .inl (cI, 16384, .inl z_work)), (h_next, .inl (cI, 16384, .inl z_next))] → va_S A s.heap H locs → lv_has ls 5 [(0, .ref h_t), (2, .int x2)] → W p l e rm_MD_build s m ([.ref h_t] : List Value).toArray below meth c H locs 0 0 (MQ below (va_Qi (fun (r : Int32) (u : Int32 × Int32 × Int32 × Int32 × (Nat → Int32) × (Nat → Int32) × (Nat → Int32) × (Nat → Int32) × (Nat → Int32)) => post r u.1 u.2.1 u.2.2.1 u.2.2.2.1 u.2.2.2.2.1 u.2.2.2.2.2.1 u.2.2.2.2.2.2.1 u.2.2.2.2.2.2.2.1 u.2.2.2.2.2.2.2.2) (fun u t => cAft (dC, dI) classes (TYS cI cJ cB cZ) A [(h_t, .inr (8, [.int u.1, .ref h_tape, .ref h_row, .ref h_out, .ref h_sought, .int z_size, .int z_outSize, .int u.2.1, .int z_documents, .int u.2.2.1, .int u.2.2.2.1, .int z_rows, .ref h_start, .ref h_documentOf, .ref h_order, .ref h_rankOf, .ref h_same, .ref h_work, .ref h_next, .ref h_often, .ref h_has, .int z_lesser])), (h_row, .inl (cB, 16384, .inl z_row)), (h_start, .inl (cI, 66, .inl z_start)), (h_documentOf, .inl (cI, 16384, .inl z_documentOf)), (h_order, .inl (cI, 16384, .inl u.2.2.2.2.1)), (h_rankOf, .inl (cI, 16384, .inl u.2.2.2.2.2.1)), (h_same, .inl (cI, 16385, .inl u.2.2.2.2.2.2.1)), (h_work, .inl (cI, 16384, .inl u.2.2.2.2.2.2.2.1)), (h_next, .inl (cI, 16384, .inl u.2.2.2.2.2.2.2.2))] t) A) ([.ref h_t] : List Value).toArray s 0 0 A) (F0 m 315 ls [.int k1, .ref h_same]) := by
  obtain ⟨hx, hb, hml, hown, hw⟩ := id F
  intro x2 k1 z_thrown z_soughtSize z_indexed z_suffixes z_order z_rankOf z_same z_work z_next hv H locs ls hP hD hS hl
  refine lv_iconst (v := 0) hx hb d_MD_build_315 (by decide) ?_
  refine lv_goto (tgt := 337) hx hb d_MD_build_316 (by decide) ?_
  exact wk_MD_build_337 F hr hlk hK hA hK277 x2 k1 0 z_thrown z_soughtSize z_indexed z_suffixes z_order z_rankOf z_same z_work z_next hv _ _ _ hP hD hS (lv_sub hl [0, 1] rfl)

set_option maxHeartbeats 4000000 in
set_option maxRecDepth 100000 in
theorem wk_MD_build_303 {p : Program} {l : Launch} {e : Env} {s : State} {m : MethodId} {below : List Frame} {meth : Method} {c : Code} {A : Nat → Prop} {dC : Nat → ClassId} {dI : Nat → Nat → Nat} {cI cJ cB cZ : ClassId} {h_t : Nat} {h_tape : Nat} {h_row : Nat} {h_out : Nat} {h_sought : Nat} {h_start : Nat} {h_documentOf : Nat} {h_order : Nat} {h_rankOf : Nat} {h_same : Nat} {h_work : Nat} {h_next : Nat} {h_often : Nat} {h_has : Nat} {z_documents : Int32} {z_rows : Int32} {z_row : Nat → Int32} {z_start : Nat → Int32} {z_documentOf : Nat → Int32} {z_size : Int32} {z_outSize : Int32} {z_lesser : Int32} {post : Int32 → Int32 → Int32 → Int32 → Int32 → (Nat → Int32) → (Nat → Int32) → (Nat → Int32) → (Nat → Int32) → (Nat → Int32) → Prop} {K277 : Int32 → Int32 → Int32 → Int32 → Int32 → (Nat → Int32) → (Nat → Int32) → (Nat → Int32) → (Nat → Int32) → (Nat → Int32) → Prop} (F : CallFix p m c b_MD_build 5 s ([.ref h_t] : List Value).toArray WT "SuffixIndexModel") (hr : meth.sig.returnType = (some .int)) (hlk : meth.locks = false) (hK : va_K (dC, dI) classes (TYS cI cJ cB cZ) s) (hA : ∀ q, s.heap.size ≤ q → A q) (hK277 : ∀ (x2 : Int32) (z_thrown : Int32) (z_soughtSize : Int32) (z_indexed : Int32) (z_suffixes : Int32) (z_order : Nat → Int32) (z_rankOf : Nat → Int32) (z_same : Nat → Int32) (z_work : Nat → Int32) (z_next : Nat → Int32), K277 x2 z_thrown z_soughtSize z_indexed z_suffixes z_order z_rankOf z_same z_work z_next → ∀ (H : Heap) (locs : List Loc) (ls : Array Slot), va_P (dC, dI) classes [(h_t, .inr (8, [.int z_thrown, .ref h_tape, .ref h_row, .ref h_out, .ref h_sought, .int z_size, .int z_outSize, .int z_soughtSize, .int z_documents, .int z_indexed, .int z_suffixes, .int z_rows, .ref h_start, .ref h_documentOf, .ref h_order, .ref h_rankOf, .ref h_same, .ref h_work, .ref h_next, .ref h_often, .ref h_has, .int z_lesser])), (h_row, .inl (cB, 16384, .inl z_row)), (h_start, .inl (cI, 66, .inl z_start)), (h_documentOf, .inl (cI, 16384, .inl z_documentOf)), (h_order, .inl (cI, 16384, .inl z_order)), (h_rankOf, .inl (cI, 16384, .inl z_rankOf)), (h_same, .inl (cI, 16385, .inl z_same)), (h_work, .inl (cI, 16384, .inl z_work)), (h_next, .inl (cI, 16384, .inl z_next))] H → va_D A [(h_t, .inr (8, [.int z_thrown, .ref h_tape, .ref h_row, .ref h_out, .ref h_sought, .int z_size, .int z_outSize, .int z_soughtSize, .int z_documents, .int z_indexed, .int z_suffixes, .int z_rows, .ref h_start, .ref h_documentOf, .ref h_order, .ref h_rankOf, .ref h_same, .ref h_work, .ref h_next, .ref h_often, .ref h_has, .int z_lesser])), (h_row, .inl (cB, 16384, .inl z_row)), (h_start, .inl (cI, 66, .inl z_start)), (h_documentOf, .inl (cI, 16384, .inl z_documentOf)), (h_order, .inl (cI, 16384, .inl z_order)), (h_rankOf, .inl (cI, 16384, .inl z_rankOf)), (h_same, .inl (cI, 16385, .inl z_same)), (h_work, .inl (cI, 16384, .inl z_work)), (h_next, .inl (cI, 16384, .inl z_next))] → va_S A s.heap H locs → lv_has ls 5 [(0, .ref h_t), (2, .int x2)] → W p l e rm_MD_build s m ([.ref h_t] : List Value).toArray below meth c H locs 0 0 (MQ below (va_Qi (fun (r : Int32) (u : Int32 × Int32 × Int32 × Int32 × (Nat → Int32) × (Nat → Int32) × (Nat → Int32) × (Nat → Int32) × (Nat → Int32)) => post r u.1 u.2.1 u.2.2.1 u.2.2.2.1 u.2.2.2.2.1 u.2.2.2.2.2.1 u.2.2.2.2.2.2.1 u.2.2.2.2.2.2.2.1 u.2.2.2.2.2.2.2.2) (fun u t => cAft (dC, dI) classes (TYS cI cJ cB cZ) A [(h_t, .inr (8, [.int u.1, .ref h_tape, .ref h_row, .ref h_out, .ref h_sought, .int z_size, .int z_outSize, .int u.2.1, .int z_documents, .int u.2.2.1, .int u.2.2.2.1, .int z_rows, .ref h_start, .ref h_documentOf, .ref h_order, .ref h_rankOf, .ref h_same, .ref h_work, .ref h_next, .ref h_often, .ref h_has, .int z_lesser])), (h_row, .inl (cB, 16384, .inl z_row)), (h_start, .inl (cI, 66, .inl z_start)), (h_documentOf, .inl (cI, 16384, .inl z_documentOf)), (h_order, .inl (cI, 16384, .inl u.2.2.2.2.1)), (h_rankOf, .inl (cI, 16384, .inl u.2.2.2.2.2.1)), (h_same, .inl (cI, 16385, .inl u.2.2.2.2.2.2.1)), (h_work, .inl (cI, 16384, .inl u.2.2.2.2.2.2.2.1)), (h_next, .inl (cI, 16384, .inl u.2.2.2.2.2.2.2.2))] t) A) ([.ref h_t] : List Value).toArray s 0 0 A) (F0 m 277 ls [])) : ∀ (x2 : Int32) (k1 : Int32) (z_thrown : Int32) (z_soughtSize : Int32) (z_indexed : Int32) (z_suffixes : Int32) (z_order : Nat → Int32) (z_rankOf : Nat → Int32) (z_same : Nat → Int32) (z_work : Nat → Int32) (z_next : Nat → Int32), vc_MD_build_303 z_documents z_rows z_row z_start z_documentOf post K277 x2 k1 z_thrown z_soughtSize z_indexed z_suffixes z_order z_rankOf z_same z_work z_next → ∀ (H : Heap) (locs : List Loc) (ls : Array Slot), va_P (dC, dI) classes [(h_t, .inr (8, [.int z_thrown, .ref h_tape, .ref h_row, .ref h_out, .ref h_sought, .int z_size, .int z_outSize, .int z_soughtSize, .int z_documents, .int z_indexed, .int z_suffixes, .int z_rows, .ref h_start, .ref h_documentOf, .ref h_order, .ref h_rankOf, .ref h_same, .ref h_work, .ref h_next, .ref h_often, .ref h_has, .int z_lesser])), (h_row, .inl (cB, 16384, .inl z_row)), (h_start, .inl (cI, 66, .inl z_start)), (h_documentOf, .inl (cI, 16384, .inl z_documentOf)), (h_order, .inl (cI, 16384, .inl z_order)), (h_rankOf, .inl (cI, 16384, .inl z_rankOf)), (h_same, .inl (cI, 16385, .inl z_same)), (h_work, .inl (cI, 16384, .inl z_work)), (h_next, .inl (cI, 16384, .inl z_next))] H → va_D A [(h_t, .inr (8, [.int z_thrown, .ref h_tape, .ref h_row, .ref h_out, .ref h_sought, .int z_size, .int z_outSize, .int z_soughtSize, .int z_documents, .int z_indexed, .int z_suffixes, .int z_rows, .ref h_start, .ref h_documentOf, .ref h_order, .ref h_rankOf, .ref h_same, .ref h_work, .ref h_next, .ref h_often, .ref h_has, .int z_lesser])), (h_row, .inl (cB, 16384, .inl z_row)), (h_start, .inl (cI, 66, .inl z_start)), (h_documentOf, .inl (cI, 16384, .inl z_documentOf)), (h_order, .inl (cI, 16384, .inl z_order)), (h_rankOf, .inl (cI, 16384, .inl z_rankOf)), (h_same, .inl (cI, 16385, .inl z_same)), (h_work, .inl (cI, 16384, .inl z_work)), (h_next, .inl (cI, 16384, .inl z_next))] → va_S A s.heap H locs → lv_has ls 5 [(0, .ref h_t), (2, .int x2)] → W p l e rm_MD_build s m ([.ref h_t] : List Value).toArray below meth c H locs 0 0 (MQ below (va_Qi (fun (r : Int32) (u : Int32 × Int32 × Int32 × Int32 × (Nat → Int32) × (Nat → Int32) × (Nat → Int32) × (Nat → Int32) × (Nat → Int32)) => post r u.1 u.2.1 u.2.2.1 u.2.2.2.1 u.2.2.2.2.1 u.2.2.2.2.2.1 u.2.2.2.2.2.2.1 u.2.2.2.2.2.2.2.1 u.2.2.2.2.2.2.2.2) (fun u t => cAft (dC, dI) classes (TYS cI cJ cB cZ) A [(h_t, .inr (8, [.int u.1, .ref h_tape, .ref h_row, .ref h_out, .ref h_sought, .int z_size, .int z_outSize, .int u.2.1, .int z_documents, .int u.2.2.1, .int u.2.2.2.1, .int z_rows, .ref h_start, .ref h_documentOf, .ref h_order, .ref h_rankOf, .ref h_same, .ref h_work, .ref h_next, .ref h_often, .ref h_has, .int z_lesser])), (h_row, .inl (cB, 16384, .inl z_row)), (h_start, .inl (cI, 66, .inl z_start)), (h_documentOf, .inl (cI, 16384, .inl z_documentOf)), (h_order, .inl (cI, 16384, .inl u.2.2.2.2.1)), (h_rankOf, .inl (cI, 16384, .inl u.2.2.2.2.2.1)), (h_same, .inl (cI, 16385, .inl u.2.2.2.2.2.2.1)), (h_work, .inl (cI, 16384, .inl u.2.2.2.2.2.2.2.1)), (h_next, .inl (cI, 16384, .inl u.2.2.2.2.2.2.2.2))] t) A) ([.ref h_t] : List Value).toArray s 0 0 A) (F0 m 303 ls [.int k1, .ref h_same]) := by
  obtain ⟨hx, hb, hml, hown, hw⟩ := id F
  intro x2 k1 z_thrown z_soughtSize z_indexed z_suffixes z_order z_rankOf z_same z_work z_next hv H locs ls hP hD hS hl
  refine lv_iload_n hx hb d_MD_build_303 rfl (lv_at hl 1 rfl) ?_
  obtain ⟨hvt, hvf⟩ := hv
  refine lv_if_eq (tgt := 315) hx hb d_MD_build_304 (by decide) (fun c7 => ?_) (fun c7 => ?_)
  · have hv := hvt c7
    exact wk_MD_build_315 F hr hlk hK hA hK277 x2 k1 z_thrown z_soughtSize z_indexed z_suffixes z_order z_rankOf z_same z_work z_next hv _ _ _ hP hD hS (lv_sub hl [0, 1] rfl)
  · have hv := hvf c7
    refine lv_iload_n hx hb d_MD_build_307 rfl (lv_at hl 1 rfl) ?_
    refine lv_aload_n hx hb d_MD_build_308 rfl (lv_at hl 0 rfl) ?_
    refine va_get (D := (dC, dI)) (ci := 8) (v := .int z_suffixes) (C := "SuffixIndexModel") (T := F_MD) (N := 22) hx hb hw i_MD hown hK hP 0 rfl rfl 10 (by decide) (hw _ m_1111) (fun _ h9 => h9) rfl d_MD_build_309 ?_
    obtain ⟨hvt, hvf⟩ := hv
    refine lv_icmp_ne (tgt := 319) hx hb d_MD_build_312 (by decide) (fun c8 => ?_) (fun c8 => ?_)
    · have hv := hvt c8
      refine lv_aload_n hx hb d_MD_build_319 rfl (lv_at hl 0 rfl) ?_
      refine lv_aload_n hx hb d_MD_build_320 rfl (lv_at hl 0 rfl) ?_
      refine va_get (D := (dC, dI)) (ci := 8) (v := .ref h_order) (C := "SuffixIndexModel") (T := F_MD) (N := 22) hx hb hw i_MD hown hK hP 0 rfl rfl 14 (by decide) (hw _ m_1115) (fun _ h9 => h9) rfl d_MD_build_321 ?_
      refine lv_iload_n hx hb d_MD_build_324 rfl (lv_at hl 1 rfl) ?_
      refine lv_iconst (v := 1) hx hb d_MD_build_325 (by decide) ?_
      refine lv_isub hx hb d_MD_build_326 ?_
      obtain ⟨hin, hv⟩ := hv
      refine va_iald hx hb hK hP 4 0 rfl rfl hin d_MD_build_327 ?_
      refine lv_aload_n hx hb d_MD_build_328 rfl (lv_at hl 0 rfl) ?_
      refine va_get (D := (dC, dI)) (ci := 8) (v := .ref h_order) (C := "SuffixIndexModel") (T := F_MD) (N := 22) hx hb hw i_MD hown hK hP 0 rfl rfl 14 (by decide) (hw _ m_1115) (fun _ h9 => h9) rfl d_MD_build_329 ?_
      refine lv_iload_n hx hb d_MD_build_332 rfl (lv_at hl 1 rfl) ?_
      obtain ⟨hin, hv⟩ := hv
      refine va_iald hx hb hK hP 4 0 rfl rfl hin d_MD_build_333 ?_
      refine cV_i (wr := [(h_order, .inl (cI, 16384, .inl z_order)), (h_rankOf, .inl (cI, 16384, .inl z_rankOf)), (h_same, .inl (cI, 16385, .inl z_same)), (h_work, .inl (cI, 16384, .inl z_work)), (h_next, .inl (cI, 16384, .inl z_next))]) (rest := [.int k1, .ref h_same]) (c_MD_alike l dC dI cI cJ cB cZ h_t h_tape h_row h_out h_sought h_start h_documentOf h_order h_rankOf h_same h_work h_next h_often h_has H.size z_thrown z_size z_outSize z_soughtSize z_documents z_indexed z_suffixes z_rows z_lesser z_row z_start z_documentOf (z_order (x2 - 1).toNatClampNeg) (z_order x2.toNatClampNeg) _ hv) F (cw_V (fun _ h => h) 2 hw m_1213 m_1215 ms_34 m_9 m_1216 rfl rfl (by decide +kernel) ⟨by decide, by decide⟩) hK hP hD hS hA [0, 1, 2, 3] [4, 5, 6, 7, 8] rfl rfl rfl rfl (by decide) 0 8 rfl rfl rfl hl.1 rfl (Nat.le_of_ble_eq_true rfl) d_MD_build_334 ⟨Nat.le_of_ble_eq_true rfl, Nat.le_of_ble_eq_true rfl⟩ (fun r9 u H locs hv hP hD hS => ?_)
      have hP : va_P (dC, dI) classes [(h_t, .inr (8, [.int z_thrown, .ref h_tape, .ref h_row, .ref h_out, .ref h_sought, .int z_size, .int z_outSize, .int z_soughtSize, .int z_documents, .int z_indexed, .int z_suffixes, .int z_rows, .ref h_start, .ref h_documentOf, .ref h_order, .ref h_rankOf, .ref h_same, .ref h_work, .ref h_next, .ref h_often, .ref h_has, .int z_lesser])), (h_row, .inl (cB, 16384, .inl z_row)), (h_start, .inl (cI, 66, .inl z_start)), (h_documentOf, .inl (cI, 16384, .inl z_documentOf)), (h_order, .inl (cI, 16384, .inl z_order)), (h_rankOf, .inl (cI, 16384, .inl z_rankOf)), (h_same, .inl (cI, 16385, .inl z_same)), (h_work, .inl (cI, 16384, .inl z_work)), (h_next, .inl (cI, 16384, .inl z_next))] H := P_sub hP [5, 6, 7, 8, 0, 1, 2, 3, 4] rfl
      have hD : va_D A [(h_t, .inr (8, [.int z_thrown, .ref h_tape, .ref h_row, .ref h_out, .ref h_sought, .int z_size, .int z_outSize, .int z_soughtSize, .int z_documents, .int z_indexed, .int z_suffixes, .int z_rows, .ref h_start, .ref h_documentOf, .ref h_order, .ref h_rankOf, .ref h_same, .ref h_work, .ref h_next, .ref h_often, .ref h_has, .int z_lesser])), (h_row, .inl (cB, 16384, .inl z_row)), (h_start, .inl (cI, 66, .inl z_start)), (h_documentOf, .inl (cI, 16384, .inl z_documentOf)), (h_order, .inl (cI, 16384, .inl z_order)), (h_rankOf, .inl (cI, 16384, .inl z_rankOf)), (h_same, .inl (cI, 16385, .inl z_same)), (h_work, .inl (cI, 16384, .inl z_work)), (h_next, .inl (cI, 16384, .inl z_next))] := hD.sub [5, 6, 7, 8, 0, 1, 2, 3, 4] rfl rfl
      exact wk_MD_build_337 F hr hlk hK hA hK277 x2 k1 r9 z_thrown z_soughtSize z_indexed z_suffixes z_order z_rankOf z_same z_work z_next hv _ _ _ hP hD hS (lv_sub hl [0, 1] rfl)
    · have hv := hvf c8
      exact wk_MD_build_315 F hr hlk hK hA hK277 x2 k1 z_thrown z_soughtSize z_indexed z_suffixes z_order z_rankOf z_same z_work z_next hv _ _ _ hP hD hS (lv_sub hl [0, 1] rfl)

set_option maxHeartbeats 4000000 in
set_option maxRecDepth 100000 in
theorem wk_MD_build_277 {p : Program} {l : Launch} {e : Env} {s : State} {m : MethodId} {below : List Frame} {meth : Method} {c : Code} {A : Nat → Prop} {dC : Nat → ClassId} {dI : Nat → Nat → Nat} {cI cJ cB cZ : ClassId} {h_t : Nat} {h_tape : Nat} {h_row : Nat} {h_out : Nat} {h_sought : Nat} {h_start : Nat} {h_documentOf : Nat} {h_order : Nat} {h_rankOf : Nat} {h_same : Nat} {h_work : Nat} {h_next : Nat} {h_often : Nat} {h_has : Nat} {z_documents : Int32} {z_rows : Int32} {z_row : Nat → Int32} {z_start : Nat → Int32} {z_documentOf : Nat → Int32} {z_size : Int32} {z_outSize : Int32} {z_lesser : Int32} {post : Int32 → Int32 → Int32 → Int32 → Int32 → (Nat → Int32) → (Nat → Int32) → (Nat → Int32) → (Nat → Int32) → (Nat → Int32) → Prop} (F : CallFix p m c b_MD_build 5 s ([.ref h_t] : List Value).toArray WT "SuffixIndexModel") (hr : meth.sig.returnType = (some .int)) (hlk : meth.locks = false) (hK : va_K (dC, dI) classes (TYS cI cJ cB cZ) s) (hA : ∀ q, s.heap.size ≤ q → A q) : ∀ (k : Nat) (x2 : Int32) (z_thrown : Int32) (z_soughtSize : Int32) (z_indexed : Int32) (z_suffixes : Int32) (z_order : Nat → Int32) (z_rankOf : Nat → Int32) (z_same : Nat → Int32) (z_work : Nat → Int32) (z_next : Nat → Int32), vc_MD_build_277 z_documents z_rows z_row z_start z_documentOf post k x2 z_thrown z_soughtSize z_indexed z_suffixes z_order z_rankOf z_same z_work z_next → ∀ (H : Heap) (locs : List Loc) (ls : Array Slot), va_P (dC, dI) classes [(h_t, .inr (8, [.int z_thrown, .ref h_tape, .ref h_row, .ref h_out, .ref h_sought, .int z_size, .int z_outSize, .int z_soughtSize, .int z_documents, .int z_indexed, .int z_suffixes, .int z_rows, .ref h_start, .ref h_documentOf, .ref h_order, .ref h_rankOf, .ref h_same, .ref h_work, .ref h_next, .ref h_often, .ref h_has, .int z_lesser])), (h_row, .inl (cB, 16384, .inl z_row)), (h_start, .inl (cI, 66, .inl z_start)), (h_documentOf, .inl (cI, 16384, .inl z_documentOf)), (h_order, .inl (cI, 16384, .inl z_order)), (h_rankOf, .inl (cI, 16384, .inl z_rankOf)), (h_same, .inl (cI, 16385, .inl z_same)), (h_work, .inl (cI, 16384, .inl z_work)), (h_next, .inl (cI, 16384, .inl z_next))] H → va_D A [(h_t, .inr (8, [.int z_thrown, .ref h_tape, .ref h_row, .ref h_out, .ref h_sought, .int z_size, .int z_outSize, .int z_soughtSize, .int z_documents, .int z_indexed, .int z_suffixes, .int z_rows, .ref h_start, .ref h_documentOf, .ref h_order, .ref h_rankOf, .ref h_same, .ref h_work, .ref h_next, .ref h_often, .ref h_has, .int z_lesser])), (h_row, .inl (cB, 16384, .inl z_row)), (h_start, .inl (cI, 66, .inl z_start)), (h_documentOf, .inl (cI, 16384, .inl z_documentOf)), (h_order, .inl (cI, 16384, .inl z_order)), (h_rankOf, .inl (cI, 16384, .inl z_rankOf)), (h_same, .inl (cI, 16385, .inl z_same)), (h_work, .inl (cI, 16384, .inl z_work)), (h_next, .inl (cI, 16384, .inl z_next))] → va_S A s.heap H locs → lv_has ls 5 [(0, .ref h_t), (2, .int x2)] → W p l e rm_MD_build s m ([.ref h_t] : List Value).toArray below meth c H locs 0 0 (MQ below (va_Qi (fun (r : Int32) (u : Int32 × Int32 × Int32 × Int32 × (Nat → Int32) × (Nat → Int32) × (Nat → Int32) × (Nat → Int32) × (Nat → Int32)) => post r u.1 u.2.1 u.2.2.1 u.2.2.2.1 u.2.2.2.2.1 u.2.2.2.2.2.1 u.2.2.2.2.2.2.1 u.2.2.2.2.2.2.2.1 u.2.2.2.2.2.2.2.2) (fun u t => cAft (dC, dI) classes (TYS cI cJ cB cZ) A [(h_t, .inr (8, [.int u.1, .ref h_tape, .ref h_row, .ref h_out, .ref h_sought, .int z_size, .int z_outSize, .int u.2.1, .int z_documents, .int u.2.2.1, .int u.2.2.2.1, .int z_rows, .ref h_start, .ref h_documentOf, .ref h_order, .ref h_rankOf, .ref h_same, .ref h_work, .ref h_next, .ref h_often, .ref h_has, .int z_lesser])), (h_row, .inl (cB, 16384, .inl z_row)), (h_start, .inl (cI, 66, .inl z_start)), (h_documentOf, .inl (cI, 16384, .inl z_documentOf)), (h_order, .inl (cI, 16384, .inl u.2.2.2.2.1)), (h_rankOf, .inl (cI, 16384, .inl u.2.2.2.2.2.1)), (h_same, .inl (cI, 16385, .inl u.2.2.2.2.2.2.1)), (h_work, .inl (cI, 16384, .inl u.2.2.2.2.2.2.2.1)), (h_next, .inl (cI, 16384, .inl u.2.2.2.2.2.2.2.2))] t) A) ([.ref h_t] : List Value).toArray s 0 0 A) (F0 m 277 ls []) := by
  obtain ⟨hx, hb, hml, hown, hw⟩ := id F
  intro k
  induction k with
  | zero =>
    intro x2 z_thrown z_soughtSize z_indexed z_suffixes z_order z_rankOf z_same z_work z_next hv
    exact False.elim hv
  | succ k ih =>
    intro x2 z_thrown z_soughtSize z_indexed z_suffixes z_order z_rankOf z_same z_work z_next hv H locs ls hP hD hS hl
    refine lv_iload_n hx hb d_MD_build_277 rfl (lv_at hl 1 rfl) ?_
    refine lv_aload_n hx hb d_MD_build_278 rfl (lv_at hl 0 rfl) ?_
    refine va_get (D := (dC, dI)) (ci := 8) (v := .int z_suffixes) (C := "SuffixIndexModel") (T := F_MD) (N := 22) hx hb hw i_MD hown hK hP 0 rfl rfl 10 (by decide) (hw _ m_1111) (fun _ h9 => h9) rfl d_MD_build_279 ?_
    obtain ⟨hvt, hvf⟩ := hv
    refine lv_icmp_gt (tgt := 344) hx hb d_MD_build_282 (by decide) (fun c10 => ?_) (fun c10 => ?_)
    · have hv := hvt c10
      refine lv_aload_n hx hb d_MD_build_344 rfl (lv_at hl 0 rfl) ?_
      refine va_get (D := (dC, dI)) (ci := 8) (v := .int z_suffixes) (C := "SuffixIndexModel") (T := F_MD) (N := 22) hx hb hw i_MD hown hK hP 0 rfl rfl 10 (by decide) (hw _ m_1111) (fun _ h9 => h9) rfl d_MD_build_345 ?_
      exact W.iret (v := z_suffixes) hx hb hr (fun t ht hW => ⟨⟨z_suffixes, (z_thrown, z_soughtSize, z_indexed, z_suffixes, z_order, z_rankOf, z_same, z_work, z_next), rfl, hv, by rw [ht]; exact hP, va_K.moved hW.alike hK, hD⟩, hS.F ht⟩) hS.2.2 d_MD_build_348
    · have hv := hvf c10
      refine lv_aload_n hx hb d_MD_build_285 rfl (lv_at hl 0 rfl) ?_
      refine va_get (D := (dC, dI)) (ci := 8) (v := .ref h_same) (C := "SuffixIndexModel") (T := F_MD) (N := 22) hx hb hw i_MD hown hK hP 0 rfl rfl 16 (by decide) (hw _ m_1117) (fun _ h9 => h9) rfl d_MD_build_286 ?_
      refine lv_iload_n hx hb d_MD_build_289 rfl (lv_at hl 1 rfl) ?_
      refine lv_sipush (v := 16384) hx hb d_MD_build_290 (by decide) ?_
      obtain ⟨hvt, hvf⟩ := hv
      refine lv_icmp_ne (tgt := 302) hx hb d_MD_build_293 (by decide) (fun c11 => ?_) (fun c11 => ?_)
      · have hv := hvt c11
        refine lv_iload_n hx hb d_MD_build_302 rfl (lv_at hl 1 rfl) ?_
        exact wk_MD_build_303 F hr hlk hK hA ih x2 x2 z_thrown z_soughtSize z_indexed z_suffixes z_order z_rankOf z_same z_work z_next hv _ _ _ hP hD hS (lv_sub hl [0, 1] rfl)
      · have hv := hvf c11
        refine lv_sipush (v := 16384) hx hb d_MD_build_296 (by decide) ?_
        refine lv_goto (tgt := 303) hx hb d_MD_build_299 (by decide) ?_
        exact wk_MD_build_303 F hr hlk hK hA ih x2 16384 z_thrown z_soughtSize z_indexed z_suffixes z_order z_rankOf z_same z_work z_next hv _ _ _ hP hD hS (lv_sub hl [0, 1] rfl)

set_option maxHeartbeats 4000000 in
set_option maxRecDepth 100000 in
theorem wk_MD_build_249 {p : Program} {l : Launch} {e : Env} {s : State} {m : MethodId} {below : List Frame} {meth : Method} {c : Code} {A : Nat → Prop} {dC : Nat → ClassId} {dI : Nat → Nat → Nat} {cI cJ cB cZ : ClassId} {h_t : Nat} {h_tape : Nat} {h_row : Nat} {h_out : Nat} {h_sought : Nat} {h_start : Nat} {h_documentOf : Nat} {h_order : Nat} {h_rankOf : Nat} {h_same : Nat} {h_work : Nat} {h_next : Nat} {h_often : Nat} {h_has : Nat} {z_documents : Int32} {z_rows : Int32} {z_row : Nat → Int32} {z_start : Nat → Int32} {z_documentOf : Nat → Int32} {z_size : Int32} {z_outSize : Int32} {z_lesser : Int32} {post : Int32 → Int32 → Int32 → Int32 → Int32 → (Nat → Int32) → (Nat → Int32) → (Nat → Int32) → (Nat → Int32) → (Nat → Int32) → Prop} (F : CallFix p m c b_MD_build 5 s ([.ref h_t] : List Value).toArray WT "SuffixIndexModel") (hr : meth.sig.returnType = (some .int)) (hlk : meth.locks = false) (hK : va_K (dC, dI) classes (TYS cI cJ cB cZ) s) (hA : ∀ q, s.heap.size ≤ q → A q) : ∀ (k : Nat) (x2 : Int32) (z_thrown : Int32) (z_soughtSize : Int32) (z_indexed : Int32) (z_suffixes : Int32) (z_order : Nat → Int32) (z_rankOf : Nat → Int32) (z_same : Nat → Int32) (z_work : Nat → Int32) (z_next : Nat → Int32), vc_MD_build_249 z_documents z_rows z_row z_start z_documentOf post k x2 z_thrown z_soughtSize z_indexed z_suffixes z_order z_rankOf z_same z_work z_next → ∀ (H : Heap) (locs : List Loc) (ls : Array Slot), va_P (dC, dI) classes [(h_t, .inr (8, [.int z_thrown, .ref h_tape, .ref h_row, .ref h_out, .ref h_sought, .int z_size, .int z_outSize, .int z_soughtSize, .int z_documents, .int z_indexed, .int z_suffixes, .int z_rows, .ref h_start, .ref h_documentOf, .ref h_order, .ref h_rankOf, .ref h_same, .ref h_work, .ref h_next, .ref h_often, .ref h_has, .int z_lesser])), (h_row, .inl (cB, 16384, .inl z_row)), (h_start, .inl (cI, 66, .inl z_start)), (h_documentOf, .inl (cI, 16384, .inl z_documentOf)), (h_order, .inl (cI, 16384, .inl z_order)), (h_rankOf, .inl (cI, 16384, .inl z_rankOf)), (h_same, .inl (cI, 16385, .inl z_same)), (h_work, .inl (cI, 16384, .inl z_work)), (h_next, .inl (cI, 16384, .inl z_next))] H → va_D A [(h_t, .inr (8, [.int z_thrown, .ref h_tape, .ref h_row, .ref h_out, .ref h_sought, .int z_size, .int z_outSize, .int z_soughtSize, .int z_documents, .int z_indexed, .int z_suffixes, .int z_rows, .ref h_start, .ref h_documentOf, .ref h_order, .ref h_rankOf, .ref h_same, .ref h_work, .ref h_next, .ref h_often, .ref h_has, .int z_lesser])), (h_row, .inl (cB, 16384, .inl z_row)), (h_start, .inl (cI, 66, .inl z_start)), (h_documentOf, .inl (cI, 16384, .inl z_documentOf)), (h_order, .inl (cI, 16384, .inl z_order)), (h_rankOf, .inl (cI, 16384, .inl z_rankOf)), (h_same, .inl (cI, 16385, .inl z_same)), (h_work, .inl (cI, 16384, .inl z_work)), (h_next, .inl (cI, 16384, .inl z_next))] → va_S A s.heap H locs → lv_has ls 5 [(0, .ref h_t), (2, .int x2)] → W p l e rm_MD_build s m ([.ref h_t] : List Value).toArray below meth c H locs 0 0 (MQ below (va_Qi (fun (r : Int32) (u : Int32 × Int32 × Int32 × Int32 × (Nat → Int32) × (Nat → Int32) × (Nat → Int32) × (Nat → Int32) × (Nat → Int32)) => post r u.1 u.2.1 u.2.2.1 u.2.2.2.1 u.2.2.2.2.1 u.2.2.2.2.2.1 u.2.2.2.2.2.2.1 u.2.2.2.2.2.2.2.1 u.2.2.2.2.2.2.2.2) (fun u t => cAft (dC, dI) classes (TYS cI cJ cB cZ) A [(h_t, .inr (8, [.int u.1, .ref h_tape, .ref h_row, .ref h_out, .ref h_sought, .int z_size, .int z_outSize, .int u.2.1, .int z_documents, .int u.2.2.1, .int u.2.2.2.1, .int z_rows, .ref h_start, .ref h_documentOf, .ref h_order, .ref h_rankOf, .ref h_same, .ref h_work, .ref h_next, .ref h_often, .ref h_has, .int z_lesser])), (h_row, .inl (cB, 16384, .inl z_row)), (h_start, .inl (cI, 66, .inl z_start)), (h_documentOf, .inl (cI, 16384, .inl z_documentOf)), (h_order, .inl (cI, 16384, .inl u.2.2.2.2.1)), (h_rankOf, .inl (cI, 16384, .inl u.2.2.2.2.2.1)), (h_same, .inl (cI, 16385, .inl u.2.2.2.2.2.2.1)), (h_work, .inl (cI, 16384, .inl u.2.2.2.2.2.2.2.1)), (h_next, .inl (cI, 16384, .inl u.2.2.2.2.2.2.2.2))] t) A) ([.ref h_t] : List Value).toArray s 0 0 A) (F0 m 249 ls []) := by
  obtain ⟨hx, hb, hml, hown, hw⟩ := id F
  intro k
  induction k with
  | zero =>
    intro x2 z_thrown z_soughtSize z_indexed z_suffixes z_order z_rankOf z_same z_work z_next hv
    exact False.elim hv
  | succ k ih =>
    intro x2 z_thrown z_soughtSize z_indexed z_suffixes z_order z_rankOf z_same z_work z_next hv H locs ls hP hD hS hl
    refine lv_iload_n hx hb d_MD_build_249 rfl (lv_at hl 1 rfl) ?_
    refine lv_aload_n hx hb d_MD_build_250 rfl (lv_at hl 0 rfl) ?_
    refine va_get (D := (dC, dI)) (ci := 8) (v := .int z_suffixes) (C := "SuffixIndexModel") (T := F_MD) (N := 22) hx hb hw i_MD hown hK hP 0 rfl rfl 10 (by decide) (hw _ m_1111) (fun _ h9 => h9) rfl d_MD_build_251 ?_
    obtain ⟨hvt, hvf⟩ := hv
    refine lv_icmp_ge (tgt := 275) hx hb d_MD_build_254 (by decide) (fun c12 => ?_) (fun c12 => ?_)
    · have hv := hvt c12
      refine lv_iconst (v := 0) hx hb d_MD_build_275 (by decide) ?_
      refine lv_istore_n (lv' := [(2, .int 0), (0, .ref h_t)]) hx hb d_MD_build_276 rfl hl (by decide) rfl (fun ls hl => ?_)
      obtain ⟨j, hv⟩ := hv
      exact wk_MD_build_277 F hr hlk hK hA j 0 z_thrown z_soughtSize z_indexed z_suffixes z_order z_rankOf z_same z_work z_next hv _ _ _ hP hD hS (lv_sub hl [1, 0] rfl)
    · have hv := hvf c12
      refine lv_aload_n hx hb d_MD_build_257 rfl (lv_at hl 0 rfl) ?_
      refine va_get (D := (dC, dI)) (ci := 8) (v := .ref h_rankOf) (C := "SuffixIndexModel") (T := F_MD) (N := 22) hx hb hw i_MD hown hK hP 0 rfl rfl 15 (by decide) (hw _ m_1116) (fun _ h9 => h9) rfl d_MD_build_258 ?_
      refine lv_aload_n hx hb d_MD_build_261 rfl (lv_at hl 0 rfl) ?_
      refine va_get (D := (dC, dI)) (ci := 8) (v := .ref h_order) (C := "SuffixIndexModel") (T := F_MD) (N := 22) hx hb hw i_MD hown hK hP 0 rfl rfl 14 (by decide) (hw _ m_1115) (fun _ h9 => h9) rfl d_MD_build_262 ?_
      refine lv_iload_n hx hb d_MD_build_265 rfl (lv_at hl 1 rfl) ?_
      obtain ⟨hin, hv⟩ := hv
      refine va_iald hx hb hK hP 4 0 rfl rfl hin d_MD_build_266 ?_
      refine lv_iload_n hx hb d_MD_build_267 rfl (lv_at hl 1 rfl) ?_
      obtain ⟨hin, hv⟩ := hv
      refine va_iast hx hb hK hP hD hS 5 0 rfl rfl hin d_MD_build_268 (fun H locs hP hD hS => ?_)
      have hP : va_P (dC, dI) classes [(h_t, .inr (8, [.int z_thrown, .ref h_tape, .ref h_row, .ref h_out, .ref h_sought, .int z_size, .int z_outSize, .int z_soughtSize, .int z_documents, .int z_indexed, .int z_suffixes, .int z_rows, .ref h_start, .ref h_documentOf, .ref h_order, .ref h_rankOf, .ref h_same, .ref h_work, .ref h_next, .ref h_often, .ref h_has, .int z_lesser])), (h_row, .inl (cB, 16384, .inl z_row)), (h_start, .inl (cI, 66, .inl z_start)), (h_documentOf, .inl (cI, 16384, .inl z_documentOf)), (h_order, .inl (cI, 16384, .inl z_order)), (h_rankOf, .inl (cI, 16384, .inl (upd z_rankOf (z_order x2.toNatClampNeg).toNatClampNeg x2))), (h_same, .inl (cI, 16385, .inl z_same)), (h_work, .inl (cI, 16384, .inl z_work)), (h_next, .inl (cI, 16384, .inl z_next))] H := hP
      have hD : va_D A [(h_t, .inr (8, [.int z_thrown, .ref h_tape, .ref h_row, .ref h_out, .ref h_sought, .int z_size, .int z_outSize, .int z_soughtSize, .int z_documents, .int z_indexed, .int z_suffixes, .int z_rows, .ref h_start, .ref h_documentOf, .ref h_order, .ref h_rankOf, .ref h_same, .ref h_work, .ref h_next, .ref h_often, .ref h_has, .int z_lesser])), (h_row, .inl (cB, 16384, .inl z_row)), (h_start, .inl (cI, 66, .inl z_start)), (h_documentOf, .inl (cI, 16384, .inl z_documentOf)), (h_order, .inl (cI, 16384, .inl z_order)), (h_rankOf, .inl (cI, 16384, .inl (upd z_rankOf (z_order x2.toNatClampNeg).toNatClampNeg x2))), (h_same, .inl (cI, 16385, .inl z_same)), (h_work, .inl (cI, 16384, .inl z_work)), (h_next, .inl (cI, 16384, .inl z_next))] := hD
      refine lv_iinc (v := x2 + 1) (lv' := [(2, .int (x2 + 1)), (0, .ref h_t)]) hx hb d_MD_build_269 hl (k := 1) rfl (iinc_v (by decide)) (by decide) rfl (fun ls hl => ?_)
      refine lv_goto (tgt := 249) hx hb d_MD_build_272 (by decide) ?_
      exact ih (x2 + 1) z_thrown z_soughtSize z_indexed z_suffixes z_order (upd z_rankOf (z_order x2.toNatClampNeg).toNatClampNeg x2) z_same z_work z_next hv _ _ _ hP hD hS (lv_sub hl [1, 0] rfl)

set_option maxHeartbeats 4000000 in
set_option maxRecDepth 100000 in
theorem wk_MD_build_214 {p : Program} {l : Launch} {e : Env} {s : State} {m : MethodId} {below : List Frame} {meth : Method} {c : Code} {A : Nat → Prop} {dC : Nat → ClassId} {dI : Nat → Nat → Nat} {cI cJ cB cZ : ClassId} {h_t : Nat} {h_tape : Nat} {h_row : Nat} {h_out : Nat} {h_sought : Nat} {h_start : Nat} {h_documentOf : Nat} {h_order : Nat} {h_rankOf : Nat} {h_same : Nat} {h_work : Nat} {h_next : Nat} {h_often : Nat} {h_has : Nat} {z_documents : Int32} {z_rows : Int32} {z_row : Nat → Int32} {z_start : Nat → Int32} {z_documentOf : Nat → Int32} {z_size : Int32} {z_outSize : Int32} {z_lesser : Int32} {post : Int32 → Int32 → Int32 → Int32 → Int32 → (Nat → Int32) → (Nat → Int32) → (Nat → Int32) → (Nat → Int32) → (Nat → Int32) → Prop} (F : CallFix p m c b_MD_build 5 s ([.ref h_t] : List Value).toArray WT "SuffixIndexModel") (hr : meth.sig.returnType = (some .int)) (hlk : meth.locks = false) (hK : va_K (dC, dI) classes (TYS cI cJ cB cZ) s) (hA : ∀ q, s.heap.size ≤ q → A q) : ∀ (k : Nat) (x2 : Int32) (z_thrown : Int32) (z_soughtSize : Int32) (z_indexed : Int32) (z_suffixes : Int32) (z_order : Nat → Int32) (z_rankOf : Nat → Int32) (z_same : Nat → Int32) (z_work : Nat → Int32) (z_next : Nat → Int32), vc_MD_build_214 z_documents z_rows z_row z_start z_documentOf post k x2 z_thrown z_soughtSize z_indexed z_suffixes z_order z_rankOf z_same z_work z_next → ∀ (H : Heap) (locs : List Loc) (ls : Array Slot), va_P (dC, dI) classes [(h_t, .inr (8, [.int z_thrown, .ref h_tape, .ref h_row, .ref h_out, .ref h_sought, .int z_size, .int z_outSize, .int z_soughtSize, .int z_documents, .int z_indexed, .int z_suffixes, .int z_rows, .ref h_start, .ref h_documentOf, .ref h_order, .ref h_rankOf, .ref h_same, .ref h_work, .ref h_next, .ref h_often, .ref h_has, .int z_lesser])), (h_row, .inl (cB, 16384, .inl z_row)), (h_start, .inl (cI, 66, .inl z_start)), (h_documentOf, .inl (cI, 16384, .inl z_documentOf)), (h_order, .inl (cI, 16384, .inl z_order)), (h_rankOf, .inl (cI, 16384, .inl z_rankOf)), (h_same, .inl (cI, 16385, .inl z_same)), (h_work, .inl (cI, 16384, .inl z_work)), (h_next, .inl (cI, 16384, .inl z_next))] H → va_D A [(h_t, .inr (8, [.int z_thrown, .ref h_tape, .ref h_row, .ref h_out, .ref h_sought, .int z_size, .int z_outSize, .int z_soughtSize, .int z_documents, .int z_indexed, .int z_suffixes, .int z_rows, .ref h_start, .ref h_documentOf, .ref h_order, .ref h_rankOf, .ref h_same, .ref h_work, .ref h_next, .ref h_often, .ref h_has, .int z_lesser])), (h_row, .inl (cB, 16384, .inl z_row)), (h_start, .inl (cI, 66, .inl z_start)), (h_documentOf, .inl (cI, 16384, .inl z_documentOf)), (h_order, .inl (cI, 16384, .inl z_order)), (h_rankOf, .inl (cI, 16384, .inl z_rankOf)), (h_same, .inl (cI, 16385, .inl z_same)), (h_work, .inl (cI, 16384, .inl z_work)), (h_next, .inl (cI, 16384, .inl z_next))] → va_S A s.heap H locs → lv_has ls 5 [(0, .ref h_t), (2, .int x2)] → W p l e rm_MD_build s m ([.ref h_t] : List Value).toArray below meth c H locs 0 0 (MQ below (va_Qi (fun (r : Int32) (u : Int32 × Int32 × Int32 × Int32 × (Nat → Int32) × (Nat → Int32) × (Nat → Int32) × (Nat → Int32) × (Nat → Int32)) => post r u.1 u.2.1 u.2.2.1 u.2.2.2.1 u.2.2.2.2.1 u.2.2.2.2.2.1 u.2.2.2.2.2.2.1 u.2.2.2.2.2.2.2.1 u.2.2.2.2.2.2.2.2) (fun u t => cAft (dC, dI) classes (TYS cI cJ cB cZ) A [(h_t, .inr (8, [.int u.1, .ref h_tape, .ref h_row, .ref h_out, .ref h_sought, .int z_size, .int z_outSize, .int u.2.1, .int z_documents, .int u.2.2.1, .int u.2.2.2.1, .int z_rows, .ref h_start, .ref h_documentOf, .ref h_order, .ref h_rankOf, .ref h_same, .ref h_work, .ref h_next, .ref h_often, .ref h_has, .int z_lesser])), (h_row, .inl (cB, 16384, .inl z_row)), (h_start, .inl (cI, 66, .inl z_start)), (h_documentOf, .inl (cI, 16384, .inl z_documentOf)), (h_order, .inl (cI, 16384, .inl u.2.2.2.2.1)), (h_rankOf, .inl (cI, 16384, .inl u.2.2.2.2.2.1)), (h_same, .inl (cI, 16385, .inl u.2.2.2.2.2.2.1)), (h_work, .inl (cI, 16384, .inl u.2.2.2.2.2.2.2.1)), (h_next, .inl (cI, 16384, .inl u.2.2.2.2.2.2.2.2))] t) A) ([.ref h_t] : List Value).toArray s 0 0 A) (F0 m 214 ls []) := by
  obtain ⟨hx, hb, hml, hown, hw⟩ := id F
  intro k
  induction k with
  | zero =>
    intro x2 z_thrown z_soughtSize z_indexed z_suffixes z_order z_rankOf z_same z_work z_next hv
    exact False.elim hv
  | succ k ih =>
    intro x2 z_thrown z_soughtSize z_indexed z_suffixes z_order z_rankOf z_same z_work z_next hv H locs ls hP hD hS hl
    refine lv_iload_n hx hb d_MD_build_214 rfl (lv_at hl 1 rfl) ?_
    refine lv_aload_n hx hb d_MD_build_215 rfl (lv_at hl 0 rfl) ?_
    refine va_get (D := (dC, dI)) (ci := 8) (v := .int z_suffixes) (C := "SuffixIndexModel") (T := F_MD) (N := 22) hx hb hw i_MD hown hK hP 0 rfl rfl 10 (by decide) (hw _ m_1111) (fun _ h9 => h9) rfl d_MD_build_216 ?_
    obtain ⟨hvt, hvf⟩ := hv
    refine lv_icmp_ge (tgt := 235) hx hb d_MD_build_219 (by decide) (fun c13 => ?_) (fun c13 => ?_)
    · have hv := hvt c13
      refine lv_aload_n hx hb d_MD_build_235 rfl (lv_at hl 0 rfl) ?_
      refine lv_iconst (v := 0) hx hb d_MD_build_236 (by decide) ?_
      refine lv_aload_n hx hb d_MD_build_237 rfl (lv_at hl 0 rfl) ?_
      refine va_get (D := (dC, dI)) (ci := 8) (v := .int z_suffixes) (C := "SuffixIndexModel") (T := F_MD) (N := 22) hx hb hw i_MD hown hK hP 0 rfl rfl 10 (by decide) (hw _ m_1111) (fun _ h9 => h9) rfl d_MD_build_238 ?_
      refine lv_sipush (v := 16384) hx hb d_MD_build_241 (by decide) ?_
      refine cV_v (wr := [(h_row, .inl (cB, 16384, .inl z_row)), (h_same, .inl (cI, 16385, .inl z_same)), (h_next, .inl (cI, 16384, .inl z_next))]) (rest := []) (c_MD_sort l dC dI cI cJ cB cZ h_t h_tape h_row h_out h_sought h_start h_documentOf h_order h_rankOf h_same h_work h_next h_often h_has 20 H.size z_thrown z_size z_outSize z_soughtSize z_documents z_indexed z_suffixes z_rows z_lesser z_start z_documentOf z_order z_rankOf z_work 0 z_suffixes 16384 _ hv) F (cw_V (fun _ h => h) 3 hw m_1197 m_1199 ms_30 m_9 m_1200 rfl rfl (by decide +kernel) ⟨by decide, by decide⟩) hK hP hD hS hA [0, 2, 3, 4, 5, 7] [1, 6, 8] rfl rfl rfl rfl (by decide) 0 8 rfl rfl rfl hl.1 rfl (Nat.le_of_ble_eq_true rfl) d_MD_build_244 ⟨Nat.le_of_ble_eq_true rfl, Nat.le_of_ble_eq_true rfl⟩ (fun u H locs hv hP hD hS => ?_)
      obtain ⟨u14_0, u14_1⟩ := u
      have hP : va_P (dC, dI) classes [(h_t, .inr (8, [.int z_thrown, .ref h_tape, .ref h_row, .ref h_out, .ref h_sought, .int z_size, .int z_outSize, .int z_soughtSize, .int z_documents, .int z_indexed, .int z_suffixes, .int z_rows, .ref h_start, .ref h_documentOf, .ref h_order, .ref h_rankOf, .ref h_same, .ref h_work, .ref h_next, .ref h_often, .ref h_has, .int z_lesser])), (h_row, .inl (cB, 16384, .inl z_row)), (h_start, .inl (cI, 66, .inl z_start)), (h_documentOf, .inl (cI, 16384, .inl z_documentOf)), (h_order, .inl (cI, 16384, .inl u14_0)), (h_rankOf, .inl (cI, 16384, .inl z_rankOf)), (h_same, .inl (cI, 16385, .inl z_same)), (h_work, .inl (cI, 16384, .inl u14_1)), (h_next, .inl (cI, 16384, .inl z_next))] H := P_sub hP [3, 0, 4, 5, 6, 7, 1, 8, 2] rfl
      have hD : va_D A [(h_t, .inr (8, [.int z_thrown, .ref h_tape, .ref h_row, .ref h_out, .ref h_sought, .int z_size, .int z_outSize, .int z_soughtSize, .int z_documents, .int z_indexed, .int z_suffixes, .int z_rows, .ref h_start, .ref h_documentOf, .ref h_order, .ref h_rankOf, .ref h_same, .ref h_work, .ref h_next, .ref h_often, .ref h_has, .int z_lesser])), (h_row, .inl (cB, 16384, .inl z_row)), (h_start, .inl (cI, 66, .inl z_start)), (h_documentOf, .inl (cI, 16384, .inl z_documentOf)), (h_order, .inl (cI, 16384, .inl u14_0)), (h_rankOf, .inl (cI, 16384, .inl z_rankOf)), (h_same, .inl (cI, 16385, .inl z_same)), (h_work, .inl (cI, 16384, .inl u14_1)), (h_next, .inl (cI, 16384, .inl z_next))] := hD.sub [3, 0, 4, 5, 6, 7, 1, 8, 2] rfl rfl
      refine lv_iconst (v := 0) hx hb d_MD_build_247 (by decide) ?_
      refine lv_istore_n (lv' := [(2, .int 0), (0, .ref h_t)]) hx hb d_MD_build_248 rfl hl (by decide) rfl (fun ls hl => ?_)
      obtain ⟨j, hv⟩ := hv
      exact wk_MD_build_249 F hr hlk hK hA j 0 z_thrown z_soughtSize z_indexed z_suffixes u14_0 z_rankOf z_same u14_1 z_next hv _ _ _ hP hD hS (lv_sub hl [1, 0] rfl)
    · have hv := hvf c13
      refine lv_aload_n hx hb d_MD_build_222 rfl (lv_at hl 0 rfl) ?_
      refine va_get (D := (dC, dI)) (ci := 8) (v := .ref h_order) (C := "SuffixIndexModel") (T := F_MD) (N := 22) hx hb hw i_MD hown hK hP 0 rfl rfl 14 (by decide) (hw _ m_1115) (fun _ h9 => h9) rfl d_MD_build_223 ?_
      refine lv_iload_n hx hb d_MD_build_226 rfl (lv_at hl 1 rfl) ?_
      refine lv_iload_n hx hb d_MD_build_227 rfl (lv_at hl 1 rfl) ?_
      obtain ⟨hin, hv⟩ := hv
      refine va_iast hx hb hK hP hD hS 4 0 rfl rfl hin d_MD_build_228 (fun H locs hP hD hS => ?_)
      have hP : va_P (dC, dI) classes [(h_t, .inr (8, [.int z_thrown, .ref h_tape, .ref h_row, .ref h_out, .ref h_sought, .int z_size, .int z_outSize, .int z_soughtSize, .int z_documents, .int z_indexed, .int z_suffixes, .int z_rows, .ref h_start, .ref h_documentOf, .ref h_order, .ref h_rankOf, .ref h_same, .ref h_work, .ref h_next, .ref h_often, .ref h_has, .int z_lesser])), (h_row, .inl (cB, 16384, .inl z_row)), (h_start, .inl (cI, 66, .inl z_start)), (h_documentOf, .inl (cI, 16384, .inl z_documentOf)), (h_order, .inl (cI, 16384, .inl (upd z_order x2.toNatClampNeg x2))), (h_rankOf, .inl (cI, 16384, .inl z_rankOf)), (h_same, .inl (cI, 16385, .inl z_same)), (h_work, .inl (cI, 16384, .inl z_work)), (h_next, .inl (cI, 16384, .inl z_next))] H := hP
      have hD : va_D A [(h_t, .inr (8, [.int z_thrown, .ref h_tape, .ref h_row, .ref h_out, .ref h_sought, .int z_size, .int z_outSize, .int z_soughtSize, .int z_documents, .int z_indexed, .int z_suffixes, .int z_rows, .ref h_start, .ref h_documentOf, .ref h_order, .ref h_rankOf, .ref h_same, .ref h_work, .ref h_next, .ref h_often, .ref h_has, .int z_lesser])), (h_row, .inl (cB, 16384, .inl z_row)), (h_start, .inl (cI, 66, .inl z_start)), (h_documentOf, .inl (cI, 16384, .inl z_documentOf)), (h_order, .inl (cI, 16384, .inl (upd z_order x2.toNatClampNeg x2))), (h_rankOf, .inl (cI, 16384, .inl z_rankOf)), (h_same, .inl (cI, 16385, .inl z_same)), (h_work, .inl (cI, 16384, .inl z_work)), (h_next, .inl (cI, 16384, .inl z_next))] := hD
      refine lv_iinc (v := x2 + 1) (lv' := [(2, .int (x2 + 1)), (0, .ref h_t)]) hx hb d_MD_build_229 hl (k := 1) rfl (iinc_v (by decide)) (by decide) rfl (fun ls hl => ?_)
      refine lv_goto (tgt := 214) hx hb d_MD_build_232 (by decide) ?_
      exact ih (x2 + 1) z_thrown z_soughtSize z_indexed z_suffixes (upd z_order x2.toNatClampNeg x2) z_rankOf z_same z_work z_next hv _ _ _ hP hD hS (lv_sub hl [1, 0] rfl)

set_option maxHeartbeats 4000000 in
set_option maxRecDepth 100000 in
theorem wk_MD_build_80 {p : Program} {l : Launch} {e : Env} {s : State} {m : MethodId} {below : List Frame} {meth : Method} {c : Code} {A : Nat → Prop} {dC : Nat → ClassId} {dI : Nat → Nat → Nat} {cI cJ cB cZ : ClassId} {h_t : Nat} {h_tape : Nat} {h_row : Nat} {h_out : Nat} {h_sought : Nat} {h_start : Nat} {h_documentOf : Nat} {h_order : Nat} {h_rankOf : Nat} {h_same : Nat} {h_work : Nat} {h_next : Nat} {h_often : Nat} {h_has : Nat} {z_documents : Int32} {z_rows : Int32} {z_row : Nat → Int32} {z_start : Nat → Int32} {z_documentOf : Nat → Int32} {z_size : Int32} {z_outSize : Int32} {z_lesser : Int32} {post : Int32 → Int32 → Int32 → Int32 → Int32 → (Nat → Int32) → (Nat → Int32) → (Nat → Int32) → (Nat → Int32) → (Nat → Int32) → Prop} (F : CallFix p m c b_MD_build 5 s ([.ref h_t] : List Value).toArray WT "SuffixIndexModel") (hr : meth.sig.returnType = (some .int)) (hlk : meth.locks = false) (hK : va_K (dC, dI) classes (TYS cI cJ cB cZ) s) (hA : ∀ q, s.heap.size ≤ q → A q) : ∀ (k : Nat) (x1 : Int32) (x2 : Int32) (z_thrown : Int32) (z_soughtSize : Int32) (z_indexed : Int32) (z_suffixes : Int32) (z_order : Nat → Int32) (z_rankOf : Nat → Int32) (z_same : Nat → Int32) (z_work : Nat → Int32) (z_next : Nat → Int32), vc_MD_build_80 z_documents z_rows z_row z_start z_documentOf post k x1 x2 z_thrown z_soughtSize z_indexed z_suffixes z_order z_rankOf z_same z_work z_next → ∀ (H : Heap) (locs : List Loc) (ls : Array Slot), va_P (dC, dI) classes [(h_t, .inr (8, [.int z_thrown, .ref h_tape, .ref h_row, .ref h_out, .ref h_sought, .int z_size, .int z_outSize, .int z_soughtSize, .int z_documents, .int z_indexed, .int z_suffixes, .int z_rows, .ref h_start, .ref h_documentOf, .ref h_order, .ref h_rankOf, .ref h_same, .ref h_work, .ref h_next, .ref h_often, .ref h_has, .int z_lesser])), (h_row, .inl (cB, 16384, .inl z_row)), (h_start, .inl (cI, 66, .inl z_start)), (h_documentOf, .inl (cI, 16384, .inl z_documentOf)), (h_order, .inl (cI, 16384, .inl z_order)), (h_rankOf, .inl (cI, 16384, .inl z_rankOf)), (h_same, .inl (cI, 16385, .inl z_same)), (h_work, .inl (cI, 16384, .inl z_work)), (h_next, .inl (cI, 16384, .inl z_next))] H → va_D A [(h_t, .inr (8, [.int z_thrown, .ref h_tape, .ref h_row, .ref h_out, .ref h_sought, .int z_size, .int z_outSize, .int z_soughtSize, .int z_documents, .int z_indexed, .int z_suffixes, .int z_rows, .ref h_start, .ref h_documentOf, .ref h_order, .ref h_rankOf, .ref h_same, .ref h_work, .ref h_next, .ref h_often, .ref h_has, .int z_lesser])), (h_row, .inl (cB, 16384, .inl z_row)), (h_start, .inl (cI, 66, .inl z_start)), (h_documentOf, .inl (cI, 16384, .inl z_documentOf)), (h_order, .inl (cI, 16384, .inl z_order)), (h_rankOf, .inl (cI, 16384, .inl z_rankOf)), (h_same, .inl (cI, 16385, .inl z_same)), (h_work, .inl (cI, 16384, .inl z_work)), (h_next, .inl (cI, 16384, .inl z_next))] → va_S A s.heap H locs → lv_has ls 5 [(0, .ref h_t), (1, .int x1), (2, .int x2)] → W p l e rm_MD_build s m ([.ref h_t] : List Value).toArray below meth c H locs 0 0 (MQ below (va_Qi (fun (r : Int32) (u : Int32 × Int32 × Int32 × Int32 × (Nat → Int32) × (Nat → Int32) × (Nat → Int32) × (Nat → Int32) × (Nat → Int32)) => post r u.1 u.2.1 u.2.2.1 u.2.2.2.1 u.2.2.2.2.1 u.2.2.2.2.2.1 u.2.2.2.2.2.2.1 u.2.2.2.2.2.2.2.1 u.2.2.2.2.2.2.2.2) (fun u t => cAft (dC, dI) classes (TYS cI cJ cB cZ) A [(h_t, .inr (8, [.int u.1, .ref h_tape, .ref h_row, .ref h_out, .ref h_sought, .int z_size, .int z_outSize, .int u.2.1, .int z_documents, .int u.2.2.1, .int u.2.2.2.1, .int z_rows, .ref h_start, .ref h_documentOf, .ref h_order, .ref h_rankOf, .ref h_same, .ref h_work, .ref h_next, .ref h_often, .ref h_has, .int z_lesser])), (h_row, .inl (cB, 16384, .inl z_row)), (h_start, .inl (cI, 66, .inl z_start)), (h_documentOf, .inl (cI, 16384, .inl z_documentOf)), (h_order, .inl (cI, 16384, .inl u.2.2.2.2.1)), (h_rankOf, .inl (cI, 16384, .inl u.2.2.2.2.2.1)), (h_same, .inl (cI, 16385, .inl u.2.2.2.2.2.2.1)), (h_work, .inl (cI, 16384, .inl u.2.2.2.2.2.2.2.1)), (h_next, .inl (cI, 16384, .inl u.2.2.2.2.2.2.2.2))] t) A) ([.ref h_t] : List Value).toArray s 0 0 A) (F0 m 80 ls []) := by
  obtain ⟨hx, hb, hml, hown, hw⟩ := id F
  intro k
  induction k with
  | zero =>
    intro x1 x2 z_thrown z_soughtSize z_indexed z_suffixes z_order z_rankOf z_same z_work z_next hv
    exact False.elim hv
  | succ k ih =>
    intro x1 x2 z_thrown z_soughtSize z_indexed z_suffixes z_order z_rankOf z_same z_work z_next hv H locs ls hP hD hS hl
    refine lv_iload_n hx hb d_MD_build_80 rfl (lv_at hl 1 rfl) ?_
    obtain ⟨hvt, hvf⟩ := hv
    refine lv_if_eq (tgt := 212) hx hb d_MD_build_81 (by decide) (fun c15 => ?_) (fun c15 => ?_)
    · have hv := hvt c15
      refine lv_iconst (v := 0) hx hb d_MD_build_212 (by decide) ?_
      refine lv_istore_n (lv' := [(2, .int 0), (0, .ref h_t), (1, .int x1)]) hx hb d_MD_build_213 rfl hl (by decide) rfl (fun ls hl => ?_)
      obtain ⟨j, hv⟩ := hv
      exact wk_MD_build_214 F hr hlk hK hA j 0 z_thrown z_soughtSize z_indexed z_suffixes z_order z_rankOf z_same z_work z_next hv _ _ _ hP hD hS (lv_sub hl [1, 0] rfl)
    · have hv := hvf c15
      refine lv_aload_n hx hb d_MD_build_84 rfl (lv_at hl 0 rfl) ?_
      refine lv_iconst (v := 0) hx hb d_MD_build_85 (by decide) ?_
      refine lv_aload_n hx hb d_MD_build_86 rfl (lv_at hl 0 rfl) ?_
      refine va_get (D := (dC, dI)) (ci := 8) (v := .int z_suffixes) (C := "SuffixIndexModel") (T := F_MD) (N := 22) hx hb hw i_MD hown hK hP 0 rfl rfl 10 (by decide) (hw _ m_1111) (fun _ h9 => h9) rfl d_MD_build_87 ?_
      refine lv_iload_n hx hb d_MD_build_90 rfl (lv_at hl 2 rfl) ?_
      refine cV_v (wr := [(h_row, .inl (cB, 16384, .inl z_row)), (h_same, .inl (cI, 16385, .inl z_same)), (h_next, .inl (cI, 16384, .inl z_next))]) (rest := []) (c_MD_sort l dC dI cI cJ cB cZ h_t h_tape h_row h_out h_sought h_start h_documentOf h_order h_rankOf h_same h_work h_next h_often h_has 20 H.size z_thrown z_size z_outSize z_soughtSize z_documents z_indexed z_suffixes z_rows z_lesser z_start z_documentOf z_order z_rankOf z_work 0 z_suffixes x2 _ hv) F (cw_V (fun _ h => h) 3 hw m_1197 m_1199 ms_30 m_9 m_1200 rfl rfl (by decide +kernel) ⟨by decide, by decide⟩) hK hP hD hS hA [0, 2, 3, 4, 5, 7] [1, 6, 8] rfl rfl rfl rfl (by decide) 0 8 rfl rfl rfl hl.1 rfl (Nat.le_of_ble_eq_true rfl) d_MD_build_91 ⟨Nat.le_of_ble_eq_true rfl, Nat.le_of_ble_eq_true rfl⟩ (fun u H locs hv hP hD hS => ?_)
      obtain ⟨u16_0, u16_1⟩ := u
      have hP : va_P (dC, dI) classes [(h_t, .inr (8, [.int z_thrown, .ref h_tape, .ref h_row, .ref h_out, .ref h_sought, .int z_size, .int z_outSize, .int z_soughtSize, .int z_documents, .int z_indexed, .int z_suffixes, .int z_rows, .ref h_start, .ref h_documentOf, .ref h_order, .ref h_rankOf, .ref h_same, .ref h_work, .ref h_next, .ref h_often, .ref h_has, .int z_lesser])), (h_row, .inl (cB, 16384, .inl z_row)), (h_start, .inl (cI, 66, .inl z_start)), (h_documentOf, .inl (cI, 16384, .inl z_documentOf)), (h_order, .inl (cI, 16384, .inl u16_0)), (h_rankOf, .inl (cI, 16384, .inl z_rankOf)), (h_same, .inl (cI, 16385, .inl z_same)), (h_work, .inl (cI, 16384, .inl u16_1)), (h_next, .inl (cI, 16384, .inl z_next))] H := P_sub hP [3, 0, 4, 5, 6, 7, 1, 8, 2] rfl
      have hD : va_D A [(h_t, .inr (8, [.int z_thrown, .ref h_tape, .ref h_row, .ref h_out, .ref h_sought, .int z_size, .int z_outSize, .int z_soughtSize, .int z_documents, .int z_indexed, .int z_suffixes, .int z_rows, .ref h_start, .ref h_documentOf, .ref h_order, .ref h_rankOf, .ref h_same, .ref h_work, .ref h_next, .ref h_often, .ref h_has, .int z_lesser])), (h_row, .inl (cB, 16384, .inl z_row)), (h_start, .inl (cI, 66, .inl z_start)), (h_documentOf, .inl (cI, 16384, .inl z_documentOf)), (h_order, .inl (cI, 16384, .inl u16_0)), (h_rankOf, .inl (cI, 16384, .inl z_rankOf)), (h_same, .inl (cI, 16385, .inl z_same)), (h_work, .inl (cI, 16384, .inl u16_1)), (h_next, .inl (cI, 16384, .inl z_next))] := hD.sub [3, 0, 4, 5, 6, 7, 1, 8, 2] rfl rfl
      refine lv_iconst (v := 0) hx hb d_MD_build_94 (by decide) ?_
      refine lv_istore_n (lv' := [(3, .int 0), (0, .ref h_t), (1, .int x1), (2, .int x2)]) hx hb d_MD_build_95 rfl hl (by decide) rfl (fun ls hl => ?_)
      refine lv_iconst (v := 0) hx hb d_MD_build_96 (by decide) ?_
      refine lv_istore (lv' := [(4, .int 0), (3, .int 0), (0, .ref h_t), (1, .int x1), (2, .int x2)]) hx hb d_MD_build_97 hl (by decide) rfl (fun ls hl => ?_)
      obtain ⟨j, hv⟩ := hv
      exact wk_MD_build_99 F hr hlk hK hA ih j x2 0 0 z_thrown z_soughtSize z_indexed z_suffixes u16_0 z_rankOf z_same u16_1 z_next hv _ _ _ hP hD hS (lv_sub hl [2, 4, 1, 0] rfl)

set_option maxHeartbeats 4000000 in
set_option maxRecDepth 100000 in
theorem wk_MD_build_77 {p : Program} {l : Launch} {e : Env} {s : State} {m : MethodId} {below : List Frame} {meth : Method} {c : Code} {A : Nat → Prop} {dC : Nat → ClassId} {dI : Nat → Nat → Nat} {cI cJ cB cZ : ClassId} {h_t : Nat} {h_tape : Nat} {h_row : Nat} {h_out : Nat} {h_sought : Nat} {h_start : Nat} {h_documentOf : Nat} {h_order : Nat} {h_rankOf : Nat} {h_same : Nat} {h_work : Nat} {h_next : Nat} {h_often : Nat} {h_has : Nat} {z_documents : Int32} {z_rows : Int32} {z_row : Nat → Int32} {z_start : Nat → Int32} {z_documentOf : Nat → Int32} {z_size : Int32} {z_outSize : Int32} {z_lesser : Int32} {post : Int32 → Int32 → Int32 → Int32 → Int32 → (Nat → Int32) → (Nat → Int32) → (Nat → Int32) → (Nat → Int32) → (Nat → Int32) → Prop} (F : CallFix p m c b_MD_build 5 s ([.ref h_t] : List Value).toArray WT "SuffixIndexModel") (hr : meth.sig.returnType = (some .int)) (hlk : meth.locks = false) (hK : va_K (dC, dI) classes (TYS cI cJ cB cZ) s) (hA : ∀ q, s.heap.size ≤ q → A q) : ∀ (k0 : Int32) (z_thrown : Int32) (z_soughtSize : Int32) (z_indexed : Int32) (z_suffixes : Int32) (z_order : Nat → Int32) (z_rankOf : Nat → Int32) (z_same : Nat → Int32) (z_work : Nat → Int32) (z_next : Nat → Int32), vc_MD_build_77 z_documents z_rows z_row z_start z_documentOf post k0 z_thrown z_soughtSize z_indexed z_suffixes z_order z_rankOf z_same z_work z_next → ∀ (H : Heap) (locs : List Loc) (ls : Array Slot), va_P (dC, dI) classes [(h_t, .inr (8, [.int z_thrown, .ref h_tape, .ref h_row, .ref h_out, .ref h_sought, .int z_size, .int z_outSize, .int z_soughtSize, .int z_documents, .int z_indexed, .int z_suffixes, .int z_rows, .ref h_start, .ref h_documentOf, .ref h_order, .ref h_rankOf, .ref h_same, .ref h_work, .ref h_next, .ref h_often, .ref h_has, .int z_lesser])), (h_row, .inl (cB, 16384, .inl z_row)), (h_start, .inl (cI, 66, .inl z_start)), (h_documentOf, .inl (cI, 16384, .inl z_documentOf)), (h_order, .inl (cI, 16384, .inl z_order)), (h_rankOf, .inl (cI, 16384, .inl z_rankOf)), (h_same, .inl (cI, 16385, .inl z_same)), (h_work, .inl (cI, 16384, .inl z_work)), (h_next, .inl (cI, 16384, .inl z_next))] H → va_D A [(h_t, .inr (8, [.int z_thrown, .ref h_tape, .ref h_row, .ref h_out, .ref h_sought, .int z_size, .int z_outSize, .int z_soughtSize, .int z_documents, .int z_indexed, .int z_suffixes, .int z_rows, .ref h_start, .ref h_documentOf, .ref h_order, .ref h_rankOf, .ref h_same, .ref h_work, .ref h_next, .ref h_often, .ref h_has, .int z_lesser])), (h_row, .inl (cB, 16384, .inl z_row)), (h_start, .inl (cI, 66, .inl z_start)), (h_documentOf, .inl (cI, 16384, .inl z_documentOf)), (h_order, .inl (cI, 16384, .inl z_order)), (h_rankOf, .inl (cI, 16384, .inl z_rankOf)), (h_same, .inl (cI, 16385, .inl z_same)), (h_work, .inl (cI, 16384, .inl z_work)), (h_next, .inl (cI, 16384, .inl z_next))] → va_S A s.heap H locs → lv_has ls 5 [(0, .ref h_t)] → W p l e rm_MD_build s m ([.ref h_t] : List Value).toArray below meth c H locs 0 0 (MQ below (va_Qi (fun (r : Int32) (u : Int32 × Int32 × Int32 × Int32 × (Nat → Int32) × (Nat → Int32) × (Nat → Int32) × (Nat → Int32) × (Nat → Int32)) => post r u.1 u.2.1 u.2.2.1 u.2.2.2.1 u.2.2.2.2.1 u.2.2.2.2.2.1 u.2.2.2.2.2.2.1 u.2.2.2.2.2.2.2.1 u.2.2.2.2.2.2.2.2) (fun u t => cAft (dC, dI) classes (TYS cI cJ cB cZ) A [(h_t, .inr (8, [.int u.1, .ref h_tape, .ref h_row, .ref h_out, .ref h_sought, .int z_size, .int z_outSize, .int u.2.1, .int z_documents, .int u.2.2.1, .int u.2.2.2.1, .int z_rows, .ref h_start, .ref h_documentOf, .ref h_order, .ref h_rankOf, .ref h_same, .ref h_work, .ref h_next, .ref h_often, .ref h_has, .int z_lesser])), (h_row, .inl (cB, 16384, .inl z_row)), (h_start, .inl (cI, 66, .inl z_start)), (h_documentOf, .inl (cI, 16384, .inl z_documentOf)), (h_order, .inl (cI, 16384, .inl u.2.2.2.2.1)), (h_rankOf, .inl (cI, 16384, .inl u.2.2.2.2.2.1)), (h_same, .inl (cI, 16385, .inl u.2.2.2.2.2.2.1)), (h_work, .inl (cI, 16384, .inl u.2.2.2.2.2.2.2.1)), (h_next, .inl (cI, 16384, .inl u.2.2.2.2.2.2.2.2))] t) A) ([.ref h_t] : List Value).toArray s 0 0 A) (F0 m 77 ls [.int k0]) := by
  obtain ⟨hx, hb, hml, hown, hw⟩ := id F
  intro k0 z_thrown z_soughtSize z_indexed z_suffixes z_order z_rankOf z_same z_work z_next hv H locs ls hP hD hS hl
  refine lv_istore_n (lv' := [(1, .int k0), (0, .ref h_t)]) hx hb d_MD_build_77 rfl hl (by decide) rfl (fun ls hl => ?_)
  refine lv_iconst (v := 1) hx hb d_MD_build_78 (by decide) ?_
  refine lv_istore_n (lv' := [(2, .int 1), (1, .int k0), (0, .ref h_t)]) hx hb d_MD_build_79 rfl hl (by decide) rfl (fun ls hl => ?_)
  obtain ⟨j, hv⟩ := hv
  exact wk_MD_build_80 F hr hlk hK hA j k0 1 z_thrown z_soughtSize z_indexed z_suffixes z_order z_rankOf z_same z_work z_next hv _ _ _ hP hD hS (lv_sub hl [2, 1, 0] rfl)

set_option maxHeartbeats 4000000 in
set_option maxRecDepth 100000 in
theorem wk_MD_build_28 {p : Program} {l : Launch} {e : Env} {s : State} {m : MethodId} {below : List Frame} {meth : Method} {c : Code} {A : Nat → Prop} {dC : Nat → ClassId} {dI : Nat → Nat → Nat} {cI cJ cB cZ : ClassId} {h_t : Nat} {h_tape : Nat} {h_row : Nat} {h_out : Nat} {h_sought : Nat} {h_start : Nat} {h_documentOf : Nat} {h_order : Nat} {h_rankOf : Nat} {h_same : Nat} {h_work : Nat} {h_next : Nat} {h_often : Nat} {h_has : Nat} {z_documents : Int32} {z_rows : Int32} {z_row : Nat → Int32} {z_start : Nat → Int32} {z_documentOf : Nat → Int32} {z_size : Int32} {z_outSize : Int32} {z_lesser : Int32} {post : Int32 → Int32 → Int32 → Int32 → Int32 → (Nat → Int32) → (Nat → Int32) → (Nat → Int32) → (Nat → Int32) → (Nat → Int32) → Prop} (F : CallFix p m c b_MD_build 5 s ([.ref h_t] : List Value).toArray WT "SuffixIndexModel") (hr : meth.sig.returnType = (some .int)) (hlk : meth.locks = false) (hK : va_K (dC, dI) classes (TYS cI cJ cB cZ) s) (hA : ∀ q, s.heap.size ≤ q → A q) : ∀ (k : Nat) (x1 : Int32) (z_thrown : Int32) (z_soughtSize : Int32) (z_indexed : Int32) (z_suffixes : Int32) (z_order : Nat → Int32) (z_rankOf : Nat → Int32) (z_same : Nat → Int32) (z_work : Nat → Int32) (z_next : Nat → Int32), vc_MD_build_28 z_documents z_rows z_row z_start z_documentOf post k x1 z_thrown z_soughtSize z_indexed z_suffixes z_order z_rankOf z_same z_work z_next → ∀ (H : Heap) (locs : List Loc) (ls : Array Slot), va_P (dC, dI) classes [(h_t, .inr (8, [.int z_thrown, .ref h_tape, .ref h_row, .ref h_out, .ref h_sought, .int z_size, .int z_outSize, .int z_soughtSize, .int z_documents, .int z_indexed, .int z_suffixes, .int z_rows, .ref h_start, .ref h_documentOf, .ref h_order, .ref h_rankOf, .ref h_same, .ref h_work, .ref h_next, .ref h_often, .ref h_has, .int z_lesser])), (h_row, .inl (cB, 16384, .inl z_row)), (h_start, .inl (cI, 66, .inl z_start)), (h_documentOf, .inl (cI, 16384, .inl z_documentOf)), (h_order, .inl (cI, 16384, .inl z_order)), (h_rankOf, .inl (cI, 16384, .inl z_rankOf)), (h_same, .inl (cI, 16385, .inl z_same)), (h_work, .inl (cI, 16384, .inl z_work)), (h_next, .inl (cI, 16384, .inl z_next))] H → va_D A [(h_t, .inr (8, [.int z_thrown, .ref h_tape, .ref h_row, .ref h_out, .ref h_sought, .int z_size, .int z_outSize, .int z_soughtSize, .int z_documents, .int z_indexed, .int z_suffixes, .int z_rows, .ref h_start, .ref h_documentOf, .ref h_order, .ref h_rankOf, .ref h_same, .ref h_work, .ref h_next, .ref h_often, .ref h_has, .int z_lesser])), (h_row, .inl (cB, 16384, .inl z_row)), (h_start, .inl (cI, 66, .inl z_start)), (h_documentOf, .inl (cI, 16384, .inl z_documentOf)), (h_order, .inl (cI, 16384, .inl z_order)), (h_rankOf, .inl (cI, 16384, .inl z_rankOf)), (h_same, .inl (cI, 16385, .inl z_same)), (h_work, .inl (cI, 16384, .inl z_work)), (h_next, .inl (cI, 16384, .inl z_next))] → va_S A s.heap H locs → lv_has ls 5 [(0, .ref h_t), (1, .int x1)] → W p l e rm_MD_build s m ([.ref h_t] : List Value).toArray below meth c H locs 0 0 (MQ below (va_Qi (fun (r : Int32) (u : Int32 × Int32 × Int32 × Int32 × (Nat → Int32) × (Nat → Int32) × (Nat → Int32) × (Nat → Int32) × (Nat → Int32)) => post r u.1 u.2.1 u.2.2.1 u.2.2.2.1 u.2.2.2.2.1 u.2.2.2.2.2.1 u.2.2.2.2.2.2.1 u.2.2.2.2.2.2.2.1 u.2.2.2.2.2.2.2.2) (fun u t => cAft (dC, dI) classes (TYS cI cJ cB cZ) A [(h_t, .inr (8, [.int u.1, .ref h_tape, .ref h_row, .ref h_out, .ref h_sought, .int z_size, .int z_outSize, .int u.2.1, .int z_documents, .int u.2.2.1, .int u.2.2.2.1, .int z_rows, .ref h_start, .ref h_documentOf, .ref h_order, .ref h_rankOf, .ref h_same, .ref h_work, .ref h_next, .ref h_often, .ref h_has, .int z_lesser])), (h_row, .inl (cB, 16384, .inl z_row)), (h_start, .inl (cI, 66, .inl z_start)), (h_documentOf, .inl (cI, 16384, .inl z_documentOf)), (h_order, .inl (cI, 16384, .inl u.2.2.2.2.1)), (h_rankOf, .inl (cI, 16384, .inl u.2.2.2.2.2.1)), (h_same, .inl (cI, 16385, .inl u.2.2.2.2.2.2.1)), (h_work, .inl (cI, 16384, .inl u.2.2.2.2.2.2.2.1)), (h_next, .inl (cI, 16384, .inl u.2.2.2.2.2.2.2.2))] t) A) ([.ref h_t] : List Value).toArray s 0 0 A) (F0 m 28 ls []) := by
  obtain ⟨hx, hb, hml, hown, hw⟩ := id F
  intro k
  induction k with
  | zero =>
    intro x1 z_thrown z_soughtSize z_indexed z_suffixes z_order z_rankOf z_same z_work z_next hv
    exact False.elim hv
  | succ k ih =>
    intro x1 z_thrown z_soughtSize z_indexed z_suffixes z_order z_rankOf z_same z_work z_next hv H locs ls hP hD hS hl
    refine lv_iload_n hx hb d_MD_build_28 rfl (lv_at hl 1 rfl) ?_
    refine lv_aload_n hx hb d_MD_build_29 rfl (lv_at hl 0 rfl) ?_
    refine va_get (D := (dC, dI)) (ci := 8) (v := .int z_suffixes) (C := "SuffixIndexModel") (T := F_MD) (N := 22) hx hb hw i_MD hown hK hP 0 rfl rfl 10 (by decide) (hw _ m_1111) (fun _ h9 => h9) rfl d_MD_build_30 ?_
    obtain ⟨hvt, hvf⟩ := hv
    refine lv_icmp_ge (tgt := 65) hx hb d_MD_build_33 (by decide) (fun c17 => ?_) (fun c17 => ?_)
    · have hv := hvt c17
      refine lv_aload_n hx hb d_MD_build_65 rfl (lv_at hl 0 rfl) ?_
      refine va_get (D := (dC, dI)) (ci := 8) (v := .int z_suffixes) (C := "SuffixIndexModel") (T := F_MD) (N := 22) hx hb hw i_MD hown hK hP 0 rfl rfl 10 (by decide) (hw _ m_1111) (fun _ h9 => h9) rfl d_MD_build_66 ?_
      obtain ⟨hvt, hvf⟩ := hv
      refine lv_if_le (tgt := 76) hx hb d_MD_build_69 (by decide) (fun c18 => ?_) (fun c18 => ?_)
      · have hv := hvt c18
        refine lv_iconst (v := 0) hx hb d_MD_build_76 (by decide) ?_
        exact wk_MD_build_77 F hr hlk hK hA 0 z_thrown z_soughtSize z_indexed z_suffixes z_order z_rankOf z_same z_work z_next hv _ _ _ hP hD hS (lv_sub hl [0] rfl)
      · have hv := hvf c18
        refine lv_iconst (v := 1) hx hb d_MD_build_72 (by decide) ?_
        refine lv_goto (tgt := 77) hx hb d_MD_build_73 (by decide) ?_
        exact wk_MD_build_77 F hr hlk hK hA 1 z_thrown z_soughtSize z_indexed z_suffixes z_order z_rankOf z_same z_work z_next hv _ _ _ hP hD hS (lv_sub hl [0] rfl)
    · have hv := hvf c17
      refine lv_aload_n hx hb d_MD_build_36 rfl (lv_at hl 0 rfl) ?_
      refine va_get (D := (dC, dI)) (ci := 8) (v := .ref h_order) (C := "SuffixIndexModel") (T := F_MD) (N := 22) hx hb hw i_MD hown hK hP 0 rfl rfl 14 (by decide) (hw _ m_1115) (fun _ h9 => h9) rfl d_MD_build_37 ?_
      refine lv_iload_n hx hb d_MD_build_40 rfl (lv_at hl 1 rfl) ?_
      refine lv_iload_n hx hb d_MD_build_41 rfl (lv_at hl 1 rfl) ?_
      obtain ⟨hin, hv⟩ := hv
      refine va_iast hx hb hK hP hD hS 4 0 rfl rfl hin d_MD_build_42 (fun H locs hP hD hS => ?_)
      have hP : va_P (dC, dI) classes [(h_t, .inr (8, [.int z_thrown, .ref h_tape, .ref h_row, .ref h_out, .ref h_sought, .int z_size, .int z_outSize, .int z_soughtSize, .int z_documents, .int z_indexed, .int z_suffixes, .int z_rows, .ref h_start, .ref h_documentOf, .ref h_order, .ref h_rankOf, .ref h_same, .ref h_work, .ref h_next, .ref h_often, .ref h_has, .int z_lesser])), (h_row, .inl (cB, 16384, .inl z_row)), (h_start, .inl (cI, 66, .inl z_start)), (h_documentOf, .inl (cI, 16384, .inl z_documentOf)), (h_order, .inl (cI, 16384, .inl (upd z_order x1.toNatClampNeg x1))), (h_rankOf, .inl (cI, 16384, .inl z_rankOf)), (h_same, .inl (cI, 16385, .inl z_same)), (h_work, .inl (cI, 16384, .inl z_work)), (h_next, .inl (cI, 16384, .inl z_next))] H := hP
      have hD : va_D A [(h_t, .inr (8, [.int z_thrown, .ref h_tape, .ref h_row, .ref h_out, .ref h_sought, .int z_size, .int z_outSize, .int z_soughtSize, .int z_documents, .int z_indexed, .int z_suffixes, .int z_rows, .ref h_start, .ref h_documentOf, .ref h_order, .ref h_rankOf, .ref h_same, .ref h_work, .ref h_next, .ref h_often, .ref h_has, .int z_lesser])), (h_row, .inl (cB, 16384, .inl z_row)), (h_start, .inl (cI, 66, .inl z_start)), (h_documentOf, .inl (cI, 16384, .inl z_documentOf)), (h_order, .inl (cI, 16384, .inl (upd z_order x1.toNatClampNeg x1))), (h_rankOf, .inl (cI, 16384, .inl z_rankOf)), (h_same, .inl (cI, 16385, .inl z_same)), (h_work, .inl (cI, 16384, .inl z_work)), (h_next, .inl (cI, 16384, .inl z_next))] := hD
      refine lv_aload_n hx hb d_MD_build_43 rfl (lv_at hl 0 rfl) ?_
      refine va_get (D := (dC, dI)) (ci := 8) (v := .ref h_rankOf) (C := "SuffixIndexModel") (T := F_MD) (N := 22) hx hb hw i_MD hown hK hP 0 rfl rfl 15 (by decide) (hw _ m_1116) (fun _ h9 => h9) rfl d_MD_build_44 ?_
      refine lv_iload_n hx hb d_MD_build_47 rfl (lv_at hl 1 rfl) ?_
      refine lv_aload_n hx hb d_MD_build_48 rfl (lv_at hl 0 rfl) ?_
      refine va_get (D := (dC, dI)) (ci := 8) (v := .ref h_row) (C := "SuffixIndexModel") (T := F_MD) (N := 22) hx hb hw i_MD hown hK hP 0 rfl rfl 2 (by decide) (hw _ m_1103) (fun _ h9 => h9) rfl d_MD_build_49 ?_
      refine lv_iload_n hx hb d_MD_build_52 rfl (lv_at hl 1 rfl) ?_
      obtain ⟨hin, hv⟩ := hv
      refine va_bald hx hb hK hP 1 2 rfl rfl hin d_MD_build_53 ?_
      refine lv_sipush (v := 255) hx hb d_MD_build_54 (by decide) ?_
      refine lv_iand hx hb d_MD_build_57 ?_
      obtain ⟨hin, hv⟩ := hv
      refine va_iast hx hb hK hP hD hS 5 0 rfl rfl hin d_MD_build_58 (fun H locs hP hD hS => ?_)
      have hP : va_P (dC, dI) classes [(h_t, .inr (8, [.int z_thrown, .ref h_tape, .ref h_row, .ref h_out, .ref h_sought, .int z_size, .int z_outSize, .int z_soughtSize, .int z_documents, .int z_indexed, .int z_suffixes, .int z_rows, .ref h_start, .ref h_documentOf, .ref h_order, .ref h_rankOf, .ref h_same, .ref h_work, .ref h_next, .ref h_often, .ref h_has, .int z_lesser])), (h_row, .inl (cB, 16384, .inl z_row)), (h_start, .inl (cI, 66, .inl z_start)), (h_documentOf, .inl (cI, 16384, .inl z_documentOf)), (h_order, .inl (cI, 16384, .inl (upd z_order x1.toNatClampNeg x1))), (h_rankOf, .inl (cI, 16384, .inl (upd z_rankOf x1.toNatClampNeg ((z_row x1.toNatClampNeg) &&& 255)))), (h_same, .inl (cI, 16385, .inl z_same)), (h_work, .inl (cI, 16384, .inl z_work)), (h_next, .inl (cI, 16384, .inl z_next))] H := hP
      have hD : va_D A [(h_t, .inr (8, [.int z_thrown, .ref h_tape, .ref h_row, .ref h_out, .ref h_sought, .int z_size, .int z_outSize, .int z_soughtSize, .int z_documents, .int z_indexed, .int z_suffixes, .int z_rows, .ref h_start, .ref h_documentOf, .ref h_order, .ref h_rankOf, .ref h_same, .ref h_work, .ref h_next, .ref h_often, .ref h_has, .int z_lesser])), (h_row, .inl (cB, 16384, .inl z_row)), (h_start, .inl (cI, 66, .inl z_start)), (h_documentOf, .inl (cI, 16384, .inl z_documentOf)), (h_order, .inl (cI, 16384, .inl (upd z_order x1.toNatClampNeg x1))), (h_rankOf, .inl (cI, 16384, .inl (upd z_rankOf x1.toNatClampNeg ((z_row x1.toNatClampNeg) &&& 255)))), (h_same, .inl (cI, 16385, .inl z_same)), (h_work, .inl (cI, 16384, .inl z_work)), (h_next, .inl (cI, 16384, .inl z_next))] := hD
      refine lv_iinc (v := x1 + 1) (lv' := [(1, .int (x1 + 1)), (0, .ref h_t)]) hx hb d_MD_build_59 hl (k := 1) rfl (iinc_v (by decide)) (by decide) rfl (fun ls hl => ?_)
      refine lv_goto (tgt := 28) hx hb d_MD_build_62 (by decide) ?_
      exact ih (x1 + 1) z_thrown z_soughtSize z_indexed z_suffixes (upd z_order x1.toNatClampNeg x1) (upd z_rankOf x1.toNatClampNeg ((z_row x1.toNatClampNeg) &&& 255)) z_same z_work z_next hv _ _ _ hP hD hS (lv_sub hl [1, 0] rfl)

set_option maxHeartbeats 4000000 in
set_option maxRecDepth 100000 in
theorem c_MD_build (l : Launch) (dC : Nat → ClassId) (dI : Nat → Nat → Nat) (cI cJ cB cZ : ClassId) (h_t : Nat) (h_tape : Nat) (h_row : Nat) (h_out : Nat) (h_sought : Nat) (h_start : Nat) (h_documentOf : Nat) (h_order : Nat) (h_rankOf : Nat) (h_same : Nat) (h_work : Nat) (h_next : Nat) (h_often : Nat) (h_has : Nat) (sz : Nat) (z_thrown : Int32) (z_size : Int32) (z_outSize : Int32) (z_soughtSize : Int32) (z_documents : Int32) (z_indexed : Int32) (z_suffixes : Int32) (z_rows : Int32) (z_lesser : Int32) (z_row : Nat → Int32) (z_start : Nat → Int32) (z_documentOf : Nat → Int32) (z_order : Nat → Int32) (z_rankOf : Nat → Int32) (z_same : Nat → Int32) (z_work : Nat → Int32) (z_next : Nat → Int32) (post : Int32 → Int32 → Int32 → Int32 → Int32 → (Nat → Int32) → (Nat → Int32) → (Nat → Int32) → (Nat → Int32) → (Nat → Int32) → Prop) (hv : vc_MD_build z_documents z_rows z_row z_start z_documentOf post z_thrown z_soughtSize z_indexed z_suffixes z_order z_rankOf z_same z_work z_next) : Met l y_MD_build (Cond.code y_MD_build b_MD_build 5 (some .int) :: WT) rm_MD_build (cPre (dC, dI) classes (TYS cI cJ cB cZ) [(h_t, .inr (8, [.int z_thrown, .ref h_tape, .ref h_row, .ref h_out, .ref h_sought, .int z_size, .int z_outSize, .int z_soughtSize, .int z_documents, .int z_indexed, .int z_suffixes, .int z_rows, .ref h_start, .ref h_documentOf, .ref h_order, .ref h_rankOf, .ref h_same, .ref h_work, .ref h_next, .ref h_often, .ref h_has, .int z_lesser])), (h_row, .inl (cB, 16384, .inl z_row)), (h_start, .inl (cI, 66, .inl z_start)), (h_documentOf, .inl (cI, 16384, .inl z_documentOf)), (h_order, .inl (cI, 16384, .inl z_order)), (h_rankOf, .inl (cI, 16384, .inl z_rankOf)), (h_same, .inl (cI, 16385, .inl z_same)), (h_work, .inl (cI, 16384, .inl z_work)), (h_next, .inl (cI, 16384, .inl z_next))] sz [.ref h_t]) (va_Qi (fun (r : Int32) (u : Int32 × Int32 × Int32 × Int32 × (Nat → Int32) × (Nat → Int32) × (Nat → Int32) × (Nat → Int32) × (Nat → Int32)) => post r u.1 u.2.1 u.2.2.1 u.2.2.2.1 u.2.2.2.2.1 u.2.2.2.2.2.1 u.2.2.2.2.2.2.1 u.2.2.2.2.2.2.2.1 u.2.2.2.2.2.2.2.2) (fun u t => cAft (dC, dI) classes (TYS cI cJ cB cZ) (va_A [(h_t, .inr (8, [.int z_thrown, .ref h_tape, .ref h_row, .ref h_out, .ref h_sought, .int z_size, .int z_outSize, .int z_soughtSize, .int z_documents, .int z_indexed, .int z_suffixes, .int z_rows, .ref h_start, .ref h_documentOf, .ref h_order, .ref h_rankOf, .ref h_same, .ref h_work, .ref h_next, .ref h_often, .ref h_has, .int z_lesser])), (h_row, .inl (cB, 16384, .inl z_row)), (h_start, .inl (cI, 66, .inl z_start)), (h_documentOf, .inl (cI, 16384, .inl z_documentOf)), (h_order, .inl (cI, 16384, .inl z_order)), (h_rankOf, .inl (cI, 16384, .inl z_rankOf)), (h_same, .inl (cI, 16385, .inl z_same)), (h_work, .inl (cI, 16384, .inl z_work)), (h_next, .inl (cI, 16384, .inl z_next))] sz) [(h_t, .inr (8, [.int u.1, .ref h_tape, .ref h_row, .ref h_out, .ref h_sought, .int z_size, .int z_outSize, .int u.2.1, .int z_documents, .int u.2.2.1, .int u.2.2.2.1, .int z_rows, .ref h_start, .ref h_documentOf, .ref h_order, .ref h_rankOf, .ref h_same, .ref h_work, .ref h_next, .ref h_often, .ref h_has, .int z_lesser])), (h_row, .inl (cB, 16384, .inl z_row)), (h_start, .inl (cI, 66, .inl z_start)), (h_documentOf, .inl (cI, 16384, .inl z_documentOf)), (h_order, .inl (cI, 16384, .inl u.2.2.2.2.1)), (h_rankOf, .inl (cI, 16384, .inl u.2.2.2.2.2.1)), (h_same, .inl (cI, 16385, .inl u.2.2.2.2.2.2.1)), (h_work, .inl (cI, 16384, .inl u.2.2.2.2.2.2.2.1)), (h_next, .inl (cI, 16384, .inl u.2.2.2.2.2.2.2.2))] t) (va_A [(h_t, .inr (8, [.int z_thrown, .ref h_tape, .ref h_row, .ref h_out, .ref h_sought, .int z_size, .int z_outSize, .int z_soughtSize, .int z_documents, .int z_indexed, .int z_suffixes, .int z_rows, .ref h_start, .ref h_documentOf, .ref h_order, .ref h_rankOf, .ref h_same, .ref h_work, .ref h_next, .ref h_often, .ref h_has, .int z_lesser])), (h_row, .inl (cB, 16384, .inl z_row)), (h_start, .inl (cI, 66, .inl z_start)), (h_documentOf, .inl (cI, 16384, .inl z_documentOf)), (h_order, .inl (cI, 16384, .inl z_order)), (h_rankOf, .inl (cI, 16384, .inl z_rankOf)), (h_same, .inl (cI, 16385, .inl z_same)), (h_work, .inl (cI, 16384, .inl z_work)), (h_next, .inl (cI, 16384, .inl z_next))] sz)) 0 0 (va_A [(h_t, .inr (8, [.int z_thrown, .ref h_tape, .ref h_row, .ref h_out, .ref h_sought, .int z_size, .int z_outSize, .int z_soughtSize, .int z_documents, .int z_indexed, .int z_suffixes, .int z_rows, .ref h_start, .ref h_documentOf, .ref h_order, .ref h_rankOf, .ref h_same, .ref h_work, .ref h_next, .ref h_often, .ref h_has, .int z_lesser])), (h_row, .inl (cB, 16384, .inl z_row)), (h_start, .inl (cI, 66, .inl z_start)), (h_documentOf, .inl (cI, 16384, .inl z_documentOf)), (h_order, .inl (cI, 16384, .inl z_order)), (h_rankOf, .inl (cI, 16384, .inl z_rankOf)), (h_same, .inl (cI, 16385, .inl z_same)), (h_work, .inl (cI, 16384, .inl z_work)), (h_next, .inl (cI, 16384, .inl z_next))] sz) := by
  refine Met.ofW (cc := b_MD_build) (maxL := 5) (ret := (some .int)) (by decide) rfl ?_
  intro p e s m args below meth c s₁ B hml hq
  obtain ⟨rfl, hsz, hP, hK, hD0⟩ := hq
  have hts := atoms_spec (ws := Cond.code y_MD_build b_MD_build 5 (some .int) :: WT) B.pre
  have hw : ∀ w ∈ WT, w.before ([.ref h_t] : List Value).toArray s = true := fun w h => hts w (List.mem_cons_of_mem _ h)
  have hx := B.exec
  have hb := B.bytes
  have hr := B.returns
  have hlk := B.notSynchronized
  have hown : s.vm.findClass "SuffixIndexModel" = some m.cls := findClass_of_methodNamed B.named
  have F : CallFix p m c b_MD_build 5 s ([.ref h_t] : List Value).toArray WT "SuffixIndexModel" := ⟨hx, hb, hml, hown, hw⟩
  subst hsz
  have hD := hD0.self (sz := s.heap.size)
  generalize hAe : va_A [(h_t, .inr (8, [.int z_thrown, .ref h_tape, .ref h_row, .ref h_out, .ref h_sought, .int z_size, .int z_outSize, .int z_soughtSize, .int z_documents, .int z_indexed, .int z_suffixes, .int z_rows, .ref h_start, .ref h_documentOf, .ref h_order, .ref h_rankOf, .ref h_same, .ref h_work, .ref h_next, .ref h_often, .ref h_has, .int z_lesser])), (h_row, .inl (cB, 16384, .inl z_row)), (h_start, .inl (cI, 66, .inl z_start)), (h_documentOf, .inl (cI, 16384, .inl z_documentOf)), (h_order, .inl (cI, 16384, .inl z_order)), (h_rankOf, .inl (cI, 16384, .inl z_rankOf)), (h_same, .inl (cI, 16385, .inl z_same)), (h_work, .inl (cI, 16384, .inl z_work)), (h_next, .inl (cI, 16384, .inl z_next))] s.heap.size = A at hD ⊢
  have hA : ∀ q : Nat, s.heap.size ≤ q → A q := fun q h => by rw [← hAe]; exact Or.inr h
  have hS : va_S A s.heap s.heap [] := va_S.rf
  have hl := lv_entry ([.ref h_t]) (n := 5) (Nat.le_of_ble_eq_true rfl)
  rw [lg_entry_eq]
  generalize (lg_sl ([.ref h_t]) ++ List.replicate (5 - (lg_sl ([.ref h_t])).length) Slot.unset).toArray = ls at hl ⊢
  have hl : lv_has ls 5 [(0, .ref h_t)] := hl
  show W p l e rm_MD_build s m _ below meth c s.heap [] 0 0 _ _
  have hP : va_P (dC, dI) classes [(h_t, .inr (8, [.int z_thrown, .ref h_tape, .ref h_row, .ref h_out, .ref h_sought, .int z_size, .int z_outSize, .int z_soughtSize, .int z_documents, .int z_indexed, .int z_suffixes, .int z_rows, .ref h_start, .ref h_documentOf, .ref h_order, .ref h_rankOf, .ref h_same, .ref h_work, .ref h_next, .ref h_often, .ref h_has, .int z_lesser])), (h_row, .inl (cB, 16384, .inl z_row)), (h_start, .inl (cI, 66, .inl z_start)), (h_documentOf, .inl (cI, 16384, .inl z_documentOf)), (h_order, .inl (cI, 16384, .inl z_order)), (h_rankOf, .inl (cI, 16384, .inl z_rankOf)), (h_same, .inl (cI, 16385, .inl z_same)), (h_work, .inl (cI, 16384, .inl z_work)), (h_next, .inl (cI, 16384, .inl z_next))] s.heap := hP
  obtain ⟨H, hHe⟩ : ∃ H, H = s.heap := ⟨_, rfl⟩
  have hS : va_S A s.heap H [] := by rw [hHe]; exact hS
  rw [← hHe] at hP
  suffices hgoal : W p l e rm_MD_build s m ([.ref h_t] : List Value).toArray below meth c H [] 0 0 (MQ below (va_Qi (fun (r : Int32) (u : Int32 × Int32 × Int32 × Int32 × (Nat → Int32) × (Nat → Int32) × (Nat → Int32) × (Nat → Int32) × (Nat → Int32)) => post r u.1 u.2.1 u.2.2.1 u.2.2.2.1 u.2.2.2.2.1 u.2.2.2.2.2.1 u.2.2.2.2.2.2.1 u.2.2.2.2.2.2.2.1 u.2.2.2.2.2.2.2.2) (fun u t => cAft (dC, dI) classes (TYS cI cJ cB cZ) A [(h_t, .inr (8, [.int u.1, .ref h_tape, .ref h_row, .ref h_out, .ref h_sought, .int z_size, .int z_outSize, .int u.2.1, .int z_documents, .int u.2.2.1, .int u.2.2.2.1, .int z_rows, .ref h_start, .ref h_documentOf, .ref h_order, .ref h_rankOf, .ref h_same, .ref h_work, .ref h_next, .ref h_often, .ref h_has, .int z_lesser])), (h_row, .inl (cB, 16384, .inl z_row)), (h_start, .inl (cI, 66, .inl z_start)), (h_documentOf, .inl (cI, 16384, .inl z_documentOf)), (h_order, .inl (cI, 16384, .inl u.2.2.2.2.1)), (h_rankOf, .inl (cI, 16384, .inl u.2.2.2.2.2.1)), (h_same, .inl (cI, 16385, .inl u.2.2.2.2.2.2.1)), (h_work, .inl (cI, 16384, .inl u.2.2.2.2.2.2.2.1)), (h_next, .inl (cI, 16384, .inl u.2.2.2.2.2.2.2.2))] t) A) ([.ref h_t] : List Value).toArray s 0 0 A) (F0 m 0 ls []) by rw [hHe] at hgoal; exact hgoal
  refine lv_aload_n hx hb d_MD_build_0 rfl (lv_at hl 0 rfl) ?_
  refine lv_iconst (v := 0) hx hb d_MD_build_1 (by decide) ?_
  refine va_put (D := (dC, dI)) (ci := 8) (v := .int 0) (ty := .int) (C := "SuffixIndexModel") (T := F_MD) (N := 22) hx hb hw i_MD t_MD t_MD_ok n_MD hown hK hP hD hS 0 rfl rfl 0 (by decide) (hw _ m_1101) (fun _ h9 => h9) rfl (by decide +kernel) rfl rfl (Nat.le_of_ble_eq_true rfl) d_MD_build_2 (fun H locs hP hD hS => ?_)
  have hP : va_P (dC, dI) classes [(h_t, .inr (8, [.int 0, .ref h_tape, .ref h_row, .ref h_out, .ref h_sought, .int z_size, .int z_outSize, .int z_soughtSize, .int z_documents, .int z_indexed, .int z_suffixes, .int z_rows, .ref h_start, .ref h_documentOf, .ref h_order, .ref h_rankOf, .ref h_same, .ref h_work, .ref h_next, .ref h_often, .ref h_has, .int z_lesser])), (h_row, .inl (cB, 16384, .inl z_row)), (h_start, .inl (cI, 66, .inl z_start)), (h_documentOf, .inl (cI, 16384, .inl z_documentOf)), (h_order, .inl (cI, 16384, .inl z_order)), (h_rankOf, .inl (cI, 16384, .inl z_rankOf)), (h_same, .inl (cI, 16385, .inl z_same)), (h_work, .inl (cI, 16384, .inl z_work)), (h_next, .inl (cI, 16384, .inl z_next))] H := hP
  have hD : va_D A [(h_t, .inr (8, [.int 0, .ref h_tape, .ref h_row, .ref h_out, .ref h_sought, .int z_size, .int z_outSize, .int z_soughtSize, .int z_documents, .int z_indexed, .int z_suffixes, .int z_rows, .ref h_start, .ref h_documentOf, .ref h_order, .ref h_rankOf, .ref h_same, .ref h_work, .ref h_next, .ref h_often, .ref h_has, .int z_lesser])), (h_row, .inl (cB, 16384, .inl z_row)), (h_start, .inl (cI, 66, .inl z_start)), (h_documentOf, .inl (cI, 16384, .inl z_documentOf)), (h_order, .inl (cI, 16384, .inl z_order)), (h_rankOf, .inl (cI, 16384, .inl z_rankOf)), (h_same, .inl (cI, 16385, .inl z_same)), (h_work, .inl (cI, 16384, .inl z_work)), (h_next, .inl (cI, 16384, .inl z_next))] := hD
  refine lv_aload_n hx hb d_MD_build_5 rfl (lv_at hl 0 rfl) ?_
  refine lv_aload_n hx hb d_MD_build_6 rfl (lv_at hl 0 rfl) ?_
  refine va_get (D := (dC, dI)) (ci := 8) (v := .int z_documents) (C := "SuffixIndexModel") (T := F_MD) (N := 22) hx hb hw i_MD hown hK hP 0 rfl rfl 8 (by decide) (hw _ m_1109) (fun _ h9 => h9) rfl d_MD_build_7 ?_
  refine va_put (D := (dC, dI)) (ci := 8) (v := .int z_documents) (ty := .int) (C := "SuffixIndexModel") (T := F_MD) (N := 22) hx hb hw i_MD t_MD t_MD_ok n_MD hown hK hP hD hS 0 rfl rfl 9 (by decide) (hw _ m_1110) (fun _ h9 => h9) rfl (by decide +kernel) rfl rfl (Nat.le_of_ble_eq_true rfl) d_MD_build_10 (fun H locs hP hD hS => ?_)
  have hP : va_P (dC, dI) classes [(h_t, .inr (8, [.int 0, .ref h_tape, .ref h_row, .ref h_out, .ref h_sought, .int z_size, .int z_outSize, .int z_soughtSize, .int z_documents, .int z_documents, .int z_suffixes, .int z_rows, .ref h_start, .ref h_documentOf, .ref h_order, .ref h_rankOf, .ref h_same, .ref h_work, .ref h_next, .ref h_often, .ref h_has, .int z_lesser])), (h_row, .inl (cB, 16384, .inl z_row)), (h_start, .inl (cI, 66, .inl z_start)), (h_documentOf, .inl (cI, 16384, .inl z_documentOf)), (h_order, .inl (cI, 16384, .inl z_order)), (h_rankOf, .inl (cI, 16384, .inl z_rankOf)), (h_same, .inl (cI, 16385, .inl z_same)), (h_work, .inl (cI, 16384, .inl z_work)), (h_next, .inl (cI, 16384, .inl z_next))] H := hP
  have hD : va_D A [(h_t, .inr (8, [.int 0, .ref h_tape, .ref h_row, .ref h_out, .ref h_sought, .int z_size, .int z_outSize, .int z_soughtSize, .int z_documents, .int z_documents, .int z_suffixes, .int z_rows, .ref h_start, .ref h_documentOf, .ref h_order, .ref h_rankOf, .ref h_same, .ref h_work, .ref h_next, .ref h_often, .ref h_has, .int z_lesser])), (h_row, .inl (cB, 16384, .inl z_row)), (h_start, .inl (cI, 66, .inl z_start)), (h_documentOf, .inl (cI, 16384, .inl z_documentOf)), (h_order, .inl (cI, 16384, .inl z_order)), (h_rankOf, .inl (cI, 16384, .inl z_rankOf)), (h_same, .inl (cI, 16385, .inl z_same)), (h_work, .inl (cI, 16384, .inl z_work)), (h_next, .inl (cI, 16384, .inl z_next))] := hD
  refine lv_aload_n hx hb d_MD_build_13 rfl (lv_at hl 0 rfl) ?_
  refine lv_aload_n hx hb d_MD_build_14 rfl (lv_at hl 0 rfl) ?_
  refine va_get (D := (dC, dI)) (ci := 8) (v := .int z_rows) (C := "SuffixIndexModel") (T := F_MD) (N := 22) hx hb hw i_MD hown hK hP 0 rfl rfl 11 (by decide) (hw _ m_1112) (fun _ h9 => h9) rfl d_MD_build_15 ?_
  refine va_put (D := (dC, dI)) (ci := 8) (v := .int z_rows) (ty := .int) (C := "SuffixIndexModel") (T := F_MD) (N := 22) hx hb hw i_MD t_MD t_MD_ok n_MD hown hK hP hD hS 0 rfl rfl 10 (by decide) (hw _ m_1111) (fun _ h9 => h9) rfl (by decide +kernel) rfl rfl (Nat.le_of_ble_eq_true rfl) d_MD_build_18 (fun H locs hP hD hS => ?_)
  have hP : va_P (dC, dI) classes [(h_t, .inr (8, [.int 0, .ref h_tape, .ref h_row, .ref h_out, .ref h_sought, .int z_size, .int z_outSize, .int z_soughtSize, .int z_documents, .int z_documents, .int z_rows, .int z_rows, .ref h_start, .ref h_documentOf, .ref h_order, .ref h_rankOf, .ref h_same, .ref h_work, .ref h_next, .ref h_often, .ref h_has, .int z_lesser])), (h_row, .inl (cB, 16384, .inl z_row)), (h_start, .inl (cI, 66, .inl z_start)), (h_documentOf, .inl (cI, 16384, .inl z_documentOf)), (h_order, .inl (cI, 16384, .inl z_order)), (h_rankOf, .inl (cI, 16384, .inl z_rankOf)), (h_same, .inl (cI, 16385, .inl z_same)), (h_work, .inl (cI, 16384, .inl z_work)), (h_next, .inl (cI, 16384, .inl z_next))] H := hP
  have hD : va_D A [(h_t, .inr (8, [.int 0, .ref h_tape, .ref h_row, .ref h_out, .ref h_sought, .int z_size, .int z_outSize, .int z_soughtSize, .int z_documents, .int z_documents, .int z_rows, .int z_rows, .ref h_start, .ref h_documentOf, .ref h_order, .ref h_rankOf, .ref h_same, .ref h_work, .ref h_next, .ref h_often, .ref h_has, .int z_lesser])), (h_row, .inl (cB, 16384, .inl z_row)), (h_start, .inl (cI, 66, .inl z_start)), (h_documentOf, .inl (cI, 16384, .inl z_documentOf)), (h_order, .inl (cI, 16384, .inl z_order)), (h_rankOf, .inl (cI, 16384, .inl z_rankOf)), (h_same, .inl (cI, 16385, .inl z_same)), (h_work, .inl (cI, 16384, .inl z_work)), (h_next, .inl (cI, 16384, .inl z_next))] := hD
  refine lv_aload_n hx hb d_MD_build_21 rfl (lv_at hl 0 rfl) ?_
  refine lv_iconst (v := 0) hx hb d_MD_build_22 (by decide) ?_
  refine va_put (D := (dC, dI)) (ci := 8) (v := .int 0) (ty := .int) (C := "SuffixIndexModel") (T := F_MD) (N := 22) hx hb hw i_MD t_MD t_MD_ok n_MD hown hK hP hD hS 0 rfl rfl 7 (by decide) (hw _ m_1108) (fun _ h9 => h9) rfl (by decide +kernel) rfl rfl (Nat.le_of_ble_eq_true rfl) d_MD_build_23 (fun H locs hP hD hS => ?_)
  have hP : va_P (dC, dI) classes [(h_t, .inr (8, [.int 0, .ref h_tape, .ref h_row, .ref h_out, .ref h_sought, .int z_size, .int z_outSize, .int 0, .int z_documents, .int z_documents, .int z_rows, .int z_rows, .ref h_start, .ref h_documentOf, .ref h_order, .ref h_rankOf, .ref h_same, .ref h_work, .ref h_next, .ref h_often, .ref h_has, .int z_lesser])), (h_row, .inl (cB, 16384, .inl z_row)), (h_start, .inl (cI, 66, .inl z_start)), (h_documentOf, .inl (cI, 16384, .inl z_documentOf)), (h_order, .inl (cI, 16384, .inl z_order)), (h_rankOf, .inl (cI, 16384, .inl z_rankOf)), (h_same, .inl (cI, 16385, .inl z_same)), (h_work, .inl (cI, 16384, .inl z_work)), (h_next, .inl (cI, 16384, .inl z_next))] H := hP
  have hD : va_D A [(h_t, .inr (8, [.int 0, .ref h_tape, .ref h_row, .ref h_out, .ref h_sought, .int z_size, .int z_outSize, .int 0, .int z_documents, .int z_documents, .int z_rows, .int z_rows, .ref h_start, .ref h_documentOf, .ref h_order, .ref h_rankOf, .ref h_same, .ref h_work, .ref h_next, .ref h_often, .ref h_has, .int z_lesser])), (h_row, .inl (cB, 16384, .inl z_row)), (h_start, .inl (cI, 66, .inl z_start)), (h_documentOf, .inl (cI, 16384, .inl z_documentOf)), (h_order, .inl (cI, 16384, .inl z_order)), (h_rankOf, .inl (cI, 16384, .inl z_rankOf)), (h_same, .inl (cI, 16385, .inl z_same)), (h_work, .inl (cI, 16384, .inl z_work)), (h_next, .inl (cI, 16384, .inl z_next))] := hD
  refine lv_iconst (v := 0) hx hb d_MD_build_26 (by decide) ?_
  refine lv_istore_n (lv' := [(1, .int 0), (0, .ref h_t)]) hx hb d_MD_build_27 rfl hl (by decide) rfl (fun ls hl => ?_)
  obtain ⟨j, hv⟩ := hv
  exact wk_MD_build_28 F hr hlk hK hA j 0 0 0 z_documents z_rows z_order z_rankOf z_same z_work z_next hv _ _ _ hP hD hS (lv_sub hl [1, 0] rfl)

set_option maxHeartbeats 4000000 in
set_option maxRecDepth 100000 in
theorem c_MD_where (l : Launch) (dC : Nat → ClassId) (dI : Nat → Nat → Nat) (cI cJ cB cZ : ClassId) (h_t : Nat) (h_tape : Nat) (h_row : Nat) (h_out : Nat) (h_sought : Nat) (h_start : Nat) (h_documentOf : Nat) (h_order : Nat) (h_rankOf : Nat) (h_same : Nat) (h_work : Nat) (h_next : Nat) (h_often : Nat) (h_has : Nat) (sz : Nat) (z_thrown : Int32) (z_size : Int32) (z_outSize : Int32) (z_soughtSize : Int32) (z_documents : Int32) (z_indexed : Int32) (z_suffixes : Int32) (z_rows : Int32) (z_lesser : Int32) (z_start : Nat → Int32) (z_documentOf : Nat → Int32) (a_p1 : Int32) (post : Int32 → Prop) (hv : vc_MD_where a_p1 z_start z_documentOf post ) : Met l y_MD_where (Cond.code y_MD_where b_MD_where 2 (some .int) :: WT) rm_MD_where (cPre (dC, dI) classes (TYS cI cJ cB cZ) [(h_t, .inr (8, [.int z_thrown, .ref h_tape, .ref h_row, .ref h_out, .ref h_sought, .int z_size, .int z_outSize, .int z_soughtSize, .int z_documents, .int z_indexed, .int z_suffixes, .int z_rows, .ref h_start, .ref h_documentOf, .ref h_order, .ref h_rankOf, .ref h_same, .ref h_work, .ref h_next, .ref h_often, .ref h_has, .int z_lesser])), (h_start, .inl (cI, 66, .inl z_start)), (h_documentOf, .inl (cI, 16384, .inl z_documentOf))] sz [.ref h_t, .int a_p1]) (va_Qi (fun (r : Int32) (u : Unit) => post r ) (fun u t => cAft (dC, dI) classes (TYS cI cJ cB cZ) (va_A [(h_t, .inr (8, [.int z_thrown, .ref h_tape, .ref h_row, .ref h_out, .ref h_sought, .int z_size, .int z_outSize, .int z_soughtSize, .int z_documents, .int z_indexed, .int z_suffixes, .int z_rows, .ref h_start, .ref h_documentOf, .ref h_order, .ref h_rankOf, .ref h_same, .ref h_work, .ref h_next, .ref h_often, .ref h_has, .int z_lesser])), (h_start, .inl (cI, 66, .inl z_start)), (h_documentOf, .inl (cI, 16384, .inl z_documentOf))] sz) [(h_t, .inr (8, [.int z_thrown, .ref h_tape, .ref h_row, .ref h_out, .ref h_sought, .int z_size, .int z_outSize, .int z_soughtSize, .int z_documents, .int z_indexed, .int z_suffixes, .int z_rows, .ref h_start, .ref h_documentOf, .ref h_order, .ref h_rankOf, .ref h_same, .ref h_work, .ref h_next, .ref h_often, .ref h_has, .int z_lesser])), (h_start, .inl (cI, 66, .inl z_start)), (h_documentOf, .inl (cI, 16384, .inl z_documentOf))] t) (va_A [(h_t, .inr (8, [.int z_thrown, .ref h_tape, .ref h_row, .ref h_out, .ref h_sought, .int z_size, .int z_outSize, .int z_soughtSize, .int z_documents, .int z_indexed, .int z_suffixes, .int z_rows, .ref h_start, .ref h_documentOf, .ref h_order, .ref h_rankOf, .ref h_same, .ref h_work, .ref h_next, .ref h_often, .ref h_has, .int z_lesser])), (h_start, .inl (cI, 66, .inl z_start)), (h_documentOf, .inl (cI, 16384, .inl z_documentOf))] sz)) 0 0 (va_A [(h_t, .inr (8, [.int z_thrown, .ref h_tape, .ref h_row, .ref h_out, .ref h_sought, .int z_size, .int z_outSize, .int z_soughtSize, .int z_documents, .int z_indexed, .int z_suffixes, .int z_rows, .ref h_start, .ref h_documentOf, .ref h_order, .ref h_rankOf, .ref h_same, .ref h_work, .ref h_next, .ref h_often, .ref h_has, .int z_lesser])), (h_start, .inl (cI, 66, .inl z_start)), (h_documentOf, .inl (cI, 16384, .inl z_documentOf))] sz) := by
  refine Met.ofW (cc := b_MD_where) (maxL := 2) (ret := (some .int)) (by decide) rfl ?_
  intro p e s m args below meth c s₁ B hml hq
  obtain ⟨rfl, hsz, hP, hK, hD0⟩ := hq
  have hts := atoms_spec (ws := Cond.code y_MD_where b_MD_where 2 (some .int) :: WT) B.pre
  have hw : ∀ w ∈ WT, w.before ([.ref h_t, .int a_p1] : List Value).toArray s = true := fun w h => hts w (List.mem_cons_of_mem _ h)
  have hx := B.exec
  have hb := B.bytes
  have hr := B.returns
  have hlk := B.notSynchronized
  have hown : s.vm.findClass "SuffixIndexModel" = some m.cls := findClass_of_methodNamed B.named
  have F : CallFix p m c b_MD_where 2 s ([.ref h_t, .int a_p1] : List Value).toArray WT "SuffixIndexModel" := ⟨hx, hb, hml, hown, hw⟩
  subst hsz
  have hD := hD0.self (sz := s.heap.size)
  generalize hAe : va_A [(h_t, .inr (8, [.int z_thrown, .ref h_tape, .ref h_row, .ref h_out, .ref h_sought, .int z_size, .int z_outSize, .int z_soughtSize, .int z_documents, .int z_indexed, .int z_suffixes, .int z_rows, .ref h_start, .ref h_documentOf, .ref h_order, .ref h_rankOf, .ref h_same, .ref h_work, .ref h_next, .ref h_often, .ref h_has, .int z_lesser])), (h_start, .inl (cI, 66, .inl z_start)), (h_documentOf, .inl (cI, 16384, .inl z_documentOf))] s.heap.size = A at hD ⊢
  have hA : ∀ q : Nat, s.heap.size ≤ q → A q := fun q h => by rw [← hAe]; exact Or.inr h
  have hS : va_S A s.heap s.heap [] := va_S.rf
  have hl := lv_entry ([.ref h_t, .int a_p1]) (n := 2) (Nat.le_of_ble_eq_true rfl)
  rw [lg_entry_eq]
  generalize (lg_sl ([.ref h_t, .int a_p1]) ++ List.replicate (2 - (lg_sl ([.ref h_t, .int a_p1])).length) Slot.unset).toArray = ls at hl ⊢
  have hl : lv_has ls 2 [(0, .ref h_t), (1, .int a_p1)] := hl
  show W p l e rm_MD_where s m _ below meth c s.heap [] 0 0 _ _
  have hP : va_P (dC, dI) classes [(h_t, .inr (8, [.int z_thrown, .ref h_tape, .ref h_row, .ref h_out, .ref h_sought, .int z_size, .int z_outSize, .int z_soughtSize, .int z_documents, .int z_indexed, .int z_suffixes, .int z_rows, .ref h_start, .ref h_documentOf, .ref h_order, .ref h_rankOf, .ref h_same, .ref h_work, .ref h_next, .ref h_often, .ref h_has, .int z_lesser])), (h_start, .inl (cI, 66, .inl z_start)), (h_documentOf, .inl (cI, 16384, .inl z_documentOf))] s.heap := hP
  obtain ⟨H, hHe⟩ : ∃ H, H = s.heap := ⟨_, rfl⟩
  have hS : va_S A s.heap H [] := by rw [hHe]; exact hS
  rw [← hHe] at hP
  suffices hgoal : W p l e rm_MD_where s m ([.ref h_t, .int a_p1] : List Value).toArray below meth c H [] 0 0 (MQ below (va_Qi (fun (r : Int32) (u : Unit) => post r ) (fun u t => cAft (dC, dI) classes (TYS cI cJ cB cZ) A [(h_t, .inr (8, [.int z_thrown, .ref h_tape, .ref h_row, .ref h_out, .ref h_sought, .int z_size, .int z_outSize, .int z_soughtSize, .int z_documents, .int z_indexed, .int z_suffixes, .int z_rows, .ref h_start, .ref h_documentOf, .ref h_order, .ref h_rankOf, .ref h_same, .ref h_work, .ref h_next, .ref h_often, .ref h_has, .int z_lesser])), (h_start, .inl (cI, 66, .inl z_start)), (h_documentOf, .inl (cI, 16384, .inl z_documentOf))] t) A) ([.ref h_t, .int a_p1] : List Value).toArray s 0 0 A) (F0 m 0 ls []) by rw [hHe] at hgoal; exact hgoal
  refine lv_ldc (v := 65536) hx hb hown (hw _ m_1233) d_MD_where_0 ?_
  refine lv_aload_n hx hb d_MD_where_2 rfl (lv_at hl 0 rfl) ?_
  refine va_get (D := (dC, dI)) (ci := 8) (v := .ref h_documentOf) (C := "SuffixIndexModel") (T := F_MD) (N := 22) hx hb hw i_MD hown hK hP 0 rfl rfl 13 (by decide) (hw _ m_1114) (fun _ h9 => h9) rfl d_MD_where_3 ?_
  refine lv_iload_n hx hb d_MD_where_6 rfl (lv_at hl 1 rfl) ?_
  obtain ⟨hin, hv⟩ := hv
  refine va_iald hx hb hK hP 2 0 rfl rfl hin d_MD_where_7 ?_
  refine lv_imul hx hb d_MD_where_8 ?_
  refine lv_iload_n hx hb d_MD_where_9 rfl (lv_at hl 1 rfl) ?_
  refine lv_iadd hx hb d_MD_where_10 ?_
  refine lv_aload_n hx hb d_MD_where_11 rfl (lv_at hl 0 rfl) ?_
  refine va_get (D := (dC, dI)) (ci := 8) (v := .ref h_start) (C := "SuffixIndexModel") (T := F_MD) (N := 22) hx hb hw i_MD hown hK hP 0 rfl rfl 12 (by decide) (hw _ m_1113) (fun _ h9 => h9) rfl d_MD_where_12 ?_
  refine lv_aload_n hx hb d_MD_where_15 rfl (lv_at hl 0 rfl) ?_
  refine va_get (D := (dC, dI)) (ci := 8) (v := .ref h_documentOf) (C := "SuffixIndexModel") (T := F_MD) (N := 22) hx hb hw i_MD hown hK hP 0 rfl rfl 13 (by decide) (hw _ m_1114) (fun _ h9 => h9) rfl d_MD_where_16 ?_
  refine lv_iload_n hx hb d_MD_where_19 rfl (lv_at hl 1 rfl) ?_
  obtain ⟨hin, hv⟩ := hv
  refine va_iald hx hb hK hP 2 0 rfl rfl hin d_MD_where_20 ?_
  obtain ⟨hin, hv⟩ := hv
  refine va_iald hx hb hK hP 1 0 rfl rfl hin d_MD_where_21 ?_
  refine lv_isub hx hb d_MD_where_22 ?_
  exact W.iret (v := ((65536 * (z_documentOf a_p1.toNatClampNeg)) + a_p1) - (z_start (z_documentOf a_p1.toNatClampNeg).toNatClampNeg)) hx hb hr (fun t ht hW => ⟨⟨((65536 * (z_documentOf a_p1.toNatClampNeg)) + a_p1) - (z_start (z_documentOf a_p1.toNatClampNeg).toNatClampNeg), (), rfl, hv, by rw [ht]; exact hP, va_K.moved hW.alike hK, hD⟩, hS.F ht⟩) hS.2.2 d_MD_where_23

set_option maxHeartbeats 4000000 in
set_option maxRecDepth 100000 in
theorem wk_MD_placeOf_41 {p : Program} {l : Launch} {e : Env} {s : State} {m : MethodId} {below : List Frame} {meth : Method} {c : Code} {A : Nat → Prop} {dC : Nat → ClassId} {dI : Nat → Nat → Nat} {cI cJ cB cZ : ClassId} {h_t : Nat} {h_tape : Nat} {h_row : Nat} {h_out : Nat} {h_sought : Nat} {h_start : Nat} {h_documentOf : Nat} {h_order : Nat} {h_rankOf : Nat} {h_same : Nat} {h_work : Nat} {h_next : Nat} {h_often : Nat} {h_has : Nat} {a_p1 : Int32} {z_indexed : Int32} {z_start : Nat → Int32} {z_thrown : Int32} {z_size : Int32} {z_outSize : Int32} {z_soughtSize : Int32} {z_documents : Int32} {z_suffixes : Int32} {z_rows : Int32} {z_lesser : Int32} {post : Int32 → Prop} (F : CallFix p m c b_MD_placeOf 4 s ([.ref h_t, .int a_p1] : List Value).toArray WT "SuffixIndexModel") (hr : meth.sig.returnType = (some .int)) (hlk : meth.locks = false) (hK : va_K (dC, dI) classes (TYS cI cJ cB cZ) s) (hA : ∀ q, s.heap.size ≤ q → A q) : vc_MD_placeOf_41 a_p1 z_indexed z_start post → ∀ (H : Heap) (locs : List Loc) (ls : Array Slot), va_P (dC, dI) classes [(h_t, .inr (8, [.int z_thrown, .ref h_tape, .ref h_row, .ref h_out, .ref h_sought, .int z_size, .int z_outSize, .int z_soughtSize, .int z_documents, .int z_indexed, .int z_suffixes, .int z_rows, .ref h_start, .ref h_documentOf, .ref h_order, .ref h_rankOf, .ref h_same, .ref h_work, .ref h_next, .ref h_often, .ref h_has, .int z_lesser])), (h_start, .inl (cI, 66, .inl z_start))] H → va_D A [(h_t, .inr (8, [.int z_thrown, .ref h_tape, .ref h_row, .ref h_out, .ref h_sought, .int z_size, .int z_outSize, .int z_soughtSize, .int z_documents, .int z_indexed, .int z_suffixes, .int z_rows, .ref h_start, .ref h_documentOf, .ref h_order, .ref h_rankOf, .ref h_same, .ref h_work, .ref h_next, .ref h_often, .ref h_has, .int z_lesser])), (h_start, .inl (cI, 66, .inl z_start))] → va_S A s.heap H locs → lv_has ls 4 [] → W p l e rm_MD_placeOf s m ([.ref h_t, .int a_p1] : List Value).toArray below meth c H locs 0 0 (MQ below (va_Qi (fun (r : Int32) (u : Unit) => post r ) (fun u t => cAft (dC, dI) classes (TYS cI cJ cB cZ) A [(h_t, .inr (8, [.int z_thrown, .ref h_tape, .ref h_row, .ref h_out, .ref h_sought, .int z_size, .int z_outSize, .int z_soughtSize, .int z_documents, .int z_indexed, .int z_suffixes, .int z_rows, .ref h_start, .ref h_documentOf, .ref h_order, .ref h_rankOf, .ref h_same, .ref h_work, .ref h_next, .ref h_often, .ref h_has, .int z_lesser])), (h_start, .inl (cI, 66, .inl z_start))] t) A) ([.ref h_t, .int a_p1] : List Value).toArray s 0 0 A) (F0 m 41 ls []) := by
  obtain ⟨hx, hb, hml, hown, hw⟩ := id F
  intro hv H locs ls hP hD hS hl
  refine lv_iconst (v := (-1)) hx hb d_MD_placeOf_41 (by decide) ?_
  refine lv_goto (tgt := 53) hx hb d_MD_placeOf_42 (by decide) ?_
  exact W.iret (v := (-1)) hx hb hr (fun t ht hW => ⟨⟨(-1), (), rfl, hv, by rw [ht]; exact hP, va_K.moved hW.alike hK, hD⟩, hS.F ht⟩) hS.2.2 d_MD_placeOf_53

set_option maxHeartbeats 4000000 in
set_option maxRecDepth 100000 in
theorem c_MD_placeOf (l : Launch) (dC : Nat → ClassId) (dI : Nat → Nat → Nat) (cI cJ cB cZ : ClassId) (h_t : Nat) (h_tape : Nat) (h_row : Nat) (h_out : Nat) (h_sought : Nat) (h_start : Nat) (h_documentOf : Nat) (h_order : Nat) (h_rankOf : Nat) (h_same : Nat) (h_work : Nat) (h_next : Nat) (h_often : Nat) (h_has : Nat) (sz : Nat) (z_thrown : Int32) (z_size : Int32) (z_outSize : Int32) (z_soughtSize : Int32) (z_documents : Int32) (z_indexed : Int32) (z_suffixes : Int32) (z_rows : Int32) (z_lesser : Int32) (z_start : Nat → Int32) (a_p1 : Int32) (post : Int32 → Prop) (hv : vc_MD_placeOf a_p1 z_indexed z_start post ) : Met l y_MD_placeOf (Cond.code y_MD_placeOf b_MD_placeOf 4 (some .int) :: WT) rm_MD_placeOf (cPre (dC, dI) classes (TYS cI cJ cB cZ) [(h_t, .inr (8, [.int z_thrown, .ref h_tape, .ref h_row, .ref h_out, .ref h_sought, .int z_size, .int z_outSize, .int z_soughtSize, .int z_documents, .int z_indexed, .int z_suffixes, .int z_rows, .ref h_start, .ref h_documentOf, .ref h_order, .ref h_rankOf, .ref h_same, .ref h_work, .ref h_next, .ref h_often, .ref h_has, .int z_lesser])), (h_start, .inl (cI, 66, .inl z_start))] sz [.ref h_t, .int a_p1]) (va_Qi (fun (r : Int32) (u : Unit) => post r ) (fun u t => cAft (dC, dI) classes (TYS cI cJ cB cZ) (va_A [(h_t, .inr (8, [.int z_thrown, .ref h_tape, .ref h_row, .ref h_out, .ref h_sought, .int z_size, .int z_outSize, .int z_soughtSize, .int z_documents, .int z_indexed, .int z_suffixes, .int z_rows, .ref h_start, .ref h_documentOf, .ref h_order, .ref h_rankOf, .ref h_same, .ref h_work, .ref h_next, .ref h_often, .ref h_has, .int z_lesser])), (h_start, .inl (cI, 66, .inl z_start))] sz) [(h_t, .inr (8, [.int z_thrown, .ref h_tape, .ref h_row, .ref h_out, .ref h_sought, .int z_size, .int z_outSize, .int z_soughtSize, .int z_documents, .int z_indexed, .int z_suffixes, .int z_rows, .ref h_start, .ref h_documentOf, .ref h_order, .ref h_rankOf, .ref h_same, .ref h_work, .ref h_next, .ref h_often, .ref h_has, .int z_lesser])), (h_start, .inl (cI, 66, .inl z_start))] t) (va_A [(h_t, .inr (8, [.int z_thrown, .ref h_tape, .ref h_row, .ref h_out, .ref h_sought, .int z_size, .int z_outSize, .int z_soughtSize, .int z_documents, .int z_indexed, .int z_suffixes, .int z_rows, .ref h_start, .ref h_documentOf, .ref h_order, .ref h_rankOf, .ref h_same, .ref h_work, .ref h_next, .ref h_often, .ref h_has, .int z_lesser])), (h_start, .inl (cI, 66, .inl z_start))] sz)) 0 0 (va_A [(h_t, .inr (8, [.int z_thrown, .ref h_tape, .ref h_row, .ref h_out, .ref h_sought, .int z_size, .int z_outSize, .int z_soughtSize, .int z_documents, .int z_indexed, .int z_suffixes, .int z_rows, .ref h_start, .ref h_documentOf, .ref h_order, .ref h_rankOf, .ref h_same, .ref h_work, .ref h_next, .ref h_often, .ref h_has, .int z_lesser])), (h_start, .inl (cI, 66, .inl z_start))] sz) := by
  refine Met.ofW (cc := b_MD_placeOf) (maxL := 4) (ret := (some .int)) (by decide) rfl ?_
  intro p e s m args below meth c s₁ B hml hq
  obtain ⟨rfl, hsz, hP, hK, hD0⟩ := hq
  have hts := atoms_spec (ws := Cond.code y_MD_placeOf b_MD_placeOf 4 (some .int) :: WT) B.pre
  have hw : ∀ w ∈ WT, w.before ([.ref h_t, .int a_p1] : List Value).toArray s = true := fun w h => hts w (List.mem_cons_of_mem _ h)
  have hx := B.exec
  have hb := B.bytes
  have hr := B.returns
  have hlk := B.notSynchronized
  have hown : s.vm.findClass "SuffixIndexModel" = some m.cls := findClass_of_methodNamed B.named
  have F : CallFix p m c b_MD_placeOf 4 s ([.ref h_t, .int a_p1] : List Value).toArray WT "SuffixIndexModel" := ⟨hx, hb, hml, hown, hw⟩
  subst hsz
  have hD := hD0.self (sz := s.heap.size)
  generalize hAe : va_A [(h_t, .inr (8, [.int z_thrown, .ref h_tape, .ref h_row, .ref h_out, .ref h_sought, .int z_size, .int z_outSize, .int z_soughtSize, .int z_documents, .int z_indexed, .int z_suffixes, .int z_rows, .ref h_start, .ref h_documentOf, .ref h_order, .ref h_rankOf, .ref h_same, .ref h_work, .ref h_next, .ref h_often, .ref h_has, .int z_lesser])), (h_start, .inl (cI, 66, .inl z_start))] s.heap.size = A at hD ⊢
  have hA : ∀ q : Nat, s.heap.size ≤ q → A q := fun q h => by rw [← hAe]; exact Or.inr h
  have hS : va_S A s.heap s.heap [] := va_S.rf
  have hl := lv_entry ([.ref h_t, .int a_p1]) (n := 4) (Nat.le_of_ble_eq_true rfl)
  rw [lg_entry_eq]
  generalize (lg_sl ([.ref h_t, .int a_p1]) ++ List.replicate (4 - (lg_sl ([.ref h_t, .int a_p1])).length) Slot.unset).toArray = ls at hl ⊢
  have hl : lv_has ls 4 [(0, .ref h_t), (1, .int a_p1)] := hl
  show W p l e rm_MD_placeOf s m _ below meth c s.heap [] 0 0 _ _
  have hP : va_P (dC, dI) classes [(h_t, .inr (8, [.int z_thrown, .ref h_tape, .ref h_row, .ref h_out, .ref h_sought, .int z_size, .int z_outSize, .int z_soughtSize, .int z_documents, .int z_indexed, .int z_suffixes, .int z_rows, .ref h_start, .ref h_documentOf, .ref h_order, .ref h_rankOf, .ref h_same, .ref h_work, .ref h_next, .ref h_often, .ref h_has, .int z_lesser])), (h_start, .inl (cI, 66, .inl z_start))] s.heap := hP
  obtain ⟨H, hHe⟩ : ∃ H, H = s.heap := ⟨_, rfl⟩
  have hS : va_S A s.heap H [] := by rw [hHe]; exact hS
  rw [← hHe] at hP
  suffices hgoal : W p l e rm_MD_placeOf s m ([.ref h_t, .int a_p1] : List Value).toArray below meth c H [] 0 0 (MQ below (va_Qi (fun (r : Int32) (u : Unit) => post r ) (fun u t => cAft (dC, dI) classes (TYS cI cJ cB cZ) A [(h_t, .inr (8, [.int z_thrown, .ref h_tape, .ref h_row, .ref h_out, .ref h_sought, .int z_size, .int z_outSize, .int z_soughtSize, .int z_documents, .int z_indexed, .int z_suffixes, .int z_rows, .ref h_start, .ref h_documentOf, .ref h_order, .ref h_rankOf, .ref h_same, .ref h_work, .ref h_next, .ref h_often, .ref h_has, .int z_lesser])), (h_start, .inl (cI, 66, .inl z_start))] t) A) ([.ref h_t, .int a_p1] : List Value).toArray s 0 0 A) (F0 m 0 ls []) by rw [hHe] at hgoal; exact hgoal
  refine lv_iload_n hx hb d_MD_placeOf_0 rfl (lv_at hl 1 rfl) ?_
  refine lv_bipush (v := 16) hx hb d_MD_placeOf_1 (by decide) ?_
  refine lv_ishr hx hb d_MD_placeOf_3 ?_
  refine lv_istore_n (lv' := [(2, .int (a_p1 >>> ((16 : Int32) &&& 31))), (0, .ref h_t), (1, .int a_p1)]) hx hb d_MD_placeOf_4 rfl hl (by decide) rfl (fun ls hl => ?_)
  refine lv_iload_n hx hb d_MD_placeOf_5 rfl (lv_at hl 2 rfl) ?_
  refine lv_ldc (v := 65535) hx hb hown (hw _ m_1263) d_MD_placeOf_6 ?_
  refine lv_iand hx hb d_MD_placeOf_8 ?_
  refine lv_istore_n (lv' := [(3, .int (a_p1 &&& 65535)), (2, .int (a_p1 >>> ((16 : Int32) &&& 31))), (0, .ref h_t), (1, .int a_p1)]) hx hb d_MD_placeOf_9 rfl hl (by decide) rfl (fun ls hl => ?_)
  refine lv_iload_n hx hb d_MD_placeOf_10 rfl (lv_at hl 1 rfl) ?_
  obtain ⟨hvt, hvf⟩ := hv
  refine lv_if_lt (tgt := 41) hx hb d_MD_placeOf_11 (by decide) (fun c1 => ?_) (fun c1 => ?_)
  · have hv := hvt c1
    exact wk_MD_placeOf_41 F hr hlk hK hA hv _ _ _ hP hD hS (lv_sub hl [] rfl)
  · have hv := hvf c1
    refine lv_iload_n hx hb d_MD_placeOf_14 rfl (lv_at hl 1 rfl) ?_
    refine lv_aload_n hx hb d_MD_placeOf_15 rfl (lv_at hl 2 rfl) ?_
    refine va_get (D := (dC, dI)) (ci := 8) (v := .int z_indexed) (C := "SuffixIndexModel") (T := F_MD) (N := 22) hx hb hw i_MD hown hK hP 0 rfl rfl 9 (by decide) (hw _ m_1110) (fun _ h9 => h9) rfl d_MD_placeOf_16 ?_
    obtain ⟨hvt, hvf⟩ := hv
    refine lv_icmp_ge (tgt := 41) hx hb d_MD_placeOf_19 (by decide) (fun c2 => ?_) (fun c2 => ?_)
    · have hv := hvt c2
      exact wk_MD_placeOf_41 F hr hlk hK hA hv _ _ _ hP hD hS (lv_sub hl [] rfl)
    · have hv := hvf c2
      refine lv_iload_n hx hb d_MD_placeOf_22 rfl (lv_at hl 0 rfl) ?_
      refine lv_aload_n hx hb d_MD_placeOf_23 rfl (lv_at hl 2 rfl) ?_
      refine va_get (D := (dC, dI)) (ci := 8) (v := .ref h_start) (C := "SuffixIndexModel") (T := F_MD) (N := 22) hx hb hw i_MD hown hK hP 0 rfl rfl 12 (by decide) (hw _ m_1113) (fun _ h9 => h9) rfl d_MD_placeOf_24 ?_
      refine lv_iload_n hx hb d_MD_placeOf_27 rfl (lv_at hl 1 rfl) ?_
      refine lv_iconst (v := 1) hx hb d_MD_placeOf_28 (by decide) ?_
      refine lv_iadd hx hb d_MD_placeOf_29 ?_
      obtain ⟨hin, hv⟩ := hv
      refine va_iald hx hb hK hP 1 0 rfl rfl hin d_MD_placeOf_30 ?_
      refine lv_aload_n hx hb d_MD_placeOf_31 rfl (lv_at hl 2 rfl) ?_
      refine va_get (D := (dC, dI)) (ci := 8) (v := .ref h_start) (C := "SuffixIndexModel") (T := F_MD) (N := 22) hx hb hw i_MD hown hK hP 0 rfl rfl 12 (by decide) (hw _ m_1113) (fun _ h9 => h9) rfl d_MD_placeOf_32 ?_
      refine lv_iload_n hx hb d_MD_placeOf_35 rfl (lv_at hl 1 rfl) ?_
      obtain ⟨hin, hv⟩ := hv
      refine va_iald hx hb hK hP 1 0 rfl rfl hin d_MD_placeOf_36 ?_
      refine lv_isub hx hb d_MD_placeOf_37 ?_
      obtain ⟨hvt, hvf⟩ := hv
      refine lv_icmp_lt (tgt := 45) hx hb d_MD_placeOf_38 (by decide) (fun c3 => ?_) (fun c3 => ?_)
      · have hv := hvt c3
        refine lv_aload_n hx hb d_MD_placeOf_45 rfl (lv_at hl 2 rfl) ?_
        refine va_get (D := (dC, dI)) (ci := 8) (v := .ref h_start) (C := "SuffixIndexModel") (T := F_MD) (N := 22) hx hb hw i_MD hown hK hP 0 rfl rfl 12 (by decide) (hw _ m_1113) (fun _ h9 => h9) rfl d_MD_placeOf_46 ?_
        refine lv_iload_n hx hb d_MD_placeOf_49 rfl (lv_at hl 1 rfl) ?_
        obtain ⟨hin, hv⟩ := hv
        refine va_iald hx hb hK hP 1 0 rfl rfl hin d_MD_placeOf_50 ?_
        refine lv_iload_n hx hb d_MD_placeOf_51 rfl (lv_at hl 0 rfl) ?_
        refine lv_iadd hx hb d_MD_placeOf_52 ?_
        exact W.iret (v := (z_start (a_p1 >>> ((16 : Int32) &&& 31)).toNatClampNeg) + (a_p1 &&& 65535)) hx hb hr (fun t ht hW => ⟨⟨(z_start (a_p1 >>> ((16 : Int32) &&& 31)).toNatClampNeg) + (a_p1 &&& 65535), (), rfl, hv, by rw [ht]; exact hP, va_K.moved hW.alike hK, hD⟩, hS.F ht⟩) hS.2.2 d_MD_placeOf_53
      · have hv := hvf c3
        exact wk_MD_placeOf_41 F hr hlk hK hA hv _ _ _ hP hD hS (lv_sub hl [] rfl)

set_option maxHeartbeats 4000000 in
set_option maxRecDepth 100000 in
theorem wk_MD_stands_18 {p : Program} {l : Launch} {e : Env} {s : State} {m : MethodId} {below : List Frame} {meth : Method} {c : Code} {A : Nat → Prop} {dC : Nat → ClassId} {dI : Nat → Nat → Nat} {cI cJ cB cZ : ClassId} {h_t : Nat} {h_tape : Nat} {h_row : Nat} {h_out : Nat} {h_sought : Nat} {h_start : Nat} {h_documentOf : Nat} {h_order : Nat} {h_rankOf : Nat} {h_same : Nat} {h_work : Nat} {h_next : Nat} {h_often : Nat} {h_has : Nat} {a_p1 : Int32} {z_soughtSize : Int32} {z_row : Nat → Int32} {z_sought : Nat → Int32} {z_start : Nat → Int32} {z_documentOf : Nat → Int32} {z_thrown : Int32} {z_size : Int32} {z_outSize : Int32} {z_documents : Int32} {z_indexed : Int32} {z_suffixes : Int32} {z_rows : Int32} {z_lesser : Int32} {post : Int32 → Prop} (F : CallFix p m c b_MD_stands 3 s ([.ref h_t, .int a_p1] : List Value).toArray WT "SuffixIndexModel") (hr : meth.sig.returnType = (some .boolean)) (hlk : meth.locks = false) (hK : va_K (dC, dI) classes (TYS cI cJ cB cZ) s) (hA : ∀ q, s.heap.size ≤ q → A q) : ∀ (k : Nat) (x2 : Int32), vc_MD_stands_18 a_p1 z_soughtSize z_row z_sought z_start z_documentOf post k x2 → ∀ (H : Heap) (locs : List Loc) (ls : Array Slot), va_P (dC, dI) classes [(h_t, .inr (8, [.int z_thrown, .ref h_tape, .ref h_row, .ref h_out, .ref h_sought, .int z_size, .int z_outSize, .int z_soughtSize, .int z_documents, .int z_indexed, .int z_suffixes, .int z_rows, .ref h_start, .ref h_documentOf, .ref h_order, .ref h_rankOf, .ref h_same, .ref h_work, .ref h_next, .ref h_often, .ref h_has, .int z_lesser])), (h_row, .inl (cB, 16384, .inl z_row)), (h_sought, .inl (cB, 200, .inl z_sought)), (h_start, .inl (cI, 66, .inl z_start)), (h_documentOf, .inl (cI, 16384, .inl z_documentOf))] H → va_D A [(h_t, .inr (8, [.int z_thrown, .ref h_tape, .ref h_row, .ref h_out, .ref h_sought, .int z_size, .int z_outSize, .int z_soughtSize, .int z_documents, .int z_indexed, .int z_suffixes, .int z_rows, .ref h_start, .ref h_documentOf, .ref h_order, .ref h_rankOf, .ref h_same, .ref h_work, .ref h_next, .ref h_often, .ref h_has, .int z_lesser])), (h_row, .inl (cB, 16384, .inl z_row)), (h_sought, .inl (cB, 200, .inl z_sought)), (h_start, .inl (cI, 66, .inl z_start)), (h_documentOf, .inl (cI, 16384, .inl z_documentOf))] → va_S A s.heap H locs → lv_has ls 3 [(0, .ref h_t), (1, .int a_p1), (2, .int x2)] → W p l e rm_MD_stands s m ([.ref h_t, .int a_p1] : List Value).toArray below meth c H locs 0 0 (MQ below (va_Qi (fun (r : Int32) (u : Unit) => post r ) (fun u t => cAft (dC, dI) classes (TYS cI cJ cB cZ) A [(h_t, .inr (8, [.int z_thrown, .ref h_tape, .ref h_row, .ref h_out, .ref h_sought, .int z_size, .int z_outSize, .int z_soughtSize, .int z_documents, .int z_indexed, .int z_suffixes, .int z_rows, .ref h_start, .ref h_documentOf, .ref h_order, .ref h_rankOf, .ref h_same, .ref h_work, .ref h_next, .ref h_often, .ref h_has, .int z_lesser])), (h_row, .inl (cB, 16384, .inl z_row)), (h_sought, .inl (cB, 200, .inl z_sought)), (h_start, .inl (cI, 66, .inl z_start)), (h_documentOf, .inl (cI, 16384, .inl z_documentOf))] t) A) ([.ref h_t, .int a_p1] : List Value).toArray s 0 0 A) (F0 m 18 ls []) := by
  obtain ⟨hx, hb, hml, hown, hw⟩ := id F
  intro k
  induction k with
  | zero =>
    intro x2 hv
    exact False.elim hv
  | succ k ih =>
    intro x2 hv H locs ls hP hD hS hl
    refine lv_iload_n hx hb d_MD_stands_18 rfl (lv_at hl 2 rfl) ?_
    refine lv_aload_n hx hb d_MD_stands_19 rfl (lv_at hl 0 rfl) ?_
    refine va_get (D := (dC, dI)) (ci := 8) (v := .int z_soughtSize) (C := "SuffixIndexModel") (T := F_MD) (N := 22) hx hb hw i_MD hown hK hP 0 rfl rfl 7 (by decide) (hw _ m_1108) (fun _ h9 => h9) rfl d_MD_stands_20 ?_
    obtain ⟨hvt, hvf⟩ := hv
    refine lv_icmp_ge (tgt := 51) hx hb d_MD_stands_23 (by decide) (fun c1 => ?_) (fun c1 => ?_)
    · have hv := hvt c1
      refine lv_iconst (v := 1) hx hb d_MD_stands_51 (by decide) ?_
      exact W.zret (v := 1) hx hb hr rfl (fun t ht hW => ⟨⟨1, (), rfl, hv, by rw [ht]; exact hP, va_K.moved hW.alike hK, hD⟩, hS.F ht⟩) hS.2.2 d_MD_stands_52
    · have hv := hvf c1
      refine lv_aload_n hx hb d_MD_stands_26 rfl (lv_at hl 0 rfl) ?_
      refine va_get (D := (dC, dI)) (ci := 8) (v := .ref h_row) (C := "SuffixIndexModel") (T := F_MD) (N := 22) hx hb hw i_MD hown hK hP 0 rfl rfl 2 (by decide) (hw _ m_1103) (fun _ h9 => h9) rfl d_MD_stands_27 ?_
      refine lv_iload_n hx hb d_MD_stands_30 rfl (lv_at hl 1 rfl) ?_
      refine lv_iload_n hx hb d_MD_stands_31 rfl (lv_at hl 2 rfl) ?_
      refine lv_iadd hx hb d_MD_stands_32 ?_
      obtain ⟨hin, hv⟩ := hv
      refine va_bald hx hb hK hP 1 2 rfl rfl hin d_MD_stands_33 ?_
      refine lv_aload_n hx hb d_MD_stands_34 rfl (lv_at hl 0 rfl) ?_
      refine va_get (D := (dC, dI)) (ci := 8) (v := .ref h_sought) (C := "SuffixIndexModel") (T := F_MD) (N := 22) hx hb hw i_MD hown hK hP 0 rfl rfl 4 (by decide) (hw _ m_1105) (fun _ h9 => h9) rfl d_MD_stands_35 ?_
      refine lv_iload_n hx hb d_MD_stands_38 rfl (lv_at hl 2 rfl) ?_
      obtain ⟨hin, hv⟩ := hv
      refine va_bald hx hb hK hP 2 2 rfl rfl hin d_MD_stands_39 ?_
      obtain ⟨hvt, hvf⟩ := hv
      refine lv_icmp_eq (tgt := 45) hx hb d_MD_stands_40 (by decide) (fun c2 => ?_) (fun c2 => ?_)
      · have hv := hvt c2
        refine lv_iinc (v := x2 + 1) (lv' := [(2, .int (x2 + 1)), (0, .ref h_t), (1, .int a_p1)]) hx hb d_MD_stands_45 hl (k := 2) rfl (iinc_v (by decide)) (by decide) rfl (fun ls hl => ?_)
        refine lv_goto (tgt := 18) hx hb d_MD_stands_48 (by decide) ?_
        exact ih (x2 + 1) hv _ _ _ hP hD hS (lv_sub hl [1, 2, 0] rfl)
      · have hv := hvf c2
        refine lv_iconst (v := 0) hx hb d_MD_stands_43 (by decide) ?_
        exact W.zret (v := 0) hx hb hr rfl (fun t ht hW => ⟨⟨0, (), rfl, hv, by rw [ht]; exact hP, va_K.moved hW.alike hK, hD⟩, hS.F ht⟩) hS.2.2 d_MD_stands_44

set_option maxHeartbeats 4000000 in
set_option maxRecDepth 100000 in
theorem c_MD_stands (l : Launch) (dC : Nat → ClassId) (dI : Nat → Nat → Nat) (cI cJ cB cZ : ClassId) (h_t : Nat) (h_tape : Nat) (h_row : Nat) (h_out : Nat) (h_sought : Nat) (h_start : Nat) (h_documentOf : Nat) (h_order : Nat) (h_rankOf : Nat) (h_same : Nat) (h_work : Nat) (h_next : Nat) (h_often : Nat) (h_has : Nat) (sz : Nat) (z_thrown : Int32) (z_size : Int32) (z_outSize : Int32) (z_soughtSize : Int32) (z_documents : Int32) (z_indexed : Int32) (z_suffixes : Int32) (z_rows : Int32) (z_lesser : Int32) (z_row : Nat → Int32) (z_sought : Nat → Int32) (z_start : Nat → Int32) (z_documentOf : Nat → Int32) (a_p1 : Int32) (post : Int32 → Prop) (hv : vc_MD_stands a_p1 z_soughtSize z_row z_sought z_start z_documentOf post ) : Met l y_MD_stands (Cond.code y_MD_stands b_MD_stands 3 (some .boolean) :: WT) rm_MD_stands (cPre (dC, dI) classes (TYS cI cJ cB cZ) [(h_t, .inr (8, [.int z_thrown, .ref h_tape, .ref h_row, .ref h_out, .ref h_sought, .int z_size, .int z_outSize, .int z_soughtSize, .int z_documents, .int z_indexed, .int z_suffixes, .int z_rows, .ref h_start, .ref h_documentOf, .ref h_order, .ref h_rankOf, .ref h_same, .ref h_work, .ref h_next, .ref h_often, .ref h_has, .int z_lesser])), (h_row, .inl (cB, 16384, .inl z_row)), (h_sought, .inl (cB, 200, .inl z_sought)), (h_start, .inl (cI, 66, .inl z_start)), (h_documentOf, .inl (cI, 16384, .inl z_documentOf))] sz [.ref h_t, .int a_p1]) (va_Qi (fun (r : Int32) (u : Unit) => post r ) (fun u t => cAft (dC, dI) classes (TYS cI cJ cB cZ) (va_A [(h_t, .inr (8, [.int z_thrown, .ref h_tape, .ref h_row, .ref h_out, .ref h_sought, .int z_size, .int z_outSize, .int z_soughtSize, .int z_documents, .int z_indexed, .int z_suffixes, .int z_rows, .ref h_start, .ref h_documentOf, .ref h_order, .ref h_rankOf, .ref h_same, .ref h_work, .ref h_next, .ref h_often, .ref h_has, .int z_lesser])), (h_row, .inl (cB, 16384, .inl z_row)), (h_sought, .inl (cB, 200, .inl z_sought)), (h_start, .inl (cI, 66, .inl z_start)), (h_documentOf, .inl (cI, 16384, .inl z_documentOf))] sz) [(h_t, .inr (8, [.int z_thrown, .ref h_tape, .ref h_row, .ref h_out, .ref h_sought, .int z_size, .int z_outSize, .int z_soughtSize, .int z_documents, .int z_indexed, .int z_suffixes, .int z_rows, .ref h_start, .ref h_documentOf, .ref h_order, .ref h_rankOf, .ref h_same, .ref h_work, .ref h_next, .ref h_often, .ref h_has, .int z_lesser])), (h_row, .inl (cB, 16384, .inl z_row)), (h_sought, .inl (cB, 200, .inl z_sought)), (h_start, .inl (cI, 66, .inl z_start)), (h_documentOf, .inl (cI, 16384, .inl z_documentOf))] t) (va_A [(h_t, .inr (8, [.int z_thrown, .ref h_tape, .ref h_row, .ref h_out, .ref h_sought, .int z_size, .int z_outSize, .int z_soughtSize, .int z_documents, .int z_indexed, .int z_suffixes, .int z_rows, .ref h_start, .ref h_documentOf, .ref h_order, .ref h_rankOf, .ref h_same, .ref h_work, .ref h_next, .ref h_often, .ref h_has, .int z_lesser])), (h_row, .inl (cB, 16384, .inl z_row)), (h_sought, .inl (cB, 200, .inl z_sought)), (h_start, .inl (cI, 66, .inl z_start)), (h_documentOf, .inl (cI, 16384, .inl z_documentOf))] sz)) 0 0 (va_A [(h_t, .inr (8, [.int z_thrown, .ref h_tape, .ref h_row, .ref h_out, .ref h_sought, .int z_size, .int z_outSize, .int z_soughtSize, .int z_documents, .int z_indexed, .int z_suffixes, .int z_rows, .ref h_start, .ref h_documentOf, .ref h_order, .ref h_rankOf, .ref h_same, .ref h_work, .ref h_next, .ref h_often, .ref h_has, .int z_lesser])), (h_row, .inl (cB, 16384, .inl z_row)), (h_sought, .inl (cB, 200, .inl z_sought)), (h_start, .inl (cI, 66, .inl z_start)), (h_documentOf, .inl (cI, 16384, .inl z_documentOf))] sz) := by
  refine Met.ofW (cc := b_MD_stands) (maxL := 3) (ret := (some .boolean)) (by decide) rfl ?_
  intro p e s m args below meth c s₁ B hml hq
  obtain ⟨rfl, hsz, hP, hK, hD0⟩ := hq
  have hts := atoms_spec (ws := Cond.code y_MD_stands b_MD_stands 3 (some .boolean) :: WT) B.pre
  have hw : ∀ w ∈ WT, w.before ([.ref h_t, .int a_p1] : List Value).toArray s = true := fun w h => hts w (List.mem_cons_of_mem _ h)
  have hx := B.exec
  have hb := B.bytes
  have hr := B.returns
  have hlk := B.notSynchronized
  have hown : s.vm.findClass "SuffixIndexModel" = some m.cls := findClass_of_methodNamed B.named
  have F : CallFix p m c b_MD_stands 3 s ([.ref h_t, .int a_p1] : List Value).toArray WT "SuffixIndexModel" := ⟨hx, hb, hml, hown, hw⟩
  subst hsz
  have hD := hD0.self (sz := s.heap.size)
  generalize hAe : va_A [(h_t, .inr (8, [.int z_thrown, .ref h_tape, .ref h_row, .ref h_out, .ref h_sought, .int z_size, .int z_outSize, .int z_soughtSize, .int z_documents, .int z_indexed, .int z_suffixes, .int z_rows, .ref h_start, .ref h_documentOf, .ref h_order, .ref h_rankOf, .ref h_same, .ref h_work, .ref h_next, .ref h_often, .ref h_has, .int z_lesser])), (h_row, .inl (cB, 16384, .inl z_row)), (h_sought, .inl (cB, 200, .inl z_sought)), (h_start, .inl (cI, 66, .inl z_start)), (h_documentOf, .inl (cI, 16384, .inl z_documentOf))] s.heap.size = A at hD ⊢
  have hA : ∀ q : Nat, s.heap.size ≤ q → A q := fun q h => by rw [← hAe]; exact Or.inr h
  have hS : va_S A s.heap s.heap [] := va_S.rf
  have hl := lv_entry ([.ref h_t, .int a_p1]) (n := 3) (Nat.le_of_ble_eq_true rfl)
  rw [lg_entry_eq]
  generalize (lg_sl ([.ref h_t, .int a_p1]) ++ List.replicate (3 - (lg_sl ([.ref h_t, .int a_p1])).length) Slot.unset).toArray = ls at hl ⊢
  have hl : lv_has ls 3 [(0, .ref h_t), (1, .int a_p1)] := hl
  show W p l e rm_MD_stands s m _ below meth c s.heap [] 0 0 _ _
  have hP : va_P (dC, dI) classes [(h_t, .inr (8, [.int z_thrown, .ref h_tape, .ref h_row, .ref h_out, .ref h_sought, .int z_size, .int z_outSize, .int z_soughtSize, .int z_documents, .int z_indexed, .int z_suffixes, .int z_rows, .ref h_start, .ref h_documentOf, .ref h_order, .ref h_rankOf, .ref h_same, .ref h_work, .ref h_next, .ref h_often, .ref h_has, .int z_lesser])), (h_row, .inl (cB, 16384, .inl z_row)), (h_sought, .inl (cB, 200, .inl z_sought)), (h_start, .inl (cI, 66, .inl z_start)), (h_documentOf, .inl (cI, 16384, .inl z_documentOf))] s.heap := hP
  obtain ⟨H, hHe⟩ : ∃ H, H = s.heap := ⟨_, rfl⟩
  have hS : va_S A s.heap H [] := by rw [hHe]; exact hS
  rw [← hHe] at hP
  suffices hgoal : W p l e rm_MD_stands s m ([.ref h_t, .int a_p1] : List Value).toArray below meth c H [] 0 0 (MQ below (va_Qi (fun (r : Int32) (u : Unit) => post r ) (fun u t => cAft (dC, dI) classes (TYS cI cJ cB cZ) A [(h_t, .inr (8, [.int z_thrown, .ref h_tape, .ref h_row, .ref h_out, .ref h_sought, .int z_size, .int z_outSize, .int z_soughtSize, .int z_documents, .int z_indexed, .int z_suffixes, .int z_rows, .ref h_start, .ref h_documentOf, .ref h_order, .ref h_rankOf, .ref h_same, .ref h_work, .ref h_next, .ref h_often, .ref h_has, .int z_lesser])), (h_row, .inl (cB, 16384, .inl z_row)), (h_sought, .inl (cB, 200, .inl z_sought)), (h_start, .inl (cI, 66, .inl z_start)), (h_documentOf, .inl (cI, 16384, .inl z_documentOf))] t) A) ([.ref h_t, .int a_p1] : List Value).toArray s 0 0 A) (F0 m 0 ls []) by rw [hHe] at hgoal; exact hgoal
  refine lv_iload_n hx hb d_MD_stands_0 rfl (lv_at hl 1 rfl) ?_
  refine lv_aload_n hx hb d_MD_stands_1 rfl (lv_at hl 0 rfl) ?_
  refine va_get (D := (dC, dI)) (ci := 8) (v := .int z_soughtSize) (C := "SuffixIndexModel") (T := F_MD) (N := 22) hx hb hw i_MD hown hK hP 0 rfl rfl 7 (by decide) (hw _ m_1108) (fun _ h9 => h9) rfl d_MD_stands_2 ?_
  refine lv_iadd hx hb d_MD_stands_5 ?_
  refine lv_aload_n hx hb d_MD_stands_6 rfl (lv_at hl 0 rfl) ?_
  refine lv_iload_n hx hb d_MD_stands_7 rfl (lv_at hl 1 rfl) ?_
  refine cV_i (wr := [(h_row, .inl (cB, 16384, .inl z_row)), (h_sought, .inl (cB, 200, .inl z_sought))]) (rest := [.int (a_p1 + z_soughtSize)]) (c_MD_endOf l dC dI cI cJ cB cZ h_t h_tape h_row h_out h_sought h_start h_documentOf h_order h_rankOf h_same h_work h_next h_often h_has H.size z_thrown z_size z_outSize z_soughtSize z_documents z_indexed z_suffixes z_rows z_lesser z_start z_documentOf a_p1 _ hv) F (cw_V (fun _ h => h) 1 hw m_1209 m_1211 ms_33 m_9 m_1212 rfl rfl (by decide +kernel) ⟨by decide, by decide⟩) hK hP hD hS hA [0, 3, 4] [1, 2] rfl rfl rfl rfl (by decide) 0 8 rfl rfl rfl hl.1 rfl (Nat.le_of_ble_eq_true rfl) d_MD_stands_8 ⟨Nat.le_of_ble_eq_true rfl, Nat.le_of_ble_eq_true rfl⟩ (fun r3 u H locs hv hP hD hS => ?_)
  have hP : va_P (dC, dI) classes [(h_t, .inr (8, [.int z_thrown, .ref h_tape, .ref h_row, .ref h_out, .ref h_sought, .int z_size, .int z_outSize, .int z_soughtSize, .int z_documents, .int z_indexed, .int z_suffixes, .int z_rows, .ref h_start, .ref h_documentOf, .ref h_order, .ref h_rankOf, .ref h_same, .ref h_work, .ref h_next, .ref h_often, .ref h_has, .int z_lesser])), (h_row, .inl (cB, 16384, .inl z_row)), (h_sought, .inl (cB, 200, .inl z_sought)), (h_start, .inl (cI, 66, .inl z_start)), (h_documentOf, .inl (cI, 16384, .inl z_documentOf))] H := P_sub hP [2, 0, 1, 3, 4] rfl
  have hD : va_D A [(h_t, .inr (8, [.int z_thrown, .ref h_tape, .ref h_row, .ref h_out, .ref h_sought, .int z_size, .int z_outSize, .int z_soughtSize, .int z_documents, .int z_indexed, .int z_suffixes, .int z_rows, .ref h_start, .ref h_documentOf, .ref h_order, .ref h_rankOf, .ref h_same, .ref h_work, .ref h_next, .ref h_often, .ref h_has, .int z_lesser])), (h_row, .inl (cB, 16384, .inl z_row)), (h_sought, .inl (cB, 200, .inl z_sought)), (h_start, .inl (cI, 66, .inl z_start)), (h_documentOf, .inl (cI, 16384, .inl z_documentOf))] := hD.sub [2, 0, 1, 3, 4] rfl rfl
  obtain ⟨hvt, hvf⟩ := hv
  refine lv_icmp_le (tgt := 16) hx hb d_MD_stands_11 (by decide) (fun c4 => ?_) (fun c4 => ?_)
  · have hv := hvt c4
    refine lv_iconst (v := 0) hx hb d_MD_stands_16 (by decide) ?_
    refine lv_istore_n (lv' := [(2, .int 0), (0, .ref h_t), (1, .int a_p1)]) hx hb d_MD_stands_17 rfl hl (by decide) rfl (fun ls hl => ?_)
    obtain ⟨j, hv⟩ := hv
    exact wk_MD_stands_18 F hr hlk hK hA j 0 hv _ _ _ hP hD hS (lv_sub hl [1, 2, 0] rfl)
  · have hv := hvf c4
    refine lv_iconst (v := 0) hx hb d_MD_stands_14 (by decide) ?_
    exact W.zret (v := 0) hx hb hr rfl (fun t ht hW => ⟨⟨0, (), rfl, hv, by rw [ht]; exact hP, va_K.moved hW.alike hK, hD⟩, hS.F ht⟩) hS.2.2 d_MD_stands_15

